/-! ===== soundness: the instructions that go on in the same method ===== -/
/-- a frame's own facts -/
def FC (l : Launch) (G : GC) (X : XS) (p : Program) (R : Room) (s : State) (m : MethodId) (args : Array Value) (meth : Method) (c : Code) (k d : Nat) : Prop :=
  p.tables.exec = Jvm.exec ∧ c.code = bM k ∧ c.maxLocals = mxl k ∧ meth.sig.returnType = rM k ∧ meth.locks = false ∧ meth.name = (yM k).name ∧
  s.vm.findClass (cnm (mown k)) = some m.cls ∧ (∀ w ∈ TBg, w.before args s = true) ∧ va_K G.2.1 cls12 (gT G) s ∧ G.1 ≤ s.heap.size ∧
  (va_X G.2.2.2.1 X.2 X.1 s s.heap ∧ G.2.2.2.1 < G.1) ∧ d + 10 ≤ R.frames ∧ 100 * d + 400 ≤ R.locals ∧ c.exceptionTable.toList = tableOf (hM k)
def WA (l : Launch) (G : GC) (p : Program) (e : Env) (R : Room) (s : State) (m : MethodId) (args : Array Value) (below : List Frame) (meth : Method) (c : Code) (Q : State → Prop) (k c0 s0 : Nat) (σ : FS) : Prop :=
  ∀ (H : Heap) (locs : List Loc) (cells slots : Nat) (lsM : Array Slot), HW G σ.2.2.2 H → va_S (gA G) s.heap H locs → LR G σ.2.1 (mxl k) lsM → cells + c0 = cz σ.2.2.2 → slots + s0 = slz σ.2.2.2 →
    W p l e R s m args below meth c H locs cells slots Q (F0 m (pcf k σ.1) lsM (σ.2.2.1.map (rv G)))
def PW (l : Launch) (G : GC) (p : Program) (e : Env) (R : Room) (s : State) (m : MethodId) (args : Array Value) (below : List Frame) (meth : Method) (c : Code) (Q : State → Prop) (k c0 s0 : Nat) (σ : FS) : Prop :=
  WA l G p e R s m args below meth c Q k c0 s0 σ ∧ cz σ.2.2.2 ≤ R.cells + c0 ∧ slz σ.2.2.2 ≤ R.slots + s0
section INS
variable {l : Launch} {G : GC} {X : XS} {p : Program} {e : Env} {R : Room} {s : State} {m : MethodId} {args : Array Value} {below : List Frame} {meth : Method} {c : Code} {Q : State → Prop} {k d c0 s0 : Nat} {i : Nat} {ls st : List Value} {h : Hp} {a b : Nat} {cv : Int32} {tl : List Nat} {lb : List (Bool × FS)}
theorem chk_dec {ins : Instr} (hc : chk k i (ins, a, b, cv, tl) = true) : decode (bM k) (pcf k i) = .ok (ins, pcf k (i + 1) - pcf k i) := by
  simp only [chk, Bool.and_eq_true, decide_eq_true_eq] at hc
  exact hc.1.1
theorem pc_n {n : Nat} {ins : Instr} (hb : Nat.beq (pcf k (i + 1)) (pcf k i + n) = true) (hc : decode (bM k) (pcf k i) = .ok (ins, pcf k (i + 1) - pcf k i)) : pcf k (i + 1) = pcf k i + n ∧ decode (bM k) (pcf k i) = .ok (ins, n) := by
  have e := Nat.eq_of_beq_eq_true hb
  refine ⟨e, ?_⟩
  rw [hc, e, Nat.add_sub_cancel_left]
/-- a push of a constant and its like: the rows of the kit, at the next place -/
theorem ok_iconst {n : Int} (F : FC l G X p R s m args meth c k d) (hc : chk k i (.iconst n, a, b, cv, tl) = true) (ha : act X (.iconst n, a, b, cv, tl) i ls st h = .inl lb) (hk : WSel (PW l G p e R s m args below meth c Q k c0 s0) lb) : WA l G p e R s m args below meth c Q k c0 s0 (i, ls, st, h) := by
  obtain ⟨hx, hb, -⟩ := F
  have hd := chk_dec hc
  simp only [chk, Bool.and_eq_true, decide_eq_true_eq] at hc
  obtain ⟨e1, d1⟩ := pc_n hc.2.1 hd
  have hP := (go1_inv ha hk).1
  intro H locs cells slots lsM hH hS hL h1 h2
  refine lv_iconst hx hb d1 hc.2.2 ?_
  rw [← e1]
  exact hP H locs cells slots lsM hH hS hL h1 h2
theorem ok_bipush {n : Int} (F : FC l G X p R s m args meth c k d) (hc : chk k i (.bipush n, a, b, cv, tl) = true) (ha : act X (.bipush n, a, b, cv, tl) i ls st h = .inl lb) (hk : WSel (PW l G p e R s m args below meth c Q k c0 s0) lb) : WA l G p e R s m args below meth c Q k c0 s0 (i, ls, st, h) := by
  obtain ⟨hx, hb, -⟩ := F
  have hd := chk_dec hc
  simp only [chk, Bool.and_eq_true, decide_eq_true_eq] at hc
  obtain ⟨e1, d1⟩ := pc_n hc.2.1 hd
  have hP := (go1_inv ha hk).1
  intro H locs cells slots lsM hH hS hL h1 h2
  refine lv_bipush hx hb d1 hc.2.2 ?_
  rw [← e1]
  exact hP H locs cells slots lsM hH hS hL h1 h2
theorem ok_sipush {n : Int} (F : FC l G X p R s m args meth c k d) (hc : chk k i (.sipush n, a, b, cv, tl) = true) (ha : act X (.sipush n, a, b, cv, tl) i ls st h = .inl lb) (hk : WSel (PW l G p e R s m args below meth c Q k c0 s0) lb) : WA l G p e R s m args below meth c Q k c0 s0 (i, ls, st, h) := by
  obtain ⟨hx, hb, -⟩ := F
  have hd := chk_dec hc
  simp only [chk, Bool.and_eq_true, decide_eq_true_eq] at hc
  obtain ⟨e1, d1⟩ := pc_n hc.2.1 hd
  have hP := (go1_inv ha hk).1
  intro H locs cells slots lsM hH hS hL h1 h2
  refine lv_sipush hx hb d1 hc.2.2 ?_
  rw [← e1]
  exact hP H locs cells slots lsM hH hS hL h1 h2
theorem ok_lconst {n : Fin 2} (F : FC l G X p R s m args meth c k d) (hc : chk k i (.lconst n, a, b, cv, tl) = true) (ha : act X (.lconst n, a, b, cv, tl) i ls st h = .inl lb) (hk : WSel (PW l G p e R s m args below meth c Q k c0 s0) lb) : WA l G p e R s m args below meth c Q k c0 s0 (i, ls, st, h) := by
  obtain ⟨hx, hb, -⟩ := F
  have hd := chk_dec hc
  simp only [chk, Bool.and_eq_true, decide_eq_true_eq] at hc
  obtain ⟨e1, d1⟩ := pc_n hc.2.1 hd
  have hP := (go1_inv ha hk).1
  intro H locs cells slots lsM hH hS hL h1 h2
  refine lv_lconst hx hb d1 (by rw [hc.2.2]) ?_
  rw [← e1]
  exact hP H locs cells slots lsM hH hS hL h1 h2
theorem ok_iload {n : Nat} (F : FC l G X p R s m args meth c k d) (hc : chk k i (.iload n, a, b, cv, tl) = true) (ha : act X (.iload n, a, b, cv, tl) i ls st h = .inl lb) (hk : WSel (PW l G p e R s m args below meth c Q k c0 s0) lb) : WA l G p e R s m args below meth c Q k c0 s0 (i, ls, st, h) := by
  obtain ⟨hx, hb, -⟩ := F
  have hd := chk_dec hc
  simp only [chk, Bool.and_eq_true, decide_eq_true_eq] at hc
  obtain ⟨e1, d1⟩ := pc_n hc.2.1 hd
  have hn := Nat.eq_of_beq_eq_true hc.2.2
  subst hn
  obtain ⟨x, hl, ha1⟩ := gI_inv ha hk
  have hP := (go1_inv ha1 hk).1
  intro H locs cells slots lsM hH hS hL h1 h2
  refine lv_iload hx hb d1 (hL.at hl (by simp)) ?_
  rw [← e1]
  exact hP H locs cells slots lsM hH hS hL h1 h2
theorem ok_iload_n {n : Fin 4} (F : FC l G X p R s m args meth c k d) (hc : chk k i (.iload_n n, a, b, cv, tl) = true) (ha : act X (.iload_n n, a, b, cv, tl) i ls st h = .inl lb) (hk : WSel (PW l G p e R s m args below meth c Q k c0 s0) lb) : WA l G p e R s m args below meth c Q k c0 s0 (i, ls, st, h) := by
  obtain ⟨hx, hb, -⟩ := F
  have hd := chk_dec hc
  simp only [chk, Bool.and_eq_true, decide_eq_true_eq] at hc
  obtain ⟨e1, d1⟩ := pc_n hc.2.1 hd
  obtain ⟨x, hl, ha1⟩ := gI_inv ha hk
  have hP := (go1_inv ha1 hk).1
  intro H locs cells slots lsM hH hS hL h1 h2
  refine lv_iload_n hx hb d1 hc.2.2 (hL.at hl (by simp)) ?_
  rw [← e1]
  exact hP H locs cells slots lsM hH hS hL h1 h2
theorem ok_lload {n : Nat} (F : FC l G X p R s m args meth c k d) (hc : chk k i (.lload n, a, b, cv, tl) = true) (ha : act X (.lload n, a, b, cv, tl) i ls st h = .inl lb) (hk : WSel (PW l G p e R s m args below meth c Q k c0 s0) lb) : WA l G p e R s m args below meth c Q k c0 s0 (i, ls, st, h) := by
  obtain ⟨hx, hb, -⟩ := F
  have hd := chk_dec hc
  simp only [chk, Bool.and_eq_true, decide_eq_true_eq] at hc
  obtain ⟨e1, d1⟩ := pc_n hc.2.1 hd
  have hn := Nat.eq_of_beq_eq_true hc.2.2
  subst hn
  obtain ⟨x, hl, ha1⟩ := gJ_inv ha hk
  have hP := (go1_inv ha1 hk).1
  intro H locs cells slots lsM hH hS hL h1 h2
  refine lv_lload hx hb d1 (hL.at hl (by simp)) ?_
  rw [← e1]
  exact hP H locs cells slots lsM hH hS hL h1 h2
theorem ok_lload_n {n : Fin 4} (F : FC l G X p R s m args meth c k d) (hc : chk k i (.lload_n n, a, b, cv, tl) = true) (ha : act X (.lload_n n, a, b, cv, tl) i ls st h = .inl lb) (hk : WSel (PW l G p e R s m args below meth c Q k c0 s0) lb) : WA l G p e R s m args below meth c Q k c0 s0 (i, ls, st, h) := by
  obtain ⟨hx, hb, -⟩ := F
  have hd := chk_dec hc
  simp only [chk, Bool.and_eq_true, decide_eq_true_eq] at hc
  obtain ⟨e1, d1⟩ := pc_n hc.2.1 hd
  obtain ⟨x, hl, ha1⟩ := gJ_inv ha hk
  have hP := (go1_inv ha1 hk).1
  intro H locs cells slots lsM hH hS hL h1 h2
  refine lv_lload_n hx hb d1 hc.2.2 (hL.at hl (by simp)) ?_
  rw [← e1]
  exact hP H locs cells slots lsM hH hS hL h1 h2
theorem ok_aload {n : Nat} (F : FC l G X p R s m args meth c k d) (hc : chk k i (.aload n, a, b, cv, tl) = true) (ha : act X (.aload n, a, b, cv, tl) i ls st h = .inl lb) (hk : WSel (PW l G p e R s m args below meth c Q k c0 s0) lb) : WA l G p e R s m args below meth c Q k c0 s0 (i, ls, st, h) := by
  obtain ⟨hx, hb, -⟩ := F
  have hd := chk_dec hc
  simp only [chk, Bool.and_eq_true, decide_eq_true_eq] at hc
  obtain ⟨e1, d1⟩ := pc_n hc.2.1 hd
  have hn := Nat.eq_of_beq_eq_true hc.2.2
  subst hn
  obtain ⟨x, hl, ha1⟩ := gR_inv ha hk
  have hP := (go1_inv ha1 hk).1
  intro H locs cells slots lsM hH hS hL h1 h2
  refine lv_aload hx hb d1 (hL.at hl (by simp)) ?_
  rw [← e1]
  exact hP H locs cells slots lsM hH hS hL h1 h2
theorem ok_aload_n {n : Fin 4} (F : FC l G X p R s m args meth c k d) (hc : chk k i (.aload_n n, a, b, cv, tl) = true) (ha : act X (.aload_n n, a, b, cv, tl) i ls st h = .inl lb) (hk : WSel (PW l G p e R s m args below meth c Q k c0 s0) lb) : WA l G p e R s m args below meth c Q k c0 s0 (i, ls, st, h) := by
  obtain ⟨hx, hb, -⟩ := F
  have hd := chk_dec hc
  simp only [chk, Bool.and_eq_true, decide_eq_true_eq] at hc
  obtain ⟨e1, d1⟩ := pc_n hc.2.1 hd
  obtain ⟨x, hl, ha1⟩ := gR_inv ha hk
  have hP := (go1_inv ha1 hk).1
  intro H locs cells slots lsM hH hS hL h1 h2
  refine lv_aload_n hx hb d1 hc.2.2 (hL.at hl (by simp)) ?_
  rw [← e1]
  exact hP H locs cells slots lsM hH hS hL h1 h2
theorem ok_istore {n : Nat} (F : FC l G X p R s m args meth c k d) (hc : chk k i (.istore n, a, b, cv, tl) = true) (ha : act X (.istore n, a, b, cv, tl) i ls st h = .inl lb) (hk : WSel (PW l G p e R s m args below meth c Q k c0 s0) lb) : WA l G p e R s m args below meth c Q k c0 s0 (i, ls, st, h) := by
  obtain ⟨hx, hb, -⟩ := F
  have hd := chk_dec hc
  simp only [chk, Bool.and_eq_true, decide_eq_true_eq] at hc
  obtain ⟨e1, d1⟩ := pc_n hc.2.1 hd
  have hn := Nat.eq_of_beq_eq_true hc.2.2
  subst hn
  simp only [act] at ha
  obtain ⟨x, r, rfl, ha1⟩ := pI_inv ha hk
  obtain ⟨hj, hp, ha2⟩ := sto_inv ha1 hk
  have hP := (go1_inv ha2 hk).1
  intro H locs cells slots lsM hH hS hL h1 h2
  refine lv_istore hx hb d1 hL.has (by rw [← hL.1]; exact hj) rfl (fun ls' h' => ?_)
  rw [← e1]
  exact hP H locs cells slots ls' hH hS (hL.store (v := .int x) hj hp ls' h') h1 h2
theorem ok_istore_n {n : Fin 4} (F : FC l G X p R s m args meth c k d) (hc : chk k i (.istore_n n, a, b, cv, tl) = true) (ha : act X (.istore_n n, a, b, cv, tl) i ls st h = .inl lb) (hk : WSel (PW l G p e R s m args below meth c Q k c0 s0) lb) : WA l G p e R s m args below meth c Q k c0 s0 (i, ls, st, h) := by
  obtain ⟨hx, hb, -⟩ := F
  have hd := chk_dec hc
  simp only [chk, Bool.and_eq_true, decide_eq_true_eq] at hc
  obtain ⟨e1, d1⟩ := pc_n hc.2.1 hd
  simp only [act] at ha
  obtain ⟨x, r, rfl, ha1⟩ := pI_inv ha hk
  obtain ⟨hj, hp, ha2⟩ := sto_inv ha1 hk
  have hP := (go1_inv ha2 hk).1
  intro H locs cells slots lsM hH hS hL h1 h2
  refine lv_istore_n hx hb d1 hc.2.2 hL.has (by rw [← hL.1]; exact hj) rfl (fun ls' h' => ?_)
  rw [← e1]
  exact hP H locs cells slots ls' hH hS (hL.store (v := .int x) hj hp ls' h') h1 h2
theorem ok_astore {n : Nat} (F : FC l G X p R s m args meth c k d) (hc : chk k i (.astore n, a, b, cv, tl) = true) (ha : act X (.astore n, a, b, cv, tl) i ls st h = .inl lb) (hk : WSel (PW l G p e R s m args below meth c Q k c0 s0) lb) : WA l G p e R s m args below meth c Q k c0 s0 (i, ls, st, h) := by
  obtain ⟨hx, hb, -⟩ := F
  have hd := chk_dec hc
  simp only [chk, Bool.and_eq_true, decide_eq_true_eq] at hc
  obtain ⟨e1, d1⟩ := pc_n hc.2.1 hd
  have hn := Nat.eq_of_beq_eq_true hc.2.2
  subst hn
  simp only [act] at ha
  obtain ⟨x, r, rfl, ha1⟩ := pR_inv ha hk
  obtain ⟨hj, hp, ha2⟩ := sto_inv ha1 hk
  have hP := (go1_inv ha2 hk).1
  intro H locs cells slots lsM hH hS hL h1 h2
  refine lv_astore hx hb d1 hL.has (by rw [← hL.1]; exact hj) rfl (fun ls' h' => ?_)
  rw [← e1]
  exact hP H locs cells slots ls' hH hS (hL.store (v := .ref x) hj hp ls' h') h1 h2
theorem ok_astore_n {n : Fin 4} (F : FC l G X p R s m args meth c k d) (hc : chk k i (.astore_n n, a, b, cv, tl) = true) (ha : act X (.astore_n n, a, b, cv, tl) i ls st h = .inl lb) (hk : WSel (PW l G p e R s m args below meth c Q k c0 s0) lb) : WA l G p e R s m args below meth c Q k c0 s0 (i, ls, st, h) := by
  obtain ⟨hx, hb, -⟩ := F
  have hd := chk_dec hc
  simp only [chk, Bool.and_eq_true, decide_eq_true_eq] at hc
  obtain ⟨e1, d1⟩ := pc_n hc.2.1 hd
  simp only [act] at ha
  obtain ⟨x, r, rfl, ha1⟩ := pR_inv ha hk
  obtain ⟨hj, hp, ha2⟩ := sto_inv ha1 hk
  have hP := (go1_inv ha2 hk).1
  intro H locs cells slots lsM hH hS hL h1 h2
  refine lv_astore_n hx hb d1 hc.2.2 hL.has (by rw [← hL.1]; exact hj) rfl (fun ls' h' => ?_)
  rw [← e1]
  exact hP H locs cells slots ls' hH hS (hL.store (v := .ref x) hj hp ls' h') h1 h2
theorem ok_lstore {n : Nat} (F : FC l G X p R s m args meth c k d) (hc : chk k i (.lstore n, a, b, cv, tl) = true) (ha : act X (.lstore n, a, b, cv, tl) i ls st h = .inl lb) (hk : WSel (PW l G p e R s m args below meth c Q k c0 s0) lb) : WA l G p e R s m args below meth c Q k c0 s0 (i, ls, st, h) := by
  obtain ⟨hx, hb, -⟩ := F
  have hd := chk_dec hc
  simp only [chk, Bool.and_eq_true, decide_eq_true_eq] at hc
  obtain ⟨e1, d1⟩ := pc_n hc.2.1 hd
  have hn := Nat.eq_of_beq_eq_true hc.2.2
  subst hn
  simp only [act] at ha
  obtain ⟨x, r, rfl, ha1⟩ := pJ_inv ha hk
  obtain ⟨hj, hp, ha2⟩ := stoJ_inv ha1 hk
  have hP := (go1_inv ha2 hk).1
  intro H locs cells slots lsM hH hS hL h1 h2
  refine lv_lstore hx hb d1 hL.has (by rw [← hL.1]; exact hj) rfl (fun ls' h' => ?_)
  rw [← e1]
  exact hP H locs cells slots ls' hH hS (hL.storeJ (v := .long x) hj hp ls' h') h1 h2
theorem ok_lstore_n {n : Fin 4} (F : FC l G X p R s m args meth c k d) (hc : chk k i (.lstore_n n, a, b, cv, tl) = true) (ha : act X (.lstore_n n, a, b, cv, tl) i ls st h = .inl lb) (hk : WSel (PW l G p e R s m args below meth c Q k c0 s0) lb) : WA l G p e R s m args below meth c Q k c0 s0 (i, ls, st, h) := by
  obtain ⟨hx, hb, -⟩ := F
  have hd := chk_dec hc
  simp only [chk, Bool.and_eq_true, decide_eq_true_eq] at hc
  obtain ⟨e1, d1⟩ := pc_n hc.2.1 hd
  simp only [act] at ha
  obtain ⟨x, r, rfl, ha1⟩ := pJ_inv ha hk
  obtain ⟨hj, hp, ha2⟩ := stoJ_inv ha1 hk
  have hP := (go1_inv ha2 hk).1
  intro H locs cells slots lsM hH hS hL h1 h2
  refine lv_lstore_n hx hb d1 hc.2.2 hL.has (by rw [← hL.1]; exact hj) rfl (fun ls' h' => ?_)
  rw [← e1]
  exact hP H locs cells slots ls' hH hS (hL.storeJ (v := .long x) hj hp ls' h') h1 h2
theorem ok_iinc {n : Nat} {v : Int} (F : FC l G X p R s m args meth c k d) (hc : chk k i (.iinc n v, a, b, cv, tl) = true) (ha : act X (.iinc n v, a, b, cv, tl) i ls st h = .inl lb) (hk : WSel (PW l G p e R s m args below meth c Q k c0 s0) lb) : WA l G p e R s m args below meth c Q k c0 s0 (i, ls, st, h) := by
  obtain ⟨hx, hb, -⟩ := F
  have hd := chk_dec hc
  simp only [chk, Bool.and_eq_true, decide_eq_true_eq] at hc
  obtain ⟨e1, d1⟩ := pc_n hc.2.1.1 hd
  have hn := Nat.eq_of_beq_eq_true hc.2.1.2
  subst hn
  obtain ⟨x, hl, ha1⟩ := gI_inv ha hk
  obtain ⟨hj, hp, ha2⟩ := sto_inv ha1 hk
  have hP := (go1_inv ha2 hk).1
  intro H locs cells slots lsM hH hS hL h1 h2
  obtain ⟨q, hq⟩ := List.getElem?_of_mem (lvl_mem (G := G) (ls := ls) (q := (n, .int x)) |>.mpr ⟨_, hl, by simp, rfl⟩)
  refine lv_iinc hx hb d1 hL.has hq (by rw [hc.2.2]) (by rw [← hL.1]; exact hj) rfl (fun ls' h' => ?_)
  rw [← e1]
  exact hP H locs cells slots ls' hH hS (hL.store (v := .int (x + cv)) hj hp ls' h') h1 h2
theorem ok_iadd (F : FC l G X p R s m args meth c k d) (hc : chk k i (.iadd, a, b, cv, tl) = true) (ha : act X (.iadd, a, b, cv, tl) i ls st h = .inl lb) (hk : WSel (PW l G p e R s m args below meth c Q k c0 s0) lb) : WA l G p e R s m args below meth c Q k c0 s0 (i, ls, st, h) := by
  obtain ⟨hx, hb, -⟩ := F
  have hd := chk_dec hc
  simp only [chk, Bool.and_eq_true, decide_eq_true_eq] at hc
  obtain ⟨e1, d1⟩ := pc_n hc.2 hd
  obtain ⟨y, r, rfl, ha1⟩ := pI_inv ha hk
  obtain ⟨x, r, rfl, ha2⟩ := pI_inv ha1 hk
  have hP := (go1_inv ha2 hk).1
  intro H locs cells slots lsM hH hS hL h1 h2
  refine lv_iadd hx hb d1 ?_
  rw [← e1]
  exact hP H locs cells slots lsM hH hS hL h1 h2
theorem ok_isub (F : FC l G X p R s m args meth c k d) (hc : chk k i (.isub, a, b, cv, tl) = true) (ha : act X (.isub, a, b, cv, tl) i ls st h = .inl lb) (hk : WSel (PW l G p e R s m args below meth c Q k c0 s0) lb) : WA l G p e R s m args below meth c Q k c0 s0 (i, ls, st, h) := by
  obtain ⟨hx, hb, -⟩ := F
  have hd := chk_dec hc
  simp only [chk, Bool.and_eq_true, decide_eq_true_eq] at hc
  obtain ⟨e1, d1⟩ := pc_n hc.2 hd
  obtain ⟨y, r, rfl, ha1⟩ := pI_inv ha hk
  obtain ⟨x, r, rfl, ha2⟩ := pI_inv ha1 hk
  have hP := (go1_inv ha2 hk).1
  intro H locs cells slots lsM hH hS hL h1 h2
  refine lv_isub hx hb d1 ?_
  rw [← e1]
  exact hP H locs cells slots lsM hH hS hL h1 h2
theorem ok_imul (F : FC l G X p R s m args meth c k d) (hc : chk k i (.imul, a, b, cv, tl) = true) (ha : act X (.imul, a, b, cv, tl) i ls st h = .inl lb) (hk : WSel (PW l G p e R s m args below meth c Q k c0 s0) lb) : WA l G p e R s m args below meth c Q k c0 s0 (i, ls, st, h) := by
  obtain ⟨hx, hb, -⟩ := F
  have hd := chk_dec hc
  simp only [chk, Bool.and_eq_true, decide_eq_true_eq] at hc
  obtain ⟨e1, d1⟩ := pc_n hc.2 hd
  obtain ⟨y, r, rfl, ha1⟩ := pI_inv ha hk
  obtain ⟨x, r, rfl, ha2⟩ := pI_inv ha1 hk
  have hP := (go1_inv ha2 hk).1
  intro H locs cells slots lsM hH hS hL h1 h2
  refine lv_imul hx hb d1 ?_
  rw [← e1]
  exact hP H locs cells slots lsM hH hS hL h1 h2
theorem ok_iand (F : FC l G X p R s m args meth c k d) (hc : chk k i (.iand, a, b, cv, tl) = true) (ha : act X (.iand, a, b, cv, tl) i ls st h = .inl lb) (hk : WSel (PW l G p e R s m args below meth c Q k c0 s0) lb) : WA l G p e R s m args below meth c Q k c0 s0 (i, ls, st, h) := by
  obtain ⟨hx, hb, -⟩ := F
  have hd := chk_dec hc
  simp only [chk, Bool.and_eq_true, decide_eq_true_eq] at hc
  obtain ⟨e1, d1⟩ := pc_n hc.2 hd
  obtain ⟨y, r, rfl, ha1⟩ := pI_inv ha hk
  obtain ⟨x, r, rfl, ha2⟩ := pI_inv ha1 hk
  have hP := (go1_inv ha2 hk).1
  intro H locs cells slots lsM hH hS hL h1 h2
  refine lv_iand hx hb d1 ?_
  rw [← e1]
  exact hP H locs cells slots lsM hH hS hL h1 h2
theorem ok_ior (F : FC l G X p R s m args meth c k d) (hc : chk k i (.ior, a, b, cv, tl) = true) (ha : act X (.ior, a, b, cv, tl) i ls st h = .inl lb) (hk : WSel (PW l G p e R s m args below meth c Q k c0 s0) lb) : WA l G p e R s m args below meth c Q k c0 s0 (i, ls, st, h) := by
  obtain ⟨hx, hb, -⟩ := F
  have hd := chk_dec hc
  simp only [chk, Bool.and_eq_true, decide_eq_true_eq] at hc
  obtain ⟨e1, d1⟩ := pc_n hc.2 hd
  obtain ⟨y, r, rfl, ha1⟩ := pI_inv ha hk
  obtain ⟨x, r, rfl, ha2⟩ := pI_inv ha1 hk
  have hP := (go1_inv ha2 hk).1
  intro H locs cells slots lsM hH hS hL h1 h2
  refine lv_ior hx hb d1 ?_
  rw [← e1]
  exact hP H locs cells slots lsM hH hS hL h1 h2
theorem ok_ixor (F : FC l G X p R s m args meth c k d) (hc : chk k i (.ixor, a, b, cv, tl) = true) (ha : act X (.ixor, a, b, cv, tl) i ls st h = .inl lb) (hk : WSel (PW l G p e R s m args below meth c Q k c0 s0) lb) : WA l G p e R s m args below meth c Q k c0 s0 (i, ls, st, h) := by
  obtain ⟨hx, hb, -⟩ := F
  have hd := chk_dec hc
  simp only [chk, Bool.and_eq_true, decide_eq_true_eq] at hc
  obtain ⟨e1, d1⟩ := pc_n hc.2 hd
  obtain ⟨y, r, rfl, ha1⟩ := pI_inv ha hk
  obtain ⟨x, r, rfl, ha2⟩ := pI_inv ha1 hk
  have hP := (go1_inv ha2 hk).1
  intro H locs cells slots lsM hH hS hL h1 h2
  refine lv_ixor hx hb d1 ?_
  rw [← e1]
  exact hP H locs cells slots lsM hH hS hL h1 h2
theorem ok_ishl (F : FC l G X p R s m args meth c k d) (hc : chk k i (.ishl, a, b, cv, tl) = true) (ha : act X (.ishl, a, b, cv, tl) i ls st h = .inl lb) (hk : WSel (PW l G p e R s m args below meth c Q k c0 s0) lb) : WA l G p e R s m args below meth c Q k c0 s0 (i, ls, st, h) := by
  obtain ⟨hx, hb, -⟩ := F
  have hd := chk_dec hc
  simp only [chk, Bool.and_eq_true, decide_eq_true_eq] at hc
  obtain ⟨e1, d1⟩ := pc_n hc.2 hd
  obtain ⟨y, r, rfl, ha1⟩ := pI_inv ha hk
  obtain ⟨x, r, rfl, ha2⟩ := pI_inv ha1 hk
  have hP := (go1_inv ha2 hk).1
  intro H locs cells slots lsM hH hS hL h1 h2
  refine lv_ishl hx hb d1 ?_
  rw [← e1]
  exact hP H locs cells slots lsM hH hS hL h1 h2
theorem ok_ishr (F : FC l G X p R s m args meth c k d) (hc : chk k i (.ishr, a, b, cv, tl) = true) (ha : act X (.ishr, a, b, cv, tl) i ls st h = .inl lb) (hk : WSel (PW l G p e R s m args below meth c Q k c0 s0) lb) : WA l G p e R s m args below meth c Q k c0 s0 (i, ls, st, h) := by
  obtain ⟨hx, hb, -⟩ := F
  have hd := chk_dec hc
  simp only [chk, Bool.and_eq_true, decide_eq_true_eq] at hc
  obtain ⟨e1, d1⟩ := pc_n hc.2 hd
  obtain ⟨y, r, rfl, ha1⟩ := pI_inv ha hk
  obtain ⟨x, r, rfl, ha2⟩ := pI_inv ha1 hk
  have hP := (go1_inv ha2 hk).1
  intro H locs cells slots lsM hH hS hL h1 h2
  refine lv_ishr hx hb d1 ?_
  rw [← e1]
  exact hP H locs cells slots lsM hH hS hL h1 h2
theorem ok_iushr (F : FC l G X p R s m args meth c k d) (hc : chk k i (.iushr, a, b, cv, tl) = true) (ha : act X (.iushr, a, b, cv, tl) i ls st h = .inl lb) (hk : WSel (PW l G p e R s m args below meth c Q k c0 s0) lb) : WA l G p e R s m args below meth c Q k c0 s0 (i, ls, st, h) := by
  obtain ⟨hx, hb, -⟩ := F
  have hd := chk_dec hc
  simp only [chk, Bool.and_eq_true, decide_eq_true_eq] at hc
  obtain ⟨e1, d1⟩ := pc_n hc.2 hd
  obtain ⟨y, r, rfl, ha1⟩ := pI_inv ha hk
  obtain ⟨x, r, rfl, ha2⟩ := pI_inv ha1 hk
  have hP := (go1_inv ha2 hk).1
  intro H locs cells slots lsM hH hS hL h1 h2
  refine lv_iushr hx hb d1 rfl ?_
  rw [← e1]
  exact hP H locs cells slots lsM hH hS hL h1 h2
theorem ok_ineg (F : FC l G X p R s m args meth c k d) (hc : chk k i (.ineg, a, b, cv, tl) = true) (ha : act X (.ineg, a, b, cv, tl) i ls st h = .inl lb) (hk : WSel (PW l G p e R s m args below meth c Q k c0 s0) lb) : WA l G p e R s m args below meth c Q k c0 s0 (i, ls, st, h) := by
  obtain ⟨hx, hb, -⟩ := F
  have hd := chk_dec hc
  simp only [chk, Bool.and_eq_true, decide_eq_true_eq] at hc
  obtain ⟨e1, d1⟩ := pc_n hc.2 hd
  obtain ⟨x, r, rfl, ha1⟩ := pI_inv ha hk
  have hP := (go1_inv ha1 hk).1
  intro H locs cells slots lsM hH hS hL h1 h2
  refine lv_ineg hx hb d1 ?_
  rw [← e1]
  exact hP H locs cells slots lsM hH hS hL h1 h2
theorem ok_i2l (F : FC l G X p R s m args meth c k d) (hc : chk k i (.i2l, a, b, cv, tl) = true) (ha : act X (.i2l, a, b, cv, tl) i ls st h = .inl lb) (hk : WSel (PW l G p e R s m args below meth c Q k c0 s0) lb) : WA l G p e R s m args below meth c Q k c0 s0 (i, ls, st, h) := by
  obtain ⟨hx, hb, -⟩ := F
  have hd := chk_dec hc
  simp only [chk, Bool.and_eq_true, decide_eq_true_eq] at hc
  obtain ⟨e1, d1⟩ := pc_n hc.2 hd
  obtain ⟨x, r, rfl, ha1⟩ := pI_inv ha hk
  have hP := (go1_inv ha1 hk).1
  intro H locs cells slots lsM hH hS hL h1 h2
  refine lv_i2l hx hb d1 rfl ?_
  rw [← e1]
  exact hP H locs cells slots lsM hH hS hL h1 h2
theorem ok_i2c (F : FC l G X p R s m args meth c k d) (hc : chk k i (.i2c, a, b, cv, tl) = true) (ha : act X (.i2c, a, b, cv, tl) i ls st h = .inl lb) (hk : WSel (PW l G p e R s m args below meth c Q k c0 s0) lb) : WA l G p e R s m args below meth c Q k c0 s0 (i, ls, st, h) := by
  obtain ⟨hx, hb, -⟩ := F
  have hd := chk_dec hc
  simp only [chk, Bool.and_eq_true, decide_eq_true_eq] at hc
  obtain ⟨e1, d1⟩ := pc_n hc.2 hd
  obtain ⟨x, r, rfl, ha1⟩ := pI_inv ha hk
  have hP := (go1_inv ha1 hk).1
  intro H locs cells slots lsM hH hS hL h1 h2
  refine lv_i2c hx hb d1 rfl ?_
  rw [← e1]
  exact hP H locs cells slots lsM hH hS hL h1 h2
theorem ok_lsub (F : FC l G X p R s m args meth c k d) (hc : chk k i (.lsub, a, b, cv, tl) = true) (ha : act X (.lsub, a, b, cv, tl) i ls st h = .inl lb) (hk : WSel (PW l G p e R s m args below meth c Q k c0 s0) lb) : WA l G p e R s m args below meth c Q k c0 s0 (i, ls, st, h) := by
  obtain ⟨hx, hb, -⟩ := F
  have hd := chk_dec hc
  simp only [chk, Bool.and_eq_true, decide_eq_true_eq] at hc
  obtain ⟨e1, d1⟩ := pc_n hc.2 hd
  obtain ⟨y, r, rfl, ha1⟩ := pJ_inv ha hk
  obtain ⟨x, r, rfl, ha2⟩ := pJ_inv ha1 hk
  have hP := (go1_inv ha2 hk).1
  intro H locs cells slots lsM hH hS hL h1 h2
  refine lv_lsub hx hb d1 ?_
  rw [← e1]
  exact hP H locs cells slots lsM hH hS hL h1 h2
theorem ok_lor (F : FC l G X p R s m args meth c k d) (hc : chk k i (.lor, a, b, cv, tl) = true) (ha : act X (.lor, a, b, cv, tl) i ls st h = .inl lb) (hk : WSel (PW l G p e R s m args below meth c Q k c0 s0) lb) : WA l G p e R s m args below meth c Q k c0 s0 (i, ls, st, h) := by
  obtain ⟨hx, hb, -⟩ := F
  have hd := chk_dec hc
  simp only [chk, Bool.and_eq_true, decide_eq_true_eq] at hc
  obtain ⟨e1, d1⟩ := pc_n hc.2 hd
  obtain ⟨y, r, rfl, ha1⟩ := pJ_inv ha hk
  obtain ⟨x, r, rfl, ha2⟩ := pJ_inv ha1 hk
  have hP := (go1_inv ha2 hk).1
  intro H locs cells slots lsM hH hS hL h1 h2
  refine lv_lor hx hb d1 ?_
  rw [← e1]
  exact hP H locs cells slots lsM hH hS hL h1 h2
theorem ok_lshl (F : FC l G X p R s m args meth c k d) (hc : chk k i (.lshl, a, b, cv, tl) = true) (ha : act X (.lshl, a, b, cv, tl) i ls st h = .inl lb) (hk : WSel (PW l G p e R s m args below meth c Q k c0 s0) lb) : WA l G p e R s m args below meth c Q k c0 s0 (i, ls, st, h) := by
  obtain ⟨hx, hb, -⟩ := F
  have hd := chk_dec hc
  simp only [chk, Bool.and_eq_true, decide_eq_true_eq] at hc
  obtain ⟨e1, d1⟩ := pc_n hc.2 hd
  obtain ⟨y, r, rfl, ha1⟩ := pI_inv ha hk
  obtain ⟨x, r, rfl, ha2⟩ := pJ_inv ha1 hk
  have hP := (go1_inv ha2 hk).1
  intro H locs cells slots lsM hH hS hL h1 h2
  refine lv_lshl hx hb d1 rfl ?_
  rw [← e1]
  exact hP H locs cells slots lsM hH hS hL h1 h2
theorem ok_lcmp (F : FC l G X p R s m args meth c k d) (hc : chk k i (.lcmp, a, b, cv, tl) = true) (ha : act X (.lcmp, a, b, cv, tl) i ls st h = .inl lb) (hk : WSel (PW l G p e R s m args below meth c Q k c0 s0) lb) : WA l G p e R s m args below meth c Q k c0 s0 (i, ls, st, h) := by
  obtain ⟨hx, hb, -⟩ := F
  have hd := chk_dec hc
  simp only [chk, Bool.and_eq_true, decide_eq_true_eq] at hc
  obtain ⟨e1, d1⟩ := pc_n hc.2 hd
  obtain ⟨y, r, rfl, ha1⟩ := pJ_inv ha hk
  obtain ⟨x, r, rfl, ha2⟩ := pJ_inv ha1 hk
  have hP := (go1_inv ha2 hk).1
  intro H locs cells slots lsM hH hS hL h1 h2
  refine W.lcmp hx hb d1 ?_
  rw [← e1]
  exact hP H locs cells slots lsM hH hS hL h1 h2
theorem ok_pop (F : FC l G X p R s m args meth c k d) (hc : chk k i (.pop, a, b, cv, tl) = true) (ha : act X (.pop, a, b, cv, tl) i ls st h = .inl lb) (hk : WSel (PW l G p e R s m args below meth c Q k c0 s0) lb) : WA l G p e R s m args below meth c Q k c0 s0 (i, ls, st, h) := by
  obtain ⟨hx, hb, -⟩ := F
  have hd := chk_dec hc
  simp only [chk, Bool.and_eq_true, decide_eq_true_eq] at hc
  obtain ⟨e1, d1⟩ := pc_n hc.2 hd
  obtain ⟨x, r, rfl, ha1⟩ := pI_inv ha hk
  have hP := (go1_inv ha1 hk).1
  intro H locs cells slots lsM hH hS hL h1 h2
  refine lv_pop (va := .int x) hx hb d1 rfl ?_
  rw [← e1]
  exact hP H locs cells slots lsM hH hS hL h1 h2
theorem ok_idiv (F : FC l G X p R s m args meth c k d) (hc : chk k i (.idiv, a, b, cv, tl) = true) (ha : act X (.idiv, a, b, cv, tl) i ls st h = .inl lb) (hk : WSel (PW l G p e R s m args below meth c Q k c0 s0) lb) : WA l G p e R s m args below meth c Q k c0 s0 (i, ls, st, h) := by
  obtain ⟨hx, hb, -⟩ := F
  have hd := chk_dec hc
  simp only [chk, Bool.and_eq_true, decide_eq_true_eq] at hc
  obtain ⟨e1, d1⟩ := pc_n hc.2 hd
  obtain ⟨y, r, rfl, ha1⟩ := pI_inv ha hk
  obtain ⟨x, r, rfl, ha2⟩ := pI_inv ha1 hk
  obtain ⟨hg, hP⟩ := g1_inv ha2 hk
  have hP := hP.1
  have hg := of_decide_eq_true hg
  intro H locs cells slots lsM hH hS hL h1 h2
  refine lv_idiv hx hb d1 hg ?_
  rw [← e1]
  exact hP H locs cells slots lsM hH hS hL h1 h2
theorem ok_irem (F : FC l G X p R s m args meth c k d) (hc : chk k i (.irem, a, b, cv, tl) = true) (ha : act X (.irem, a, b, cv, tl) i ls st h = .inl lb) (hk : WSel (PW l G p e R s m args below meth c Q k c0 s0) lb) : WA l G p e R s m args below meth c Q k c0 s0 (i, ls, st, h) := by
  obtain ⟨hx, hb, -⟩ := F
  have hd := chk_dec hc
  simp only [chk, Bool.and_eq_true, decide_eq_true_eq] at hc
  obtain ⟨e1, d1⟩ := pc_n hc.2 hd
  obtain ⟨y, r, rfl, ha1⟩ := pI_inv ha hk
  obtain ⟨x, r, rfl, ha2⟩ := pI_inv ha1 hk
  obtain ⟨hg, hP⟩ := g1_inv ha2 hk
  have hP := hP.1
  have hg := of_decide_eq_true hg
  intro H locs cells slots lsM hH hS hL h1 h2
  refine lv_irem hx hb d1 hg ?_
  rw [← e1]
  exact hP H locs cells slots lsM hH hS hL h1 h2
theorem ok_dup (F : FC l G X p R s m args meth c k d) (hc : chk k i (.dup, a, b, cv, tl) = true) (ha : act X (.dup, a, b, cv, tl) i ls st h = .inl lb) (hk : WSel (PW l G p e R s m args below meth c Q k c0 s0) lb) : WA l G p e R s m args below meth c Q k c0 s0 (i, ls, st, h) := by
  obtain ⟨hx, hb, -⟩ := F
  have hd := chk_dec hc
  simp only [chk, Bool.and_eq_true, decide_eq_true_eq] at hc
  obtain ⟨e1, d1⟩ := pc_n hc.2 hd
  simp only [act] at ha
  split at ha
  · have hP := (go1_inv ha hk).1
    intro H locs cells slots lsM hH hS hL h1 h2
    refine lv_dup hx hb d1 rfl ?_
    rw [← e1]
    exact hP H locs cells slots lsM hH hS hL h1 h2
  · have hP := (go1_inv ha hk).1
    intro H locs cells slots lsM hH hS hL h1 h2
    refine lv_dup hx hb d1 rfl ?_
    rw [← e1]
    exact hP H locs cells slots lsM hH hS hL h1 h2
  · cases ha; exact hk.elim
theorem ok_dup2 (F : FC l G X p R s m args meth c k d) (hc : chk k i (.dup2, a, b, cv, tl) = true) (ha : act X (.dup2, a, b, cv, tl) i ls st h = .inl lb) (hk : WSel (PW l G p e R s m args below meth c Q k c0 s0) lb) : WA l G p e R s m args below meth c Q k c0 s0 (i, ls, st, h) := by
  obtain ⟨hx, hb, -⟩ := F
  have hd := chk_dec hc
  simp only [chk, Bool.and_eq_true, decide_eq_true_eq] at hc
  obtain ⟨e1, d1⟩ := pc_n hc.2 hd
  simp only [act] at ha
  obtain ⟨y, r, rfl, ha1⟩ := pI_inv ha hk
  split at ha1
  · have hP := (go1_inv ha1 hk).1
    intro H locs cells slots lsM hH hS hL h1 h2
    refine lv_dup2_11 hx hb d1 rfl rfl ?_
    rw [← e1]
    exact hP H locs cells slots lsM hH hS hL h1 h2
  · have hP := (go1_inv ha1 hk).1
    intro H locs cells slots lsM hH hS hL h1 h2
    refine lv_dup2_11 hx hb d1 rfl rfl ?_
    rw [← e1]
    exact hP H locs cells slots lsM hH hS hL h1 h2
  · cases ha1; exact hk.elim
theorem ok_goto {n : Int} (F : FC l G X p R s m args meth c k d) (hc : chk k i (.goto n, a, b, cv, tl) = true) (ha : act X (.goto n, a, b, cv, tl) i ls st h = .inl lb) (hk : WSel (PW l G p e R s m args below meth c Q k c0 s0) lb) : WA l G p e R s m args below meth c Q k c0 s0 (i, ls, st, h) := by
  obtain ⟨hx, hb, -⟩ := F
  have hd := chk_dec hc
  simp only [chk, Bool.and_eq_true, decide_eq_true_eq] at hc
  obtain ⟨e1, d1⟩ := pc_n hc.2.1 hd
  have hP := (go1_inv ha hk).1
  intro H locs cells slots lsM hH hS hL h1 h2
  exact lv_goto hx hb d1 hc.2.2 (hP H locs cells slots lsM hH hS hL h1 h2)
theorem ok_ifCond {cc : ClassFile.Cond} {n : Int} (F : FC l G X p R s m args meth c k d) (hc : chk k i (.ifCond cc n, a, b, cv, tl) = true) (ha : act X (.ifCond cc n, a, b, cv, tl) i ls st h = .inl lb) (hk : WSel (PW l G p e R s m args below meth c Q k c0 s0) lb) : WA l G p e R s m args below meth c Q k c0 s0 (i, ls, st, h) := by
  obtain ⟨hx, hb, -⟩ := F
  have hd := chk_dec hc
  simp only [chk, Bool.and_eq_true, decide_eq_true_eq] at hc
  obtain ⟨e1, d1⟩ := pc_n hc.2.1 hd
  obtain ⟨x, r, rfl, ha1⟩ := pI_inv ha hk
  obtain ⟨hT, hF⟩ := g2_inv ha1 hk
  intro H locs cells slots lsM hH hS hL h1 h2
  have hF : brc cc x 0 = false → W p l e R s m args below meth c H locs cells slots Q (F0 m (pcf k i + 3) lsM (r.map (rv G))) := fun q => by rw [← e1]; exact (hF q).1 H locs cells slots lsM hH hS hL h1 h2
  have hT : brc cc x 0 = true → W p l e R s m args below meth c H locs cells slots Q (F0 m (pcf k a) lsM (r.map (rv G))) := fun q => (hT q).1 H locs cells slots lsM hH hS hL h1 h2
  cases cc
  case eq => exact lv_if_eq hx hb d1 hc.2.2 (fun q => hT (decide_eq_true q)) (fun q => hF (decide_eq_false q))
  case ne => exact lv_if_ne hx hb d1 hc.2.2 (fun q => hT (decide_eq_true q)) (fun q => hF (decide_eq_false (fun z => z q)))
  case lt => exact lv_if_lt hx hb d1 hc.2.2 (fun q => hT (decide_eq_true q)) (fun q => hF (decide_eq_false q))
  case ge => exact lv_if_ge hx hb d1 hc.2.2 (fun q => hT (decide_eq_true q)) (fun q => hF (decide_eq_false q))
  case gt => exact lv_if_gt hx hb d1 hc.2.2 (fun q => hT (decide_eq_true q)) (fun q => hF (decide_eq_false q))
  case le => exact lv_if_le hx hb d1 hc.2.2 (fun q => hT (decide_eq_true q)) (fun q => hF (decide_eq_false q))
theorem ok_if_icmp {cc : ClassFile.Cond} {n : Int} (F : FC l G X p R s m args meth c k d) (hc : chk k i (.if_icmp cc n, a, b, cv, tl) = true) (ha : act X (.if_icmp cc n, a, b, cv, tl) i ls st h = .inl lb) (hk : WSel (PW l G p e R s m args below meth c Q k c0 s0) lb) : WA l G p e R s m args below meth c Q k c0 s0 (i, ls, st, h) := by
  obtain ⟨hx, hb, -⟩ := F
  have hd := chk_dec hc
  simp only [chk, Bool.and_eq_true, decide_eq_true_eq] at hc
  obtain ⟨e1, d1⟩ := pc_n hc.2.1 hd
  obtain ⟨y, r, rfl, ha1⟩ := pI_inv ha hk
  obtain ⟨x, r, rfl, ha2⟩ := pI_inv ha1 hk
  obtain ⟨hT, hF⟩ := g2_inv ha2 hk
  intro H locs cells slots lsM hH hS hL h1 h2
  have hF : brc cc x y = false → W p l e R s m args below meth c H locs cells slots Q (F0 m (pcf k i + 3) lsM (r.map (rv G))) := fun q => by rw [← e1]; exact (hF q).1 H locs cells slots lsM hH hS hL h1 h2
  have hT : brc cc x y = true → W p l e R s m args below meth c H locs cells slots Q (F0 m (pcf k a) lsM (r.map (rv G))) := fun q => (hT q).1 H locs cells slots lsM hH hS hL h1 h2
  cases cc
  case eq => exact lv_icmp_eq hx hb d1 hc.2.2 (fun q => hT (decide_eq_true q)) (fun q => hF (decide_eq_false q))
  case ne => exact lv_icmp_ne hx hb d1 hc.2.2 (fun q => hT (decide_eq_true q)) (fun q => hF (decide_eq_false (fun z => z q)))
  case lt => exact lv_icmp_lt hx hb d1 hc.2.2 (fun q => hT (decide_eq_true q)) (fun q => hF (decide_eq_false q))
  case ge => exact lv_icmp_ge hx hb d1 hc.2.2 (fun q => hT (decide_eq_true q)) (fun q => hF (decide_eq_false q))
  case gt => exact lv_icmp_gt hx hb d1 hc.2.2 (fun q => hT (decide_eq_true q)) (fun q => hF (decide_eq_false q))
  case le => exact lv_icmp_le hx hb d1 hc.2.2 (fun q => hT (decide_eq_true q)) (fun q => hF (decide_eq_false q))
end INS
