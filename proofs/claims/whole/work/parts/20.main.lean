/-! ===== soundness: runs ===== -/
def ThrR (l : Launch) (G : GC) (X : XS) (EX : State → Heap → Prop) : Prop := ∀ (p : Program) (e : Env) (R : Room) (s : State) (m : MethodId) (args : Array Value) (below : List Frame) (meth : Method) (c : Code) (k d i c0 s0 mc ms : Nat) (ls st : List Value) (h : Hp) (n a b : Nat) (cv : Int32) (tl : List Nat),
  FC l G X p R s m args meth c k d → EX s s.heap → k < NM → (code0 k)[i]? = some (.new n, a, b, cv, tl) → 1000 ≤ a → st.length ≤ 100 → cz h + 1 ≤ R.cells + c0 → slz h + 6 ≤ R.slots + s0 → mc + c0 = cz h + 1 → ms + s0 = slz h + 6 →
  WA l G p e R s m args below meth c (PQ G below args s mc ms (.inr (a - 1000), (h.1, h.2.1 + 1, h.2.2))) k c0 s0 (i, ls, st, h)
def StrR (l : Launch) (G : GC) (X : XS) (EX : State → Heap → Prop) : Prop := ∀ (p : Program) (e : Env) (R : Room) (s : State) (m : MethodId) (args : Array Value) (below : List Frame) (meth : Method) (c : Code) (Q : State → Prop) (k d i c0 s0 : Nat) (ls st : List Value) (h : Hp) (ai : AIns) (lb : List (Bool × FS)),
  FC l G X p R s m args meth c k d → EX s s.heap → k < NM → (code0 k)[i]? = some ai → ((∃ n, ai.1 = .ldc n ∧ ai.2.1 ≠ 0) ∨ (∃ n, ai.1 = .invokevirtual n ∧ 1000 ≤ ai.2.1)) → act X ai i ls st h = .inl lb → WSel (PW l G p e R s m args below meth c Q k c0 s0) lb →
  WA l G p e R s m args below meth c Q k c0 s0 (i, ls, st, h)
def CatR (l : Launch) (G : GC) (X : XS) (EX : State → Heap → Prop) : Prop := ∀ (p : Program) (e : Env) (R : Room) (s : State) (m : MethodId) (args : Array Value) (below : List Frame) (meth : Method) (c : Code) (Q : State → Prop) (k d i c0 s0 x : Nat) (ls rest : List Value) (h' : Hp) (n a b : Nat) (cv : Int32) (tl : List Nat) (f : FS → Option Rs) (r : Rs),
  FC l G X p R s m args meth c k d → EX s s.heap → k < NM → (code0 k)[i]? = some (.invokevirtual n, a, b, cv, tl) → tl.drop 2 ≠ [] → thr f ls x h' (tl.drop 2) = some r → (∀ σ, f σ = some r → WA l G p e R s m args below meth c Q k c0 s0 σ) →
  ∀ (H1 : Heap) (locs1 : List Loc) (cells slots : Nat) (lsM : Array Slot) (q : Addr) (ce : Cell), HW G h' H1 → va_S (gA G) s.heap H1 locs1 → LR G ls (mxl k) lsM → cells + c0 = cz h' → slots + s0 = slz h' → H1[q]? = some ce → ce.vm = .none → s.vm.findClass (enm x) = some ce.cls →
  vx_W p l e R s m args below meth c H1 locs1 cells slots Q (F0 m (pcf k i) lsM rest) q
def NstR (EX : State → Heap → Prop) : Prop := ∀ (U : State) (H : Heap), EX U H → ∀ w ∈ lw_tbl, isNest w = true → va_Nw w U
theorem sel_W {f : FS → Option Rs} {P : FS → Prop} {r : Rs} (hf : ∀ σ, f σ = some r → P σ) : ∀ {lb : List (Bool × FS)}, sel f lb = some r → WSel P lb
  | (b, s) :: l, h => by
    simp only [sel] at h
    cases b with
    | true => exact ⟨fun _ => hf s h, fun q => (by cases q)⟩
    | false => exact ⟨fun q => (by cases q), fun _ => sel_W hf h⟩
theorem goodIn_M {a : Nat} (ha : cw a ∈ TBg) : GoodIn TBg (wsM a) := by
  intro w hw
  have hm : w ∈ TBg := by
    rcases List.mem_cons.mp hw with q | q
    · rw [q]; exact ha
    · exact q
  exact ⟨hm, good_of_word (List.mem_filter.mp hm).2⟩
section MAIN
variable {l : Launch} {G : GC} {X : XS} {EX : State → Heap → Prop} {p : Program} {e : Env} {R : Room} {s : State} {m : MethodId} {args : Array Value} {below : List Frame} {meth : Method} {c : Code} {Q : State → Prop} {k d c0 s0 : Nat} {i : Nat} {ls st : List Value} {h : Hp} {lb : List (Bool × FS)}
/-- every instruction that goes on in the same method -/
theorem ins_ok {ai : AIns} (hN : NstR EX) (hSt : StrR l G X EX) (F : FC l G X p R s m args meth c k d) (hE : EX s s.heap) (hc0 : s.heap.size ≤ G.1 + c0) (hk : k < NM) (hcode : (code0 k)[i]? = some ai) (hc : chk k i ai = true) (ha : act X ai i ls st h = .inl lb) (hW : WSel (PW l G p e R s m args below meth c Q k c0 s0) lb) : WA l G p e R s m args below meth c Q k c0 s0 (i, ls, st, h) := by
  obtain ⟨ins, a, b, cv, tl⟩ := ai
  cases ins
  case iconst => exact ok_iconst F hc ha hW
  case bipush => exact ok_bipush F hc ha hW
  case sipush => exact ok_sipush F hc ha hW
  case lconst => exact ok_lconst F hc ha hW
  case iload => exact ok_iload F hc ha hW
  case iload_n => exact ok_iload_n F hc ha hW
  case lload => exact ok_lload F hc ha hW
  case lload_n => exact ok_lload_n F hc ha hW
  case aload => exact ok_aload F hc ha hW
  case aload_n => exact ok_aload_n F hc ha hW
  case istore => exact ok_istore F hc ha hW
  case istore_n => exact ok_istore_n F hc ha hW
  case astore => exact ok_astore F hc ha hW
  case astore_n => exact ok_astore_n F hc ha hW
  case lstore => exact ok_lstore F hc ha hW
  case lstore_n => exact ok_lstore_n F hc ha hW
  case iinc => exact ok_iinc F hc ha hW
  case iadd => exact ok_iadd F hc ha hW
  case isub => exact ok_isub F hc ha hW
  case imul => exact ok_imul F hc ha hW
  case iand => exact ok_iand F hc ha hW
  case ior => exact ok_ior F hc ha hW
  case ixor => exact ok_ixor F hc ha hW
  case ishl => exact ok_ishl F hc ha hW
  case ishr => exact ok_ishr F hc ha hW
  case iushr => exact ok_iushr F hc ha hW
  case ineg => exact ok_ineg F hc ha hW
  case i2l => exact ok_i2l F hc ha hW
  case i2c => exact ok_i2c F hc ha hW
  case lsub => exact ok_lsub F hc ha hW
  case lor => exact ok_lor F hc ha hW
  case lshl => exact ok_lshl F hc ha hW
  case lcmp => exact ok_lcmp F hc ha hW
  case pop => exact ok_pop F hc ha hW
  case idiv => exact ok_idiv F hc ha hW
  case irem => exact ok_irem F hc ha hW
  case dup => exact ok_dup F hc ha hW
  case dup2 => exact ok_dup2 F hc ha hW
  case goto => exact ok_goto F hc ha hW
  case ifCond => exact ok_ifCond F hc ha hW
  case if_icmp => exact ok_if_icmp F hc ha hW
  case tableswitch => exact ok_tableswitch F hc ha hW
  case lookupswitch => exact ok_lookupswitch F hc ha hW
  case ldc_w => exact ok_ldc_w F hc ha hW
  case ldc2_w => exact ok_ldc2_w F hc ha hW
  case ldc n =>
    by_cases h0 : a = 0
    · exact ok_ldc F hc h0 ha hW
    · exact hSt p e R s m args below meth c Q k d i c0 s0 ls st h _ lb F hE hk hcode (Or.inl ⟨n, rfl, h0⟩) ha hW
  case getfield =>
    intro H locs cells slots lsM hH
    exact ok_getfield F (fun w hw ⟨o, ix, r, nm, ds, ho, q⟩ => va_Nw.use (by rw [q]; rfl) (hN s s.heap hE w hw (by rw [q]; rfl))) hc hH.2.2 ha hW H locs cells slots lsM hH
  case putfield =>
    intro H locs cells slots lsM hH
    exact ok_putfield F hc hH.2.2 hH.2.1 ha hW H locs cells slots lsM hH
  case iaload => exact ok_iaload F hc ha hW
  case baload => exact ok_baload F hc ha hW
  case laload => exact ok_laload F hc ha hW
  case iastore => exact ok_iastore F hc ha hW
  case bastore => exact ok_bastore F hc ha hW
  case lastore => exact ok_lastore F hc ha hW
  case arraylength => exact ok_arraylength F hc ha hW
  case newarray => exact ok_newarray F hc0 hc ha hW
  case new =>
    by_cases h0 : 1000 ≤ a
    · exfalso
      have hb : Nat.ble 1000 a = true := Nat.ble_eq_true_of_le h0
      have ha : cond (Nat.ble 1000 a) _ _ = (Sum.inl lb : Act) := ha
      rw [hb] at ha
      obtain ⟨-, q⟩ := cond_inv ha hW
      cases q
    · exact ok_new F hc0 hc h0 ha hW
  case invokestatic =>
    by_cases h0 : 1000 ≤ a
    · exact ok_ntS F hc h0 ha hW
    · exfalso
      have hb : Nat.ble 1000 a = false := by
        rw [Bool.eq_false_iff]
        exact fun q => h0 (Nat.le_of_ble_eq_true q)
      have ha : cond (Nat.ble 1000 a) _ _ = (Sum.inl lb : Act) := ha
      rw [hb] at ha
      obtain ⟨-, q⟩ := cond_inv ha hW
      cases q
  case invokevirtual n =>
    by_cases h0 : 1000 ≤ a
    · exact hSt p e R s m args below meth c Q k d i c0 s0 ls st h _ lb F hE hk hcode (Or.inr ⟨n, rfl, h0⟩) ha hW
    · exfalso
      have hb : Nat.ble 1000 a = false := by
        rw [Bool.eq_false_iff]
        exact fun q => h0 (Nat.le_of_ble_eq_true q)
      simp only [act, hb, cond_false] at ha
      split at ha
      · obtain ⟨_, _, _, _, ha1⟩ := cel_inv ha hW
        obtain ⟨-, ha2⟩ := cond_inv ha1 hW
        obtain ⟨-, q⟩ := cond_inv ha2 hW
        cases q
      · cases ha; exact hW.elim
  case invokespecial n =>
    by_cases h0 : 1000 ≤ a
    · exact ok_obj F hc h0 ha hW
    · exfalso
      have hb : Nat.ble 1000 a = false := by
        rw [Bool.eq_false_iff]
        exact fun q => h0 (Nat.le_of_ble_eq_true q)
      simp only [act, hb, cond_false] at ha
      split at ha
      · obtain ⟨-, q⟩ := cond_inv ha hW
        cases q
      · cases ha; exact hW.elim
  case ireturn =>
    exfalso
    obtain ⟨x, r, rfl, ha1⟩ := pI_inv ha hW
    split at ha1
    · cases ha1
    · cases ha1; exact hW.elim
  case lreturn =>
    exfalso
    obtain ⟨x, r, rfl, ha1⟩ := pJ_inv ha hW
    split at ha1
    · cases ha1
    · cases ha1; exact hW.elim
  case return_ =>
    exfalso
    simp only [act] at ha
    split at ha
    · cases ha
    · cases ha; exact hW.elim
  all_goals (exfalso; cases ha; exact hW.elim)
end MAIN
