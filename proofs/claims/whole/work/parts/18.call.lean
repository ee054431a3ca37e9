/-! ===== soundness: calls, and runs ===== -/
def isNest : Cond → Bool
  | .fieldLinkNest _ _ _ _ _ _ => true
  | .methodLinkNest _ _ _ _ => true
  | _ => false
def wsM (k : Nat) : List Cond := cw k :: TBg
def PcM (EX : State → Heap → Prop) (G : GC) (X : XS) (as : List Value) (h : Hp) : Array Value → State → Prop := fun a U =>
  a = (as.map (rv G)).toArray ∧ HW G h U.heap ∧ va_K G.2.1 cls12 (gT G) U ∧ (va_X G.2.2.2.1 X.2 X.1 U U.heap ∧ G.2.2.2.1 < G.1) ∧ EX U U.heap ∧ G.1 ≤ U.heap.size ∧ U.heap.size ≤ G.1 + cz h
def rmM (d mc ms : Nat) : Room := { frames := d + 10, cells := mc, slots := ms, locals := 100 * d + 400 }
def QcM (G : GC) (y : Rs) : Array Value → State → Outcome → State → Prop := match y with
  | (.inl v, h) => Qr G v h
  | (.inr _, _) => fun _ _ _ _ => False
def XcM (G : GC) (y : Rs) : String → State → State → Prop := match y with
  | (.inl _, _) => fun _ _ _ => False
  | (.inr e, h) => Xr G e h
/-- what is kept of the tables' other words: it stays while old cells stay -/
def EXc (EX : State → Heap → Prop) (G : GC) : Prop := ∀ (U V : State) (H H' : Heap), EX U H → U.WarmedH V.vm → (∀ q, q < G.1 → H'[q]? = H[q]?) → EX V H'
/-- a run of at most n steps is the machine's -/
def SndP (l : Launch) (G : GC) (X : XS) (EX : State → Heap → Prop) (n : Nat) : Prop := ∀ (d k : Nat) (σ : FS) (r : Rs), k < NM → runF X n d k σ = some r →
  ∀ (p : Program) (e : Env) (R : Room) (s : State) (m : MethodId) (args : Array Value) (below : List Frame) (meth : Method) (c : Code) (c0 s0 mc ms : Nat), FC l G X p R s m args meth c k d → EX s s.heap → s.heap.size ≤ G.1 + c0 →
    cz r.2 ≤ R.cells + c0 → slz r.2 ≤ R.slots + s0 → mc + c0 = cz r.2 → ms + s0 = slz r.2 → WA l G p e R s m args below meth c (PQ G below args s mc ms r) k c0 s0 σ
theorem lgs1 : ∀ (vs : List Value), (∀ v ∈ vs, lng v = false) → ∀ (G : GC), lg_sl (vs.map (rv G)) = (vs.map (rv G)).map Slot.val
  | [], _, _ => rfl
  | v :: vs, h, G => by
    have ih := lgs1 vs (fun w hw => h w (List.mem_cons_of_mem _ hw)) G
    have hv : ¬ (rv G v).category = 2 := by rw [rv_cat]; exact lng_cat (h v List.mem_cons_self)
    simp only [lg_sl, List.map_cons, List.flatMap_cons, if_neg hv] at ih ⊢
    rw [ih]; rfl
theorem LR_entry {G : GC} {as : List Value} {k : Nat} (ha : ∀ v ∈ as, lng v = false) (hl : as.length ≤ mxl k) : LR G (ent k as) (mxl k) ((lg_sl (as.map (rv G)) ++ List.replicate (mxl k - (lg_sl (as.map (rv G))).length) Slot.unset).toArray) := by
  have e := lgs1 as ha G
  have hlen : (lg_sl (as.map (rv G))).length = as.length := by rw [e]; simp
  have hv := lv_entry (as.map (rv G)) (n := mxl k) (by rw [hlen]; exact hl)
  refine ⟨by simp [ent]; omega, hv.1, hv.2.1, fun j v hj hn => ?_⟩
  have hja : j < as.length := by
    apply Nat.not_le.mp
    intro q
    unfold ent at hj
    rw [List.getElem?_append_right q, List.getElem?_replicate] at hj
    split at hj
    · cases hj; exact hn rfl
    · cases hj
  unfold ent at hj
  rw [List.getElem?_append_left hja] at hj
  rw [List.getElem?_toArray, List.getElem?_append_left (by rw [hlen]; exact hja), e, List.getElem?_map, List.getElem?_map, hj]
  rfl
theorem met_vx {l : Launch} {y : MethodName} {ws : List Cond} {rm : Room} {Pc : Array Value → State → Prop} {Qc : Array Value → State → Outcome → State → Prop} {mc ms : Nat} {free : Addr → Prop} (h : vx_Met l y ws rm Pc Qc (fun _ _ _ => False) mc ms free) : Met l y ws rm Pc Qc mc ms free := by
  refine MetFree.mono h (fun _ _ q => q) (fun _ _ _ _ _ q => q) (fun a s o t _ q => ?_)
  rcases q with q | ⟨q, -, E, ce, L, hf, -⟩
  · exact q
  · exact hf.elim
section CALL
variable {l : Launch} {G : GC} {X : XS} {EX : State → Heap → Prop} {n : Nat}
theorem meth_snd (hP : SndP l G X EX n) {d k mc ms : Nat} {as : List Value} {h : Hp} {y : Rs} (hk : k < 333) (ha : ∀ v ∈ as, lng v = false) (hl : as.length ≤ mxl k) (hrun : runF X n d k (0, ent k as, [], h) = some y) (hmc : mc + cz h = cz y.2) (hms : ms + slz h = slz y.2) :
    vx_Met l (yM k) (wsM k) (rmM d mc ms) (PcM EX G X as h) (QcM G y) (XcM G y) mc ms (gA G) := by
  obtain ⟨-, hcls, hpl, -, -, -, -, -, hpc0⟩ := mf hk
  have body : ∀ p e s m args below meth c s₁, BodyLoose p l (yM k) (headSpec (wsM k) (rmM d mc ms)) (bM k) (mxl k) (rM k) e s m args below meth c s₁ → c.maxLocals = mxl k → c.exceptionTable.toList = tableOf (hM k) → PcM EX G X as h args s →
      W p l e (headSpec (wsM k) (rmM d mc ms)).room s m args below meth c s.heap [] 0 0 (vx_MQ below (QcM G y) (XcM G y) args s mc ms (gA G)) (entryFrame m args (mxl k)) := by
    intro p e s m args below meth c s₁ B hml htab hv
    obtain ⟨rfl, hHW, hK, hX, hE, hz0, hz1⟩ := hv
    have hts := atoms_spec (ws := wsM k) B.pre
    have hown : s.vm.findClass (cnm (mown k)) = some m.cls := by rw [← hcls]; exact findClass_of_methodNamed B.named
    have F : FC l G X p (rmM d mc ms) s m (as.map (rv G)).toArray meth c k d := ⟨B.exec, B.bytes, hml, B.returns, B.notSynchronized, (name_of_methodNamed B.named B.method).1, hown, fun w hw => hts w (List.mem_cons_of_mem _ hw), hK, hz0, hX, Nat.le_refl _, Nat.le_refl _, htab⟩
    have hw := hP d k (0, ent k as, [], h) y (by unfold NM; omega) hrun p e (rmM d mc ms) s m (as.map (rv G)).toArray below meth c (cz h) (slz h) mc ms F hE hz1 (by show _ ≤ mc + _; omega) (by show _ ≤ ms + _; omega) hmc hms
    have hw := hw s.heap [] 0 0 _ hHW va_S.rf (LR_entry ha hl) (by simp) (by simp)
    rw [lg_entry_eq]
    dsimp only at hw
    rw [hpc0] at hw
    obtain ⟨o, h'⟩ := y
    cases o with
    | inl v => exact vx_ret hw
    | inr x => exact hw
  cases hh : hM k with
  | nil =>
    refine vx_ofW (cc := bM k) (maxL := mxl k) (ret := rM k) hpl (ws' := TBg) (by unfold wsM cw; rw [hh]) (fun p e s m args below meth c s₁ B hml ht hv => body p e s m args below meth c s₁ B hml ?_ hv)
    rw [hh]
    cases hq : c.exceptionTable.toList with
    | nil => rfl
    | cons x xs => exact (ht x (by rw [hq]; exact List.mem_cons_self)).elim
  | cons x xs =>
    refine vx_ofWH (cc := bM k) (maxL := mxl k) (ret := rM k) (hh := x :: xs) hpl (ws' := TBg) (by unfold wsM cw; rw [hh]) (fun p e s m args below meth c s₁ B hml hv => body p e s m args below meth c s₁ B hml ?_ hv)
    have hts := atoms_spec (ws := wsM k) B.pre
    have h1 := hts (cw k) List.mem_cons_self
    unfold cw at h1
    rw [hh] at h1
    rw [hh]
    exact vx_table (x := yM k) B h1
variable {p : Program} {e : Env} {R : Room} {s : State} {m : MethodId} {args : Array Value} {below : List Frame} {meth : Method} {c : Code} {Q : State → Prop} {H : Heap} {locs : List Loc} {cells slots mc ms pc : Nat} {lsM : Array Slot} {st0 rest : List Value} {av : Array Value}
theorem keep_S {st₀ t T' : State} {L : List Loc} (h0 : st₀.heap = H) (e1 : T'.heap = t.heap) (hS : va_S (gA G) s.heap H locs) (hL : ∀ q ∈ L, gA G q.base) (hF : va_F (gA G) st₀ t) : va_S (gA G) s.heap T'.heap (locs ++ L) := by
  obtain ⟨hz, hk⟩ := hF
  rw [h0] at hz hk
  refine ⟨Nat.le_trans hS.1 (by rw [e1]; exact hz), fun q h1 h2 => by rw [e1, hk q (Nat.lt_of_lt_of_le h1 hS.1) h2]; exact hS.2.1 q h1 h2, fun q hq => ?_⟩
  rcases List.mem_append.mp hq with h | h
  · exact hS.2.2 q h
  · exact hL q h
theorem after_inl {v : Option Value} {h' : Hp} (hr : va_Run p l e R s m args below meth c H locs cells slots mc ms (F0 m pc lsM st0) rest (Qr G v h' av) (gA G)) (hS : va_S (gA G) s.heap H locs)
    (kk : ∀ (H1 : Heap) (locs1 : List Loc), HW G h' H1 → va_S (gA G) s.heap H1 locs1 → W p l e R s m args below meth c H1 locs1 (cells + mc) (slots + ms) Q (F0 m (pc + 3) lsM ((v.map (rv G)).toList ++ rest))) : W p l e R s m args below meth c H locs cells slots Q (F0 m pc lsM st0) := by
  intro T hT Y
  obtain ⟨v', st₀, t, T', L, h0, Y', hL, e1, e2, ⟨hv, hHW, hF⟩, st⟩ := hr T hT Y
  cases hv
  obtain ⟨t2, a1, b1⟩ := kk T'.heap (locs ++ L) (by rw [e1]; exact hHW) (keep_S h0 e1 hS hL hF) T' rfl Y'
  exact ⟨t2, st t2 a1, b1⟩
theorem after_inr {x : Nat} {h' : Hp} (hr : vx_Run p l e R s m args below meth c H locs cells slots mc ms (F0 m pc lsM st0) rest (fun _ _ _ => False) (Xr G x h') (gA G)) (hS : va_S (gA G) s.heap H locs)
    (kk : ∀ (H1 : Heap) (locs1 : List Loc) (q : Addr) (ce : Cell), HW G h' H1 → va_S (gA G) s.heap H1 locs1 → H1[q]? = some ce → ce.vm = .none → s.vm.findClass (enm x) = some ce.cls → vx_W p l e R s m args below meth c H1 locs1 (cells + mc) (slots + ms) Q (F0 m pc lsM rest) q) : W p l e R s m args below meth c H locs cells slots Q (F0 m pc lsM st0) := by
  intro T hT Y
  rcases hr T hT Y with ⟨v', st₀, t, T', L, h0, Y', hL, e1, e2, hf, st⟩ | ⟨q, st₀, t, T', L, E, ce, h0, Y', hL, e1, e2, ⟨hE, hHW, hF⟩, hq, hvm, hcl, st⟩
  · exact hf.elim
  · subst hE
    obtain ⟨t2, a1, b1⟩ := kk T'.heap (locs ++ L) q ce (by rw [e1]; exact hHW) (keep_S h0 e1 hS hL hF) (by rw [e1]; exact hq) hvm hcl T' rfl Y'
    exact ⟨t2, st.trans a1, b1⟩
end CALL
