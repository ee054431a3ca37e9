/-! ===== soundness: constants of the pool, fields, arrays, new cells ===== -/
section MEM
variable {l : Launch} {G : GC} {X : XS} {p : Program} {e : Env} {R : Room} {s : State} {m : MethodId} {args : Array Value} {below : List Frame} {meth : Method} {c : Code} {Q : State → Prop} {k d c0 s0 : Nat} {i : Nat} {ls st : List Value} {h : Hp} {a b : Nat} {cv : Int32} {tl : List Nat} {lb : List (Bool × FS)}
theorem ok_ldc_w {n : Nat} (F : FC l G X p R s m args meth c k d) (hc : chk k i (.ldc_w n, a, b, cv, tl) = true) (ha : act X (.ldc_w n, a, b, cv, tl) i ls st h = .inl lb) (hk : WSel (PW l G p e R s m args below meth c Q k c0 s0) lb) : WA l G p e R s m args below meth c Q k c0 s0 (i, ls, st, h) := by
  obtain ⟨hx, hb, -, -, -, -, hown, hts, -⟩ := F
  have hd := chk_dec hc
  simp only [chk, Bool.and_eq_true, Bool.or_eq_true, decide_eq_true_eq] at hc
  obtain ⟨e1, d1⟩ := pc_n hc.2.1 hd
  obtain ⟨hg, ha1⟩ := cond_inv ha hk
  have hg := Nat.eq_of_beq_eq_true hg
  have hP := (go1_inv ha1 hk).1
  have hm := hc.2.2.resolve_right (fun q => by have := Nat.eq_of_beq_eq_true q; omega)
  intro H locs cells slots lsM hH hS hL h1 h2
  refine lv_ldcw hx hb hown (hts _ (w_cst hm)) d1 ?_
  rw [← e1]
  exact hP H locs cells slots lsM hH hS hL h1 h2
theorem ok_ldc {n : Nat} (F : FC l G X p R s m args meth c k d) (hc : chk k i (.ldc n, a, b, cv, tl) = true) (ha0 : a = 0) (ha : act X (.ldc n, a, b, cv, tl) i ls st h = .inl lb) (hk : WSel (PW l G p e R s m args below meth c Q k c0 s0) lb) : WA l G p e R s m args below meth c Q k c0 s0 (i, ls, st, h) := by
  subst ha0
  obtain ⟨hx, hb, -, -, -, -, hown, hts, -⟩ := F
  have hd := chk_dec hc
  simp only [chk, Bool.and_eq_true, decide_eq_true_eq] at hc
  obtain ⟨e1, d1⟩ := pc_n hc.2.1 hd
  have hm : memC cst (mown k) n cv = true := hc.2.2
  have ha : go1 (i + 1, ls, .int cv :: st, h) = .inl lb := ha
  have hP := (go1_inv ha hk).1
  intro H locs cells slots lsM hH hS hL h1 h2
  refine lv_ldc hx hb hown (hts _ (w_cst hm)) d1 ?_
  rw [← e1]
  exact hP H locs cells slots lsM hH hS hL h1 h2
theorem ok_ldc2_w {n : Nat} (F : FC l G X p R s m args meth c k d) (hc : chk k i (.ldc2_w n, a, b, cv, tl) = true) (ha : act X (.ldc2_w n, a, b, cv, tl) i ls st h = .inl lb) (hk : WSel (PW l G p e R s m args below meth c Q k c0 s0) lb) : WA l G p e R s m args below meth c Q k c0 s0 (i, ls, st, h) := by
  obtain ⟨hx, hb, -, -, -, -, hown, hts, -⟩ := F
  have hd := chk_dec hc
  simp only [chk, Bool.and_eq_true, decide_eq_true_eq] at hc
  obtain ⟨e1, d1⟩ := pc_n hc.2.1 hd
  have hP := (go1_inv ha hk).1
  intro H locs cells slots lsM hH hS hL h1 h2
  refine lv_ldc2 hx hb hown (hts _ (w_cstJ hc.2.2)) d1 ?_
  rw [← e1]
  exact hP H locs cells slots lsM hH hS hL h1 h2
/-- getfield, by the value that comes -/
theorem ok_get0 {n q nn : Nat} {rf : List (Option Nat)} {r : List Value} {v : Value} (F : FC l G X p R s m args meth c k d) (hlk : memF flk (mown k) n a b = true ∨ (Cond.fieldLinkNest (cnm (mown k)) n (Tc a b).1 (Tc a b).2.1 (Tc a b).2.2.1 "JuniorPews").before args s = true) (hbN : b < Nf a) (ha12 : a < 12) (d1 : decode (bM k) (pcf k i) = .ok (.getfield n, 3)) (e1 : pcf k (i + 1) = pcf k i + 3)
    (hcel : h.1[q]? = some (a, nn, rf)) (hv : (fvs G h q a rf)[b]? = some (rv G v)) (hP : WA l G p e R s m args below meth c Q k c0 s0 (i + 1, ls, v :: r, h)) : WA l G p e R s m args below meth c Q k c0 s0 (i, ls, .ref q :: r, h) := by
  obtain ⟨hx, hb, -, -, -, -, hown, hts, hK, -⟩ := F
  intro H locs cells slots lsM hH hS hL h1 h2
  obtain ⟨hq, hr, hw⟩ := hH.q hcel
  rw [cE_o hcel ha12] at hw
  show W p l e R s m args below meth c H locs cells slots Q (F0 m (pcf k i) lsM (.ref (rho G q) :: r.map (rv G)))
  rw [hr]
  rcases hlk with hlk | hlk
  · refine va_get (Ts := TBg) (C := cnm a) (T := Tc a) (N := Nf a) (ci := a) (own := cnm (mown k)) (ref := (Tc a b).1) hx hb hts (in12 ha12) hown hK hH.1 q hw (cls12_at ha12) b hbN (hts _ (w_flk hlk)) (fun _ h9 => h9) hv d1 ?_
    rw [← e1]
    exact hP H locs cells slots lsM hH hS hL h1 h2
  · refine va_getN (Ts := TBg) (C := cnm a) (T := Tc a) (N := Nf a) (ci := a) (own := cnm (mown k)) (ref := (Tc a b).1) hx hb hts (in12 ha12) hown hK hH.1 q hw (cls12_at ha12) b hbN hlk (fun _ h9 => h9) hv d1 ?_
    rw [← e1]
    exact hP H locs cells slots lsM hH hS hL h1 h2
theorem ok_getfield {n : Nat} (F : FC l G X p R s m args meth c k d) (hN : ∀ w ∈ lw_tbl, (∃ o ix r nm ds ho, w = Cond.fieldLinkNest o ix r nm ds ho) → w.before args s = true) (hc : chk k i (.getfield n, a, b, cv, tl) = true) (hRF : RFO h) (ha : act X (.getfield n, a, b, cv, tl) i ls st h = .inl lb) (hk : WSel (PW l G p e R s m args below meth c Q k c0 s0) lb) : WA l G p e R s m args below meth c Q k c0 s0 (i, ls, st, h) := by
  have hd := chk_dec hc
  simp only [chk, Bool.and_eq_true, Bool.or_eq_true, decide_eq_true_eq] at hc
  obtain ⟨-, ⟨⟨⟨hpc, hlk⟩, htl⟩, hbN⟩, ha12⟩ := hc
  obtain ⟨e1, d1⟩ := pc_n hpc hd
  have hbN : b < Nf a := Nat.le_of_ble_eq_true hbN
  have ha12 : a < 12 := Nat.le_of_ble_eq_true ha12
  have hlk : memF flk (mown k) n a b = true ∨ (Cond.fieldLinkNest (cnm (mown k)) n (Tc a b).1 (Tc a b).2.1 (Tc a b).2.2.1 "JuniorPews").before args s = true := hlk.imp id (fun z => hN _ (w_flkN z) ⟨_, _, _, _, _, _, rfl⟩)
  simp only [act] at ha
  obtain ⟨q, r, rfl, ha1⟩ := pR_inv ha hk
  obtain ⟨kd, nn, rf, hcel, ha2⟩ := cel_inv ha1 hk
  obtain ⟨hkd, ha3⟩ := cond_inv ha2 hk
  have hkd := Nat.eq_of_beq_eq_true hkd
  subst hkd
  have hfv := fvs_at (G := G) (h := h) (i := q) (rf := rf) hbN
  subst htl
  generalize tcode (tyc kd b) false = t at ha3 hfv
  match t, ha3, hfv with
  | 0, ha3, hfv => exact ok_get0 (v := .int (h.2.2.1 q b)) F hlk hbN ha12 d1 e1 hcel hfv (go1_inv ha3 hk).1
  | 1, ha3, hfv => exact ok_get0 (v := .long (h.2.2.2 q b)) F hlk hbN ha12 d1 e1 hcel hfv (go1_inv ha3 hk).1
  | 2, ha3, hfv =>
    have ha3 : (match rf[b]? with | some (some p) => go1 (i + 1, ls, Value.ref p :: r, h) | _ => stk) = .inl lb := ha3
    split at ha3
    · next pp hp =>
      have hlt := hRF q kd nn rf b pp hcel hp
      refine ok_get0 (v := .ref pp) F hlk hbN ha12 d1 e1 hcel ?_ (go1_inv ha3 hk).1
      rw [hfv]
      have : rf.getD b none = some pp := by simp [List.getD, hp]
      simp only [this, Option.map_some, va_rf, rv, rho_lt hlt]
    · cases ha3; exact hk.elim
  | t + 3, ha3, hfv => cases ha3; exact hk.elim
/-- putfield: the value v at field b of the cell q; the heap behind it -/
theorem ok_put0 {n q nn : Nat} {rf rf' : List (Option Nat)} {r : List Value} {v : Value} {h' : Hp} (F : FC l G X p R s m args meth c k d) (hlk : memF flk (mown k) n a b = true) (hbN : b < Nf a) (ha12 : a < 12) (hfin : (!(Tc a b).2.2.2 || (decide ((yM k).name = "<init>") && decide ((Tc a b).1 = cnm (mown k)))) = true)
    (d1 : decode (bM k) (pcf k i) = .ok (.putfield n, 3)) (e1 : pcf k (i + 1) = pcf k i + 3) (hcel : h.1[q]? = some (a, nn, rf)) (hn : narrow (tyc a b) (rv G v) = rv G v) (hf : fits (tyc a b) (rv G v) = true)
    (hcel' : h'.1[q]? = some (a, nn, rf')) (hl' : h'.1.length = h.1.length) (hne : ∀ j, j ≠ q → cE G h' j = cE G h j) (hv : (fvs G h q a rf).set b (rv G v) = fvs G h' q a rf') (hRF : RFO h') (hcz : cz h' = cz h) (hsz : slz h' = slz h)
    (hP : WA l G p e R s m args below meth c Q k c0 s0 (i + 1, ls, r, h')) : WA l G p e R s m args below meth c Q k c0 s0 (i, ls, v :: .ref q :: r, h) := by
  obtain ⟨hx, hb, -, -, -, hnm, hown, hts, hK, -⟩ := F
  intro H locs cells slots lsM hH hS hL h1 h2
  obtain ⟨hq, hr, hw⟩ := hH.q hcel
  rw [cE_o hcel ha12] at hw
  show W p l e R s m args below meth c H locs cells slots Q (F0 m (pcf k i) lsM (rv G v :: .ref (rho G q) :: r.map (rv G)))
  rw [hr]
  have fin : ∀ (H1 : Heap) (locs1 : List Loc), va_P G.2.1 cls12 ((wl G h).set q (G.1 + q, .inr (a, (fvs G h q a rf).set b (rv G v)))) H1 → va_S (gA G) s.heap H1 locs1 → W p l e R s m args below meth c H1 locs1 cells slots Q (F0 m (pcf k i + 3) lsM (r.map (rv G))) := by
    intro H1 locs1 hP1 hS1
    have hc1 : cE G h' q = .inr (a, (fvs G h q a rf).set b (rv G v)) := by rw [cE_o hcel' ha12, hv]
    rw [← hc1, wl_set hl' hq hne] at hP1
    rw [← e1]
    exact hP H1 locs1 cells slots lsM ⟨hP1, by rw [hl']; exact hH.2.1, hRF⟩ hS1 hL (by rw [hcz]; exact h1) (by rw [hsz]; exact h2)
  by_cases hfi : (Tc a b).2.2.2 = true
  · rw [hfi] at hfin
    simp only [Bool.not_true, Bool.false_or, Bool.and_eq_true, decide_eq_true_eq] at hfin
    exact va_putF (Ts := TBg) (C := cnm a) (T := Tc a) (N := Nf a) (ci := a) (own := cnm (mown k)) (ref := (Tc a b).1) hx hb hts (in12 ha12) (tyc a) (ty12 a ha12) (nm12 a ha12) hown hK hH.1 (wl_D G h) hS q hw (cls12_at ha12) b hbN (hts _ (w_flk hlk)) (fun _ h9 => h9) hfi (hnm.trans hfin.1) hfin.2 (ty12 a ha12 b hbN) hn hf (by rw [fvs_len]; exact hbN) d1 (fun H1 locs1 hP1 _ hS1 => fin H1 locs1 hP1 hS1)
  · exact va_put (Ts := TBg) (C := cnm a) (T := Tc a) (N := Nf a) (ci := a) (own := cnm (mown k)) (ref := (Tc a b).1) hx hb hts (in12 ha12) (tyc a) (ty12 a ha12) (nm12 a ha12) hown hK hH.1 (wl_D G h) hS q hw (cls12_at ha12) b hbN (hts _ (w_flk hlk)) (fun _ h9 => h9) (Bool.eq_false_iff.mpr hfi) (ty12 a ha12 b hbN) hn hf (by rw [fvs_len]; exact hbN) d1 (fun H1 locs1 hP1 _ hS1 => fin H1 locs1 hP1 hS1)
theorem tc_0 {ty : FieldType} (h : tcode ty true = 0) : ty = .int := by cases ty <;> first | rfl | (simp [tcode] at h)
theorem tc_3 {ty : FieldType} (h : tcode ty true = 3) : ty = .boolean := by cases ty <;> first | rfl | (simp [tcode] at h)
theorem tc_1 {ty : FieldType} (h : tcode ty true = 1) : ty = .long := by cases ty <;> first | rfl | (simp [tcode] at h)
theorem ty_in : ∀ c, c < 12 → ∀ k, k < Nf c → tyc c k = .int ∨ tyc c k = .boolean ∨ tyc c k = .long ∨ (∃ z, tyc c k = .array z) ∨ (∃ z, tyc c k = .object z) := by
  intro c _ k _
  have : ∀ l ∈ FTy, ∀ t ∈ l, t = .int ∨ t = .boolean ∨ t = .long ∨ (match t with | .array _ => true | .object _ => true | _ => false) = true := by decide +kernel
  unfold tyc
  rcases hq : (FTy.getD c [])[k]? with _ | t
  · left
    generalize FTy.getD c [] = l2 at hq ⊢
    simp [List.getD, hq]
  · have hl : FTy.getD c [] ∈ FTy := by
      rcases hq2 : FTy[c]? with _ | l2
      · simp [List.getD, hq2] at hq
      · simp only [List.getD, hq2, Option.getD_some]; exact List.mem_of_getElem? hq2
    have ht := this _ hl t (List.mem_of_getElem? hq)
    have e : (FTy.getD c []).getD k .int = t := by
      generalize FTy.getD c [] = l2 at hq ⊢
      simp [List.getD, hq]
    rw [e]
    rcases ht with q | q | q | q
    · exact Or.inl q
    · exact Or.inr (Or.inl q)
    · exact Or.inr (Or.inr (Or.inl q))
    · cases t <;> first | (exact Or.inr (Or.inr (Or.inr (Or.inl ⟨_, rfl⟩)))) | (exact Or.inr (Or.inr (Or.inr (Or.inr ⟨_, rfl⟩)))) | simp at q
theorem fvs_set {rf rf' : List (Option Nat)} {q : Nat} {h' : Hp} {v : Value} (hbN : b < Nf a) (h1 : (match tcode (tyc a b) false with
  | 0 => Value.int (h'.2.2.1 q b)
  | 1 => .long (h'.2.2.2 q b)
  | _ => va_rf ((rf'.getD b none).map (G.1 + ·))) = v) (h2 : ∀ j, j ≠ b → h'.2.2.1 q j = h.2.2.1 q j ∧ h'.2.2.2 q j = h.2.2.2 q j ∧ rf'.getD j none = rf.getD j none) : (fvs G h q a rf).set b v = fvs G h' q a rf' := by
  apply List.ext_getElem?
  intro j
  by_cases hj : j = b
  · subst hj
    rw [List.getElem?_set_self (by rw [fvs_len]; exact hbN), fvs_at hbN]
    exact congrArg some h1.symm
  · rw [List.getElem?_set_ne (Ne.symm hj)]
    by_cases hl : j < Nf a
    · rw [fvs_at hl, fvs_at hl, (h2 j hj).1, (h2 j hj).2.1, (h2 j hj).2.2]
    · rw [List.getElem?_eq_none (by rw [fvs_len]; omega), List.getElem?_eq_none (by rw [fvs_len]; omega)]
theorem ok_putfield {n : Nat} (F : FC l G X p R s m args meth c k d) (hc : chk k i (.putfield n, a, b, cv, tl) = true) (hRF : RFO h) (hls : h.1.length ≤ aSCR) (ha : act X (.putfield n, a, b, cv, tl) i ls st h = .inl lb) (hk : WSel (PW l G p e R s m args below meth c Q k c0 s0) lb) : WA l G p e R s m args below meth c Q k c0 s0 (i, ls, st, h) := by
  have hd := chk_dec hc
  simp only [chk, Bool.and_eq_true, decide_eq_true_eq] at hc
  obtain ⟨-, ⟨⟨⟨⟨hpc, hlk⟩, htl⟩, hbN⟩, ha12⟩, hfin⟩ := hc
  obtain ⟨e1, d1⟩ := pc_n hpc hd
  have hbN : b < Nf a := Nat.le_of_ble_eq_true hbN
  have ha12 : a < 12 := Nat.le_of_ble_eq_true ha12
  simp only [act] at ha
  subst htl
  generalize ht : tcode (tyc a b) true = t at ha
  match t, ha, ht with
  | 0, ha, ht =>
    have hty := tc_0 ht
    obtain ⟨v, r, rfl, ha1⟩ := pI_inv ha hk
    obtain ⟨q, r, rfl, ha2⟩ := pR_inv ha1 hk
    obtain ⟨kd, nn, rf, hcel, ha3⟩ := cel_inv ha2 hk
    obtain ⟨hkd, ha4⟩ := cond_inv ha3 hk
    have hkd := Nat.eq_of_beq_eq_true hkd
    subst hkd
    refine ok_put0 (v := .int v) (rf' := rf) (h' := (h.1, h.2.1, ud h.2.2.1 q b v, h.2.2.2)) F hlk hbN ha12 hfin d1 e1 hcel (by rw [hty]; rfl) (by rw [hty]; rfl) hcel rfl (fun j hj => cE_ud_ne hj) (fvs_set hbN (by simp only [hty, tcode]; simp [ud, rv]) (fun j hj => ⟨by simp [ud, hj], rfl, rfl⟩)) hRF rfl rfl (go1_inv ha4 hk).1
  | 3, ha, ht =>
    have hty := tc_3 ht
    obtain ⟨v, r, rfl, ha1⟩ := pI_inv ha hk
    obtain ⟨q, r, rfl, ha2⟩ := pR_inv ha1 hk
    obtain ⟨kd, nn, rf, hcel, ha3⟩ := cel_inv ha2 hk
    obtain ⟨hkd, ha4⟩ := cond_inv ha3 hk
    have hkd := Nat.eq_of_beq_eq_true hkd
    subst hkd
    obtain ⟨hg, hP⟩ := g1_inv ha4 hk
    simp only [Bool.or_eq_true, decide_eq_true_eq] at hg
    refine ok_put0 (v := .int v) (rf' := rf) (h' := (h.1, h.2.1, ud h.2.2.1 q b v, h.2.2.2)) F hlk hbN ha12 hfin d1 e1 hcel (by rw [hty]; rcases hg with rfl | rfl <;> rfl) (by rw [hty]; rcases hg with rfl | rfl <;> rfl) hcel rfl (fun j hj => cE_ud_ne hj) (fvs_set hbN (by simp only [hty, tcode]; simp [ud, rv]) (fun j hj => ⟨by simp [ud, hj], rfl, rfl⟩)) hRF rfl rfl hP.1
  | 1, ha, ht =>
    have hty := tc_1 ht
    obtain ⟨v, r, rfl, ha1⟩ := pJ_inv ha hk
    obtain ⟨q, r, rfl, ha2⟩ := pR_inv ha1 hk
    obtain ⟨kd, nn, rf, hcel, ha3⟩ := cel_inv ha2 hk
    obtain ⟨hkd, ha4⟩ := cond_inv ha3 hk
    have hkd := Nat.eq_of_beq_eq_true hkd
    subst hkd
    refine ok_put0 (v := .long v) (rf' := rf) (h' := (h.1, h.2.1, h.2.2.1, uj h.2.2.2 q b v)) F hlk hbN ha12 hfin d1 e1 hcel (by rw [hty]; rfl) (by rw [hty]; rfl) hcel rfl (fun j hj => cE_uj_ne hj) (fvs_set hbN (by simp only [hty, tcode]; simp [uj, rv]) (fun j hj => ⟨rfl, by simp [uj, hj], rfl⟩)) hRF rfl rfl (go1_inv ha4 hk).1
  | 2, ha, ht =>
    obtain ⟨v, r, rfl, ha1⟩ := pR_inv ha hk
    obtain ⟨q, r, rfl, ha2⟩ := pR_inv ha1 hk
    obtain ⟨kd, nn, rf, hcel, ha3⟩ := cel_inv ha2 hk
    obtain ⟨hkd, ha4⟩ := cond_inv ha3 hk
    simp only [Bool.and_eq_true] at hkd
    have hvl : v < h.1.length := Nat.le_of_ble_eq_true hkd.1.2
    have hbr : b < rf.length := Nat.le_of_ble_eq_true hkd.2
    have hkd := Nat.eq_of_beq_eq_true hkd.1.1
    subst hkd
    have hql := (List.getElem?_eq_some_iff.mp hcel).1
    have hcel' : (h.1.set q (kd, nn, rf.set b (some v)))[q]? = some (kd, nn, rf.set b (some v)) := List.getElem?_set_self hql
    have hty : narrow (tyc kd b) (rv G (.ref v)) = rv G (.ref v) ∧ fits (tyc kd b) (rv G (.ref v)) = true ∧ tcode (tyc kd b) false = 2 := by
      rcases ty_in kd ha12 b hbN with q | q | q | ⟨z, q⟩ | ⟨z, q⟩ <;> rw [q] at ht ⊢ <;> first | (simp [tcode] at ht; done) | exact ⟨rfl, rfl, rfl⟩
    refine ok_put0 (v := .ref v) (rf' := rf.set b (some v)) (h' := (h.1.set q (kd, nn, rf.set b (some v)), h.2)) F hlk hbN ha12 hfin d1 e1 hcel hty.1 hty.2.1 hcel' (List.length_set ..) (fun j hj => ?_) (fvs_set hbN (by rw [hty.2.2]; simp only [List.getD, List.getElem?_set_self hbr]; simp [va_rf, rv, rho_lt (Nat.lt_of_lt_of_le hvl hls)]) (fun j hj => ⟨rfl, rfl, by simp only [List.getD]; rw [List.getElem?_set_ne (Ne.symm hj)]⟩)) ?_ ?_ ?_ (go1_inv ha4 hk).1
    · have e : (h.1.set q (kd, nn, rf.set b (some v)))[j]? = h.1[j]? := List.getElem?_set_ne (Ne.symm hj)
      simp only [cE, e]; rfl
    · intro q2 kd2 n2 rf2 k2 p2 g1 g2
      by_cases hq2 : q2 = q
      · subst hq2
        rw [hcel'] at g1
        cases g1
        by_cases hk2 : k2 = b
        · subst hk2
          rw [List.getElem?_set_self hbr] at g2
          cases g2
          exact Nat.lt_of_lt_of_le hvl hls
        · rw [List.getElem?_set_ne (Ne.symm hk2)] at g2
          exact hRF q2 _ _ _ k2 p2 hcel g2
      · have e : (h.1.set q (kd, nn, rf.set b (some v)))[q2]? = h.1[q2]? := List.getElem?_set_ne (Ne.symm hq2)
        exact hRF q2 kd2 n2 rf2 k2 p2 (e ▸ g1) g2
    · simp [cz]
    · simp only [slz, List.map_set]
      congr 2
      apply List.ext_getElem?
      intro j
      by_cases hj : j = q
      · subst hj
        rw [List.getElem?_set_self (by simp; exact hql), List.getElem?_map, hcel]; rfl
      · rw [List.getElem?_set_ne (Ne.symm hj)]
  | t + 4, ha, ht => cases ha; exact hk.elim
end MEM
