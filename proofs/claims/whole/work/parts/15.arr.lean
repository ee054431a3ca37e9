/-! ===== soundness: arrays, switches, natives, new cells ===== -/
theorem cE_12 {G : GC} {h : Hp} {i n : Nat} {rf : List (Option Nat)} (hc : h.1[i]? = some (12, n, rf)) : cE G h i = .inl (G.2.2.1.1, n, .inl (h.2.2.1 i)) := by rw [cE_at hc, if_pos rfl]
theorem cE_13 {G : GC} {h : Hp} {i n : Nat} {rf : List (Option Nat)} (hc : h.1[i]? = some (13, n, rf)) : cE G h i = .inl (G.2.2.1.2.1, n, .inl (h.2.2.1 i)) := by rw [cE_at hc, if_neg (by decide), if_pos rfl]
theorem cE_14 {G : GC} {h : Hp} {i n : Nat} {rf : List (Option Nat)} (hc : h.1[i]? = some (14, n, rf)) : cE G h i = .inl (G.2.2.1.2.2, n, .inr (.inl (h.2.2.2 i))) := by rw [cE_at hc, if_neg (by decide), if_neg (by decide), if_pos rfl]
theorem cond2_inv {P : FS → Prop} {b : Bool} {a a2 : Act} {l : List (Bool × FS)} (h : cond b a a2 = .inl l) : (b = true ∧ a = .inl l) ∨ (b = false ∧ a2 = .inl l) := by
  cases b with
  | true => exact Or.inl ⟨rfl, h⟩
  | false => exact Or.inr ⟨rfl, h⟩
section ARR
variable {l : Launch} {G : GC} {X : XS} {p : Program} {e : Env} {R : Room} {s : State} {m : MethodId} {args : Array Value} {below : List Frame} {meth : Method} {c : Code} {Q : State → Prop} {k d c0 s0 : Nat} {i : Nat} {ls st : List Value} {h : Hp} {a b : Nat} {cv : Int32} {tl : List Nat} {lb : List (Bool × FS)}
theorem ok_iaload (F : FC l G X p R s m args meth c k d) (hc : chk k i (.iaload, a, b, cv, tl) = true) (ha : act X (.iaload, a, b, cv, tl) i ls st h = .inl lb) (hk : WSel (PW l G p e R s m args below meth c Q k c0 s0) lb) : WA l G p e R s m args below meth c Q k c0 s0 (i, ls, st, h) := by
  obtain ⟨hx, hb, -, -, -, -, -, -, hK, hz0, ⟨hX, hbl⟩, -⟩ := F
  have hd := chk_dec hc
  simp only [chk, Bool.and_eq_true, decide_eq_true_eq] at hc
  obtain ⟨e1, d1⟩ := pc_n hc.2 hd
  simp only [act] at ha
  obtain ⟨x, r, rfl, ha1⟩ := pI_inv ha hk
  obtain ⟨q, r, rfl, ha2⟩ := pR_inv ha1 hk
  intro H locs cells slots lsM hH hS hL h1 h2
  show W p l e R s m args below meth c H locs cells slots Q (F0 m (pcf k i) lsM (.int x :: .ref (rho G q) :: r.map (rv G)))
  rcases cond2_inv (P := fun _ => True) ha2 with ⟨hq, ha3⟩ | ⟨hq, ha3⟩
  · obtain ⟨hg, hP⟩ := g1_inv ha3 hk
    have hq := Nat.eq_of_beq_eq_true hq
    subst hq
    rw [rho_scr]
    refine va_sld (A := gA G) hx hb hX (by omega) (by unfold gA; omega) hS (ob_in hg) d1 ?_
    rw [← e1]
    exact hP.1 H locs cells slots lsM hH hS hL h1 h2
  · obtain ⟨kd, n, rf, hcel, ha4⟩ := cel_inv ha3 hk
    obtain ⟨hkd, ha5⟩ := cond_inv ha4 hk
    have hkd := Nat.eq_of_beq_eq_true hkd
    subst hkd
    obtain ⟨hg, hP⟩ := g1_inv ha5 hk
    obtain ⟨hql, hr, hw⟩ := hH.q hcel
    rw [cE_12 hcel] at hw
    rw [hr]
    refine va_iald hx hb hK hH.1 q 0 hw rfl (ob_in hg) d1 ?_
    rw [← e1]
    exact hP.1 H locs cells slots lsM hH hS hL h1 h2
theorem ok_baload (F : FC l G X p R s m args meth c k d) (hc : chk k i (.baload, a, b, cv, tl) = true) (ha : act X (.baload, a, b, cv, tl) i ls st h = .inl lb) (hk : WSel (PW l G p e R s m args below meth c Q k c0 s0) lb) : WA l G p e R s m args below meth c Q k c0 s0 (i, ls, st, h) := by
  obtain ⟨hx, hb, -, -, -, -, -, -, hK, -⟩ := F
  have hd := chk_dec hc
  simp only [chk, Bool.and_eq_true, decide_eq_true_eq] at hc
  obtain ⟨e1, d1⟩ := pc_n hc.2 hd
  simp only [act] at ha
  obtain ⟨x, r, rfl, ha1⟩ := pI_inv ha hk
  obtain ⟨q, r, rfl, ha2⟩ := pR_inv ha1 hk
  obtain ⟨kd, n, rf, hcel, ha4⟩ := cel_inv ha2 hk
  obtain ⟨hkd, ha5⟩ := cond_inv ha4 hk
  have hkd := Nat.eq_of_beq_eq_true hkd
  subst hkd
  obtain ⟨hg, hP⟩ := g1_inv ha5 hk
  intro H locs cells slots lsM hH hS hL h1 h2
  show W p l e R s m args below meth c H locs cells slots Q (F0 m (pcf k i) lsM (.int x :: .ref (rho G q) :: r.map (rv G)))
  obtain ⟨hql, hr, hw⟩ := hH.q hcel
  rw [cE_13 hcel] at hw
  rw [hr]
  refine va_zald hx hb hK hH.1 q 1 hw rfl (ob_in hg) d1 ?_
  rw [← e1]
  exact hP.1 H locs cells slots lsM hH hS hL h1 h2
theorem ok_laload (F : FC l G X p R s m args meth c k d) (hc : chk k i (.laload, a, b, cv, tl) = true) (ha : act X (.laload, a, b, cv, tl) i ls st h = .inl lb) (hk : WSel (PW l G p e R s m args below meth c Q k c0 s0) lb) : WA l G p e R s m args below meth c Q k c0 s0 (i, ls, st, h) := by
  obtain ⟨hx, hb, -, -, -, -, -, -, hK, -⟩ := F
  have hd := chk_dec hc
  simp only [chk, Bool.and_eq_true, decide_eq_true_eq] at hc
  obtain ⟨e1, d1⟩ := pc_n hc.2 hd
  simp only [act] at ha
  obtain ⟨x, r, rfl, ha1⟩ := pI_inv ha hk
  obtain ⟨q, r, rfl, ha2⟩ := pR_inv ha1 hk
  obtain ⟨kd, n, rf, hcel, ha4⟩ := cel_inv ha2 hk
  obtain ⟨hkd, ha5⟩ := cond_inv ha4 hk
  have hkd := Nat.eq_of_beq_eq_true hkd
  subst hkd
  obtain ⟨hg, hP⟩ := g1_inv ha5 hk
  intro H locs cells slots lsM hH hS hL h1 h2
  show W p l e R s m args below meth c H locs cells slots Q (F0 m (pcf k i) lsM (.int x :: .ref (rho G q) :: r.map (rv G)))
  obtain ⟨hql, hr, hw⟩ := hH.q hcel
  rw [cE_14 hcel] at hw
  rw [hr]
  refine va_lald hx hb hK hH.1 q 2 hw rfl (ob_in hg) d1 ?_
  rw [← e1]
  exact hP.1 H locs cells slots lsM hH hS hL h1 h2
theorem ok_iastore (F : FC l G X p R s m args meth c k d) (hc : chk k i (.iastore, a, b, cv, tl) = true) (ha : act X (.iastore, a, b, cv, tl) i ls st h = .inl lb) (hk : WSel (PW l G p e R s m args below meth c Q k c0 s0) lb) : WA l G p e R s m args below meth c Q k c0 s0 (i, ls, st, h) := by
  obtain ⟨hx, hb, -, -, -, -, -, -, hK, -⟩ := F
  have hd := chk_dec hc
  simp only [chk, Bool.and_eq_true, decide_eq_true_eq] at hc
  obtain ⟨e1, d1⟩ := pc_n hc.2 hd
  simp only [act] at ha
  obtain ⟨v, r, rfl, ha0⟩ := pI_inv ha hk
  obtain ⟨x, r, rfl, ha1⟩ := pI_inv ha0 hk
  obtain ⟨q, r, rfl, ha2⟩ := pR_inv ha1 hk
  obtain ⟨kd, n, rf, hcel, ha4⟩ := cel_inv ha2 hk
  obtain ⟨hkd, ha5⟩ := cond_inv ha4 hk
  have hkd := Nat.eq_of_beq_eq_true hkd
  subst hkd
  obtain ⟨hg, hP⟩ := g1_inv ha5 hk
  intro H locs cells slots lsM hH hS hL h1 h2
  show W p l e R s m args below meth c H locs cells slots Q (F0 m (pcf k i) lsM (.int v :: .int x :: .ref (rho G q) :: r.map (rv G)))
  obtain ⟨hql, hr, hw⟩ := hH.q hcel
  rw [cE_12 hcel] at hw
  rw [hr]
  refine va_iast hx hb hK hH.1 (wl_D G h) hS q 0 hw rfl (ob_in hg) d1 (fun H1 locs1 hP1 _ hS1 => ?_)
  rw [← e1]
  refine hP.1 H1 locs1 cells slots lsM (hH.upd hql rfl (fun j hj => cE_ud_ne hj) ?_ hP1) hS1 hL h1 h2
  rw [cE_12 (h := (h.1, h.2.1, ud h.2.2.1 q x.toNatClampNeg v, h.2.2.2)) hcel]
  simp only [ud_row]
theorem ok_bastore (F : FC l G X p R s m args meth c k d) (hc : chk k i (.bastore, a, b, cv, tl) = true) (ha : act X (.bastore, a, b, cv, tl) i ls st h = .inl lb) (hk : WSel (PW l G p e R s m args below meth c Q k c0 s0) lb) : WA l G p e R s m args below meth c Q k c0 s0 (i, ls, st, h) := by
  obtain ⟨hx, hb, -, -, -, -, -, -, hK, -⟩ := F
  have hd := chk_dec hc
  simp only [chk, Bool.and_eq_true, decide_eq_true_eq] at hc
  obtain ⟨e1, d1⟩ := pc_n hc.2 hd
  simp only [act] at ha
  obtain ⟨v, r, rfl, ha0⟩ := pI_inv ha hk
  obtain ⟨x, r, rfl, ha1⟩ := pI_inv ha0 hk
  obtain ⟨q, r, rfl, ha2⟩ := pR_inv ha1 hk
  obtain ⟨kd, n, rf, hcel, ha4⟩ := cel_inv ha2 hk
  obtain ⟨hkd, ha5⟩ := cond_inv ha4 hk
  have hkd := Nat.eq_of_beq_eq_true hkd
  subst hkd
  obtain ⟨hg, hP⟩ := g1_inv ha5 hk
  simp only [Bool.and_eq_true, Bool.or_eq_true, decide_eq_true_eq] at hg
  have hnar : vp_nar .boolean v = v := by rcases hg.2 with rfl | rfl <;> rfl
  intro H locs cells slots lsM hH hS hL h1 h2
  show W p l e R s m args below meth c H locs cells slots Q (F0 m (pcf k i) lsM (.int v :: .int x :: .ref (rho G q) :: r.map (rv G)))
  obtain ⟨hql, hr, hw⟩ := hH.q hcel
  rw [cE_13 hcel] at hw
  rw [hr]
  refine va_zast hx hb hK hH.1 (wl_D G h) hS q 1 hw rfl (ob_in hg.1) d1 (fun H1 locs1 hP1 _ hS1 => ?_)
  rw [hnar] at hP1
  rw [← e1]
  refine hP.1 H1 locs1 cells slots lsM (hH.upd hql rfl (fun j hj => cE_ud_ne hj) ?_ hP1) hS1 hL h1 h2
  rw [cE_13 (h := (h.1, h.2.1, ud h.2.2.1 q x.toNatClampNeg v, h.2.2.2)) hcel]
  simp only [ud_row]
theorem ok_lastore (F : FC l G X p R s m args meth c k d) (hc : chk k i (.lastore, a, b, cv, tl) = true) (ha : act X (.lastore, a, b, cv, tl) i ls st h = .inl lb) (hk : WSel (PW l G p e R s m args below meth c Q k c0 s0) lb) : WA l G p e R s m args below meth c Q k c0 s0 (i, ls, st, h) := by
  obtain ⟨hx, hb, -, -, -, -, -, -, hK, -⟩ := F
  have hd := chk_dec hc
  simp only [chk, Bool.and_eq_true, decide_eq_true_eq] at hc
  obtain ⟨e1, d1⟩ := pc_n hc.2 hd
  simp only [act] at ha
  obtain ⟨v, r, rfl, ha0⟩ := pJ_inv ha hk
  obtain ⟨x, r, rfl, ha1⟩ := pI_inv ha0 hk
  obtain ⟨q, r, rfl, ha2⟩ := pR_inv ha1 hk
  obtain ⟨kd, n, rf, hcel, ha4⟩ := cel_inv ha2 hk
  obtain ⟨hkd, ha5⟩ := cond_inv ha4 hk
  have hkd := Nat.eq_of_beq_eq_true hkd
  subst hkd
  obtain ⟨hg, hP⟩ := g1_inv ha5 hk
  intro H locs cells slots lsM hH hS hL h1 h2
  show W p l e R s m args below meth c H locs cells slots Q (F0 m (pcf k i) lsM (.long v :: .int x :: .ref (rho G q) :: r.map (rv G)))
  obtain ⟨hql, hr, hw⟩ := hH.q hcel
  rw [cE_14 hcel] at hw
  rw [hr]
  refine va_last hx hb hK hH.1 (wl_D G h) hS q 2 hw rfl (ob_in hg) d1 (fun H1 locs1 hP1 _ hS1 => ?_)
  rw [← e1]
  refine hP.1 H1 locs1 cells slots lsM (hH.upd hql rfl (fun j hj => cE_uj_ne hj) ?_ hP1) hS1 hL h1 h2
  rw [cE_14 (h := (h.1, h.2.1, h.2.2.1, uj h.2.2.2 q x.toNatClampNeg v)) hcel]
  simp only [uj_row]
theorem ok_arraylength (F : FC l G X p R s m args meth c k d) (hc : chk k i (.arraylength, a, b, cv, tl) = true) (ha : act X (.arraylength, a, b, cv, tl) i ls st h = .inl lb) (hk : WSel (PW l G p e R s m args below meth c Q k c0 s0) lb) : WA l G p e R s m args below meth c Q k c0 s0 (i, ls, st, h) := by
  obtain ⟨hx, hb, -, -, -, -, -, -, hK, hz0, ⟨hX, hbl⟩, -⟩ := F
  have hd := chk_dec hc
  simp only [chk, Bool.and_eq_true, decide_eq_true_eq] at hc
  obtain ⟨e1, d1⟩ := pc_n hc.2 hd
  simp only [act] at ha
  obtain ⟨q, r, rfl, ha2⟩ := pR_inv ha hk
  intro H locs cells slots lsM hH hS hL h1 h2
  show W p l e R s m args below meth c H locs cells slots Q (F0 m (pcf k i) lsM (.ref (rho G q) :: r.map (rv G)))
  rcases cond2_inv (P := fun _ => True) ha2 with ⟨hq, ha3⟩ | ⟨hq, ha3⟩
  · have hP := go1_inv ha3 hk
    have hq := Nat.eq_of_beq_eq_true hq
    subst hq
    rw [rho_scr]
    refine va_slen (A := gA G) hx hb hX (by omega) (by unfold gA; omega) hS d1 ?_
    rw [← e1]
    exact hP.1 H locs cells slots lsM hH hS hL h1 h2
  · obtain ⟨kd, n, rf, hcel, ha4⟩ := cel_inv ha3 hk
    obtain ⟨hkd, ha5⟩ := cond_inv ha4 hk
    simp only [Bool.and_eq_true] at hkd
    have k1 := Nat.le_of_ble_eq_true hkd.1
    have k2 := Nat.le_of_ble_eq_true hkd.2
    have hP := go1_inv ha5 hk
    obtain ⟨hql, hr, hw⟩ := hH.q hcel
    rw [hr]
    have hk3 : kd = 12 ∨ kd = 13 ∨ kd = 14 := by omega
    rcases hk3 with rfl | rfl | rfl
    · rw [cE_12 hcel] at hw
      refine va_alen hx hb hK hH.1 q 0 hw rfl rfl d1 ?_
      rw [← e1]
      exact hP.1 H locs cells slots lsM hH hS hL h1 h2
    · rw [cE_13 hcel] at hw
      refine va_alen hx hb hK hH.1 q 1 hw rfl rfl d1 ?_
      rw [← e1]
      exact hP.1 H locs cells slots lsM hH hS hL h1 h2
    · rw [cE_14 hcel] at hw
      refine va_alen hx hb hK hH.1 q 2 hw rfl rfl d1 ?_
      rw [← e1]
      exact hP.1 H locs cells slots lsM hH hS hL h1 h2
/-- switches -/
theorem tsw_inv {P : FS → Prop} {x : Int32} {f : Nat → FS} {df pc : Nat} : ∀ (offs : List Int) (j : Nat) (tl : List Nat), chkT k pc offs j tl = true → WSel P (swt x f df tl) →
    (∃ t o tgt, offs[t]? = some o ∧ x = Int32.ofNat (j + t) ∧ (pc : Int) + o = (pcf k tgt : Int) ∧ P (f tgt)) ∨ ((∀ t, t < offs.length → x ≠ Int32.ofNat (j + t)) ∧ P (f df))
  | [], j, [], _, hw => Or.inr ⟨fun t ht => by simp at ht, hw.1 rfl⟩
  | o :: offs, j, a :: t :: tl, hc, hw => by
    simp only [chkT, Bool.and_eq_true, decide_eq_true_eq] at hc
    have ha := Nat.eq_of_beq_eq_true hc.1.1
    subst ha
    by_cases hx : x = Int32.ofNat a
    · exact Or.inl ⟨0, o, t, rfl, hx, hc.1.2, hw.1 (decide_eq_true hx)⟩
    · rcases tsw_inv offs (a + 1) tl hc.2 (hw.2 (decide_eq_false hx)) with ⟨t', o', tgt, h1, h2, h3, h4⟩ | ⟨h1, h2⟩
      · exact Or.inl ⟨t' + 1, o', tgt, h1, by rw [h2]; congr 1; omega, h3, h4⟩
      · refine Or.inr ⟨fun t' ht => ?_, h2⟩
        cases t' with
        | zero => exact hx
        | succ t' =>
          have := h1 t' (by simpa using ht)
          rwa [show a + (t' + 1) = a + 1 + t' by omega]
  | [], j, _ :: _, hc, _ => by simp [chkT] at hc
  | _ :: _, j, [], hc, _ => by simp [chkT] at hc
  | _ :: _, j, [_], hc, _ => by simp [chkT] at hc
theorem ok_tableswitch {df lo hi : Int} {offs : Array Int} (F : FC l G X p R s m args meth c k d) (hc : chk k i (.tableswitch df lo hi offs, a, b, cv, tl) = true) (ha : act X (.tableswitch df lo hi offs, a, b, cv, tl) i ls st h = .inl lb) (hk : WSel (PW l G p e R s m args below meth c Q k c0 s0) lb) : WA l G p e R s m args below meth c Q k c0 s0 (i, ls, st, h) := by
  obtain ⟨hx, hb, -⟩ := F
  have hd := chk_dec hc
  simp only [chk, Bool.and_eq_true, decide_eq_true_eq] at hc
  obtain ⟨-, ⟨⟨⟨⟨hlo, hlb⟩, hhi⟩, hbig⟩, hdf⟩, hT⟩ := hc
  have hbig : offs.toList.length < 1000 := Nat.le_of_ble_eq_true hbig
  have hlb : lo.toNat < 1000 := Nat.le_of_ble_eq_true hlb
  generalize lo.toNat = n0 at hlo hlb hhi hT
  subst hlo
  simp only [act] at ha
  obtain ⟨x, r, rfl, ha1⟩ := pI_inv ha hk
  cases ha1
  intro H locs cells slots lsM hH hS hL h1 h2
  rcases tsw_inv offs.toList n0 tl hT hk with ⟨t, o, tgt, g1, g2, g3, g4⟩ | ⟨g1, g2⟩
  · have hlt := (List.getElem?_eq_some_iff.mp g1).1
    have ex : x.toInt = ((n0 + t : Nat) : Int) := by rw [g2]; exact nI_toInt (by omega)
    refine lv_tableIn hx hb hd (by rw [ex]; omega) (by rw [ex]; omega) (off := o) (by rw [ex, show (((n0 + t : Nat) : Int) - (n0 : Int)).toNat = t by omega]; simpa using g1) g3 ?_
    exact g4.1 H locs cells slots lsM hH hS hL h1 h2
  · refine lv_tableOut hx hb hd ?_ hdf (g2.1 H locs cells slots lsM hH hS hL h1 h2)
    by_cases q1 : x.toInt < (n0 : Int)
    · exact Or.inl q1
    · right
      apply Int.not_le.mp
      intro q2
      refine g1 (x.toInt.toNat - n0) (by omega) ?_
      rw [show n0 + (x.toInt.toNat - n0) = x.toInt.toNat by omega]
      apply Int32.toInt_inj.mp
      rw [show Int32.ofNat x.toInt.toNat = nI x.toInt.toNat from rfl, nI_toInt (by omega)]
      omega
theorem lsw_inv {P : FS → Prop} {x : Int32} {f : Nat → FS} {df pc : Nat} {dfo : Int} (hdf : (pc : Int) + dfo = (pcf k df : Int)) : ∀ (ps : List (Int × Int)) (tl : List Nat), chkL k pc ps tl = true → WSel P (swt x f df tl) →
    ∃ tgt, (pc : Int) + Op.lookupswitch.offset ps dfo x.toInt = (pcf k tgt : Int) ∧ P (f tgt)
  | [], [], _, hw => ⟨df, hdf, hw.1 rfl⟩
  | o :: ps, a :: t :: tl, hc, hw => by
    simp only [chkL, Bool.and_eq_true, decide_eq_true_eq] at hc
    obtain ⟨⟨⟨h1, hs⟩, h2⟩, h3⟩ := hc
    have hs : a < 1000 := Nat.le_of_ble_eq_true hs
    obtain ⟨o1, o2⟩ := o
    dsimp only at h1 h2
    have hka : (Int32.ofNat a).toInt = o1 := by rw [h1]; exact nI_toInt (by omega)
    by_cases hx : x = Int32.ofNat a
    · refine ⟨t, ?_, hw.1 (decide_eq_true hx)⟩
      rw [← h2]
      congr 1
      unfold Op.lookupswitch.offset
      rw [hx, hka]
      simp
    · obtain ⟨tgt, g1, g2⟩ := lsw_inv hdf ps tl h3 (hw.2 (decide_eq_false hx))
      exact ⟨tgt, by rw [lv_osw hx hka]; exact g1, g2⟩
  | [], _ :: _, hc, _ => by simp [chkL] at hc
  | _ :: _, [], hc, _ => by simp [chkL] at hc
  | _ :: _, [_], hc, _ => by simp [chkL] at hc
theorem ok_lookupswitch {df : Int} {ps : Array (Int × Int)} (F : FC l G X p R s m args meth c k d) (hc : chk k i (.lookupswitch df ps, a, b, cv, tl) = true) (ha : act X (.lookupswitch df ps, a, b, cv, tl) i ls st h = .inl lb) (hk : WSel (PW l G p e R s m args below meth c Q k c0 s0) lb) : WA l G p e R s m args below meth c Q k c0 s0 (i, ls, st, h) := by
  obtain ⟨hx, hb, -⟩ := F
  have hd := chk_dec hc
  simp only [chk, Bool.and_eq_true, decide_eq_true_eq] at hc
  obtain ⟨-, ⟨hdf, hso⟩, hT⟩ := hc
  simp only [act] at ha
  obtain ⟨x, r, rfl, ha1⟩ := pI_inv ha hk
  cases ha1
  intro H locs cells slots lsM hH hS hL h1 h2
  obtain ⟨tgt, g1, g2⟩ := lsw_inv hdf ps.toList tl hT hk
  exact lv_lookup hx hb hd hso rfl g1 (g2.1 H locs cells slots lsM hH hS hL h1 h2)
end ARR
