/-! ===== soundness: natives, new cells, returns ===== -/
theorem blt_lt {n m : Nat} (h : Nat.blt n m = true) : n < m := Nat.le_of_ble_eq_true h
theorem scr_lt {n : Nat} (h : Nat.blt n 900000 = true) : n < aSCR := blt_lt h
theorem cat_sum (l : List Value) : (l.map fun v => v.category).sum ≤ 2 * l.length := by
  induction l with
  | nil => simp
  | cons v l ih =>
    simp only [List.map_cons, List.sum_cons, List.length_cons]
    have : v.category ≤ 2 := by rcases lv_cat v with q | q <;> omega
    omega
theorem om_fr {d f : Nat} (h : d + 10 ≤ f) : 1 ≤ f := by omega
theorem om_lo {d z x w : Nat} (h : 100 * d + 400 ≤ z) (hx : x ≤ 200) (hw : w ≤ 100) : x + w ≤ z := by omega
theorem om_lo2 {d z x w : Nat} (h : 100 * d + 400 ≤ z) (hx : x ≤ 200) (hw : w ≤ 100) : 2 * 0 + x + w ≤ z := by omega
theorem om_le {c c0 z f : Nat} (h1 : c + c0 = z) (h2 : z ≤ f + c0) : c ≤ f := by omega
theorem len_tl {v : Value} {r : List Value} {n : Nat} (h : (v :: r).length ≤ n) : r.length ≤ n := Nat.le_trans (Nat.le_succ _) h
theorem cat_rest {G : GC} {r : List Value} (h : r.length ≤ 100) : ((r.map (rv G)).map fun v => v.category).sum ≤ 200 := by
  have := cat_sum (r.map (rv G))
  rw [List.length_map] at this
  omega
def enm (e : Nat) : String := if e = 1 then "java/util/NoSuchElementException" else "java/lang/IllegalArgumentException"
def Qr (G : GC) (v : Option Value) (h : Hp) : Array Value → State → Outcome → State → Prop := fun _ st o t => o = .returned (v.map (rv G)) ∧ HW G h t.heap ∧ va_F (gA G) st t
def Xr (G : GC) (e : Nat) (h : Hp) : String → State → State → Prop := fun E st t => E = enm e ∧ HW G h t.heap ∧ va_F (gA G) st t
def PQ (G : GC) (below : List Frame) (args : Array Value) (s : State) (mc ms : Nat) (r : Rs) : State → Prop := match r with
  | (.inl v, h) => MQ below (Qr G v h) args s mc ms (gA G)
  | (.inr e, h) => vx_MQ below (fun _ _ _ _ => False) (Xr G e h) args s mc ms (gA G)
section NAT
variable {l : Launch} {G : GC} {X : XS} {p : Program} {e : Env} {R : Room} {s : State} {m : MethodId} {args : Array Value} {below : List Frame} {meth : Method} {c : Code} {Q : State → Prop} {k d c0 s0 : Nat} {i : Nat} {ls st : List Value} {h : Hp} {a b : Nat} {cv : Int32} {tl : List Nat} {lb : List (Bool × FS)}
theorem ok_ntS {n : Nat} (F : FC l G X p R s m args meth c k d) (hc : chk k i (.invokestatic n, a, b, cv, tl) = true) (h10 : 1000 ≤ a) (ha : act X (.invokestatic n, a, b, cv, tl) i ls st h = .inl lb) (hk : WSel (PW l G p e R s m args below meth c Q k c0 s0) lb) : WA l G p e R s m args below meth c Q k c0 s0 (i, ls, st, h) := by
  obtain ⟨hx, hb, hml, -, -, -, hown, hts, hK, -, -, hfr, hlo, -⟩ := F
  have hd := chk_dec hc
  have hble : Nat.ble 1000 a = true := Nat.ble_eq_true_of_le h10
  simp only [chk, hble, cond_true, Bool.and_eq_true, Bool.or_eq_true] at hc
  obtain ⟨-, hpc, hm⟩ := hc
  obtain ⟨e1, d1⟩ := pc_n hpc hd
  simp only [act, hble, cond_true, ntv] at ha
  obtain ⟨hsl, ha0⟩ := cond_inv ha hk
  have hsl := Nat.le_trans (Nat.le_of_ble_eq_true hsl) (show 5 ≤ 100 by decide)
  rcases hm with hm | ⟨hm, hm2⟩
  · have := Nat.eq_of_beq_eq_true hm
    subst this
    cases ha0; exact hk.elim
  have hlk := hts _ (w_nlk hm)
  rcases hm2 with ((hm2 | hm2) | hm2) | hm2 <;> (have := Nat.eq_of_beq_eq_true hm2; subst this)
  · obtain ⟨y, r, rfl, ha1⟩ := pI_inv ha0 hk
    obtain ⟨x, r, rfl, ha2⟩ := pI_inv ha1 hk
    have hP := go1_inv ha2 hk
    intro H locs cells slots lsM hH hS hL h1 h2
    have hcr := cat_rest (G := G) (len_tl (len_tl hsl))
    refine va_mmax hx hb (by rw [hml, hL.2.1]) hown hlk (hts _ w_max.1) (hts _ w_max.2.1) (hts _ w_max.2.2) (om_fr hfr) (om_lo hlo hcr (by decide)) (om_le h1 hP.2.1) (om_le h2 hP.2.2) d1 ?_
    rw [← e1]
    exact hP.1 H locs cells slots lsM hH hS hL h1 h2
  · obtain ⟨y, r, rfl, ha1⟩ := pI_inv ha0 hk
    obtain ⟨x, r, rfl, ha2⟩ := pI_inv ha1 hk
    have hP := go1_inv ha2 hk
    intro H locs cells slots lsM hH hS hL h1 h2
    have hcr := cat_rest (G := G) (len_tl (len_tl hsl))
    refine va_mmin hx hb (by rw [hml, hL.2.1]) hown hlk (hts _ w_min.1) (hts _ w_max.2.1) (hts _ w_min.2) (om_fr hfr) (om_lo hlo hcr (by decide)) (om_le h1 hP.2.1) (om_le h2 hP.2.2) d1 ?_
    rw [← e1]
    exact hP.1 H locs cells slots lsM hH hS hL h1 h2
  · obtain ⟨x, r, rfl, ha1⟩ := pI_inv ha0 hk
    have hP := go1_inv ha1 hk
    intro H locs cells slots lsM hH hS hL h1 h2
    have hcr := cat_rest (G := G) (len_tl hsl)
    refine va_mabs hx hb (by rw [hml, hL.2.1]) hown hlk (hts _ w_abs.1) (hts _ w_max.2.1) (hts _ w_abs.2) (om_fr hfr) (om_lo hlo hcr (by decide)) (om_le h1 hP.2.1) (om_le h2 hP.2.2) d1 ?_
    rw [← e1]
    exact hP.1 H locs cells slots lsM hH hS hL h1 h2
  · obtain ⟨nn, r, rfl, ha1⟩ := pI_inv ha0 hk
    obtain ⟨dp, r, rfl, ha2⟩ := pI_inv ha1 hk
    obtain ⟨qd, r, rfl, ha3⟩ := pR_inv ha2 hk
    obtain ⟨sp, r, rfl, ha4⟩ := pI_inv ha3 hk
    obtain ⟨qs, r, rfl, ha5⟩ := pR_inv ha4 hk
    obtain ⟨k0, n0, rf0, hcs, ha6⟩ := cel_inv ha5 hk
    obtain ⟨k1, n1, rf1, hcd, ha7⟩ := cel_inv ha6 hk
    obtain ⟨hkk, ha8⟩ := cond_inv ha7 hk
    simp only [Bool.and_eq_true] at hkk
    have e3 := Nat.eq_of_beq_eq_true hkk.1
    have e4 := Nat.eq_of_beq_eq_true hkk.2
    subst e3; subst e4
    obtain ⟨hg, hP⟩ := g1_inv ha8 hk
    simp only [Bool.and_eq_true, decide_eq_true_eq] at hg
    obtain ⟨⟨⟨⟨g1, g2⟩, g3⟩, g4⟩, g5⟩ := hg
    have g4 := Nat.le_of_ble_eq_true g4
    have g5 := Nat.le_of_ble_eq_true g5
    intro H locs cells slots lsM hH hS hL h1 h2
    have hcr := cat_rest (G := G) (len_tl (len_tl (len_tl (len_tl (len_tl hsl)))))
    obtain ⟨hql, hr, hw⟩ := hH.q hcs
    obtain ⟨hql1, hr1, hw1⟩ := hH.q hcd
    rw [cE_12 hcs] at hw
    rw [cE_12 hcd] at hw1
    show W p l e R s m args below meth c H locs cells slots Q (F0 m (pcf k i) lsM (.int nn :: .int dp :: .ref (rho G qd) :: .int sp :: .ref (rho G qs) :: r.map (rv G)))
    rw [hr, hr1]
    have hnf : nativeFrameWords "java/lang/System" "arraycopy" 5 = 7 := by decide +kernel
    refine va_copyi hx hb (by rw [hml, hL.2.1]) hown hlk (hts _ w_cpy.2.2) (hts _ w_cpy.1) (hts _ w_cpy.2.1) hK hH.1 (wl_D G h) hS qs qd 0 0 (ty := .int) hw hw1 rfl rfl rfl g1 g2 g3 g4 g5 (fun _ _ => rfl) (om_fr hfr) (by rw [hnf]; exact om_lo hlo hcr (by decide)) d1 (fun H1 locs1 hP1 _ hS1 => ?_)
    rw [← e1]
    refine hP.1 H1 locs1 cells slots lsM (hH.upd hql1 rfl (fun j hj => ?_) ?_ hP1) hS1 hL h1 h2
    · have e5 : ∀ b, ucp h.2.2.1 qs sp.toNatClampNeg qd dp.toNatClampNeg nn.toNatClampNeg j b = h.2.2.1 j b := fun b => by simp [ucp, hj]
      simp only [cE, fvs, e5]
      have e6 : ucp h.2.2.1 qs sp.toNatClampNeg qd dp.toNatClampNeg nn.toNatClampNeg j = h.2.2.1 j := funext e5
      rw [e6]
    · rw [cE_12 (h := (h.1, h.2.1, ucp h.2.2.1 qs sp.toNatClampNeg qd dp.toNatClampNeg nn.toNatClampNeg, h.2.2.2)) hcd]
      have e7 : ucp h.2.2.1 qs sp.toNatClampNeg qd dp.toNatClampNeg nn.toNatClampNeg qd = va_cpy (h.2.2.1 qs) (h.2.2.1 qd) sp.toNatClampNeg dp.toNatClampNeg nn.toNatClampNeg := by
        funext b
        simp [ucp, va_cpy]
      simp only [e7]
theorem ok_obj {n : Nat} (F : FC l G X p R s m args meth c k d) (hc : chk k i (.invokespecial n, a, b, cv, tl) = true) (h10 : 1000 ≤ a) (ha : act X (.invokespecial n, a, b, cv, tl) i ls st h = .inl lb) (hk : WSel (PW l G p e R s m args below meth c Q k c0 s0) lb) : WA l G p e R s m args below meth c Q k c0 s0 (i, ls, st, h) := by
  obtain ⟨hx, hb, hml, -, -, -, hown, hts, hK, -, -, hfr, hlo, -⟩ := F
  have hd := chk_dec hc
  have hble : Nat.ble 1000 a = true := Nat.ble_eq_true_of_le h10
  simp only [chk, hble, cond_true, Bool.and_eq_true, Bool.or_eq_true] at hc
  obtain ⟨-, hpc, hm⟩ := hc
  obtain ⟨e1, d1⟩ := pc_n hpc hd
  simp only [act, hble, cond_true, ntv] at ha
  obtain ⟨hsl, ha0⟩ := cond_inv ha hk
  have hsl := Nat.le_trans (Nat.le_of_ble_eq_true hsl) (show 5 ≤ 100 by decide)
  rcases hm with hm | ⟨hm, hm2⟩
  · have := Nat.eq_of_beq_eq_true hm
    subst this
    cases ha0; exact hk.elim
  have hlk := hts _ (w_nlk hm)
  have := Nat.eq_of_beq_eq_true hm2
  subst this
  obtain ⟨q, r, rfl, ha1⟩ := pR_inv ha0 hk
  have hP := go1_inv ha1 hk
  intro H locs cells slots lsM hH hS hL h1 h2
  have hcr := cat_rest (G := G) (len_tl hsl)
  refine W.objInit hx hb hown hlk (hts _ w_obj.1) (hts _ w_obj.2) (g := F0 m (pcf k i) lsM (.ref (rho G q) :: r.map (rv G))) rfl (by rw [hml]; exact hL.2.1) (a := rho G q) (rest := r.map (rv G)) rfl d1 (om_fr hfr) (om_lo2 hlo hcr (by decide)) ?_
  have hw := hP.1 H locs cells slots lsM hH hS hL h1 h2
  dsimp only at hw
  rw [e1] at hw
  exact hw
/-- the room and the size of the heap, at a state of the frame -/
theorem heap_at {T : State} {H : Heap} {locs : List Loc} {cells slots : Nat} (hc0 : s.heap.size ≤ G.1 + c0) (hT : T.heap = H) (Y : Stand p l e R s m args below meth c T locs cells slots) (h1 : cells + c0 = cz h) : H.size ≤ G.1 + cz h := by
  have := Y.heapSize
  rw [hT] at this
  omega
theorem cE_push {G : GC} {h : Hp} {x : ACell} {j : Nat} (hj : j < h.1.length) : cE G (h.1 ++ [x], h.2.1, uz h.2.2.1 h.1.length, ujz h.2.2.2 h.1.length) j = cE G h j := by
  have e1 : (h.1 ++ [x])[j]? = h.1[j]? := List.getElem?_append_left hj
  have n1 : j ≠ h.1.length := by omega
  have e2 : uz h.2.2.1 h.1.length j = h.2.2.1 j := funext fun b => by simp [uz, n1]
  have e3 : ujz h.2.2.2 h.1.length j = h.2.2.2 j := funext fun b => by simp [ujz, n1]
  simp only [cE, fvs, e1, e2, e3]
theorem RFO_push {h : Hp} {x : ACell} {D : Nat → Nat → Int32} {J : Nat → Nat → Int64} (hr : RFO h) (hx : ∀ (k p : Nat), x.2.2[k]? ≠ some (some p)) : RFO (h.1 ++ [x], h.2.1, D, J) := by
  intro q kd n rf k p g1 g2
  by_cases hq : q < h.1.length
  · have g1 : (h.1 ++ [x])[q]? = some (kd, n, rf) := g1
    rw [List.getElem?_append_left hq] at g1
    exact hr q kd n rf k p g1 g2
  · have g1 : (h.1 ++ [x])[q]? = some (kd, n, rf) := g1
    rw [List.getElem?_append_right (by omega)] at g1
    have hz : q - h.1.length < 1 := (List.getElem?_eq_some_iff.mp g1).1
    rw [show q - h.1.length = 0 by omega] at g1
    cases g1
    exact absurd g2 (hx k p)
theorem HW.push {G : GC} {h : Hp} {H H1 : Heap} {x : ACell} (w : HW G h H) (hz : H.size = G.1 + h.1.length) (hlen : h.1.length < aSCR) (hx : ∀ (k p : Nat), x.2.2[k]? ≠ some (some p)) (o1 : ∀ q, q < H.size → H1[q]? = H[q]?) (hn : va_at G.2.1 cls12 (G.1 + h.1.length, cE G (h.1 ++ [x], h.2.1, uz h.2.2.1 h.1.length, ujz h.2.2.2 h.1.length) h.1.length) H1) : HW G (h.1 ++ [x], h.2.1, uz h.2.2.1 h.1.length, ujz h.2.2.2 h.1.length) H1 := by
  refine ⟨?_, by show (h.1 ++ [x]).length ≤ aSCR; rw [List.length_append]; exact hlen, RFO_push w.2.2 hx⟩
  rw [← wl_push (h := h) (by simp) (fun j hj => cE_push hj)]
  refine (w.1.kept (fun kk q hq => o1 q.1 ((w.1 kk q hq).lt))).app (fun kk q hq => ?_)
  have hz : kk < 1 := (List.getElem?_eq_some_iff.mp hq).1
  rw [show kk = 0 by omega] at hq
  cases hq
  exact hn
/-- returns -/
theorem ok_ireturn {r : Rs} {bb : Bool} {mc ms : Nat} (F : FC l G X p R s m args meth c k d) (hc : chk k i (.ireturn, a, b, cv, tl) = true) (ha : act X (.ireturn, a, b, cv, tl) i ls st h = .inr (.inl (bb, r))) (hbb : bb = true) (hmc : mc + c0 = cz r.2) (hms : ms + s0 = slz r.2) : WA l G p e R s m args below meth c (PQ G below args s mc ms r) k c0 s0 (i, ls, st, h) := by
  obtain ⟨hx, hb, hml, hret, hlocks, -⟩ := F
  have hd := chk_dec hc
  simp only [chk, Bool.and_eq_true, Bool.or_eq_true, decide_eq_true_eq] at hc
  obtain ⟨-, hpc, hty⟩ := hc
  obtain ⟨e1, d1⟩ := pc_n hpc hd
  simp only [act, pI] at ha
  split at ha
  · next x r0 =>
    split at ha
    · cases ha
      intro H locs cells slots lsM hH hS hL h1 h2
      dsimp only at hmc hms h1 h2
      have em : mc = cells := by omega
      have es : ms = slots := by omega
      subst em; subst es
      rcases hty with hty | hty
      · exact W.iret (Qc := Qr G (some (.int x)) h) hx hb (hret.trans hty.1) (fun t ht hW => ⟨rfl, by rw [ht]; exact hH, hS.F ht⟩) hS.2.2 d1
      · have ha1 := Nat.eq_of_beq_eq_true hty.2
        subst ha1
        simp only [Bool.or_eq_true, decide_eq_true_eq] at hbb
        have hbb := hbb.resolve_left (by decide)
        exact W.zret (Qc := Qr G (some (.int x)) h) hx hb (hret.trans hty.1) (by rcases hbb with rfl | rfl <;> rfl) (fun t ht hW => ⟨rfl, by rw [ht]; exact hH, hS.F ht⟩) hS.2.2 d1
    · cases ha
  · cases ha
theorem ok_lreturn {r : Rs} {bb : Bool} {mc ms : Nat} (F : FC l G X p R s m args meth c k d) (hc : chk k i (.lreturn, a, b, cv, tl) = true) (ha : act X (.lreturn, a, b, cv, tl) i ls st h = .inr (.inl (bb, r))) (hmc : mc + c0 = cz r.2) (hms : ms + s0 = slz r.2) : WA l G p e R s m args below meth c (PQ G below args s mc ms r) k c0 s0 (i, ls, st, h) := by
  obtain ⟨hx, hb, hml, hret, hlocks, -⟩ := F
  have hd := chk_dec hc
  simp only [chk, Bool.and_eq_true, Bool.or_eq_true, decide_eq_true_eq] at hc
  obtain ⟨-, hpc, hty⟩ := hc
  obtain ⟨e1, d1⟩ := pc_n hpc hd
  simp only [act, pJ] at ha
  split at ha
  · next x r0 =>
    split at ha
    · cases ha
      intro H locs cells slots lsM hH hS hL h1 h2
      dsimp only at hmc hms h1 h2
      have em : mc = cells := by omega
      have es : ms = slots := by omega
      subst em; subst es
      exact W.lret (Qc := Qr G (some (.long x)) h) hx hb (hret.trans hty) (fun t ht hW => ⟨rfl, by rw [ht]; exact hH, hS.F ht⟩) hS.2.2 d1
    · cases ha
  · cases ha
theorem ok_return {r : Rs} {bb : Bool} {mc ms : Nat} (F : FC l G X p R s m args meth c k d) (hc : chk k i (.return_, a, b, cv, tl) = true) (ha : act X (.return_, a, b, cv, tl) i ls st h = .inr (.inl (bb, r))) (hmc : mc + c0 = cz r.2) (hms : ms + s0 = slz r.2) : WA l G p e R s m args below meth c (PQ G below args s mc ms r) k c0 s0 (i, ls, st, h) := by
  obtain ⟨hx, hb, hml, hret, hlocks, -⟩ := F
  have hd := chk_dec hc
  simp only [chk, Bool.and_eq_true, Bool.or_eq_true, decide_eq_true_eq] at hc
  obtain ⟨-, hpc, hty⟩ := hc
  obtain ⟨e1, d1⟩ := pc_n hpc hd
  simp only [act] at ha
  split at ha
  · cases ha
    intro H locs cells slots lsM hH hS hL h1 h2
    dsimp only at hmc hms h1 h2
    have em : mc = cells := by omega
    have es : ms = slots := by omega
    subst em; subst es
    exact W.vret (Qc := Qr G none h) hx hb (hret.trans hty) (fun t ht hW => ⟨rfl, by rw [ht]; exact hH, hS.F ht⟩) hS.2.2 d1
  · cases ha
end NAT
