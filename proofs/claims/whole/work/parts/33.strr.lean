/-! ===== the String methods at a frame of the abstract machine ===== -/
def SXF (G : GC) (adK adV : Nat → Nat) (U : State) (H : Heap) : Prop :=
  SP G.1 adK adV U H ∧ vk_R "JuniorPews$Reader" 86 "person seats arrives sulks minds or and not age pew seat moved away sunday theirs " (adK 0) U ∧ vk_R "JuniorPews$Reader" 78 ";()+-*/<=" (adK 1) U
theorem SXF_c {G : GC} {adK adV : Nat → Nat} : EXc (SXF G adK adV) G := by
  intro U V H H' ⟨h1, h2, h3⟩ hW hq
  exact ⟨SP_c U V H H' h1 hW hq, h2.warm hW, h3.warm hW⟩
def ix2 (q : Nat) : Nat := if q = 900001 then 0 else 1
theorem ix2_lt (q : Nat) : ix2 q < 2 := by
  unfold ix2
  split <;> decide
theorem ix2_a : ix2 900001 = 0 := if_pos rfl
theorem ix2_b : ix2 900002 = 1 := if_neg (by omega)
theorem txt_ix (q : Nat) : txS (ix2 q) = txt q := by
  by_cases h : q = 900001
  · rw [h, ix2_a]; rfl
  · have h1 : txt q = ";()+-*/<=".toList.map (fun c => c.toNat) := by unfold txt; exact if_neg h
    have h2 : txS 1 = ";()+-*/<=".toList.map (fun c => c.toNat) := by unfold txS txt; exact if_neg (by omega)
    have h3 : ix2 q = 1 := if_neg h
    rw [h3, h1, h2]
theorem rho_str {G : GC} {q : Nat} (h : 900001 ≤ q) : rho G q = G.2.2.2.2 q := by
  unfold rho aSCR
  rw [if_neg (by omega), if_neg (by omega)]
theorem str_site {a ix : Nat} {b7 : Bool} (h1 : (Nat.beq a 900001 || Nat.beq a 900002) = true) (h2 : (Nat.beq a 999999 || (b7 && (Nat.beq a 900001 && Nat.beq ix 86 || Nat.beq a 900002 && Nat.beq ix 78))) = true) : b7 = true ∧ ((a = 900001 ∧ ix = 86) ∨ (a = 900002 ∧ ix = 78)) := by
  simp only [Bool.or_eq_true, Bool.and_eq_true] at h1 h2
  rcases h2 with h2 | ⟨h2, h3⟩
  · have h2 := Nat.eq_of_beq_eq_true h2
    rcases h1 with h1 | h1
    · have h1 := Nat.eq_of_beq_eq_true h1
      omega
    · have h1 := Nat.eq_of_beq_eq_true h1
      omega
  · refine ⟨h2, ?_⟩
    rcases h3 with h3 | h3
    · exact Or.inl ⟨Nat.eq_of_beq_eq_true h3.1, Nat.eq_of_beq_eq_true h3.2⟩
    · exact Or.inr ⟨Nat.eq_of_beq_eq_true h3.1, Nat.eq_of_beq_eq_true h3.2⟩
theorem lt_ofN {x : Int32} {n : Nat} (hn : n < 100) (h0 : ¬ x < 0) (h : x.toNatClampNeg < n) : x < Int32.ofNat n := by
  rw [Int32.lt_iff_toInt_lt, show (Int32.ofNat n).toInt = (n : Int) from nI_toInt (by omega)]
  rw [Int32.lt_iff_toInt_lt] at h0
  have e0 : (0 : Int32).toInt = 0 := rfl
  rw [e0] at h0
  have : x.toNatClampNeg = x.toInt.toNat := rfl
  omega
theorem cat8 {G : GC} {r : List Value} (h : r.length ≤ 4) : ((r.map (rv G)).map fun v => v.category).sum ≤ 8 := by
  have := cat_sum (r.map (rv G))
  rw [List.length_map] at this
  omega
theorem str_R {l : Launch} {G : GC} {X : XS} {adK adV : Nat → Nat} (hCA : ∀ k, k < NM → chkM k = true) (hG : ∀ q, 900001 ≤ q → G.2.2.2.2 q = adK (ix2 q)) : StrR l G X (EX (SXF G adK adV) G) := by
  intro p e R s m args below meth c Q k d i c0 s0 ls st h ai lb F hE hk hcode hor ha hW
  have hc := chkM_at (hCA k hk) hcode
  obtain ⟨ins, a, b, cv, tl⟩ := ai
  have hSX := hE.2.2.2.2
  have hd := chk_dec hc
  obtain ⟨hx, hb, hml, -, -, -, hown, hts, hK, hz0, -, hfr, hlo, -⟩ := F
  rcases hor with ⟨n, hn, h0⟩ | ⟨n, hn, h10⟩
  · have hn : ins = .ldc n := hn
    have h0 : a ≠ 0 := h0
    subst hn
    have hb0 : Nat.beq a 0 = false := by
      cases hq : Nat.beq a 0 with
      | true => exact absurd (Nat.eq_of_beq_eq_true hq) h0
      | false => rfl
    simp only [chk, hb0, cond_false, Bool.and_eq_true] at hc
    obtain ⟨e1, d1⟩ := pc_n hc.2.1 hd
    have ha : cond (Nat.beq a 0) (go1 (i + 1, ls, .int cv :: st, h)) (cond (Nat.beq a 900001 || Nat.beq a 900002) (go1 (i + 1, ls, .ref a :: st, h)) stk) = .inl lb := ha
    rw [hb0] at ha
    obtain ⟨hg, ha1⟩ := cond_inv (show cond (Nat.beq a 900001 || Nat.beq a 900002) (go1 (i + 1, ls, .ref a :: st, h)) stk = .inl lb from ha) hW
    obtain ⟨h7, hs⟩ := str_site hg hc.2.2
    have hP := (go1_inv ha1 hW).1
    have hown7 : s.vm.findClass "JuniorPews$Reader" = some m.cls := by
      rw [Nat.eq_of_beq_eq_true h7] at hown
      exact hown
    intro H locs cells slots lsM hH hS hL h1 h2
    rcases hs with ⟨ea, ei⟩ | ⟨ea, ei⟩
    · rw [ei] at d1
      have er : adK 0 = rho G a := by rw [ea, rho_str (by omega), hG _ (by omega), ix2_a]
      refine va_ldcS hx hb hown7 hSX.2.1 d1 ?_
      rw [er, ← e1]
      exact hP H locs cells slots lsM hH hS hL h1 h2
    · rw [ei] at d1
      have er : adK 1 = rho G a := by rw [ea, rho_str (by omega), hG _ (by omega), ix2_b]
      refine va_ldcS hx hb hown7 hSX.2.2 d1 ?_
      rw [er, ← e1]
      exact hP H locs cells slots lsM hH hS hL h1 h2
  · have hn : ins = .invokevirtual n := hn
    have h10 : 1000 ≤ a := h10
    subst hn
    have hble : Nat.ble 1000 a = true := Nat.ble_eq_true_of_le h10
    simp only [chk, hble, cond_true, Bool.and_eq_true, Bool.or_eq_true] at hc
    obtain ⟨-, hpc, hm⟩ := hc
    obtain ⟨e1, d1⟩ := pc_n hpc hd
    simp only [act, hble, cond_true, ntv] at ha
    obtain ⟨hsl, ha0⟩ := cond_inv ha hW
    have hsl := Nat.le_of_ble_eq_true hsl
    rcases hm with hm | ⟨hm, hm2⟩
    · have := Nat.eq_of_beq_eq_true hm
      subst this
      cases ha0
      exact hW.elim
    have hlk := w_nlk hm
    have hHq : ∀ (H : Heap) (locs : List Loc), va_S (gA G) s.heap H locs → ∀ q, q < G.1 → H[q]? = s.heap[q]? := fun H locs hS q hq => hS.2.1 q (Nat.lt_of_lt_of_le hq hz0) (Nat.not_le.mpr hq)
    rcases hm2 with (hm2 | hm2) | hm2 <;> (have := Nat.eq_of_beq_eq_true hm2; subst this)
    · obtain ⟨q, r, rfl, ha1⟩ := pR_inv ha0 hW
      obtain ⟨hq, ha2⟩ := cond_inv ha1 hW
      have hq : 900001 ≤ q := Nat.le_of_ble_eq_true hq
      have hP := go1_inv ha2 hW
      have hr4 : r.length ≤ 4 := by simp only [List.length_cons] at hsl; omega
      intro H locs cells slots lsM hH hS hL h1 h2
      have er : rho G q = adK (ix2 q) := (rho_str hq).trans (hG q hq)
      have el : lenS.getD (ix2 q) 0 = (txt q).length := by rw [← lenE _ (ix2_lt q), txt_ix]
      have hM := j_length (l := l) (B := G.1) (d := 0) (adK := adK) (adV := adV) (ix2_lt q)
      rw [el] at hM
      show W p l e R s m args below meth c H locs cells slots Q (F0 m (pcf k i) lsM (.ref (rho G q) :: r.map (rv G)))
      rw [er]
      refine j_callV (B := G.1) (y := yLen) (C := "java/lang/String") (ix := n) (n := 0) (nl' := 1) (d := 0 + 1) (as := []) (rest := r.map (rv G)) hx hb hml hL.2.1 hown hts SP_c hSX.1 (hHq H locs hS) hM (tb 795 (by decide +kernel) rfl) (tb 138 (by decide +kernel) rfl) hlk (tb 793 (by decide +kernel) rfl) (tb 794 (by decide +kernel) rfl)
        ⟨by decide, by decide, by decide +kernel⟩ (by omega) rfl rfl (vk_recv hSX.1.1 (ix2_lt q) hS) (cat8 hr4) d1 ⟨om_le h1 hP.2.1, om_le h2 hP.2.2⟩ ?_
      rw [← e1]
      exact hP.1 H locs cells slots lsM hH hS hL h1 h2
    · obtain ⟨x, r0, rfl, ha1⟩ := pI_inv ha0 hW
      obtain ⟨q, r, rfl, ha2⟩ := pR_inv ha1 hW
      obtain ⟨hq, ha3⟩ := cond_inv ha2 hW
      have hq : 900001 ≤ q := Nat.le_of_ble_eq_true hq
      obtain ⟨hob, hP⟩ := g1_inv ha3 hW
      have hr4 : r.length ≤ 4 := by simp only [List.length_cons] at hsl; omega
      have el : lenS.getD (ix2 q) 0 = (txt q).length := by rw [← lenE _ (ix2_lt q), txt_ix]
      have hin := ob_in hob
      have hx0 : ¬ x < 0 := fun z => hin (Or.inl z)
      have hxn : x.toNatClampNeg < (txt q).length := Nat.not_le.mp (fun z => hin (Or.inr z))
      rw [← el] at hin hxn
      have hx1 := lt_ofN (lenS_b (ix2_lt q)) hx0 hxn
      intro H locs cells slots lsM hH hS hL h1 h2
      have er : rho G q = adK (ix2 q) := (rho_str hq).trans (hG q hq)
      have hM := j_charAt (l := l) (B := G.1) (d := 0) (adK := adK) (adV := adV) (ix2_lt q) hin hx0 hx1 hxn
      rw [txt_ix] at hM
      show W p l e R s m args below meth c H locs cells slots Q (F0 m (pcf k i) lsM (.int x :: .ref (rho G q) :: r.map (rv G)))
      rw [er]
      refine j_callV (B := G.1) (y := yCharAt) (C := "java/lang/String") (ix := n) (n := 1) (nl' := 2) (d := 0 + 3) (as := [.int x]) (rest := r.map (rv G)) hx hb hml hL.2.1 hown hts SP_c hSX.1 (hHq H locs hS) hM (tb 805 (by decide +kernel) rfl) (tb 138 (by decide +kernel) rfl) hlk (tb 803 (by decide +kernel) rfl) (tb 804 (by decide +kernel) rfl)
        ⟨by decide, by decide, by decide +kernel⟩ (by omega) rfl rfl (vk_recv hSX.1.1 (ix2_lt q) hS) (cat8 hr4) d1 ⟨om_le h1 hP.2.1, om_le h2 hP.2.2⟩ ?_
      rw [← e1]
      exact hP.1 H locs cells slots lsM hH hS hL h1 h2
    · obtain ⟨x, r0, rfl, ha1⟩ := pI_inv ha0 hW
      obtain ⟨q, r, rfl, ha2⟩ := pR_inv ha1 hW
      obtain ⟨hq, ha3⟩ := cond_inv ha2 hW
      have hq : 900001 ≤ q := Nat.le_of_ble_eq_true hq
      obtain ⟨hob, hP⟩ := g1_inv ha3 hW
      have hr4 : r.length ≤ 4 := by simp only [List.length_cons] at hsl; omega
      rw [Bool.and_eq_true] at hob
      have hx0 : ¬ x < 0 := Int32.not_lt.mpr (of_decide_eq_true hob.1)
      intro H locs cells slots lsM hH hS hL h1 h2
      have er : rho G q = adK (ix2 q) := (rho_str hq).trans (hG q hq)
      have hM := j_idx1 (l := l) (B := G.1) (d := 0) (adK := adK) (adV := adV) (x := x) (ix2_lt q) hx0
      rw [txt_ix] at hM
      show W p l e R s m args below meth c H locs cells slots Q (F0 m (pcf k i) lsM (.int x :: .ref (rho G q) :: r.map (rv G)))
      rw [er]
      refine j_callV (B := G.1) (y := yIdx1) (C := "java/lang/String") (ix := n) (n := 1) (nl' := 2) (d := 0 + 3) (as := [.int x]) (rest := r.map (rv G)) hx hb hml hL.2.1 hown hts SP_c hSX.1 (hHq H locs hS) hM (tb 848 (by decide +kernel) rfl) (tb 138 (by decide +kernel) rfl) hlk (tb 846 (by decide +kernel) rfl) (tb 847 (by decide +kernel) rfl)
        ⟨by decide, by decide, by decide +kernel⟩ (by omega) rfl rfl (vk_recv hSX.1.1 (ix2_lt q) hS) (cat8 hr4) d1 ⟨om_le h1 hP.2.1, om_le h2 hP.2.2⟩ ?_
      rw [← e1]
      exact hP.1 H locs cells slots lsM hH hS hL h1 h2
