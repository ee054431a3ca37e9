/-! ===== the class's chapel: what it leaves ===== -/
section CCH2
variable {X : XS} {d u : Nat} {D D' : DD} {J : JJ} {σ : Sg} {ns ss n : Nat}
theorem ucp0 {s q n i : Nat} (h : i < n) : ucp D s 0 q 0 n q i = D s i := by
  have := ucp_in (D := D) (s := s) (sp := 0) (q := q) (dp := 0) h
  rwa [Nat.zero_add] at this
theorem cp_g {a b N : Nat} (h : a + b ≤ N) (hb : b < 2 ^ 31) (ha : ¬ (OfNat.ofNat a : Int32) < 0) : (decide (¬ (OfNat.ofNat a : Int32) < 0) && decide (¬ (OfNat.ofNat a : Int32) < 0) && decide (¬ nI b < 0) && Nat.ble (a + b) N && Nat.ble (a + b) N) = true := by
  rw [decide_eq_true ha, decide_eq_true (nI_pos hb), Nat.ble_eq_true_of_le h]; rfl
theorem c_copyR {b0 : Nat} (hC : Cn b0 D ns ss) : Wp (EvM X d 85 [.ref 3, .ref 13] (hS u D J)) (RV u J (fun D' => D' 3 0 = D 13 0 ∧ D' 3 1 = D 13 1 ∧ (∀ i, i < 12 → D' 4 i = D 14 i) ∧ (∀ i, 7 ≤ i → i < 7 + ns → D' 5 i = D 15 i) ∧ (∀ i, i < ss → D' 6 i = D 16 i ∧ D' 7 i = D 17 i ∧ D' 8 i = D 18 i) ∧ (∀ i, i < 3 → D' 9 i = D 19 i ∧ D' 10 i = D 20 i ∧ D' 11 i = D 21 i) ∧ ∀ q, q < 3 ∨ 11 < q → D' q = D q)) := by
  obtain ⟨c1, c2, c3, c4, -⟩ := hC
  refine wp_eq (e85_0) (wp_eq (e85_4) (wp_eq (e85_8) (wp_eq (e85_12) ?_)))
  generalize hA : ud (ud (ud (ud D 3 0 (D 13 0)) 3 1 (ud D 3 0 (D 13 0) 13 1)) 3 4 (ud (ud D 3 0 (D 13 0)) 3 1 (ud D 3 0 (D 13 0) 13 1) 13 4)) 3 8 (ud (ud (ud D 3 0 (D 13 0)) 3 1 (ud D 3 0 (D 13 0) 13 1)) 3 4 (ud (ud D 3 0 (D 13 0)) 3 1 (ud D 3 0 (D 13 0) 13 1) 13 4) 13 8) = A
  have aq : ∀ q, q ≠ 3 → A q = D q := fun q hq => by rw [← hA, ud_q hq, ud_q hq, ud_q hq, ud_q hq]
  have a0 : A 3 0 = D 13 0 := by rw [← hA, ud_k (by decide), ud_k (by decide), ud_k (by decide), ud_at]
  have a1 : A 3 1 = D 13 1 := by rw [← hA, ud_k (by decide), ud_k (by decide), ud_at, ud_q (by decide)]
  have a4 : A 3 4 = nI ns := by rw [← hA, ud_k (by decide), ud_at, ud_q (by decide), ud_q (by decide)]; exact c1
  have a8 : A 3 8 = nI ss := by rw [← hA, ud_at, ud_q (by decide), ud_q (by decide), ud_q (by decide)]; exact c2
  clear hA
  refine wp_eq (e85_16) (wp_eq (e85_24) ?_)
  rw [ucp_q (show (3 : Nat) ≠ 4 by decide), a4, nI_clamp (by omega)]
  refine wp_gd (cp_g (a := 7) (by omega) (by omega) (by decide)) ?_
  refine wp_eq (e85_33) ?_
  rw [ucp_q (show (3 : Nat) ≠ 5 by decide), ucp_q (show (3 : Nat) ≠ 4 by decide), a8, nI_clamp (by omega)]
  refine wp_gd (cp_g (a := 0) (by omega) (by omega) (by decide)) ?_
  refine wp_eq (e85_42) ?_
  rw [ucp_q (show (3 : Nat) ≠ 6 by decide), ucp_q (show (3 : Nat) ≠ 5 by decide), ucp_q (show (3 : Nat) ≠ 4 by decide), a8, nI_clamp (by omega)]
  refine wp_gd (cp_g (a := 0) (by omega) (by omega) (by decide)) ?_
  refine wp_eq (e85_51) ?_
  rw [ucp_q (show (3 : Nat) ≠ 7 by decide), ucp_q (show (3 : Nat) ≠ 6 by decide), ucp_q (show (3 : Nat) ≠ 5 by decide), ucp_q (show (3 : Nat) ≠ 4 by decide), a8, nI_clamp (by omega)]
  refine wp_gd (cp_g (a := 0) (by omega) (by omega) (by decide)) ?_
  refine wp_eq (e85_60) (wp_eq (e85_68) (wp_eq (e85_76) (wp_eq (e85_84) ?_)))
  refine wp_rV ⟨?_, ?_, fun i hi => ?_, fun i i1 i2 => ?_, fun i hi => ⟨?_, ?_, ?_⟩, fun i hi => ⟨?_, ?_, ?_⟩, fun q hq => ?_⟩
  · rw [ucp_q (by decide), ucp_q (by decide), ucp_q (by decide), ucp_q (by decide), ucp_q (by decide), ucp_q (by decide), ucp_q (by decide), ucp_q (by decide)]; exact a0
  · rw [ucp_q (by decide), ucp_q (by decide), ucp_q (by decide), ucp_q (by decide), ucp_q (by decide), ucp_q (by decide), ucp_q (by decide), ucp_q (by decide)]; exact a1
  · rw [ucp_q (by decide), ucp_q (by decide), ucp_q (by decide), ucp_q (by decide), ucp_q (by decide), ucp_q (by decide), ucp_q (by decide), ucp0 hi, aq 14 (by decide)]
  · obtain ⟨j, rfl⟩ : ∃ j, i = 7 + j := ⟨i - 7, by omega⟩
    rw [ucp_q (by decide), ucp_q (by decide), ucp_q (by decide), ucp_q (by decide), ucp_q (by decide), ucp_q (by decide), ucp_in (by omega), ucp_q (by decide), aq 15 (by decide)]
  · rw [ucp_q (by decide), ucp_q (by decide), ucp_q (by decide), ucp_q (by decide), ucp_q (by decide), ucp0 hi, ucp_q (by decide), ucp_q (by decide), aq 16 (by decide)]
  · rw [ucp_q (by decide), ucp_q (by decide), ucp_q (by decide), ucp_q (by decide), ucp0 hi, ucp_q (by decide), ucp_q (by decide), ucp_q (by decide), aq 17 (by decide)]
  · rw [ucp_q (by decide), ucp_q (by decide), ucp_q (by decide), ucp0 hi, ucp_q (by decide), ucp_q (by decide), ucp_q (by decide), ucp_q (by decide), aq 18 (by decide)]
  · rw [ucp_q (by decide), ucp_q (by decide), ucp0 hi, ucp_q (by decide), ucp_q (by decide), ucp_q (by decide), ucp_q (by decide), ucp_q (by decide), aq 19 (by decide)]
  · rw [ucp_q (by decide), ucp0 hi, ucp_q (by decide), ucp_q (by decide), ucp_q (by decide), ucp_q (by decide), ucp_q (by decide), ucp_q (by decide), aq 20 (by decide)]
  · rw [ucp0 hi, ucp_q (by decide), ucp_q (by decide), ucp_q (by decide), ucp_q (by decide), ucp_q (by decide), ucp_q (by decide), ucp_q (by decide), aq 21 (by decide)]
  · rw [ucp_q (by omega), ucp_q (by omega), ucp_q (by omega), ucp_q (by omega), ucp_q (by omega), ucp_q (by omega), ucp_q (by omega), ucp_q (by omega)]; exact aq q (by omega)
theorem c_anew {p : Nat} (h3 : D 3 0 = nI p) (hp : p ≤ 12) : Wp (EvM X (d + 2) 34 [.ref 25] (hS u D J)) (RV u J (fun D' => (∀ i, D' 26 i = if 12 ≤ i ∧ i < 12 + p then D 4 (i - 12) else if i < 12 then -1 else if i < 73 then 0 else D 26 i) ∧ (∀ w, w < 12 → D' 28 w = 0) ∧ ∀ q, q ≠ 26 → q ≠ 28 → D' q = D q)) := by
  have P25 : isP 25 := Or.inl rfl
  refine wp_eq (e34_0 P25) ?_
  refine wp_cV (s_fill (Q := 26) (n := 73) (Or.inr (Or.inl ⟨rfl, rfl⟩))) (fun D1 h1 => ?_)
  obtain ⟨a1, a2, a3⟩ := h1
  refine wp_eq (e34_4 P25) ?_
  refine wp_cV (s_stand (d := d) P25) (fun D2 h2 => ?_)
  obtain ⟨b1, b2, b3⟩ := h2
  have b1 : D2 26 = resN (D1 26) := b1
  have e3 : D2 3 0 = nI p := by rw [b3 3 (by decide) (by decide), a3 3 (by decide)]; exact h3
  have e4 : D2 4 = D 4 := by rw [b3 4 (by decide) (by decide), a3 4 (by decide)]
  refine wp_eq (e34_6 P25) ?_
  rw [e3, nI_clamp (by omega)]
  refine wp_gd (by rw [decide_eq_true (show ¬ (0 : Int32) < 0 by decide), decide_eq_true (show ¬ (12 : Int32) < 0 by decide), decide_eq_true (nI_pos (show p < 2 ^ 31 by omega)), Nat.ble_eq_true_of_le (show 0 + p ≤ 12 by omega), Nat.ble_eq_true_of_le (show 12 + p ≤ 73 by omega)]; rfl) ?_
  refine wp_rV ⟨fun i => ?_, fun w hw => ?_, fun q q1 q2 => ?_⟩
  · show ucp D2 4 0 26 12 p 26 i = _
    by_cases h : 12 ≤ i ∧ i < 12 + p
    · rw [if_pos h]
      obtain ⟨j, rfl⟩ : ∃ j, i = 12 + j := ⟨i - 12, by omega⟩
      rw [ucp_in (by omega), e4, Nat.zero_add, Nat.add_sub_cancel_left]
    · rw [if_neg h, ucp_out (by omega), b1]
      unfold resN
      by_cases h12 : i < 12
      · rw [if_pos h12, if_pos h12]
      · rw [if_neg h12, if_neg h12]
        by_cases h73 : i < 73
        · rw [if_pos h73, a1 i h73]
          split <;> rfl
        · rw [if_neg h73, if_neg (by omega), a2 i (by omega)]
  · show ucp D2 4 0 26 12 p 28 w = 0
    rw [ucp_q (by decide)]; exact b2 w hw
  · show ucp D2 4 0 26 12 p q = D q
    rw [ucp_q q1, b3 q q1 q2, a3 q q1]
end CCH2
def chR (σ : Sg) (n : Nat) : (Int32 × Nat) ⊕ Ln := pText (kK σ.1.2.1 n) (vV σ.1.2.1 n)
def chS (σ : Sg) (n : Nat) : Sg := match chR σ n with
  | .inl (_, k) => ((0, σ.1.2.1, nI (tkN σ.1.2.1 n k), upd σ.1.2.2.2 0 (σ.1.2.2.2 0 + 1)), σ.2)
  | .inr s => ((0, σ.1.2.1, -1, σ.1.2.2.2), ruN s, cLn s, [], [], none)
def chX (σ : Sg) (n : Nat) : Int32 := match chR σ n with
  | .inl (e, _) => e
  | .inr _ => 0
section CCH3
variable {X : XS} {d u : Nat} {D D' : DD} {J : JJ} {σ : Sg} {n : Nat}
theorem ch_ok (X : XS) (hσ : SgOk σ) (hn : n ≤ σ.1.1) : SgOk (chS σ n) := by
  have h7 := hσ.1
  have hby : byB σ.1.2.1 := hσ.2.2.2.2.2.2
  unfold chS
  cases hr : chR σ n with
  | inl e =>
    obtain ⟨e, k⟩ := e
    exact ⟨Nat.zero_le _, hσ.2⟩
  | inr s =>
    obtain ⟨f1, f2, f3, f4⟩ := t_fact X (by omega) hby hr
    exact ⟨Nat.zero_le _, ru_ok f1 f3 f4, good_s f1 f2, ⟨Nat.zero_le _, fun a ha => absurd ha List.not_mem_nil⟩, ⟨Nat.zero_le _, fun a ha => absurd ha List.not_mem_nil⟩, fun m (hm : (none : Option Im) = some m) => (by cases hm), hby⟩
theorem c_chap (hσ : SgOk σ) (hC : CI σ D) (hn : n ≤ σ.1.1) : Wp (EvM X (d + 52) 102 [.ref 0, .int (nI n)] (hS u D J)) (CR (chS σ n) D u J (.inl (chX σ n))) := by
  have h7 := hσ.1
  have hby : byB σ.1.2.1 := hσ.2.2.2.2.2.2
  obtain ⟨⟨t1, t2, t3, t4⟩, i2, i3, i4, i5, i6, i7, i8, i9, i10, i11⟩ := id hC
  refine wp_eq (e102_0 _) (wp_f (nI_pos (by omega)) ?_)
  rw [t1]
  refine wp_t (nI_le hn (by omega)) ?_
  refine wp_cI (c_read (d := d) (t := σ.1.2.1) (by omega) hby (fun i hi => by rw [ud_q (by decide)]; exact t2 i (by omega))) (fun y D1 h1 => ?_)
  obtain ⟨f1, h1⟩ := h1
  have g0 : D1 0 = ud D 0 1 0 0 := f1 0 (by decide)
  have gq : ∀ q, q < 12 ∨ 24 < q → q ≠ 0 → D1 q = D q := fun q hq q0 => by rw [f1 q hq, ud_q q0]
  refine wp_eq (e102_18 _ _) ?_
  unfold chS chX
  have hr : chR σ n = pText (kK σ.1.2.1 n) (vV σ.1.2.1 n) := rfl
  rw [← hr] at h1
  cases hc : chR σ n with
  | inl e =>
    obtain ⟨e, k⟩ := e
    rw [hc] at h1
    obtain ⟨a1, a2, a3, a4, a5⟩ : y = e ∧ e ≠ 0 ∧ D1 12 5 = nI k ∧ k ≤ 700 ∧ D1 23 k = nI (tkN σ.1.2.1 n k) := h1
    subst a1
    refine wp_f a2 ?_
    have e61 : EvM X (d + 51) 61 [.ref 12] (hS u D1 J) = some (.inl (some (.int (nI (tkN σ.1.2.1 n k)))), hS u D1 J) := by
      refine (e61_0).trans ?_
      rw [a3, gd_t (ob_n (by omega) (by decide)), nI_clamp (by omega), a5]
    refine wp_iE e61 ?_
    refine wp_eq (e102_25 _ _ _) ?_
    generalize hD2 : ud (ud D1 0 2 (nI (tkN σ.1.2.1 n k))) 2 0 (ud D1 0 2 (nI (tkN σ.1.2.1 n k)) 2 0 + 1) = D2
    have r0 : ∀ q, q ≠ 0 → q ≠ 2 → D2 q = D1 q := fun q q1 q2 => by rw [← hD2, ud_q q2, ud_q q1]
    have rq : ∀ q, q < 12 ∨ 24 < q → q ≠ 0 → q ≠ 2 → D2 q = D q := fun q hq q1 q2 => by rw [r0 q q1 q2, gq q hq q1]
    have k2 : D1 2 = D 2 := gq 2 (by decide) (by decide)
    refine wp_cr ?_ (fun q hq => rq q (by omega) (by omega) (by omega))
    refine ⟨⟨?_, fun i hi => absurd hi (Nat.not_lt_zero i), ?_, fun j hj => ?_⟩, i2.mv (rq 3 (by decide) (by decide) (by decide)) (fun q q1 q2 => rq q (by omega) (by omega) (by omega)) (fun i _ _ => by rw [rq 5 (by decide) (by decide) (by decide)]), i3.mv (rq 26 (by decide) (by decide) (by decide)) (rq 27 (by decide) (by decide) (by decide)) (rq 28 (by decide) (by decide) (by decide)), i4.mv (fun q _ _ => rq q (by omega) (by omega) (by omega)), i5.mv (rq 46 (by decide) (by decide) (by decide)) (rq 47 (by decide) (by decide) (by decide)), i6.mv (rq 48 (by decide) (by decide) (by decide)) (rq 49 (by decide) (by decide) (by decide)) (rq 50 (by decide) (by decide) (by decide)) (rq 51 (by decide) (by decide) (by decide)), i7.mv (rq 52 (by decide) (by decide) (by decide)) (rq 53 (by decide) (by decide) (by decide)), i8.mv (fun q _ _ => rq q (by omega) (by omega) (by omega)), by rw [rq 32 (by decide) (by decide) (by decide)]; exact i9, by rw [rq 39 (by decide) (by decide) (by decide)]; exact i10, by rw [rq 56 (by decide) (by decide) (by decide)]; exact i11⟩
    · show D2 0 1 = 0
      rw [← hD2, ud_q (by decide), ud_k (by decide), g0, ud_at]
    · show D2 0 2 = nI (tkN σ.1.2.1 n k)
      rw [← hD2, ud_q (by decide), ud_at]
    · show D2 2 j = upd σ.1.2.2.2 0 (σ.1.2.2.2 0 + 1) j
      rw [← hD2]
      by_cases z : j = 0
      · rw [z, ud_at, upd_at, ud_q (by decide), k2, t4 0 (by decide)]
      · rw [ud_k z, upd_ne z, ud_q (by decide), k2]; exact t4 j hj
  | inr s =>
    rw [hc] at h1
    obtain ⟨a1, m, k, hL⟩ : y = 0 ∧ ∃ m k', LnC σ.1.2.1 n m s k' D1 := h1
    subst a1
    obtain ⟨-, -, l1, l2, l3, l4, ns, ss, c1, -, -, c4⟩ := hL
    refine wp_t rfl ?_
    refine wp_cV (c_copyR (c1.mv (ud_q (by decide)))) (fun D2 h2 => ?_)
    obtain ⟨p0, p1, p2, p3, p4, p5, p6⟩ := h2
    simp only [ud_q (show (13 : Nat) ≠ 0 by decide), ud_q (show (14 : Nat) ≠ 0 by decide), ud_q (show (15 : Nat) ≠ 0 by decide), ud_q (show (16 : Nat) ≠ 0 by decide), ud_q (show (17 : Nat) ≠ 0 by decide), ud_q (show (18 : Nat) ≠ 0 by decide), ud_q (show (19 : Nat) ≠ 0 by decide), ud_q (show (20 : Nat) ≠ 0 by decide), ud_q (show (21 : Nat) ≠ 0 by decide)] at p0 p1 p2 p3 p4 p5
    rw [l1] at p0
    refine wp_eq (e102_45 _ _) ?_
    refine wp_cV (c_anew (d := d + 49) p0 l2) (fun D3 h3 => ?_)
    obtain ⟨q0, q1, q2⟩ := h3
    refine wp_eq (e102_48 _ _) ?_
    have e103 : ∀ A : DD, EvM X (d + 51) 103 [.ref 0] (hS u A J) = some (.inl none, hS u (ud (ud A 37 0 (-1)) 52 0 0) J) := fun A => e103_0
    refine wp_vE (e103 _) ?_
    refine wp_eq (e102_62 _ _) ?_
    generalize hD4 : ud (ud (ud (ud (ud D3 46 0 0) 48 0 0) 55 0 0) 37 0 (-1)) 52 0 0 = D4
    have r3 : ∀ q, q ≠ 46 → q ≠ 48 → q ≠ 55 → q ≠ 37 → q ≠ 52 → D4 q = D3 q := fun q z1 z2 z3 z4 z5 => by rw [← hD4, ud_q z5, ud_q z4, ud_q z3, ud_q z2, ud_q z1]
    have r2 : ∀ q, q < 26 → D4 q = D2 q := fun q hq => by rw [r3 q (by omega) (by omega) (by omega) (by omega) (by omega), q2 q (by omega) (by omega)]
    have rD : ∀ q, 24 < q → q ≠ 26 → q ≠ 28 → q ≠ 46 → q ≠ 48 → q ≠ 55 → q ≠ 37 → q ≠ 52 → D4 q = D q := fun q z0 y1 y2 z1 z2 z3 z4 z5 => by rw [r3 q z1 z2 z3 z4 z5, q2 q y1 y2, p6 q (by omega), ud_q (by omega), gq q (by omega) (by omega)]
    have d0 : D4 0 = ud D1 0 2 (-1) 0 := by rw [r2 0 (by decide), p6 0 (by decide)]
    have d26 : D2 26 = D 26 := by rw [p6 26 (by decide), ud_q (by decide), gq 26 (by decide) (by decide)]
    have e26 : D4 26 = cLn s := by
      funext i
      rw [r3 26 (by decide) (by decide) (by decide) (by decide) (by decide), q0 i]
      unfold cLn
      by_cases z1 : i < 12
      · rw [if_neg (by omega), if_pos z1, if_pos z1]
      · rw [if_neg z1, if_neg z1]
        by_cases z2 : i < 12 + s.1
        · rw [if_pos ⟨by omega, z2⟩, if_pos z2, p2 (i - 12) (by omega)]; exact (l3 (i - 12) (by omega)).1
        · rw [if_neg (fun z => z2 z.2), if_neg z2]
          by_cases z3 : i < 73
          · rw [if_pos z3]
          · rw [if_neg z3, d26]
            have e : D 26 = σ.2.2.1 := i3.1
            rw [e]; exact hσ.2.2.1.2.1 i (by omega)
    have hru : ∀ r, r < 3 → rulC r (s.2.2.2 r) D4 := fun r hr => by
      have h := c4 r hr
      obtain ⟨w9, w10, w11⟩ := p5 r hr
      have g9 : D4 9 r = D1 19 r := by rw [r2 9 (by decide)]; exact w9
      have g10 : D4 10 r = D1 20 r := by rw [r2 10 (by decide)]; exact w10
      have g11 : D4 11 r = D1 21 r := by rw [r2 11 (by decide)]; exact w11
      cases hs : s.2.2.2 r with
      | none =>
        rw [hs] at h
        show D4 11 r = -1
        rw [g11]; exact h
      | some f =>
        rw [hs] at h
        obtain ⟨b, e, root, x1, x2, x3, x4, x5, x6, x7⟩ := h
        have y1 := c1.2.2.1
        have y2 := c1.2.2.2.1
        have hroot : root < 2 ^ 31 := by rcases x6.1 with z | z <;> omega
        refine ⟨by rw [g11, x1]; exact nI_ne1 hroot, ?_⟩
        refine giveC hr (g9.trans x2) (g10.trans x3) (g11.trans x1) x4 (by omega) y1 x6.1 (fun i i1 i2 => ?_) (fun g hg => ?_)
        · rw [r2 7 (by decide), r2 8 (by decide), (p4 i (by omega)).2.1, (p4 i (by omega)).2.2]; exact x7 i i1 i2
        · rw [← x6.2.2 g (fun i i1 i2 => by rw [hg i i1 i2, r2 5 (by decide)]; exact p3 i i1 i2)]
          rw [r2 6 (by decide), r2 7 (by decide), r2 8 (by decide), runR_cg (e - b) (fun i hi => p4 i (by omega))]
    refine wp_cr ?_ (fun q hq => rD q (by omega) (by omega) (by omega) (by omega) (by omega) (by omega) (by omega) (by omega))
    have hz : ∀ w, sizeN (ruN s) (cLn s) w = 0 := size_z (fun p hp => by
      have hp : p < s.1 := hp
      exact if_pos (by omega))
    refine ⟨⟨?_, fun i hi => absurd hi (Nat.not_lt_zero i), ?_, fun j hj => ?_⟩, ⟨?_, ?_, hru 0 (by decide), hru 1 (by decide), hru 2 (by decide)⟩, ⟨e26, fun w hw => ?_, fun w x _ hx => ?_⟩, Or.inl ?_, ⟨?_, ?_⟩, ⟨?_, fun j hj => absurd hj (Nat.not_lt_zero j)⟩, Or.inl ?_, ?_, ?_, ?_, ?_⟩
    · show D4 0 1 = 0
      rw [d0, ud_k (by decide), g0, ud_at]
    · show D4 0 2 = -1
      rw [d0, ud_at]
    · show D4 2 j = σ.1.2.2.2 j
      rw [r2 2 (by decide), p6 2 (by decide), ud_q (by decide), gq 2 (by decide) (by decide)]; exact t4 j hj
    · rw [r2 3 (by decide)]; exact p0
    · rw [r2 3 (by decide), p1]
      show D1 13 1 = nI (s.2.2.1.getD 12)
      cases hs : s.2.2.1 with
      | none => rw [hs] at l4; exact l4.2
      | some a => rw [hs] at l4; exact l4.2.1
    · rw [hz, r3 28 (by decide) (by decide) (by decide) (by decide) (by decide)]; exact q1 w hw
    · rw [hz] at hx; omega
    · rw [← hD4, ud_q (by decide), ud_at]
    · show D4 46 0 = 0
      rw [← hD4, ud_q (by decide), ud_q (by decide), ud_q (by decide), ud_q (by decide), ud_at]
    · obtain ⟨-, o, o1, o2, -⟩ := i5
      refine ⟨o, o1, ?_, fun j hj => absurd hj (Nat.not_lt_zero j)⟩
      rw [← hD4, ud_q (by decide), ud_q (by decide), ud_q (by decide), ud_q (by decide), ud_k (by decide), q2 46 (by decide) (by decide), p6 46 (by decide), ud_q (by decide), gq 46 (by decide) (by decide)]; exact o2
    · show D4 48 0 = 0
      rw [← hD4, ud_q (by decide), ud_q (by decide), ud_q (by decide), ud_at]
    · rw [← hD4, ud_at]
    · show D4 55 0 = 0
      rw [← hD4, ud_q (by decide), ud_q (by decide), ud_at]
    · rw [rD 32 (by decide) (by decide) (by decide) (by decide) (by decide) (by decide) (by decide) (by decide)]; exact i9
    · rw [rD 39 (by decide) (by decide) (by decide) (by decide) (by decide) (by decide) (by decide) (by decide)]; exact i10
    · rw [rD 56 (by decide) (by decide) (by decide) (by decide) (by decide) (by decide) (by decide) (by decide)]; exact i11
end CCH3
