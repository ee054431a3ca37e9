/-! ===== the Sundays to come ===== -/
def FutK (ρ : Ru) (c : Cc) (K : Nat) (D : DD) : Prop := K ≤ 200 ∧ D 37 0 = nI K ∧ (∀ j, j ≤ K → ∀ p, p < 12 → D 44 (12 * j + p) = sunK ρ c j p ∧ D 45 (12 * j + p) = sunK ρ c j (24 + p)) ∧ PewsC 38 ρ (sunK ρ c K) D
def FrF (D D' : DD) : Prop := (∀ q, q < 37 ∨ 45 < q → q ≠ 5 → D' q = D q) ∧ ∀ i, 7 ≤ i → i < 357 → D' 5 i = D 5 i
theorem FrF.tr {A B C : DD} (h1 : FrF A B) (h2 : FrF B C) : FrF A C := ⟨fun q hq h5 => (h2.1 q hq h5).trans (h1.1 q hq h5), fun i a b => (h2.2 i a b).trans (h1.2 i a b)⟩
theorem FrP.f {D D' : DD} (h : FrP 38 D D') : FrF D D' := ⟨fun q hq h5 => h.1 q (by omega) h5, h.2⟩
def pkN (o p : Nat) (ρ : Ru) (c : Cc) : Nat → Nat
  | 0 => 0
  | k + 1 => pkN o p ρ c k + poN o p ρ (sunK ρ c k) (lineN ρ (sunK ρ c k) false ρ.1)
section FUT
variable {X : XS} {d u : Nat} {D : DD} {J : JJ} {σ : Sg} {ρ : Ru} {c : Cc} {P : Nat}
theorem c_nd {j : Nat} {cc : Cc} (hc : D 39 = cc) (hj : j ≤ 200) : ∃ D', EvM X d 11 [.ref 37, .int (nI j)] (hS u D J) = some (.inl none, hS u D' J) ∧ D' 37 0 = nI j ∧ (∀ p, p < 12 → D' 44 (12 * j + p) = cc p ∧ D' 45 (12 * j + p) = cc (24 + p)) ∧ (∀ i, i < 12 * j → D' 44 i = D 44 i ∧ D' 45 i = D 45 i) ∧ ∀ q, q ≠ 37 → q ≠ 44 → q ≠ 45 → D' q = D q := by
  refine ⟨ud (ucp (ucp D 39 0 44 (12 * j) 12) 39 24 45 (12 * j) 12) 37 0 (nI j), ?_, ud_at _ _ _ _, fun p hp => ⟨?_, ?_⟩, fun i hi => ⟨?_, ?_⟩, fun q q1 q2 q3 => by rw [ud_q q1, ucp_q q3, ucp_q q2]⟩
  · refine (e11_0 (nI j)).trans ?_
    rw [lm, nI_clamp (by omega), gd_t, gd_t]
    · simp only [Bool.and_eq_true]
      exact ⟨⟨⟨⟨by decide, decide_eq_true (nI_pos (by omega))⟩, by decide⟩, by decide⟩, Nat.ble_eq_true_of_le (by omega)⟩
    · simp only [Bool.and_eq_true]
      exact ⟨⟨⟨⟨by decide, decide_eq_true (nI_pos (by omega))⟩, by decide⟩, by decide⟩, Nat.ble_eq_true_of_le (by omega)⟩
  · rw [ud_q (by decide), ucp_q (by decide), ucp_in hp, hc, Nat.zero_add]
  · rw [ud_q (by decide), ucp_in hp, ucp_q (by decide), hc]
  · rw [ud_q (by decide), ucp_q (by decide), ucp_out (by omega)]
  · rw [ud_q (by decide), ucp_out (by omega), ucp_q (by decide)]
theorem c_reach {n : Nat} (hσ : SgOk σ) (hC : CI σ D) (hn : n ≤ 200) : Wp (EvM X (d + 5) 10 [.ref 37, .int (nI n)] (hS u D J)) (RV u J (fun D' => CI σ D' ∧ (∃ K, n ≤ K ∧ FutK σ.2.1 σ.2.2.1 K D') ∧ FrF D D')) := by
  have hg := Good.sunK hσ.2.1.1 hσ.2.2.1
  have ci : ∀ K (D' : DD), FutK σ.2.1 σ.2.2.1 K D' → FrF D D' → CI σ D' := by
    intro K D' hF hf
    obtain ⟨a1, a2, a3, a4, a5, a6, a7, a8, a9, a10, a11⟩ := hC
    have hq : ∀ q, q < 37 ∨ 45 < q → q ≠ 5 → D' q = D q := hf.1
    refine ⟨a1.mv (hq 0 (by omega) (by omega)) (hq 1 (by omega) (by omega)) (hq 2 (by omega) (by omega)), a2.mv (hq 3 (by omega) (by omega)) (fun q _ _ => hq q (by omega) (by omega)) hf.2, a3.mv (hq 26 (by omega) (by omega)) (hq 27 (by omega) (by omega)) (hq 28 (by omega) (by omega)), Or.inr ⟨K, hF⟩, a5.mv (hq 46 (by omega) (by omega)) (hq 47 (by omega) (by omega)), a6.mv (hq 48 (by omega) (by omega)) (hq 49 (by omega) (by omega)) (hq 50 (by omega) (by omega)) (hq 51 (by omega) (by omega)), a7.mv (hq 52 (by omega) (by omega)) (hq 53 (by omega) (by omega)), a8.mv (fun q _ _ => hq q (by omega) (by omega)), by rw [hq 32 (by omega) (by omega)]; exact a9, ?_, by rw [hq 56 (by omega) (by omega)]; exact a11⟩
    have e : D' 39 = sunK σ.2.1 σ.2.2.1 K := hF.2.2.2.1
    rw [e]; exact (hg K).2.1
  have ex : (if 200 < nI n then 200 else nI n) = nI n := if_neg (Int32.not_lt.mpr (nI_le (b := 200) hn (by decide)))
  have go : ∀ K (D1 : DD), FutK σ.2.1 σ.2.2.1 K D1 → FrF D D1 → Wp (Ev X (d + 5) 10 (16, [.ref 37, .int (nI n), .int (nI n), .null], [], hS u D1 J)) (RV u J (fun D' => CI σ D' ∧ (∃ K, n ≤ K ∧ FutK σ.2.1 σ.2.2.1 K D') ∧ FrF D D')) := by
    intro K D1 hF hf
    refine wp_eq (e10_16 _ _) ?_
    rw [hF.2.1, nI_1]
    by_cases hKn : n ≤ K
    · refine wp_eq (e10_21 _ _ _) (wp_t (nI_lt (by omega) (by have := hF.1; omega)) (wp_rV ⟨ci K D1 hF hf, ⟨K, hKn, hF⟩, hf⟩))
    · refine wp_loop (R := fun k (D2 : DD) => Ev X (d + 5) 10 (21, [.ref 37, .int (nI n), .int (nI n), .int (nI (k + 1))], [], hS u D2 J)) (fun k (D2 : DD) => FutK σ.2.1 σ.2.2.1 k D2 ∧ FrF D D2) n ?_ ?_ K D1 (by omega) ⟨hF, hf⟩
      · intro k D2 hk ⟨i1, i2⟩ ih
        refine wp_eq (e10_21 _ _ _) (wp_f (Int32.not_lt.mpr (nI_le (by omega) (by omega))) ?_)
        have hC2 : RulesC σ.2.1 D2 := hC.2.1.mv (i2.1 3 (by omega) (by omega)) (fun q _ _ => i2.1 q (by omega) (by omega)) i2.2
        refine wp_cV (s_goBy (d := d) (rain := false) (Or.inr (Or.inr rfl)) hσ.2.1 hC2 i1.2.2.2.1) (fun D3 h3 => ?_)
        obtain ⟨h31, -, -, -, h35⟩ := h3
        refine wp_eq (e10_28 _ _ _) ?_
        obtain ⟨D4, r, k1, k2, k3, k4⟩ := c_nd (X := X) (d := d + 4) (u := u) (J := J) (j := k + 1) (cc := sunK σ.2.1 σ.2.2.1 (k + 1)) h31.1 (by omega)
        refine wp_vE r ?_
        refine wp_eq (e10_31 _ _ _) ?_
        rw [nI_1]
        refine ih D4 ⟨⟨by omega, k1, fun j hj p hp => ?_, h31.mv (k4 39 (by decide) (by decide) (by decide)) (k4 40 (by decide) (by decide) (by decide)) (k4 41 (by decide) (by decide) (by decide))⟩, i2.tr (h35.f.tr ⟨fun q hq _ => k4 q (by omega) (by omega) (by omega), fun i _ _ => by rw [k4 5 (by decide) (by decide) (by decide)]⟩)⟩
        by_cases hjk : j = k + 1
        · rw [hjk]; exact k2 p hp
        · obtain ⟨m1, m2⟩ := k3 (12 * j + p) (by omega)
          rw [m1, m2, h35.1 44 (by omega) (by omega), h35.1 45 (by omega) (by omega)]
          exact i1.2.2.1 j (by omega) p hp
      · intro D2 ⟨i1, i2⟩
        exact wp_eq (e10_21 _ _ _) (wp_t (nI_lt (by omega) (by omega)) (wp_rV ⟨ci n D2 i1 i2, ⟨n, Nat.le_refl _, i1⟩, i2⟩))
  refine wp_eq (e10_0 _) ?_
  rw [ex]
  rcases hC.2.2.2.1 with h0 | ⟨K, hF⟩
  · rw [h0]
    refine wp_f (by decide) ?_
    refine wp_cV (s_copy (P := 38) (Or.inr (Or.inr rfl)) (by decide) hC.2.2.1 hσ.2.2.1.1.2.2.2.1 (by rw [hC.2.2.1.1]; exact hσ.2.2.1.2.1) hC.2.2.2.2.2.2.2.2.2.1) (fun D1 h1 => ?_)
    obtain ⟨h11, -, h13⟩ := h1
    refine wp_eq (e10_13 _ _) ?_
    obtain ⟨D4, r, k1, k2, k3, k4⟩ := c_nd (X := X) (d := d + 4) (u := u) (J := J) (j := 0) (cc := σ.2.2.1) h11.1 (by decide)
    refine wp_vE r ?_
    refine go 0 D4 ⟨by decide, k1, fun j hj p hp => ?_, h11.mv (k4 39 (by decide) (by decide) (by decide)) (k4 40 (by decide) (by decide) (by decide)) (k4 41 (by decide) (by decide) (by decide))⟩ (h13.f.tr ⟨fun q hq _ => k4 q (by omega) (by omega) (by omega), fun i _ _ => by rw [k4 5 (by decide) (by decide) (by decide)]⟩)
    have : j = 0 := by omega
    subst this
    exact k2 p hp
  · rw [hF.2.1]
    exact wp_t (nI_ne1 (by have := hF.1; omega)) (go K D hF ⟨fun _ _ _ => rfl, fun _ _ _ => rfl⟩)
/-- the reference tries in its second row -/
theorem m_tries (hn : ρ.1 ≤ 12) (hr : RowM 0 ρ c (D 78)) : Wp (EvM X d 211 [.ref 70] (hS u D J)) (RV u J (fun D' => RowM 85 ρ c (D' 78) ∧ (∀ i, i < 85 ∨ 170 ≤ i → D' 78 i = D 78 i) ∧ (∀ i, i < 144 → D' 80 i = 0) ∧ ∀ q, q ≠ 78 → q ≠ 80 → D' q = D q)) := by
  refine wp_eq e211_0 ?_
  refine wp_loop (R := fun k (D1 : DD) => Ev X d 211 (2, [.ref 70, .int (nI k)], [], hS u D1 J)) (fun k (D1 : DD) => (∀ i, i < k → D1 78 (85 + i) = D 78 i) ∧ (∀ i, i < 85 ∨ 170 ≤ i → D1 78 i = D 78 i) ∧ ∀ q, q ≠ 78 → D1 q = D q) 85 ?_ ?_ 0 D (by decide) ⟨fun i hi => absurd hi (Nat.not_lt_zero i), fun _ _ => rfl, fun _ _ => rfl⟩
  · intro k D1 hk ⟨i1, i2, i3⟩ ih
    refine wp_eq (e211_2 _) (wp_f (nI_ge (b := 85) hk (by decide)) ?_)
    rw [la, nI_clamp (by omega), nI_clamp (by omega), nI_1, i2 k (Or.inl hk)]
    refine oG (by omega) (by decide) (oG (by omega) (by decide) ?_)
    refine ih _ ⟨fun i hi => ?_, fun i hi => by rw [ud_k (by omega)]; exact i2 i hi, fun q hq => by rw [ud_q hq]; exact i3 q hq⟩
    by_cases hik : i = k
    · rw [hik, ud_at]
    · rw [ud_k (by omega)]; exact i1 i (by omega)
  · intro D1 ⟨i1, i2, i3⟩
    refine wp_eq (e211_2 _) (wp_t (nI_le (a := 85) (Nat.le_refl _) (by decide)) ?_)
    refine wp_loop (R := fun k (D2 : DD) => Ev X d 211 (19, [.ref 70, .int (nI k)], [], hS u D2 J)) (fun k (D2 : DD) => (∀ i, i < k → D2 80 i = 0) ∧ ∀ q, q ≠ 80 → D2 q = D1 q) 144 ?_ ?_ 0 D1 (by decide) ⟨fun i hi => absurd hi (Nat.not_lt_zero i), fun _ _ => rfl⟩
    · intro k D2 hk ⟨j1, j2⟩ ih
      refine wp_eq (e211_19 _) (wp_f (nI_ge (b := 144) hk (by decide)) ?_)
      rw [nI_clamp (by omega), nI_1]
      refine oG hk (by decide) ?_
      refine ih _ ⟨fun i hi => ?_, fun q hq => by rw [ud_q hq]; exact j2 q hq⟩
      by_cases hik : i = k
      · rw [hik, ud_at]
      · rw [ud_k hik]; exact j1 i (by omega)
    · intro D2 ⟨j1, j2⟩
      refine wp_eq (e211_19 _) (wp_t (nI_le (a := 144) (Nat.le_refl _) (by decide)) (wp_rV ⟨?_, fun i hi => by rw [j2 78 (by decide)]; exact i2 i hi, j1, fun q q1 q2 => by rw [j2 q q2]; exact i3 q q1⟩))
      refine hr.copy hn (fun i hi => ?_)
      rw [j2 78 (by decide), i1 i hi, Nat.zero_add]
def GoM (ρ : Ru) (c : Cc) (n : Nat) (D D' : DD) : Prop := RowM 85 ρ (sunK ρ c n) (D' 78) ∧ (∀ o p, o < 12 → p < 12 → D' 80 (12 * o + p) = nI (pkN o p ρ c n)) ∧ FrM 85 D D'
theorem m_goes {n : Nat} (hR : RuOk ρ) (hG : Good ρ c) (hC : RulesM ρ D) (hr : RowM 0 ρ c (D 78)) (hra : D 70 43 = 0) (hn' : n < 2 ^ 31) : Wp (EvM X (d + 7) 229 [.ref 70, .int (nI n)] (hS u D J)) (RV u J (GoM ρ c n D)) := by
  have hn := hR.1.1
  have hg := Good.sunK hR.1 hG
  refine wp_eq (e229_0 _) ?_
  refine wp_cV (m_tries hn hr) (fun D1 h1 => ?_)
  obtain ⟨t1, t2, t3, t4⟩ := h1
  have f1 : FrM 85 D D1 := ⟨fun q q1 q2 q3 => t4 q q2 (by omega), fun i hi => t2 i (by omega), fun k _ _ _ _ => by rw [t4 70 (by decide) (by decide)]⟩
  refine wp_eq (e229_2 _) ?_
  refine wp_loop (R := fun k (D2 : DD) => Ev X (d + 7) 229 (4, [.ref 70, .int (nI n), .int (nI k)], [], hS u D2 J)) (fun k (D2 : DD) => GoM ρ c k D D2) n ?_ ?_ 0 D1 (Nat.zero_le _) ⟨t1, fun o p ho hp => by rw [t3 _ (by omega)]; rfl, f1⟩
  · intro k D2 hk ⟨i1, i2, i3⟩ ih
    refine wp_eq (e229_4 _ _) (wp_f (nI_ge hk hn') ?_)
    have e43 : D2 70 43 = bI32 false := by
      rw [i3.2.2 43 (by decide) (by decide) (by decide) (by decide)]
      exact hra
    refine wp_cV (s_sunday (d := d) (b := 85) (rain := false) (Or.inr rfl) hR (hC.fr i3) i1 (hg k).1.v (hg k).bz e43) (fun D3 h3 => ?_)
    obtain ⟨s1, s2, -, -, s5⟩ := h3
    refine wp_eq (e229_10 _ _) ?_
    rw [nI_1]
    exact ih D3 ⟨s1, fun o p ho hp => by rw [s2 o p ho hp, i2 o p ho hp, nI_add]; rfl, i3.tr s5⟩
  · intro D2 h2
    exact wp_eq (e229_4 _ _) (wp_t (nI_le (Nat.le_refl _) hn') (wp_rV h2))
theorem GoM.mi {n : Nat} {D' : DD} (h : GoM σ.2.1 σ.2.2.1 n D D') (hM : MI σ D) (hn : σ.2.1.1 ≤ 12) : MI σ D' :=
  hM.mv (fun k k1 k2 k3 => h.2.2.2.2 k (by omega) (by omega) (by omega) (by omega)) (fun i hi => h.2.2.2.1 i (by omega)) (fun q hq => h.2.2.1 q (by omega) (by omega) (by omega)) hn
theorem m_soon {x a k : Int32} (h0 : D 70 0 = 0) (hk : k ≠ 0) : ((¬ x < a ∧ ¬ 100 < x) → EvM X (d + 1) 236 [.ref 70, .int x, .int a, .int k] (hS u D J) = some (.inl (some (.int 1)), hS u D J)) ∧ (¬ (¬ x < a ∧ ¬ 100 < x) → EvM X (d + 1) 236 [.ref 70, .int x, .int a, .int k] (hS u D J) = some (.inl (some (.int 0)), hS u (ud D 70 0 k) J)) := by
  have e : EvM X (d + 1) 236 [.ref 70, .int x, .int a, .int k] (hS u D J) = _ := e236_0 x a k
  rw [m_within] at e
  have e : EvM X (d + 1) 236 [.ref 70, .int x, .int a, .int k] (hS u D J) = Ev X (d + 1) 236 (5, [.ref 70, .int x, .int a, .int k], [.int (if ¬ x < a ∧ ¬ 100 < x then 1 else 0), .ref 70], hS u D J) := e
  constructor
  · intro h
    rw [e, if_pos h, e236_5, (m_right h0 hk).1 (by decide)]
    show Ev X (d + 1) 236 (7, [.ref 70, .int x, .int a, .int k], [.int 1], hS u D J) = _
    rw [e236_7]
    exact gd_t (by decide)
  · intro h
    rw [e, if_neg h, e236_5, (m_right h0 hk).2 rfl]
    show Ev X (d + 1) 236 (7, [.ref 70, .int x, .int a, .int k], [.int 0], hS u (ud D 70 0 k) J) = _
    rw [e236_7]
    exact gd_t (by decide)
theorem c_what {x k : Int32} : ((¬ x < 0 ∧ ¬ k < x) ∧ EvM X d 165 [.int x, .int k] (hS u D J) = some (.inl none, hS u D J)) ∨ (¬ (¬ x < 0 ∧ ¬ k < x) ∧ EvM X d 165 [.int x, .int k] (hS u D J) = some (.inr 1, hS (u + 1) D J)) := by
  have e : EvM X d 165 [.int x, .int k] (hS u D J) = _ := e165_0 x k
  by_cases h1 : x < 0
  · exact Or.inr ⟨fun z => z.1 h1, by rw [e, brT h1]⟩
  · by_cases h2 : k < x
    · exact Or.inr ⟨fun z => z.2 h2, by rw [e, brF h1, brF (Int32.not_le.mpr h2)]⟩
    · exact Or.inl ⟨⟨h1, h2⟩, by rw [e, brF h1, brT (Int32.not_lt.mp h2)]⟩
theorem c_within {x a b : Int32} : ((¬ x < a ∧ ¬ b < x) ∧ EvM X d 166 [.int x, .int a, .int b] (hS u D J) = some (.inl none, hS u D J)) ∨ (¬ (¬ x < a ∧ ¬ b < x) ∧ EvM X d 166 [.int x, .int a, .int b] (hS u D J) = some (.inr 2, hS (u + 1) D J)) := by
  have e : EvM X d 166 [.int x, .int a, .int b] (hS u D J) = _ := e166_0 x a b
  by_cases h1 : x < a
  · exact Or.inr ⟨fun z => z.1 h1, by rw [e, brT h1]⟩
  · by_cases h2 : b < x
    · exact Or.inr ⟨fun z => z.2 h2, by rw [e, brF h1, brF (Int32.not_le.mpr h2)]⟩
    · exact Or.inl ⟨⟨h1, h2⟩, by rw [e, brF h1, brT (Int32.not_lt.mp h2)]⟩
theorem c_pewOf {s : Int32} : EvM X d 167 [.int s] (hS u D J) = some (.inl (some (.int (pewO s))), hS u D J) := by
  refine (e167_0 s).trans ?_
  unfold pewO
  by_cases h : s < 0
  · rw [if_pos h, brF (Int32.not_le.mpr h)]
  · rw [if_neg h, brT (Int32.not_lt.mp h)]
theorem c_seatOf {s : Int32} : EvM X d 168 [.int s] (hS u D J) = some (.inl (some (.int (seatO s))), hS u D J) := by
  refine (e168_0 s).trans ?_
  unfold seatO
  by_cases h : s < 0
  · rw [if_pos h, brF (Int32.not_le.mpr h)]
  · rw [if_neg h, brT (Int32.not_lt.mp h)]
theorem sun_mv (hR : Ru0 ρ) (c : Cc) {p : Nat} (hp : p < 12) : sunN ρ false c (36 + p) = c (36 + p) + sunN ρ false c (24 + p) := by
  obtain ⟨-, -, -, -, k5⟩ := sits_ok hR (c := c) (line_D hR.1 c false) _ (Nat.le_refl _)
  obtain ⟨m1, m2⟩ := k5 p hp
  show endN ρ _ (36 + p) = _ + endN ρ _ (24 + p)
  rw [endN_spot (by omega), endN_spot (by omega), m1, m2]
end FUT
