/-! ===== front, first, together ===== -/
section FRONT
variable {X : XS} {d u : Nat} {D D1 : DD} {J : JJ} {σ : Sg} {ρ : Ru} {c : Cc} {K : Nat}
theorem m_try0 (hn : ρ.1 ≤ 12) (hr : RowM 0 ρ c (D 78)) : Wp (EvM X d 211 [.ref 70] (hS u D J)) (RV u J (GoM ρ c 0 D)) := by
  obtain ⟨y, h1, D1, rfl, t1, t2, t3, t4⟩ := m_tries (X := X) (d := d) (u := u) (J := J) hn hr
  exact ⟨_, h1, D1, rfl, t1, fun o p ho hp => by rw [t3 _ (by omega)]; rfl, fun q q1 q2 q3 => t4 q q2 (by omega), fun i hi => t2 i (by omega), fun k _ _ _ _ => by rw [t4 70 (by decide) (by decide)]⟩
theorem m_step {k : Nat} (hR : RuOk ρ) (hG : Good ρ c) (hC : RulesM ρ D) (hra : D 70 43 = 0) (hI : GoM ρ c k D D1) : Wp (EvM X (d + 6) 228 [.ref 70, .int 85] (hS u D1 J)) (RV u J (GoM ρ c (k + 1) D)) := by
  obtain ⟨i1, i2, i3⟩ := hI
  have hg := Good.sunK hR.1 hG k
  have e43 : D1 70 43 = bI32 false := by
    rw [i3.2.2 43 (by decide) (by decide) (by decide) (by decide)]
    exact hra
  obtain ⟨y, h1, D2, rfl, s1, s2, -, -, s5⟩ := s_sunday (X := X) (d := d) (u := u) (J := J) (b := 85) (rain := false) (Or.inr rfl) hR (hC.fr i3) i1 hg.1.v hg.bz e43
  exact ⟨_, h1, D2, rfl, s1, fun o p ho hp => by rw [s2 o p ho hp, i2 o p ho hp, nI_add]; rfl, i3.tr s5⟩
theorem GoM.fin {n : Nat} {r : Int32} (hM0 : MI σ (ud D 70 0 0)) (hn : σ.2.1.1 ≤ 12) (h1 : GoM σ.2.1 σ.2.2.1 n (ud D 70 0 0) D1) : Wp (some (.inl (some (.int r)), hS u D1 J)) (MR σ D u J r 0) :=
  wp_mr (h1.mi hM0 hn) (by rw [h1.2.2.2.2 0 (by decide) (by decide) (by decide) (by decide)]; exact ud_at D 70 0 0) (fun q hq => by rw [h1.2.2.1 q (by omega) (by omega) (by omega), ud_q (by omega)])
def fr0 (ρ : Ru) (c : Cc) (p k : Nat) : Bool := decide (pewO (sunK ρ c k p) = 0)
def frN (ρ : Ru) (c : Cc) (p n : Nat) : Nat := cntN (fun k => fr0 ρ c p (k + 1)) n
theorem frN_s (p n : Nat) : frN ρ c p (n + 1) = (if fr0 ρ c p (n + 1) = true then frN ρ c p n + 1 else frN ρ c p n) := by
  unfold frN
  rw [cntN]
  cases fr0 ρ c p (n + 1) <;> simp
theorem m_frontBy {p n : Nat} (hR : RuOk ρ) (hG : Good ρ c) (hC : RulesM ρ D) (hra : D 70 43 = 0) (hI : GoM ρ c 0 D D1) (hp : p < ρ.1) (hn' : n < 2 ^ 31) : Wp (EvM X (d + 7) 250 [.ref 70, .int (nI p), .int (nI n)] (hS u D1 J)) (RI u J (fun y D' => y = nI (frN ρ c p n) ∧ GoM ρ c n D D')) := by
  have hn := hR.1.1
  refine wp_eq (e250_0 _ _) ?_
  refine wp_loop (R := fun k (D2 : DD) => Ev X (d + 7) 250 (4, [.ref 70, .int (nI p), .int (nI n), .int (nI (frN ρ c p k)), .int (nI k)], [], hS u D2 J)) (fun k (D2 : DD) => GoM ρ c k D D2) n ?_ ?_ 0 D1 (Nat.zero_le _) hI
  · intro k D2 hk hI2 ih
    refine wp_eq (e250_4 _ _ _ _) (wp_f (nI_ge hk hn') ?_)
    refine wp_cV (m_step (d := d) hR hG hC hra hI2) (fun D3 h3 => ?_)
    refine wp_eq (e250_10 _ _ _ _) ?_
    obtain ⟨-, t2, -⟩ := h3.1.s hn hp
    have t2 : D3 78 (98 + p) = pewO (sunK ρ c (k + 1) p) := t2
    rw [la, nI_clamp (by omega), t2, nI_1]
    refine oG (by omega) (by decide) (wp_if (fun h => ?_) (fun h => ?_))
    · have := ih D3 h3
      rw [frN_s, if_neg (by unfold fr0; simp [h])] at this
      rw [Int32.add_zero]; exact this
    · have := ih D3 h3
      rw [frN_s, if_pos (by unfold fr0; simp [Classical.not_not.mp h])] at this
      rw [nI_1]; exact this
  · intro D2 h2
    exact wp_eq (e250_4 _ _ _ _) (wp_t (nI_le (Nat.le_refl _) hn') (wp_rI ⟨rfl, h2⟩))
theorem p_front {x y : Int32} (hσ : SgOk σ) : PairI σ (fun u J D => EvM X (d + 50) 124 [.ref 0, .int x, .int y] (hS u D J)) (fun u J D => EvM X (d + 50) 251 [.ref 70, .int x, .int y] (hS u D J)) nI xC := by
  have hn := hσ.2.1.1.1
  have h31 : σ.2.1.1 < 2 ^ 31 := by omega
  by_cases ix : isPe σ.2.1.1 x
  · by_cases iy : ¬ y < 1 ∧ ¬ 100 < y
    · obtain ⟨p, p1, rfl⟩ := id ix
      obtain ⟨n, -, n2, n3, rfl⟩ := nI_x (a := 1) (b := 100) (by decide) iy.1 iy.2
      refine ⟨.inl (nI (frN σ.2.1 σ.2.2.1 p n)), σ, hσ, fun u J D hC => ?_, fun u J D hM => ?_, by first | exact trivial | exact rfl | exact Or.inl rfl | exact Or.inr rfl⟩
      · refine wp_eq (e124_0 _ _) ?_
        rcases c_pers (X := X) (d := d + 49) (u := u) (J := J) (x := nI p) h31 hC.2.1.1 with ⟨_, g⟩ | ⟨g, _⟩
        · refine wp_vE g ?_
          refine wp_eq (e124_3 _ _) ?_
          rcases c_within (X := X) (d := d + 49) (u := u) (D := D) (J := J) (x := nI n) (a := 1) (b := 100) with ⟨_, g⟩ | ⟨g, _⟩
          · refine wp_vE g ?_
            refine wp_eq (e124_7 _ _) ?_
            refine wp_cV (c_reach (d := d + 44) hσ hC (show n ≤ 200 by omega)) (fun D1 h1 => ?_)
            obtain ⟨hC1, ⟨K, hK, hF⟩, hf⟩ := h1
            refine wp_eq (e124_11 _ _) ?_
            refine wp_loop (R := fun k (_ : Unit) => Ev X (d + 50) 124 (15, [.ref 0, .int (nI p), .int (nI n), .int (nI (frN σ.2.1 σ.2.2.1 p k)), .int (nI (k + 1))], [], hS u D1 J)) (fun _ _ => True) n ?_ ?_ 0 () (Nat.zero_le _) trivial
            · intro k _ hk _ ih
              refine wp_eq (e124_15 _ _ _ _) (wp_f (Int32.not_lt.mpr (nI_le (by omega) (by omega))) ?_)
              refine wp_iE (c_pewAt (d := d + 48) hF (show k + 1 ≤ K by omega) (show p < 12 by omega)) ?_
              refine wp_eq (e124_23 _ _ _ _ _) ?_
              rw [nI_1]
              refine wp_if (fun h => ?_) (fun h => ?_)
              · have := ih () trivial
                rw [frN_s, if_neg (by unfold fr0; simp [h])] at this
                exact this
              · have := ih () trivial
                rw [frN_s, if_pos (by unfold fr0; simp [Classical.not_not.mp h])] at this
                rw [nI_1]; exact this
            · intro _ _
              exact wp_eq (e124_15 _ _ _ _) (wp_t (nI_lt (by omega) (by omega)) (wp_cr hC1 (fun q hq => hf.1 q (by omega) (by omega))))
          · exact absurd iy g
        · exact absurd ix g
      · have hM0 := hM.th (v := 0) hn
        have h0 := ud_at D 70 0 0
        refine wp_eq (e251_0 _ _) ?_
        refine wp_iE ((m_pers (X := X) (d := d + 48) (u := u) (J := J) (x := nI p) h31 hM0.2.1.1 h0).1 ix) ?_
        refine wp_eq (e251_6 _ _ _) (wp_f (by decide) ?_)
        refine wp_iE ((m_soon (d := d + 48) h0 (by decide)).1 iy) ?_
        refine wp_eq (e251_12 _ _ _) (wp_t (by decide) ?_)
        refine wp_cV (m_try0 hn hM0.2.2.1) (fun D1 h1 => ?_)
        refine wp_eq (e251_17 _ _) ?_
        refine wp_cI (m_frontBy (d := d + 42) hσ.2.1 hσ.2.2.1 hM0.2.1 hM0.2.2.2.2.2.2 h1 p1 n3) (fun v D2 h2 => ?_)
        obtain ⟨rfl, h2⟩ := h2
        exact wp_eq (e251_21 _ _ _) (h2.fin hM0 hn)
    · refine ⟨.inr 2, σ, hσ, fun u J D hC => ?_, fun u J D hM => ?_, by first | exact trivial | exact rfl | exact Or.inl rfl | exact Or.inr rfl⟩
      · refine wp_eq (e124_0 _ _) ?_
        rcases c_pers (X := X) (d := d + 49) (u := u) (J := J) (x := x) h31 hC.2.1.1 with ⟨_, g⟩ | ⟨g, _⟩
        · refine wp_vE g ?_
          refine wp_eq (e124_3 _ _) ?_
          rcases c_within (X := X) (d := d + 49) (u := u) (D := D) (J := J) (x := y) (a := 1) (b := 100) with ⟨g, _⟩ | ⟨_, g⟩
          · exact absurd g iy
          · exact wp_vT g (wp_ct hC (fun _ _ => rfl))
        · exact absurd ix g
      · have hM0 := hM.th (v := 0) hn
        have h0 := ud_at D 70 0 0
        refine wp_eq (e251_0 _ _) ?_
        refine wp_iE ((m_pers (X := X) (d := d + 48) (u := u) (J := J) (x := x) h31 hM0.2.1.1 h0).1 ix) ?_
        refine wp_eq (e251_6 _ _ _) (wp_f (by decide) ?_)
        refine wp_iE ((m_soon (d := d + 48) h0 (by decide)).2 iy) ?_
        refine wp_eq (e251_12 _ _ _) (wp_f (by decide) ?_)
        exact wp_mr (hM0.th hn) (ud_at _ 70 0 2) (fun q hq => by rw [ud_q (by omega), ud_q (by omega)])
  · refine ⟨.inr 1, σ, hσ, fun u J D hC => ?_, fun u J D hM => ?_, by first | exact trivial | exact rfl | exact Or.inl rfl | exact Or.inr rfl⟩
    · refine wp_eq (e124_0 _ _) ?_
      rcases c_pers (X := X) (d := d + 49) (u := u) (J := J) (x := x) h31 hC.2.1.1 with ⟨g, _⟩ | ⟨_, g⟩
      · exact absurd g ix
      · exact wp_vT g (wp_ct hC (fun _ _ => rfl))
    · have hM0 := hM.th (v := 0) hn
      refine wp_eq (e251_0 _ _) ?_
      refine wp_iE ((m_pers (X := X) (d := d + 48) (u := u) (J := J) (x := x) h31 hM0.2.1.1 (ud_at D 70 0 0)).2 ix) ?_
      refine wp_eq (e251_6 _ _ _) (wp_t rfl ?_)
      exact wp_mr (hM0.th hn) (ud_at _ 70 0 1) (fun q hq => by rw [ud_q (by omega), ud_q (by omega)])
theorem p_first {x : Int32} (hσ : SgOk σ) : PairI σ (fun u J D => EvM X (d + 50) 125 [.ref 0, .int x] (hS u D J)) (fun u J D => EvM X (d + 50) 252 [.ref 70, .int x] (hS u D J)) nI xA := by
  have hn := hσ.2.1.1.1
  have h31 : σ.2.1.1 < 2 ^ 31 := by omega
  by_cases ix : isPe σ.2.1.1 x
  · obtain ⟨p, p1, rfl⟩ := id ix
    refine ⟨.inl (whoA (findN (fr0 σ.2.1 σ.2.2.1 p) 101 0)), σ, hσ, fun u J D hC => ?_, fun u J D hM => ?_, by first | exact trivial | exact rfl | exact Or.inl rfl | exact Or.inr rfl⟩
    · refine wp_eq (e125_0 _) ?_
      rcases c_pers (X := X) (d := d + 49) (u := u) (J := J) (x := nI p) h31 hC.2.1.1 with ⟨_, g⟩ | ⟨g, _⟩
      · refine wp_vE g ?_
        refine wp_eq (e125_3 _) ?_
        have main : ∀ (r k : Nat) (D1 : DD), k + r = 101 → CI σ D1 → FrF D D1 → Wp (Ev X (d + 50) 125 (5, [.ref 0, .int (nI p), .int (nI k)], [], hS u D1 J)) (CR σ D u J (.inl (whoA (findN (fr0 σ.2.1 σ.2.2.1 p) r k)))) := by
          intro r
          induction r with
          | zero =>
            intro k D1 hk hC1 hf
            exact wp_eq (e125_5 _ _) (wp_t (nI_lt (a := 100) (by omega) (by omega)) (wp_cr hC1 (fun q hq => hf.1 q (by omega) (by omega))))
          | succ r ih =>
            intro k D1 hk hC1 hf
            refine wp_eq (e125_5 _ _) (wp_f (Int32.not_lt.mpr (nI_le (b := 100) (by omega) (by decide))) ?_)
            refine wp_cV (c_reach (d := d + 44) hσ hC1 (show k ≤ 200 by omega)) (fun D2 h2 => ?_)
            obtain ⟨hC2, ⟨K, hK, hF⟩, hf2⟩ := h2
            refine wp_eq (e125_12 _ _) ?_
            refine wp_iE (c_pewAt (d := d + 48) hF hK (show p < 12 by omega)) ?_
            refine wp_eq (e125_17 _ _ _) ?_
            refine wp_if (fun h => ?_) (fun h => ?_)
            · rw [findN, if_neg (by unfold fr0; simp [h]), nI_1]
              exact ih (k + 1) D2 (by omega) hC2 (hf.tr hf2)
            · rw [findN, if_pos (by unfold fr0; simp [Classical.not_not.mp h])]
              exact wp_cr hC2 (fun q hq => (hf.tr hf2).1 q (by omega) (by omega))
        exact main 101 0 D rfl hC ⟨fun _ _ _ => rfl, fun _ _ _ => rfl⟩
      · exact absurd ix g
    · have hM0 := hM.th (v := 0) hn
      have h0 := ud_at D 70 0 0
      refine wp_eq (e252_0 _) ?_
      refine wp_iE ((m_pers (X := X) (d := d + 48) (u := u) (J := J) (x := nI p) h31 hM0.2.1.1 h0).1 ix) ?_
      refine wp_eq (e252_6 _ _) (wp_t (by decide) ?_)
      refine wp_cV (m_try0 hn hM0.2.2.1) (fun D1 h1 => ?_)
      refine wp_eq (e252_11 _) ?_
      have main : ∀ (r k : Nat) (D1 : DD), k + r = 101 → GoM σ.2.1 σ.2.2.1 k (ud D 70 0 0) D1 → Wp (Ev X (d + 50) 252 (13, [.ref 70, .int (nI p), .int (nI k)], [], hS u D1 J)) (MR σ D u J (whoA (findN (fr0 σ.2.1 σ.2.2.1 p) r k)) 0) := by
        intro r
        induction r with
        | zero =>
          intro k D1 hk h1
          exact wp_eq (e252_13 _ _) (wp_t (nI_lt (a := 100) (by omega) (by omega)) (h1.fin hM0 hn))
        | succ r ih =>
          intro k D1 hk h1
          refine wp_eq (e252_13 _ _) (wp_f (Int32.not_lt.mpr (nI_le (b := 100) (by omega) (by decide))) ?_)
          obtain ⟨-, t2, -⟩ := h1.1.s hn p1
          have t2 : D1 78 (98 + p) = pewO (sunK σ.2.1 σ.2.2.1 k p) := t2
          rw [la, nI_clamp (by omega), t2]
          refine oG (by omega) (by decide) (wp_if (fun h => ?_) (fun h => ?_))
          · refine wp_cV (m_step (d := d + 43) hσ.2.1 hσ.2.2.1 hM0.2.1 hM0.2.2.2.2.2.2 h1) (fun D2 h2 => ?_)
            refine wp_eq (e252_28 _ _) ?_
            rw [findN, if_neg (by unfold fr0; simp [h]), nI_1]
            exact ih (k + 1) D2 (by omega) h2
          · rw [findN, if_pos (by unfold fr0; simp [Classical.not_not.mp h])]
            exact h1.fin hM0 hn
      exact main 101 0 D1 rfl h1
  · refine ⟨.inr 1, σ, hσ, fun u J D hC => ?_, fun u J D hM => ?_, by first | exact trivial | exact rfl | exact Or.inl rfl | exact Or.inr rfl⟩
    · refine wp_eq (e125_0 _) ?_
      rcases c_pers (X := X) (d := d + 49) (u := u) (J := J) (x := x) h31 hC.2.1.1 with ⟨g, _⟩ | ⟨_, g⟩
      · exact absurd g ix
      · exact wp_vT g (wp_ct hC (fun _ _ => rfl))
    · have hM0 := hM.th (v := 0) hn
      refine wp_eq (e252_0 _) ?_
      refine wp_iE ((m_pers (X := X) (d := d + 48) (u := u) (J := J) (x := x) h31 hM0.2.1.1 (ud_at D 70 0 0)).2 ix) ?_
      refine wp_eq (e252_6 _ _) (wp_f (by decide) ?_)
      exact wp_mr (hM0.th hn) (ud_at _ 70 0 1) (fun q hq => by rw [ud_q (by omega), ud_q (by omega)])
end FRONT
