/-! ===== together, neighbours, asNow ===== -/
def tgN (ρ : Ru) (c : Cc) (p q n : Nat) : Nat := cntN (fun k => inN (sunK ρ c (k + 1) p) (sunK ρ c (k + 1) q)) n
theorem tgN_T {ρ : Ru} {c : Cc} {p q n : Nat} (h : inN (sunK ρ c (n + 1) p) (sunK ρ c (n + 1) q) = true) : tgN ρ c p q (n + 1) = tgN ρ c p q n + 1 := by
  unfold tgN
  rw [cntN, h]; simp
theorem tgN_F {ρ : Ru} {c : Cc} {p q n : Nat} (h : inN (sunK ρ c (n + 1) p) (sunK ρ c (n + 1) q) = false) : tgN ρ c p q (n + 1) = tgN ρ c p q n := by
  unfold tgN
  rw [cntN, h]; simp
def nbR (ρ : Ru) (c : Cc) (p t : Nat) (v : Int32) : Nat → Int32
  | 0 => v
  | q + 1 => if bsB (sunK ρ c t p) (sunK ρ c t q) = true then nbR ρ c p t v q ||| bitN q else nbR ρ c p t v q
def nbT (ρ : Ru) (c : Cc) (p : Nat) : Nat → Int32
  | 0 => 0
  | t + 1 => nbR ρ c p t (nbT ρ c p t) ρ.1
section TOGE
variable {X : XS} {d u : Nat} {D D1 : DD} {J : JJ} {σ : Sg} {ρ : Ru} {c : Cc} {K : Nat}
theorem p_together {x y z : Int32} (hσ : SgOk σ) : PairI σ (fun u J D => EvM X (d + 50) 127 [.ref 0, .int x, .int y, .int z] (hS u D J)) (fun u J D => EvM X (d + 50) 256 [.ref 70, .int x, .int y, .int z] (hS u D J)) nI xC := by
  have hn := hσ.2.1.1.1
  have h31 : σ.2.1.1 < 2 ^ 31 := by omega
  have hg := Good.sunK hσ.2.1.1 hσ.2.2.1
  by_cases hx : isPe σ.2.1.1 x ∧ isPe σ.2.1.1 y
  · obtain ⟨ix, iy⟩ := hx
    by_cases iz : ¬ z < 1 ∧ ¬ 100 < z
    · obtain ⟨p, p1, rfl⟩ := id ix
      obtain ⟨q, q1, rfl⟩ := id iy
      obtain ⟨n, -, n2, n3, rfl⟩ := nI_x (a := 1) (b := 100) (by decide) iz.1 iz.2
      refine ⟨.inl (nI (tgN σ.2.1 σ.2.2.1 p q n)), σ, hσ, fun u J D hC => ?_, fun u J D hM => ?_, by first | exact trivial | exact rfl | exact Or.inl rfl | exact Or.inr rfl⟩
      · refine wp_eq (e127_0 _ _ _) ?_
        rcases c_pers (X := X) (d := d + 49) (u := u) (J := J) (x := nI p) h31 hC.2.1.1 with ⟨_, g⟩ | ⟨g, _⟩
        · refine wp_vE g ?_
          refine wp_eq (e127_3 _ _ _) ?_
          rcases c_pers (X := X) (d := d + 49) (u := u) (J := J) (x := nI q) h31 hC.2.1.1 with ⟨_, g⟩ | ⟨g, _⟩
          · refine wp_vE g ?_
            refine wp_eq (e127_6 _ _ _) ?_
            rcases c_within (X := X) (d := d + 49) (u := u) (D := D) (J := J) (x := nI n) (a := 1) (b := 100) with ⟨_, g⟩ | ⟨g, _⟩
            · refine wp_vE g ?_
              refine wp_eq (e127_10 _ _ _) ?_
              refine wp_cV (c_reach (d := d + 44) hσ hC (show n ≤ 200 by omega)) (fun D1 h1 => ?_)
              obtain ⟨hC1, ⟨K, hK, hF⟩, hf⟩ := h1
              refine wp_eq (e127_14 _ _ _) ?_
              refine wp_loop (R := fun k (_ : Unit) => Ev X (d + 50) 127 (18, [.ref 0, .int (nI p), .int (nI q), .int (nI n), .int (nI (tgN σ.2.1 σ.2.2.1 p q k)), .int (nI (k + 1)), .null], [], hS u D1 J)) (fun _ _ => True) n ?_ ?_ 0 () (Nat.zero_le _) trivial
              · intro k _ hk _ ih
                have ih := ih () trivial
                refine wp_eq (e127_18 _ _ _ _ _) (wp_f (Int32.not_lt.mpr (nI_le (by omega) (by omega))) ?_)
                refine wp_iE (c_pewAt (d := d + 48) hF (show k + 1 ≤ K by omega) (show p < 12 by omega)) ?_
                refine wp_eq (e127_26 _ _ _ _ _ _) ?_
                refine wp_if (fun h => ?_) (fun h => ?_)
                · refine wp_weak (ls := [.ref 0, .int (nI p), .int (nI q), .int (nI n), .int (nI (tgN σ.2.1 σ.2.2.1 p q k)), .int (nI (k + 1) + 1), .null]) (by simp [lle, lng]) ?_
                  rw [tgN_F (inN_F1 h)] at ih
                  rw [nI_1]; exact ih
                · refine wp_iE (c_pewAt (d := d + 48) hF (show k + 1 ≤ K by omega) (show q < 12 by omega)) ?_
                  refine wp_eq (e127_36 _ _ _ _ _ _ _ _) ?_
                  refine wp_if (fun h2 => ?_) (fun h2 => ?_)
                  · refine wp_weak (ls := [.ref 0, .int (nI p), .int (nI q), .int (nI n), .int (nI (tgN σ.2.1 σ.2.2.1 p q k)), .int (nI (k + 1) + 1), .null]) (by simp [lle, lng]) ?_
                    rw [tgN_F (inN_F2 h2)] at ih
                    rw [nI_1]; exact ih
                  · refine wp_weak (ls := [.ref 0, .int (nI p), .int (nI q), .int (nI n), .int (nI (tgN σ.2.1 σ.2.2.1 p q k) + 1), .int (nI (k + 1) + 1), .null]) (by simp [lle, lng]) ?_
                    rw [tgN_T (inN_T h (Classical.not_not.mp h2))] at ih
                    rw [nI_1, nI_1]; exact ih
              · intro _ _
                exact wp_eq (e127_18 _ _ _ _ _) (wp_t (nI_lt (by omega) (by omega)) (wp_cr hC1 (fun q hq => hf.1 q (by omega) (by omega))))
            · exact absurd iz g
          · exact absurd iy g
        · exact absurd ix g
      · have hM0 := hM.th (v := 0) hn
        have h0 := ud_at D 70 0 0
        refine wp_eq (e256_0 _ _ _) ?_
        refine wp_iE ((m_pers (X := X) (d := d + 48) (u := u) (J := J) (x := nI p) h31 hM0.2.1.1 h0).1 ix) ?_
        refine wp_eq (e256_6 _ _ _ _) (wp_f (by decide) ?_)
        refine wp_iE ((m_pers (X := X) (d := d + 48) (u := u) (J := J) (x := nI q) h31 hM0.2.1.1 h0).1 iy) ?_
        refine wp_eq (e256_10 _ _ _ _) (wp_f (by decide) ?_)
        refine wp_iE ((m_soon (d := d + 48) h0 (by decide)).1 iz) ?_
        refine wp_eq (e256_16 _ _ _ _) (wp_t (by decide) ?_)
        refine wp_cV (m_try0 hn hM0.2.2.1) (fun D1 h1 => ?_)
        refine wp_eq (e256_23 _ _ _ _) ?_
        refine wp_loop (R := fun k (D2 : DD) => Ev X (d + 50) 256 (25, [.ref 70, .int (nI p), .int (nI q), .int (nI n), .int (nI (tgN σ.2.1 σ.2.2.1 p q k)), .int (nI k)], [], hS u D2 J)) (fun k (D2 : DD) => GoM σ.2.1 σ.2.2.1 k (ud D 70 0 0) D2) n ?_ ?_ 0 D1 (Nat.zero_le _) h1
        · intro k D2 hk h2 ih
          refine wp_eq (e256_25 _ _ _ _ _) (wp_f (nI_ge hk n3) ?_)
          refine wp_cV (m_step (d := d + 43) hσ.2.1 hσ.2.2.1 hM0.2.1 hM0.2.2.2.2.2.2 h2) (fun D3 h3 => ?_)
          have ih := ih D3 h3
          refine wp_eq (e256_31 _ _ _ _ _) ?_
          refine wp_iE (m_inOne (b := 85) (Or.inr rfl) hn h3.1 p1 q1) ?_
          refine wp_eq (e256_37 _ _ _ _ _ _ _) ?_
          rw [nI_1]
          cases hi : inN (sunK σ.2.1 σ.2.2.1 (k + 1) p) (sunK σ.2.1 σ.2.2.1 (k + 1) q) with
          | false =>
            rw [tgN_F hi] at ih
            refine wp_t rfl ?_
            rw [Int32.add_zero]; exact ih
          | true =>
            rw [tgN_T hi] at ih
            refine wp_f (by decide) ?_
            rw [nI_1]; exact ih
        · intro D2 h2
          exact wp_eq (e256_25 _ _ _ _ _) (wp_t (nI_le (Nat.le_refl _) n3) (h2.fin hM0 hn))
    · refine ⟨.inr 2, σ, hσ, fun u J D hC => ?_, fun u J D hM => ?_, by first | exact trivial | exact rfl | exact Or.inl rfl | exact Or.inr rfl⟩
      · refine wp_eq (e127_0 _ _ _) ?_
        rcases c_pers (X := X) (d := d + 49) (u := u) (J := J) (x := x) h31 hC.2.1.1 with ⟨_, g⟩ | ⟨g, _⟩
        · refine wp_vE g ?_
          refine wp_eq (e127_3 _ _ _) ?_
          rcases c_pers (X := X) (d := d + 49) (u := u) (J := J) (x := y) h31 hC.2.1.1 with ⟨_, g⟩ | ⟨g, _⟩
          · refine wp_vE g ?_
            refine wp_eq (e127_6 _ _ _) ?_
            rcases c_within (X := X) (d := d + 49) (u := u) (D := D) (J := J) (x := z) (a := 1) (b := 100) with ⟨g, _⟩ | ⟨_, g⟩
            · exact absurd g iz
            · exact wp_vT g (wp_ct hC (fun _ _ => rfl))
          · exact absurd iy g
        · exact absurd ix g
      · have hM0 := hM.th (v := 0) hn
        have h0 := ud_at D 70 0 0
        refine wp_eq (e256_0 _ _ _) ?_
        refine wp_iE ((m_pers (X := X) (d := d + 48) (u := u) (J := J) (x := x) h31 hM0.2.1.1 h0).1 ix) ?_
        refine wp_eq (e256_6 _ _ _ _) (wp_f (by decide) ?_)
        refine wp_iE ((m_pers (X := X) (d := d + 48) (u := u) (J := J) (x := y) h31 hM0.2.1.1 h0).1 iy) ?_
        refine wp_eq (e256_10 _ _ _ _) (wp_f (by decide) ?_)
        refine wp_iE ((m_soon (d := d + 48) h0 (by decide)).2 iz) ?_
        refine wp_eq (e256_16 _ _ _ _) (wp_f (by decide) ?_)
        exact wp_mr (hM0.th hn) (ud_at _ 70 0 2) (fun q hq => by rw [ud_q (by omega), ud_q (by omega)])
  · refine ⟨.inr 1, σ, hσ, fun u J D hC => ?_, fun u J D hM => ?_, by first | exact trivial | exact rfl | exact Or.inl rfl | exact Or.inr rfl⟩
    · refine wp_eq (e127_0 _ _ _) ?_
      rcases c_pers (X := X) (d := d + 49) (u := u) (J := J) (x := x) h31 hC.2.1.1 with ⟨h1, g2⟩ | ⟨_, g2⟩
      · refine wp_vE g2 ?_
        refine wp_eq (e127_3 _ _ _) ?_
        rcases c_pers (X := X) (d := d + 49) (u := u) (J := J) (x := y) h31 hC.2.1.1 with ⟨h2, _⟩ | ⟨_, g2⟩
        · exact absurd ⟨h1, h2⟩ hx
        · exact wp_vT g2 (wp_ct hC (fun _ _ => rfl))
      · exact wp_vT g2 (wp_ct hC (fun _ _ => rfl))
    · have hM0 := hM.th (v := 0) hn
      have h0 := ud_at D 70 0 0
      refine wp_eq (e256_0 _ _ _) ?_
      by_cases ix : isPe σ.2.1.1 x
      · refine wp_iE ((m_pers (X := X) (d := d + 48) (u := u) (J := J) (x := x) h31 hM0.2.1.1 h0).1 ix) ?_
        refine wp_eq (e256_6 _ _ _ _) (wp_f (by decide) ?_)
        refine wp_iE ((m_pers (X := X) (d := d + 48) (u := u) (J := J) (x := y) h31 hM0.2.1.1 h0).2 (fun z => hx ⟨ix, z⟩)) ?_
        refine wp_eq (e256_10 _ _ _ _) (wp_t rfl ?_)
        exact wp_mr (hM0.th hn) (ud_at _ 70 0 1) (fun q hq => by rw [ud_q (by omega), ud_q (by omega)])
      · refine wp_iE ((m_pers (X := X) (d := d + 48) (u := u) (J := J) (x := x) h31 hM0.2.1.1 h0).2 ix) ?_
        refine wp_eq (e256_6 _ _ _ _) (wp_t rfl ?_)
        exact wp_mr (hM0.th hn) (ud_at _ 70 0 1) (fun q hq => by rw [ud_q (by omega), ud_q (by omega)])
theorem p_neighbours {x y : Int32} (hσ : SgOk σ) : PairI σ (fun u J D => EvM X (d + 50) 129 [.ref 0, .int x, .int y] (hS u D J)) (fun u J D => EvM X (d + 50) 258 [.ref 70, .int x, .int y] (hS u D J)) nI xC := by
  have hn := hσ.2.1.1.1
  have h31 : σ.2.1.1 < 2 ^ 31 := by omega
  have hg := Good.sunK hσ.2.1.1 hσ.2.2.1
  by_cases ix : isPe σ.2.1.1 x
  · by_cases iy : ¬ y < 0 ∧ ¬ 100 < y
    · obtain ⟨p, p1, rfl⟩ := id ix
      obtain ⟨n, -, n2, n3, rfl⟩ := nI_x (a := 0) (b := 100) (by decide) iy.1 iy.2
      refine ⟨.inl (nbT σ.2.1 σ.2.2.1 p (n + 1)), σ, hσ, fun u J D hC => ?_, fun u J D hM => ?_, by first | exact trivial | exact rfl | exact Or.inl rfl | exact Or.inr rfl⟩
      · refine wp_eq (e129_0 _ _) ?_
        rcases c_pers (X := X) (d := d + 49) (u := u) (J := J) (x := nI p) h31 hC.2.1.1 with ⟨_, g⟩ | ⟨g, _⟩
        · refine wp_vE g ?_
          refine wp_eq (e129_3 _ _) ?_
          rcases c_within (X := X) (d := d + 49) (u := u) (D := D) (J := J) (x := nI n) (a := 0) (b := 100) with ⟨_, g⟩ | ⟨g, _⟩
          · refine wp_vE g ?_
            refine wp_eq (e129_7 _ _) ?_
            refine wp_cV (c_reach (d := d + 44) hσ hC (show n ≤ 200 by omega)) (fun D1 h1 => ?_)
            obtain ⟨hC1, ⟨K, hK, hF⟩, hf⟩ := h1
            refine wp_eq (e129_11 _ _) ?_
            refine wp_loop (R := fun k (_ : Unit) => Ev X (d + 50) 129 (15, [.ref 0, .int (nI p), .int (nI n), .int (nbT σ.2.1 σ.2.2.1 p k), .int (nI k), .null], [], hS u D1 J)) (fun _ _ => True) (n + 1) ?_ ?_ 0 () (Nat.zero_le _) trivial
            · intro k _ hk _ ih
              have ih := ih () trivial
              refine wp_eq (e129_15 _ _ _ _) (wp_f (Int32.not_lt.mpr (nI_le (by omega) (by omega))) ?_)
              refine wp_loop (R := fun q (_ : Unit) => Ev X (d + 50) 129 (20, [.ref 0, .int (nI p), .int (nI n), .int (nbR σ.2.1 σ.2.2.1 p k (nbT σ.2.1 σ.2.2.1 p k) q), .int (nI k), .int (nI q)], [], hS u D1 J)) (fun _ _ => True) σ.2.1.1 ?_ ?_ 0 () (Nat.zero_le _) trivial
              · intro q _ hq _ ih2
                have ih2 := ih2 () trivial
                refine wp_eq (e129_20 _ _ _ _ _) ?_
                rw [hC1.2.1.1]
                refine wp_f (nI_ge hq (by omega)) ?_
                refine wp_iE (c_beside (d := d + 48) hF (show k ≤ K by omega) (show p < 12 by omega) (show q < 12 by omega) ((hg k).1.v p p1) ((hg k).1.v q hq)) ?_
                refine wp_eq (e129_31 _ _ _ _ _ _) ?_
                rw [nI_1]
                rw [nbR] at ih2
                cases hb : bsB (sunK σ.2.1 σ.2.2.1 k p) (sunK σ.2.1 σ.2.2.1 k q) with
                | false =>
                  rw [hb, if_neg (by decide)] at ih2
                  exact wp_t rfl ih2
                | true =>
                  rw [hb, if_pos rfl] at ih2
                  exact wp_f (by decide) ih2
              · intro _ _
                refine wp_eq (e129_20 _ _ _ _ _) ?_
                rw [hC1.2.1.1]
                refine wp_t (nI_le (Nat.le_refl _) (by omega)) ?_
                refine wp_weak (ls := [.ref 0, .int (nI p), .int (nI n), .int (nbR σ.2.1 σ.2.2.1 p k (nbT σ.2.1 σ.2.2.1 p k) σ.2.1.1), .int (nI k + 1), .null]) (by simp [lle, lng]) ?_
                rw [nI_1]; exact ih
            · intro _ _
              exact wp_eq (e129_15 _ _ _ _) (wp_t (nI_lt (by omega) (by omega)) (wp_cr hC1 (fun q hq => hf.1 q (by omega) (by omega))))
          · exact absurd iy g
        · exact absurd ix g
      · have hM0 := hM.th (v := 0) hn
        have h0 := ud_at D 70 0 0
        refine wp_eq (e258_0 _ _) ?_
        refine wp_iE ((m_pers (X := X) (d := d + 48) (u := u) (J := J) (x := nI p) h31 hM0.2.1.1 h0).1 ix) ?_
        refine wp_eq (e258_6 _ _ _) (wp_f (by decide) ?_)
        refine wp_iE ((m_soon (d := d + 48) h0 (by decide)).1 iy) ?_
        refine wp_eq (e258_12 _ _ _) (wp_t (by decide) ?_)
        refine wp_cV (m_try0 hn hM0.2.2.1) (fun D1 h1 => ?_)
        refine wp_eq (e258_19 _ _ _) ?_
        -- behind a Sunday: all are looked at
        have row : ∀ (k : Nat) (D3 : DD), k ≤ n → GoM σ.2.1 σ.2.2.1 k (ud D 70 0 0) D3 → (Wp (Ev X (d + 50) 258 (21, [.ref 70, .int (nI p), .int (nI n), .int (nbT σ.2.1 σ.2.2.1 p (k + 1)), .int (nI (k + 1)), .null], [], hS u D3 J)) (MR σ D u J (nbT σ.2.1 σ.2.2.1 p (n + 1)) 0)) → Wp (Ev X (d + 50) 258 (29, [.ref 70, .int (nI p), .int (nI n), .int (nbT σ.2.1 σ.2.2.1 p k), .int (nI k), .null], [], hS u D3 J)) (MR σ D u J (nbT σ.2.1 σ.2.2.1 p (n + 1)) 0) := by
          intro k D3 hk h3 ih
          refine wp_eq (e258_29 _ _ _ _) ?_
          have e1 : D3 70 1 = nI σ.2.1.1 := (h3.mi hM0 hn).2.1.1
          refine wp_loop (R := fun q (_ : Unit) => Ev X (d + 50) 258 (31, [.ref 70, .int (nI p), .int (nI n), .int (nbR σ.2.1 σ.2.2.1 p k (nbT σ.2.1 σ.2.2.1 p k) q), .int (nI k), .int (nI q)], [], hS u D3 J)) (fun _ _ => True) σ.2.1.1 ?_ ?_ 0 () (Nat.zero_le _) trivial
          · intro q _ hq _ ih2
            have ih2 := ih2 () trivial
            refine wp_eq (e258_31 _ _ _ _ _) ?_
            rw [e1]
            refine wp_f (nI_ge hq (by omega)) ?_
            refine wp_iE (m_side (d := d + 48) (b := 85) (Or.inr rfl) hn h3.1 p1 hq) ?_
            refine wp_eq (e258_41 _ _ _ _ _ _ _) ?_
            rw [nI_1]
            rw [nbR] at ih2
            cases hb : bsB (sunK σ.2.1 σ.2.2.1 k p) (sunK σ.2.1 σ.2.2.1 k q) with
            | false =>
              rw [hb, if_neg (by decide)] at ih2
              refine wp_t rfl ?_
              rw [Int32.or_zero]; exact ih2
            | true =>
              rw [hb, if_pos rfl] at ih2
              exact wp_f (by decide) ih2
          · intro _ _
            refine wp_eq (e258_31 _ _ _ _ _) ?_
            rw [e1]
            refine wp_t (nI_le (Nat.le_refl _) (by omega)) ?_
            refine wp_weak (ls := [.ref 70, .int (nI p), .int (nI n), .int (nbR σ.2.1 σ.2.2.1 p k (nbT σ.2.1 σ.2.2.1 p k) σ.2.1.1), .int (nI k + 1), .null]) (by simp [lle, lng]) ?_
            rw [nI_1]; exact ih
        -- Sundays 1, 2, ..: D2 stands one behind
        have rest : ∀ (r k : Nat) (D2 : DD), k + r = n → GoM σ.2.1 σ.2.2.1 k (ud D 70 0 0) D2 → Wp (Ev X (d + 50) 258 (21, [.ref 70, .int (nI p), .int (nI n), .int (nbT σ.2.1 σ.2.2.1 p (k + 1)), .int (nI (k + 1)), .null], [], hS u D2 J)) (MR σ D u J (nbT σ.2.1 σ.2.2.1 p (n + 1)) 0) := by
          intro r
          induction r with
          | zero =>
            intro k D2 hk h2
            have : k = n := by omega
            subst this
            exact wp_eq (e258_21 _ _ _ _) (wp_t (nI_lt (by omega) (by omega)) (h2.fin hM0 hn))
          | succ r ih =>
            intro k D2 hk h2
            refine wp_eq (e258_21 _ _ _ _) (wp_f (Int32.not_lt.mpr (nI_le (by omega) (by omega))) (wp_f (Int32.not_le.mpr (nI_lt (a := 0) (by omega) (by omega))) ?_))
            refine wp_cV (m_step (d := d + 43) hσ.2.1 hσ.2.2.1 hM0.2.1 hM0.2.2.2.2.2.2 h2) (fun D3 h3 => ?_)
            exact row (k + 1) D3 (by omega) h3 (ih (k + 1) D3 (by omega) h3)
        refine wp_eq (e258_21 _ _ _ _) (wp_f (Int32.not_lt.mpr (nI_le (a := 0) (by omega) (by omega))) (wp_t (by decide) ?_))
        exact row 0 D1 (Nat.zero_le _) h1 (rest n 0 D1 (Nat.zero_add _) h1)
    · refine ⟨.inr 2, σ, hσ, fun u J D hC => ?_, fun u J D hM => ?_, by first | exact trivial | exact rfl | exact Or.inl rfl | exact Or.inr rfl⟩
      · refine wp_eq (e129_0 _ _) ?_
        rcases c_pers (X := X) (d := d + 49) (u := u) (J := J) (x := x) h31 hC.2.1.1 with ⟨_, g⟩ | ⟨g, _⟩
        · refine wp_vE g ?_
          refine wp_eq (e129_3 _ _) ?_
          rcases c_within (X := X) (d := d + 49) (u := u) (D := D) (J := J) (x := y) (a := 0) (b := 100) with ⟨g, _⟩ | ⟨_, g⟩
          · exact absurd g iy
          · exact wp_vT g (wp_ct hC (fun _ _ => rfl))
        · exact absurd ix g
      · have hM0 := hM.th (v := 0) hn
        have h0 := ud_at D 70 0 0
        refine wp_eq (e258_0 _ _) ?_
        refine wp_iE ((m_pers (X := X) (d := d + 48) (u := u) (J := J) (x := x) h31 hM0.2.1.1 h0).1 ix) ?_
        refine wp_eq (e258_6 _ _ _) (wp_f (by decide) ?_)
        refine wp_iE ((m_soon (d := d + 48) h0 (by decide)).2 iy) ?_
        refine wp_eq (e258_12 _ _ _) (wp_f (by decide) ?_)
        exact wp_mr (hM0.th hn) (ud_at _ 70 0 2) (fun q hq => by rw [ud_q (by omega), ud_q (by omega)])
  · refine ⟨.inr 1, σ, hσ, fun u J D hC => ?_, fun u J D hM => ?_, by first | exact trivial | exact rfl | exact Or.inl rfl | exact Or.inr rfl⟩
    · refine wp_eq (e129_0 _ _) ?_
      rcases c_pers (X := X) (d := d + 49) (u := u) (J := J) (x := x) h31 hC.2.1.1 with ⟨g, _⟩ | ⟨_, g⟩
      · exact absurd g ix
      · exact wp_vT g (wp_ct hC (fun _ _ => rfl))
    · have hM0 := hM.th (v := 0) hn
      refine wp_eq (e258_0 _ _) ?_
      refine wp_iE ((m_pers (X := X) (d := d + 48) (u := u) (J := J) (x := x) h31 hM0.2.1.1 (ud_at D 70 0 0)).2 ix) ?_
      refine wp_eq (e258_6 _ _ _) (wp_t rfl ?_)
      exact wp_mr (hM0.th hn) (ud_at _ 70 0 1) (fun q hq => by rw [ud_q (by omega), ud_q (by omega)])
end TOGE
