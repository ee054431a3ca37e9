/-! ===== ahead: the pair ===== -/
def aN (y : Int32) : Int32 := if 2 ≤ y then 1 else 0
def AhM (ρ : Ru) (c : Cc) (k : Nat) (D D' : DD) : Prop := RowM 85 ρ (sunK ρ c k) (D' 78) ∧ (∀ p, p < ρ.1 → D' 85 p = mvT ρ c p k ∧ D' 86 p = piN ρ c p k) ∧ FrA D D'
def aheA (ρ : Ru) (c : Cc) (n : Nat) : Nat → Int32
  | 0 => (beN (fun p => mvT ρ c p n) ρ.1).2
  | 1 => (beN (fun p => piN ρ c p n) ρ.1).2
  | 2 => unN ρ c n
  | _ => dpN ρ c n
section AHEADP
variable {X : XS} {d u : Nat} {D D1 : DD} {J : JJ} {σ : Sg} {ρ : Ru} {c : Cc} {K : Nat}
theorem c_ah3 {x1 x2 : Int32} : Ev X (d + 1) 151 (3, [.ref 0, .int x1, .int x2], [], hS u D J) = bV (EvM X d 166 [.int x1, .int (aN x2), .int 100] (hS u D J)) (fun h => Ev X (d + 1) 151 (12, [.ref 0, .int x1, .int x2], [], h)) (fun e h => some (.inr e, h)) := by
  rw [e151_3]
  unfold aN
  by_cases h : 2 ≤ x2
  · rw [brT h, if_pos h]
  · rw [brF h, if_neg h]
theorem m_ah7 {x1 x2 : Int32} : Ev X (d + 1) 262 (7, [.ref 70, .int x1, .int x2, .null, .null, .null, .null], [.int 1], hS u D J) = bI (EvM X d 236 [.ref 70, .int x1, .int (aN x2), .int 2] (hS u D J)) (fun y h => Ev X (d + 1) 262 (18, [.ref 70, .int x1, .int x2, .null, .null, .null, .null], [.int y], h)) (fun e h => some (.inr e, h)) := by
  rw [e262_7, brF (by decide)]
  unfold aN
  by_cases h : 2 ≤ x2
  · rw [brT h, if_pos h]
  · rw [brF h, if_neg h]
theorem m_ahS {k : Nat} {x1 x2 x5 : Int32} (hR : RuOk ρ) (hg : ∀ k, Good ρ (sunK ρ c k)) (hC : RulesM ρ D) (hra : D 70 43 = 0) (hI : AhM ρ c k D D1) (hx : ¬ x1 ≤ x5) {Q : Rs → Prop} (ih : ∀ D2, AhM ρ c (k + 1) D D2 → Wp (Ev X (d + 8) 262 (47, [.ref 70, .int x1, .int x2, .int (unN ρ c (k + 1)), .int (dpN ρ c (k + 1)), .int (x5 + 1), .null], [], hS u D2 J)) Q) : Wp (Ev X (d + 8) 262 (47, [.ref 70, .int x1, .int x2, .int (unN ρ c k), .int (dpN ρ c k), .int x5, .null], [], hS u D1 J)) Q := by
  have hn := hR.1.1
  obtain ⟨i1, i2, i3⟩ := hI
  have hC1 : RulesM ρ D1 := hC.mv (fun k _ _ => i3.2.2 k (by omega) (by omega) (by omega) (by omega)) (i3.1 71 (by omega) (by omega) (by omega))
  have e43 : D1 70 43 = bI32 false := by
    rw [i3.2.2 43 (by decide) (by decide) (by decide) (by decide)]
    exact hra
  refine wp_eq (e262_47 _ _ _ _ _) (wp_f hx ?_)
  refine wp_cV (s_sunday (d := d + 1) (b := 85) (rain := false) (Or.inr rfl) hR hC1 i1 (hg k).1.v (hg k).bz e43) (fun D3 h3 => ?_)
  obtain ⟨s1, -, s3, s4, s5⟩ := h3
  have s1 : RowM 85 ρ (sunK ρ c (k + 1)) (D3 78) := s1
  have f3 : FrA D D3 := i3.tr s5.a
  have hC3 : D3 70 1 = nI ρ.1 := (hC1.fr s5).1
  refine wp_eq (e262_53 _ _ _ _ _) ?_
  refine wp_iE (m_sum (b := 85) (k := 24) (kk := 37) (Or.inr rfl) hn hC3 (fun p hp => (s1.s hn hp).2.2.2.1) (by decide)) ?_
  refine wp_eq (e262_58 _ _ _ _ _ _ _) ?_
  have last : ∀ x3 x4, x3 = unN ρ c (k + 1) → x4 = dpN ρ c (k + 1) → Wp (Ev X (d + 8) 262 (77, [.ref 70, .int x1, .int x2, .int x3, .int x4, .int x5, .int 0], [], hS u D3 J)) Q := by
    rintro x3 x4 rfl rfl
    refine wp_loop (R := fun p (D4 : DD) => Ev X (d + 8) 262 (77, [.ref 70, .int x1, .int x2, .int (unN ρ c (k + 1)), .int (dpN ρ c (k + 1)), .int x5, .int (nI p)], [], hS u D4 J)) (fun p (D4 : DD) => (∀ q, q < p → D4 85 q = mvT ρ c q (k + 1) ∧ D4 86 q = piN ρ c q (k + 1)) ∧ (∀ q, p ≤ q → q < ρ.1 → D4 85 q = mvT ρ c q k ∧ D4 86 q = piN ρ c q k) ∧ ∀ q, q ≠ 85 → q ≠ 86 → D4 q = D3 q) ρ.1 ?_ ?_ 0 D3 (Nat.zero_le _) ⟨fun q hq => absurd hq (Nat.not_lt_zero q), fun q _ hq => ⟨by rw [s5.1 85 (by decide) (by decide) (by decide)]; exact (i2 q hq).1, by rw [s5.1 86 (by decide) (by decide) (by decide)]; exact (i2 q hq).2⟩, fun _ _ _ => rfl⟩
    · intro p D4 hp ⟨j1, j2, j3⟩ ih2
      refine wp_eq (e262_77 _ _ _ _ _ _) ?_
      obtain ⟨-, -, -, t4, -⟩ := s1.s hn hp
      have t4 : D3 78 (122 + p) = sunK ρ c (k + 1) (24 + p) := t4
      rw [j3 70 (by decide) (by decide), hC3]
      refine wp_f (nI_ge hp (by omega)) ?_
      rw [la, nI_clamp (show p < 2 ^ 31 by omega), nI_clamp (show 122 + p < 2 ^ 31 by omega), j3 78 (by decide) (by decide), t4, (j2 p (Nat.le_refl _) hp).1, ud_q (show 86 ≠ 85 by decide), (j2 p (Nat.le_refl _) hp).2]
      refine oG (by omega) (by decide) (oG (by omega) (by decide) (oG (by omega) (by decide) (oG (by omega) (by decide) ?_)))
      have hL := line_D hn (sunK ρ c k) false
      refine wp_iE (s_placeOf (L := lineN ρ (sunK ρ c k) false ρ.1) (show p < 12 by omega) (by have := hL.1; omega) (fun i hi => by have := hL.2.1 i hi; omega) (by rw [ud_q (by decide), j3 70 (by decide) (by decide)]; exact s3) (fun i hi => by rw [ud_q (by decide), j3 83 (by decide) (by decide)]; exact s4 i hi)) ?_
      refine wp_eq (e262_102 _ _ _ _ _ _ _ _ _) ?_
      have hcm : whoA (findN (fun i => decide ((lineN ρ (sunK ρ c k) false ρ.1).2 i = p)) (lineN ρ (sunK ρ c k) false ρ.1).1 0) = -1 ↔ sunK ρ c (k + 1) p = -1 := came hR.1 (sunK ρ c k) hp
      have ih2 : ∀ v, v = piN ρ c p (k + 1) → Wp (Ev X (d + 8) 262 (77, [.ref 70, .int x1, .int x2, .int (unN ρ c (k + 1)), .int (dpN ρ c (k + 1)), .int x5, .int (nI (p + 1))], [], hS u (ud (ud D4 85 p (mvT ρ c p k + sunK ρ c (k + 1) (24 + p))) 86 p v) J)) Q := by
        intro v hv
        refine ih2 _ ⟨fun q hq => ?_, fun q hq hq2 => ?_, fun q q1 q2 => by rw [ud_q q2, ud_q q1]; exact j3 q q1 q2⟩
        · by_cases hqp : q = p
          · subst hqp
            exact ⟨by rw [ud_q (by decide), ud_at]; rfl, by rw [ud_at]; exact hv⟩
          · exact ⟨by rw [ud_q (by decide), ud_k hqp]; exact (j1 q (by omega)).1, by rw [ud_k hqp, ud_q (by decide)]; exact (j1 q (by omega)).2⟩
        · exact ⟨by rw [ud_q (by decide), ud_k (by omega)]; exact (j2 q (by omega) hq2).1, by rw [ud_k (by omega), ud_q (by decide)]; exact (j2 q (by omega) hq2).2⟩
      rw [nI_clamp (show p < 2 ^ 31 by omega), nI_1]
      refine wp_if (fun h => oG (by omega) (by decide) (ih2 _ ?_)) (fun h => oG (by omega) (by decide) (ih2 _ ?_))
      · rw [piN, if_neg (fun z => h (hcm.mpr z))]
      · rw [piN, if_pos (hcm.mp (Classical.not_not.mp h)), Int32.add_zero]
    · intro D4 ⟨j1, j2, j3⟩
      refine wp_eq (e262_77 _ _ _ _ _ _) ?_
      rw [j3 70 (by decide) (by decide), hC3]
      refine wp_t (nI_le (Nat.le_refl _) (by omega)) ?_
      refine wp_weak (ls := [.ref 70, .int x1, .int x2, .int (unN ρ c (k + 1)), .int (dpN ρ c (k + 1)), .int (x5 + 1), .null]) (by simp [lle, lng]) ?_
      refine ih D4 ⟨by rw [j3 78 (by decide) (by decide)]; exact s1, j1, f3.tr ⟨fun q _ _ q3 => j3 q (by omega) (by omega), fun i _ => by rw [j3 78 (by decide) (by decide)], fun k _ _ _ _ => by rw [j3 70 (by decide) (by decide)]⟩⟩
  have mid : ∀ x3, x3 = unN ρ c (k + 1) → Wp (bI (EvM X (d + 7) 217 [.ref 70, .int 85] (hS u D3 J)) (fun y h => Ev X (d + 8) 262 (67, [.ref 70, .int x1, .int x2, .int x3, .int (dpN ρ c k), .int x5, .null], [.int y], h)) (fun e h => some (.inr e, h))) Q := by
    intro x3 h3
    refine wp_iE (m_pews (d := d + 6) (b := 85) (Or.inr rfl) hn hC3 s1) ?_
    refine wp_eq (e262_67 _ _ _ _ _ _) (wp_if (fun h => ?_) (fun h => ?_))
    · exact last _ _ h3 (by rw [dpN, if_pos h])
    · refine wp_iE (m_pews (d := d + 6) (b := 85) (Or.inr rfl) hn hC3 s1) ?_
      refine wp_eq (e262_72 _ _ _ _ _ _) ?_
      exact last _ _ h3 (by rw [dpN, if_neg h])
  refine wp_if (fun h => ?_) (fun h => ?_)
  · exact mid _ (by rw [unN, if_neg h, Int32.add_zero])
  · exact mid _ (by rw [unN, if_pos (Classical.not_not.mp h)])
theorem p_ahead {x y : Int32} (hσ : SgOk σ) : PairI σ (fun u J D => EvM X (d + 50) 151 [.ref 0, .int x, .int y] (hS u D J)) (fun u J D => EvM X (d + 50) 262 [.ref 70, .int x, .int y] (hS u D J)) nI xC := by
  have hn := hσ.2.1.1.1
  have hg := Good.sunK hσ.2.1.1 hσ.2.2.1
  by_cases iy : ¬ y < 0 ∧ ¬ 3 < y
  · by_cases ix : ¬ x < aN y ∧ ¬ 100 < x
    · have ix0 : ¬ x < 0 := by
        intro z
        apply ix.1
        unfold aN
        split
        · exact Int32.lt_trans z (by decide)
        · exact z
      obtain ⟨n, -, n2, n3, rfl⟩ := nI_x (a := 0) (b := 100) (by decide) ix0 ix.2
      obtain ⟨j, -, j2, j3, rfl⟩ := nI_x (a := 0) (b := 3) (by decide) iy.1 iy.2
      refine ⟨.inl (aheA σ.2.1 σ.2.2.1 n j), σ, hσ, fun u J D hC => ?_, fun u J D hM => ?_, by first | exact trivial | exact rfl | exact Or.inl rfl | exact Or.inr rfl⟩
      · refine wp_eq (e151_0 _ _) ?_
        rcases c_what (X := X) (d := d + 49) (u := u) (D := D) (J := J) (x := nI j) (k := 3) with ⟨_, g⟩ | ⟨g, _⟩
        · refine wp_vE g ?_
          refine wp_eq c_ah3 ?_
          rcases c_within (X := X) (d := d + 49) (u := u) (D := D) (J := J) (x := nI n) (a := aN (nI j)) (b := 100) with ⟨_, g⟩ | ⟨g, _⟩
          · refine wp_vE g ?_
            refine wp_eq (e151_12 _ _) ?_
            refine wp_cV (c_reach (d := d + 44) hσ hC (show n ≤ 200 by omega)) (fun D1 h1 => ?_)
            obtain ⟨hC1, ⟨K, hK, hF⟩, hf⟩ := h1
            have h31 : D1 3 0 = nI σ.2.1.1 := hC1.2.1.1
            have fin : ∀ r, r = aheA σ.2.1 σ.2.2.1 n j → Wp (some (.inl (some (.int r)), hS u D1 J)) (CR σ D u J (.inl (aheA σ.2.1 σ.2.2.1 n j))) := fun r z => by
              rw [z]; exact wp_cr hC1 (fun q hq => hf.1 q (by omega) (by omega))
            refine wp_eq (e151_16 _ _) ?_
            rcases (show j = 0 ∨ j = 1 ∨ j = 2 ∨ j = 3 by omega) with rfl | rfl | rfl | rfl
            · exact wp_t rfl (wp_iE (c_restless (d := d + 48) hn h31 hF hK) (wp_eq (e151_21 _ _ _) (fin _ rfl)))
            · exact wp_f (by decide) (wp_t rfl (wp_iE (c_pious hn h31 hF hK) (wp_eq (e151_25 _ _ _) (fin _ rfl))))
            · exact wp_f (by decide) (wp_f (by decide) (wp_t rfl (wp_iE (c_unmoved (d := d + 48) hn hg hF hK) (wp_eq (e151_29 _ _ _) (fin _ rfl)))))
            · exact wp_f (by decide) (wp_f (by decide) (wp_f (by decide) (wp_iE (c_deepest (d := d + 46) hn hg hF hK) (wp_eq (e151_33 _ _ _) (fin _ rfl)))))
          · exact absurd ix g
        · exact absurd iy g
      · have hM0 := hM.th (v := 0) hn
        have h0 := ud_at D 70 0 0
        refine wp_eq (e262_0 _ _) ?_
        refine wp_iE ((m_what (d := d + 48) h0).1 iy) ?_
        refine wp_eq m_ah7 ?_
        refine wp_iE ((m_soon (d := d + 48) h0 (by decide)).1 ix) ?_
        refine wp_eq (e262_18 _ _ _) (wp_t (by decide) ?_)
        refine wp_cV (m_tries hn hM0.2.2.1) (fun D1 h1 => ?_)
        obtain ⟨t1, t2, -, t4⟩ := h1
        have f1 : FrA (ud D 70 0 0) D1 := ⟨fun q q1 q2 q3 => t4 q q2 (by omega), fun i hi => t2 i (by omega), fun k _ _ _ _ => by rw [t4 70 (by decide) (by decide)]⟩
        refine wp_eq (e262_27 _ _ _ _) ?_
        refine wp_loop (R := fun p (D4 : DD) => Ev X (d + 50) 262 (29, [.ref 70, .int (nI n), .int (nI j), .int 0, .int 0, .int (nI p), .null], [], hS u D4 J)) (fun p (D4 : DD) => (∀ q, q < p → D4 85 q = 0 ∧ D4 86 q = 0) ∧ ∀ q, q ≠ 85 → q ≠ 86 → D4 q = D1 q) σ.2.1.1 ?_ ?_ 0 D1 (Nat.zero_le _) ⟨fun q hq => absurd hq (Nat.not_lt_zero q), fun _ _ _ => rfl⟩
        · intro p D4 hp ⟨j1, j4⟩ ih
          refine wp_eq (e262_29 _ _ _ _ _) ?_
          rw [j4 70 (by decide) (by decide), f1.2.2 1 (by decide) (by decide) (by decide) (by decide), hM0.2.1.1]
          refine wp_f (nI_ge hp (by omega)) ?_
          rw [nI_clamp (show p < 2 ^ 31 by omega), nI_1]
          refine oG (by omega) (by decide) (oG (by omega) (by decide) (ih _ ⟨fun q hq => ?_, fun q q1 q2 => by rw [ud_q q2, ud_q q1]; exact j4 q q1 q2⟩))
          by_cases hqp : q = p
          · subst hqp
            exact ⟨by rw [ud_q (by decide), ud_at], by rw [ud_at]⟩
          · exact ⟨by rw [ud_q (by decide), ud_k hqp]; exact (j1 q (by omega)).1, by rw [ud_k hqp, ud_q (by decide)]; exact (j1 q (by omega)).2⟩
        · intro D4 ⟨j1, j4⟩
          refine wp_eq (e262_29 _ _ _ _ _) ?_
          rw [j4 70 (by decide) (by decide), f1.2.2 1 (by decide) (by decide) (by decide) (by decide), hM0.2.1.1]
          refine wp_t (nI_le (Nat.le_refl _) (by omega)) ?_
          refine wp_loop (R := fun k (D5 : DD) => Ev X (d + 50) 262 (47, [.ref 70, .int (nI n), .int (nI j), .int (unN σ.2.1 σ.2.2.1 k), .int (dpN σ.2.1 σ.2.2.1 k), .int (nI k), .null], [], hS u D5 J)) (fun k (D5 : DD) => AhM σ.2.1 σ.2.2.1 k (ud D 70 0 0) D5) n ?_ ?_ 0 D4 (Nat.zero_le _) ⟨by rw [j4 78 (by decide) (by decide)]; exact t1, j1, f1.tr ⟨fun q _ _ q3 => j4 q (by omega) (by omega), fun i _ => by rw [j4 78 (by decide) (by decide)], fun k _ _ _ _ => by rw [j4 70 (by decide) (by decide)]⟩⟩
          · intro k D5 hk h5 ih
            refine m_ahS (d := d + 42) hσ.2.1 hg hM0.2.1 hM0.2.2.2.2.2.2 h5 (nI_ge hk n3) (fun D6 h6 => ?_)
            rw [nI_1]
            exact ih D6 h6
          · intro D5 ⟨i1, i2, i3⟩
            have fin : ∀ r, r = aheA σ.2.1 σ.2.2.1 n j → Wp (some (.inl (some (.int r)), hS u D5 J)) (MR σ D u J (aheA σ.2.1 σ.2.2.1 n j) 0) := fun r z => by
              rw [z]; exact i3.fin hM0 hn
            have h51 : D5 70 1 = nI σ.2.1.1 := by rw [i3.2.2 1 (by decide) (by decide) (by decide) (by decide)]; exact hM0.2.1.1
            refine wp_eq (e262_47 _ _ _ _ _) (wp_t (nI_le (Nat.le_refl _) n3) ?_)
            rcases (show j = 0 ∨ j = 1 ∨ j = 2 ∨ j = 3 by omega) with rfl | rfl | rfl | rfl
            · refine wp_f (fun z => z rfl) ?_
              exact wp_iE (m_most (Or.inl rfl) hn h51 (fun p hp => (i2 p hp).1)) (wp_eq (e262_119 _ _ _ _ _ _) (fin _ rfl))
            · refine wp_t (by decide) (wp_f (fun z => z rfl) ?_)
              exact wp_iE (m_most (Or.inr rfl) hn h51 (fun p hp => (i2 p hp).2)) (wp_eq (e262_127 _ _ _ _ _ _) (fin _ rfl))
            · exact wp_t (by decide) (wp_t (by decide) (wp_f (fun z => z rfl) (fin _ rfl)))
            · exact wp_t (by decide) (wp_t (by decide) (wp_t (by decide) (fin _ rfl)))
    · refine ⟨.inr 2, σ, hσ, fun u J D hC => ?_, fun u J D hM => ?_, by first | exact trivial | exact rfl | exact Or.inl rfl | exact Or.inr rfl⟩
      · refine wp_eq (e151_0 _ _) ?_
        rcases c_what (X := X) (d := d + 49) (u := u) (D := D) (J := J) (x := y) (k := 3) with ⟨_, g⟩ | ⟨g, _⟩
        · refine wp_vE g ?_
          refine wp_eq c_ah3 ?_
          rcases c_within (X := X) (d := d + 49) (u := u) (D := D) (J := J) (x := x) (a := aN y) (b := 100) with ⟨g, _⟩ | ⟨_, g⟩
          · exact absurd g ix
          · exact wp_vT g (wp_ct hC (fun _ _ => rfl))
        · exact absurd iy g
      · have hM0 := hM.th (v := 0) hn
        have h0 := ud_at D 70 0 0
        refine wp_eq (e262_0 _ _) ?_
        refine wp_iE ((m_what (d := d + 48) h0).1 iy) ?_
        refine wp_eq m_ah7 ?_
        refine wp_iE ((m_soon (d := d + 48) h0 (by decide)).2 ix) ?_
        refine wp_eq (e262_18 _ _ _) (wp_f (by decide) ?_)
        exact wp_mr (hM0.th hn) (ud_at _ 70 0 2) (fun q hq => by rw [ud_q (by omega), ud_q (by omega)])
  · refine ⟨.inr 1, σ, hσ, fun u J D hC => ?_, fun u J D hM => ?_, by first | exact trivial | exact rfl | exact Or.inl rfl | exact Or.inr rfl⟩
    · refine wp_eq (e151_0 _ _) ?_
      rcases c_what (X := X) (d := d + 49) (u := u) (D := D) (J := J) (x := y) (k := 3) with ⟨g, _⟩ | ⟨_, g⟩
      · exact absurd g iy
      · exact wp_vT g (wp_ct hC (fun _ _ => rfl))
    · have hM0 := hM.th (v := 0) hn
      have h0 := ud_at D 70 0 0
      refine wp_eq (e262_0 _ _) ?_
      refine wp_iE ((m_what (d := d + 48) h0).2 iy) ?_
      refine wp_eq (e262_7 _ _ _) (wp_t rfl ?_)
      exact wp_mr (hM0.th hn) (ud_at _ 70 0 1) (fun q hq => by rw [ud_q (by omega), ud_q (by omega)])
end AHEADP
