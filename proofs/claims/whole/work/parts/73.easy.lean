/-! ===== pairs: what the class and the reference answer to one call ===== -/
/-- what it may throw -/
def xA (e : Nat) : Prop := e = 1
def xB (e : Nat) : Prop := e = 2
def xC (e : Nat) : Prop := e = 1 ∨ e = 2
def xN (_ : Nat) : Prop := False
def exO (E : Nat → Prop) : Int32 ⊕ Nat → Prop
  | .inl _ => True
  | .inr e => E e
def PairI (σ : Sg) (fc fm : Nat → JJ → DD → Option Rs) (w : Nat → Int32) (E : Nat → Prop) : Prop := ∃ (res : Int32 ⊕ Nat) (σ' : Sg), SgOk σ' ∧ (∀ u J D, CI σ D → Wp (fc u J D) (CR σ' D u J res)) ∧ (∀ u J D, MI σ D → Wp (fm u J D) (MR σ' D u J (reA res) (thA res w))) ∧ exO E res
theorem setA_e {σ : Sg} {k most : Nat} {x v : Int32} : exO xA (setA σ k x v most).1 := by
  by_cases h : isPe σ.2.1.1 x
  · rw [setA_y h]; exact trivial
  · rw [setA_n h]; exact rfl
def CRV (σ' : Sg) (D : DD) (u : Nat) (J : JJ) : Rs → Prop := fun y => ∃ D' : DD, y = (.inl none, hS u D' J) ∧ CI σ' D' ∧ ∀ q, 70 ≤ q → D' q = D q
def MRV (σ' : Sg) (D : DD) (u : Nat) (J : JJ) : Rs → Prop := fun y => ∃ D' : DD, y = (.inl none, hS u D' J) ∧ MI σ' D' ∧ ∀ q, q < 70 → D' q = D q
def PairV (σ : Sg) (fc fm : Nat → JJ → DD → Option Rs) : Prop := ∃ σ' : Sg, SgOk σ' ∧ (∀ u J D, CI σ D → Wp (fc u J D) (CRV σ' D u J)) ∧ ∀ u J D, MI σ D → Wp (fm u J D) (MRV σ' D u J)
section EASY
variable {X : XS} {d u : Nat} {D : DD} {J : JJ} {σ : Sg} {ρ : Ru} {c : Cc} {P : Nat}
theorem p_lie {x v : Int32} (hσ : SgOk σ) : PairI σ (fun u J D => EvM X (d + 50) 116 [.ref 0, .int x, .int v] (hS u D J)) (fun u J D => EvM X (d + 50) 244 [.ref 70, .int x, .int v] (hS u D J)) nI xA :=
  ⟨_, _, setA_ok hσ (Or.inl ⟨rfl, rfl⟩), fun _ _ _ hC => c_lie (d := d + 47) hσ hC, fun _ _ _ hM => m_lie (d := d + 48) hσ hM, setA_e⟩
theorem p_bar {x v : Int32} (hσ : SgOk σ) : PairI σ (fun u J D => EvM X (d + 50) 117 [.ref 0, .int x, .int v] (hS u D J)) (fun u J D => EvM X (d + 50) 245 [.ref 70, .int x, .int v] (hS u D J)) nI xA :=
  ⟨_, _, setA_ok hσ (Or.inr ⟨rfl, rfl⟩), fun _ _ _ hC => c_bar (d := d + 47) hσ hC, fun _ _ _ hM => m_bar (d := d + 48) hσ hM, setA_e⟩
theorem p_fault (hσ : SgOk σ) : PairI σ (fun u J D => EvM X (d + 50) 104 [.ref 0] (hS u D J)) (fun u J D => EvM X (d + 50) 207 [.ref 70] (hS u D J)) nI xN := by
  have hn := hσ.2.1.1.1
  refine ⟨.inl σ.1.2.2.1, σ, hσ, fun u J D hC => ?_, fun u J D hM => ?_, by first | exact trivial | exact rfl | exact Or.inl rfl | exact Or.inr rfl⟩
  · refine wp_eq e104_0 ?_
    rw [hC.1.2.2.1]
    exact wp_cr hC (fun _ _ => rfl)
  · refine wp_eq e207_0 ?_
    rw [ud_k (by decide), hM.1.2.2.1]
    exact wp_mr (hM.th hn) (ud_at D 70 0 0) (fun q hq => ud_q (by omega))
theorem nI_x {x : Int32} {a b : Nat} (ha : a < 2 ^ 31) (h1 : ¬ x < nI a) (h2 : ¬ nI b < x) : ∃ j, a ≤ j ∧ j ≤ b ∧ j < 2 ^ 31 ∧ x = nI j := by
  have h0 : ¬ x < 0 := fun z => h1 (Int32.lt_of_lt_of_le z (nI_pos' ha))
  obtain ⟨j, j1, rfl⟩ := nI_of h0
  exact ⟨j, Nat.not_lt.mp (fun z => h1 (nI_lt z ha)), Nat.not_lt.mp (fun z => h2 (nI_lt z j1)), j1, rfl⟩
/-- sundays -/
theorem p_sundays {x : Int32} (hσ : SgOk σ) : PairI σ (fun u J D => EvM X (d + 50) 110 [.ref 0, .int x] (hS u D J)) (fun u J D => EvM X (d + 50) 239 [.ref 70, .int x] (hS u D J)) nI xN := by
  have hn := hσ.2.1.1.1
  by_cases hx : ¬ x < 1 ∧ ¬ 20 < x ∧ σ.2.2.1 72 + x ≤ 9999
  · obtain ⟨hx1, hx2, hx3⟩ := hx
    obtain ⟨n, n1, n2, n3, rfl⟩ := nI_x (a := 1) (b := 20) (by decide) hx1 hx2
    have hg := Good.sunK hσ.2.1.1 hσ.2.2.1
    refine ⟨.inl (sunK σ.2.1 σ.2.2.1 n 72), actS σ (sunK σ.2.1 σ.2.2.1 n), hσ.act (hg n), fun u J D hC => ?_, fun u J D hM => ?_, by first | exact trivial | exact rfl | exact Or.inl rfl | exact Or.inr rfl⟩
    · refine wp_eq (e110_0 _) ?_
      refine wp_f hx1 (wp_f hx2 ?_)
      rw [hC.2.2.1.1]
      refine wp_t hx3 ?_
      refine wp_cV (c_begin (d := d + 48) hC hσ.2.2.2.1.1) (fun D1 g => ?_)
      obtain ⟨g1, g2, g3, g4⟩ := g
      refine wp_eq (e110_21 _) ?_
      have hC1 : RulesC σ.2.1 D1 := hC.2.1.mv (g4 3 (by decide) (by decide) (by decide) (by decide)) (fun q _ _ => g4 q (by omega) (by omega) (by omega) (by omega)) (fun i _ _ => by rw [g4 5 (by decide) (by decide) (by decide) (by decide)])
      refine wp_loop (R := fun k (D2 : DD) => Ev X (d + 50) 110 (23, [.ref 0, .int (nI n), .int (nI k)], [], hS u D2 J)) (fun k (D2 : DD) => PewsC 25 σ.2.1 (sunK σ.2.1 σ.2.2.1 k) D2 ∧ FrP 25 D1 D2) n ?_ ?_ 0 D1 (Nat.zero_le _) ⟨hC.2.2.1.mv (g4 26 (by decide) (by decide) (by decide) (by decide)) (g4 27 (by decide) (by decide) (by decide) (by decide)) (g4 28 (by decide) (by decide) (by decide) (by decide)), FrP.rf 25 D1⟩
      · intro k D2 hk ⟨i1, i2⟩ ih
        refine wp_eq (e110_23 _ _) ?_
        refine wp_f (nI_ge hk n3) ?_
        refine wp_cV (s_goBy (d := d + 45) (rain := false) (Or.inl rfl) hσ.2.1 (hC1.p (Or.inl rfl) i2) i1.1) (fun D3 h3 => ?_)
        refine wp_eq (e110_30 _ _) ?_
        rw [nI_1]
        exact ih D3 ⟨h3.1, i2.tr h3.2.2.2.2⟩
      · intro D2 ⟨i1, i2⟩
        refine wp_eq (e110_23 _ _) ?_
        refine wp_t (nI_le (Nat.le_refl _) n3) ?_
        rw [i1.1]
        have hq : ∀ q, q < 25 ∨ 30 < q → q ≠ 5 → D2 q = D1 q := fun q h1 h2 => i2.1 q (by omega) h2
        refine wp_cr (hC.act i1 (g1.mv (hq 46 (by omega) (by omega)) (hq 47 (by omega) (by omega))) (by rw [hq 37 (by omega) (by omega)]; exact g2) (by rw [hq 52 (by omega) (by omega)]; exact g3) (fun i h1 h2 => by rw [i2.2 i h1 h2, g4 5 (by decide) (by decide) (by decide) (by decide)]) (fun q q1 q2 q3 q4 q5 q6 q7 => by rw [hq q q3 q2]; exact g4 q q4 q5 q6 q7)) (fun q h => by rw [hq q (by omega) (by omega)]; exact g4 q (by omega) (by omega) (by omega) (by omega))
    · refine wp_eq (e239_0 _) ?_
      refine wp_iE m_within ?_
      rw [if_pos ⟨hx1, hx2⟩]
      refine wp_eq (e239_7 _ _) ?_
      refine wp_f (by decide) ?_
      have hM0 := hM.th (v := 0) hn
      have e78 : ud D 70 0 0 78 0 = σ.2.2.1 72 := hM0.2.2.1.1
      rw [e78]
      refine wp_t hx3 ?_
      refine wp_cV (m_keeps hn hM0.2.2.2.1.1 hσ.2.2.2.1.1 hM0.2.2.2.1.2 hM0.2.2.1) (fun D1 g => ?_)
      obtain ⟨g1, g2, g3, g4⟩ := g
      refine wp_eq (e239_22 _) ?_
      have hC1 : RulesM σ.2.1 D1 := hM0.2.1.mv (fun k _ _ => g3 k (by omega)) (g4 71 (by decide) (by decide))
      refine wp_loop (R := fun k (D2 : DD) => Ev X (d + 50) 239 (24, [.ref 70, .int (nI n), .int (nI k)], [], hS u D2 J)) (fun k (D2 : DD) => RowM 0 σ.2.1 (sunK σ.2.1 σ.2.2.1 k) (D2 78) ∧ FrM 0 D1 D2) n ?_ ?_ 0 D1 (Nat.zero_le _) ⟨by rw [g4 78 (by decide) (by decide)]; exact hM0.2.2.1, FrM.rf 0 D1⟩
      · intro k D2 hk ⟨i1, i2⟩ ih
        refine wp_eq (e239_24 _ _) ?_
        refine wp_f (nI_ge hk n3) ?_
        have e43 : D2 70 43 = bI32 false := by
          rw [i2.2.2 43 (by decide) (by decide) (by decide) (by decide), g3 43 (by decide)]
          exact hM0.2.2.2.2.2.2
        refine wp_cV (s_sunday (d := d + 43) (b := 0) (rain := false) (Or.inl rfl) hσ.2.1 (hC1.fr i2) i1 (hg k).1.v (hg k).bz e43) (fun D3 h3 => ?_)
        refine wp_eq (e239_30 _ _) ?_
        rw [nI_1]
        exact ih D3 ⟨h3.1, i2.tr h3.2.2.2.2⟩
      · intro D2 ⟨i1, i2⟩
        refine wp_eq (e239_24 _ _) ?_
        refine wp_t (nI_le (Nat.le_refl _) n3) ?_
        rw [i1.1]
        have e7 : ∀ k, k ≠ 40 → k ≠ 41 → k ≠ 42 → k ≠ 46 → D2 70 k = D1 70 k := i2.2.2
        refine wp_mr (hM0.act i1 (by rw [e7 36 (by decide) (by decide) (by decide) (by decide)]; exact g1) (by rw [i2.1 79 (by decide) (by decide) (by omega)]; exact g2) (fun k k1 k2 k3 k4 k5 k6 => by rw [e7 k k3 k4 k5 k6]; exact g3 k k2) (fun q hq => by rw [i2.1 q (by omega) (by omega) (by omega)]; exact g4 q (by omega) (by omega))) ?_ (fun q hq => by rw [i2.1 q (by omega) (by omega) (by omega), g4 q (by omega) (by omega), ud_q (by omega)])
        rw [e7 0 (by decide) (by decide) (by decide) (by decide), g3 0 (by decide), ud_at]; rfl
  · refine ⟨.inl (-1), rfS σ 1, hσ, fun u J D hC => ?_, fun u J D hM => ?_, by first | exact trivial | exact rfl | exact Or.inl rfl | exact Or.inr rfl⟩
    · have no : Wp (bI (EvM X (d + 49) 112 [.ref 0, .int 1] (hS u D J)) (fun y h => Ev X (d + 49 + 1) 110 (18, [.ref 0, .int x, .null], [.int y], h)) (fun e h => some (.inr e, h))) (CR (rfS σ 1) D u J (.inl (-1))) := by
        refine wp_iE (c_refuse (k := 1) (by decide)) ?_
        exact wp_eq (e110_18 _ _) (wp_cr (hC.rf (by decide)) (fun q hq => ud_q (by omega)))
      refine wp_eq (e110_0 _) ?_
      refine wp_if (fun _ => no) (fun h1 => wp_if (fun _ => no) (fun h2 => ?_))
      rw [hC.2.2.1.1]
      exact wp_f (fun z => hx ⟨h1, h2, z⟩) no
    · have hM0 := hM.th (v := 0) hn
      have no : Wp (bI (EvM X (d + 49) 209 [.ref 70, .int 1] (hS u (ud D 70 0 0) J)) (fun y h => Ev X (d + 49 + 1) 239 (19, [.ref 70, .int x, .null], [.int y], h)) (fun e h => some (.inr e, h))) (MR (rfS σ 1) D u J (-1) 0) := by
        refine wp_iE (m_refuses (k := 1) (by decide)) ?_
        exact wp_eq (e239_19 _ _) (wp_mr (hM0.rf (by decide) hn) (by rw [ud_q (by decide), ud_at]) (fun q hq => by rw [ud_q (by omega), ud_q (by omega)]))
      refine wp_eq (e239_0 _) ?_
      refine wp_iE m_within ?_
      refine wp_eq (e239_7 _ _) ?_
      have e78 : ud D 70 0 0 78 0 = σ.2.2.1 72 := hM0.2.2.1.1
      by_cases hw : ¬ x < 1 ∧ ¬ 20 < x
      · rw [if_pos hw]
        refine wp_f (by decide) ?_
        rw [e78]
        exact wp_f (fun z => hx ⟨hw.1, hw.2, z⟩) no
      · rw [if_neg hw]
        exact wp_t rfl no
/-- all sit as it is held -/
theorem s_seat (hP : isP P) (hn : ρ.1 ≤ 12) (h3 : D 3 0 = nI ρ.1) (hc : D (P + 1) = c) (hO : Ok ρ c) : Wp (EvM X (d + 1) 37 [.ref P] (hS u D J)) (RV u J (fun D' => PewsC P ρ c D' ∧ ∀ q, q ≠ P + 2 → q ≠ P + 3 → D' q = D q)) := by
  have hPl := isP_lo hP
  refine wp_eq (e37_0 hP) ?_
  refine wp_cV (s_fill (isP_Q hP)) (fun D0 h0 => ?_)
  obtain ⟨f1, -, f3⟩ := h0
  refine wp_eq (e37_4 hP) ?_
  refine wp_loop (R := fun k (D1 : DD) => Ev X (d + 1) 37 (6, [.ref P, .int (nI k), .null], [], hS u D1 J)) (fun k (D1 : DD) => (∀ w, w < 12 → D1 (P + 3) w = nI (cntN (inW c w) k)) ∧ (∀ p s, p < k → s < 144 → c p = nI s → D1 (P + 2) s = nI p) ∧ ∀ q, q ≠ P + 2 → q ≠ P + 3 → D1 q = D q) ρ.1 ?_ ?_ 0 D0 (Nat.zero_le _) ⟨fun w hw => by rw [f1 w hw]; exact nI_0.symm, fun p s hp => absurd hp (Nat.not_lt_zero p), fun q _ h => f3 q h⟩
  · intro k D1 hk ⟨i1, i2, i3⟩ ih
    have e3 : D1 3 0 = nI ρ.1 := by rw [i3 3 (by omega) (by omega)]; exact h3
    have e1 : D1 (P + 1) = c := by rw [i3 (P + 1) (by omega) (by omega)]; exact hc
    refine wp_eq (e37_6 hP _) ?_
    rw [e3]
    refine wp_f (nI_ge hk (by omega)) ?_
    rw [la, nI_clamp (by omega), Nat.zero_add, e1]
    refine oG (by omega) (by decide) ?_
    rcases hO.v k hk with hm | ⟨s, s1, s2⟩
    · refine wp_t hm ?_
      refine wp_weak (ls := [.ref P, .int (nI k + 1), .null]) (by simp [lle, lng]) ?_
      rw [nI_1]
      refine ih D1 ⟨fun w hw => ?_, fun p s hp hs hps => ?_, i3⟩
      · rw [i1 w hw, cntN, inW_no hm]; rfl
      · by_cases hpk : p = k
        · rw [hpk, hm] at hps; exact absurd hps.symm (n144 s hs).2.2.2.1
        · exact i2 p s (by omega) hs hps
    · rw [s2]
      refine wp_f (n144 s s1).2.2.2.1 ?_
      rw [(n144 s s1).1, nI_clamp (by omega), nI_clamp (by omega)]
      refine oG s1 (by decide) (oG (by omega) (by decide) (oG (by omega) (by decide) ?_))
      refine wp_weak (ls := [.ref P, .int (nI k + 1), .null]) (by simp [lle, lng]) ?_
      rw [nI_1, ud_q (show P + 3 ≠ P + 2 by omega), i1 (s / 12) (by omega)]
      refine ih _ ⟨fun w hw => ?_, fun p s' hp hs' hps => ?_, fun q q1 q2 => by rw [ud_q q2, ud_q q1]; exact i3 q q1 q2⟩
      · rw [cntN, inW_s s1 (by omega) s2]
        by_cases hws : w = s / 12
        · subst hws
          rw [ud_at, nI_1]
          simp
        · rw [ud_k hws, ud_q (by omega), i1 w hw]
          have : decide (s / 12 = w) = false := decide_eq_false (fun z => hws z.symm)
          rw [this]
          simp
      · rw [ud_q (by omega)]
        by_cases hpk : p = k
        · subst hpk
          have : s' = s := nI_inj (by omega) (by omega) (hps.symm.trans s2)
          rw [this, ud_at]
        · have : s' ≠ s := by
            intro z
            rw [z] at hps
            exact hpk (hO.2.2.1 p k (by omega) hk (hps.trans s2.symm) (by rw [hps]; exact (n144 s s1).2.2.2.1))
          rw [ud_k this]
          exact i2 p s' (by omega) hs' hps
  · intro D1 ⟨i1, i2, i3⟩
    have e3 : D1 3 0 = nI ρ.1 := by rw [i3 3 (by omega) (by omega)]; exact h3
    refine wp_eq (e37_6 hP _) ?_
    rw [e3]
    refine wp_t (nI_le (Nat.le_refl _) (by omega)) (wp_rV ⟨⟨by rw [i3 (P + 1) (by omega) (by omega)]; exact hc, i1, fun w x hw hx => ?_⟩, i3⟩)
    obtain ⟨g1, g2⟩ := who_ex hO hw hx
    exact i2 _ _ g1 (hO.lt hw hx) g2
end EASY
