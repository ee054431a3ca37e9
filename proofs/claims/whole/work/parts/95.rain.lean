/-! ===== rain ===== -/
def btN (m k : Nat) : Bool := decide (tbN (nI m) k = 1)
def wtN (z m : Nat) : Nat → Nat
  | 0 => 1
  | k + 1 => wtN z m k * (if btN m k = true then z else 10 - z)
theorem wt_le {z m : Nat} (hz : z ≤ 10) : ∀ k, wtN z m k ≤ 10 ^ k
  | 0 => Nat.le_refl _
  | k + 1 => by
    rw [wtN, Nat.pow_succ]
    refine Nat.mul_le_mul (wt_le hz k) ?_
    split <;> omega
def rnK (ρ : Ru) (c : Cc) (m : Nat) : Nat → Cc
  | 0 => c
  | k + 1 => sunN ρ (btN m k) (rnK ρ c m k)
theorem rn_good {ρ : Ru} (hR : Ru0 ρ) {c : Cc} (h : Good ρ c) (m : Nat) : ∀ k, Good ρ (rnK ρ c m k)
  | 0 => h
  | k + 1 => (rn_good hR h m k).sun hR _
def rnF (ρ : Ru) (c : Cc) (p n m : Nat) : Bool := decide (pewO (rnK ρ c m n p) = 0)
def rnT (ρ : Ru) (c : Cc) (p n z : Nat) : Nat → Int32
  | 0 => 0
  | m + 1 => if rnF ρ c p n m = true then rnT ρ c p n z m + nI (wtN z m n) else rnT ρ c p n z m
def FrR (D D' : DD) : Prop := (∀ q, q ≠ 70 → q ≠ 78 → q < 80 ∨ 84 < q → D' q = D q) ∧ (∀ i, i < 85 ∨ 170 ≤ i → D' 78 i = D 78 i) ∧ ∀ k, k ≠ 40 → k ≠ 41 → k ≠ 42 → k ≠ 43 → k ≠ 46 → D' 70 k = D 70 k
theorem FrM.r {D D' : DD} (h : FrM 85 D D') : FrR D D' := ⟨h.1, fun i hi => h.2.1 i (by omega), fun k a b c _ e => h.2.2 k a b c e⟩
theorem FrR.tr {A B C : DD} (h1 : FrR A B) (h2 : FrR B C) : FrR A C := ⟨fun q a b c => (h2.1 q a b c).trans (h1.1 q a b c), fun i a => (h2.2.1 i a).trans (h1.2.1 i a), fun k a b c e f => (h2.2.2 k a b c e f).trans (h1.2.2 k a b c e f)⟩
theorem FrR.u43 {D : DD} {v : Int32} : FrR D (ud D 70 43 v) := ⟨fun q h _ _ => ud_q h, fun i _ => by rw [ud_q (by decide)], fun k _ _ _ h _ => ud_k h⟩
theorem FrR.m {D D' : DD} (h : FrR D D') (h43 : D' 70 43 = D 70 43) : FrM 85 D D' := ⟨h.1, fun i hi => h.2.1 i (by omega), fun k a b c e => by
  by_cases hk : k = 43
  · rw [hk]; exact h43
  · exact h.2.2 k a b c hk e⟩
section RAIN
variable {X : XS} {d u : Nat} {D D1 : DD} {J : JJ} {σ : Sg} {ρ : Ru} {c : Cc} {K : Nat}
theorem bI32_T : bI32 true = 1 := rfl
theorem c_rainy {p n m : Nat} (hσ : SgOk σ) (hC : CI σ D) (hp : p < σ.2.1.1) (n3 : n < 2 ^ 31) : Wp (EvM X (d + 5) 142 [.ref 0, .int (nI p), .int (nI n), .int (nI m)] (hS u D J)) (RI u J (fun v D' => v = bI32 (rnF σ.2.1 σ.2.2.1 p n m) ∧ CI σ D' ∧ FrP 31 D D')) := by
  have hn := hσ.2.1.1.1
  have isP31 : isP 31 := Or.inr (Or.inl rfl)
  have hg2 := rn_good hσ.2.1.1 hσ.2.2.1 m
  refine wp_eq (e142_0 _ _ _) ?_
  refine wp_cV (c_trial hσ hC) (fun D2 h2 => ?_)
  obtain ⟨k1, k3⟩ := h2
  refine wp_eq (e142_5 _ _ _) ?_
  refine wp_loop (R := fun k (D3 : DD) => Ev X (d + 5) 142 (7, [.ref 0, .int (nI p), .int (nI n), .int (nI m), .int (nI k)], [], hS u D3 J)) (fun k (D3 : DD) => PewsC 31 σ.2.1 (rnK σ.2.1 σ.2.2.1 m k) D3 ∧ FrP 31 D D3) n ?_ ?_ 0 _ (Nat.zero_le _) ⟨k1, k3⟩
  · intro k D3 hk ⟨i1, i5⟩ ih
    refine wp_eq (e142_7 _ _ _ _) (wp_f (nI_ge hk n3) (wp_if (fun h => ?_) (fun h => ?_)))
    · have hb : btN m k = false := decide_eq_false h
      refine wp_cV (s_goBy (d := d) (rain := false) isP31 hσ.2.1 (hC.2.1.p isP31 i5) i1.1) (fun D4 h4 => ?_)
      obtain ⟨m1, -, -, -, m5⟩ := h4
      refine wp_eq (e142_23 _ _ _ _) ?_
      rw [nI_1]
      exact ih D4 ⟨by rw [rnK, hb]; exact m1, i5.tr m5⟩
    · have hb : btN m k = true := decide_eq_true (Classical.not_not.mp h)
      refine wp_cV (s_goBy (d := d) (rain := true) isP31 hσ.2.1 (hC.2.1.p isP31 i5) i1.1) (fun D4 h4 => ?_)
      obtain ⟨m1, -, -, -, m5⟩ := h4
      refine wp_eq (e142_23 _ _ _ _) ?_
      rw [nI_1]
      exact ih D4 ⟨by rw [rnK, hb]; exact m1, i5.tr m5⟩
  · intro D3 ⟨i1, i5⟩
    have e32 : D3 32 = rnK σ.2.1 σ.2.2.1 m n := i1.1
    have hC3 : CI σ D3 := hC.p31 i5 (by rw [e32]; exact (hg2 n).2.1)
    refine wp_eq (e142_7 _ _ _ _) (wp_t (nI_le (Nat.le_refl _) n3) ?_)
    rw [la, nI_clamp (by omega), Nat.zero_add, e32]
    refine oG (by omega) (by decide) ?_
    refine wp_iE c_pewOf ?_
    refine wp_eq (e142_33 _ _ _ _ _) (wp_if (fun h => wp_rI ⟨?_, hC3, i5⟩) (fun h => wp_rI ⟨?_, hC3, i5⟩))
    · unfold rnF; rw [decide_eq_false h]; rfl
    · unfold rnF; rw [decide_eq_true (Classical.not_not.mp h)]; rfl
theorem p_rain {x y z : Int32} (hσ : SgOk σ) : PairI σ (fun u J D => EvM X (d + 50) 141 [.ref 0, .int x, .int y, .int z] (hS u D J)) (fun u J D => EvM X (d + 50) 286 [.ref 70, .int x, .int y, .int z] (hS u D J)) nI xC := by
  have hn := hσ.2.1.1.1
  have h31 : σ.2.1.1 < 2 ^ 31 := by omega
  by_cases ix : isPe σ.2.1.1 x
  · by_cases hh : (¬ y < 1 ∧ ¬ 5 < y) ∧ ¬ z < 0 ∧ ¬ 10 < z
    · obtain ⟨iy, iz⟩ := hh
      obtain ⟨p, p1, rfl⟩ := id ix
      obtain ⟨n, n1, n2, n3, rfl⟩ := nI_x (a := 1) (b := 5) (by decide) iy.1 iy.2
      obtain ⟨w, -, w2, w3, rfl⟩ := nI_x (a := 0) (b := 10) (by decide) iz.1 iz.2
      have eb : (1 : Int32) <<< (nI n &&& 31) = nI (2 ^ n) := bit_p n (by omega)
      have e2 : 2 ^ n ≤ 32 := Nat.pow_le_pow_right (by decide) (show n ≤ 5 by omega)
      have e10 : (10 : Int32) - nI w = nI (10 - w) := nI_sub (a := 10) (by omega)
      refine ⟨.inl (rnT σ.2.1 σ.2.2.1 p n w (2 ^ n)), σ, hσ, fun u J D hC => ?_, fun u J D hM => ?_, by first | exact trivial | exact rfl | exact Or.inl rfl | exact Or.inr rfl⟩
      · refine wp_eq (e141_0 _ _ _) ?_
        rcases c_pers (X := X) (d := d + 49) (u := u) (J := J) (x := nI p) h31 hC.2.1.1 with ⟨_, g⟩ | ⟨g, _⟩
        · refine wp_vE g ?_
          refine wp_eq (e141_3 _ _ _) ?_
          rcases c_within (X := X) (d := d + 49) (u := u) (D := D) (J := J) (x := nI n) (a := 1) (b := 5) with ⟨_, g⟩ | ⟨g, _⟩
          · refine wp_vE g ?_
            refine wp_eq (e141_7 _ _ _) ?_
            rcases c_within (X := X) (d := d + 49) (u := u) (D := D) (J := J) (x := nI w) (a := 0) (b := 10) with ⟨_, g⟩ | ⟨g, _⟩
            · refine wp_vE g ?_
              refine wp_eq (e141_11 _ _ _) ?_
              refine wp_loop (R := fun m (D2 : DD) => Ev X (d + 50) 141 (15, [.ref 0, .int (nI p), .int (nI n), .int (nI w), .int (rnT σ.2.1 σ.2.2.1 p n w m), .int (nI m), .null, .null], [], hS u D2 J)) (fun m (D2 : DD) => CI σ D2 ∧ FrP 31 D D2) (2 ^ n) ?_ ?_ 0 D (Nat.zero_le _) ⟨hC, FrP.rf 31 D⟩
              · intro m D2 hm ⟨i1, i2⟩ ih
                refine wp_eq (e141_15 _ _ _ _ _) ?_
                rw [eb]
                refine wp_f (nI_ge hm (by omega)) ?_
                refine wp_loop (R := fun k (_ : Unit) => Ev X (d + 50) 141 (24, [.ref 0, .int (nI p), .int (nI n), .int (nI w), .int (rnT σ.2.1 σ.2.2.1 p n w m), .int (nI m), .int (nI (wtN w m k)), .int (nI k)], [], hS u D2 J)) (fun _ _ => True) n ?_ ?_ 0 () (Nat.zero_le _) trivial
                · intro k _ hk _ ih2
                  have ih2 := ih2 () trivial
                  rw [wtN] at ih2
                  refine wp_eq (e141_24 _ _ _ _ _ _ _) (wp_f (nI_ge hk n3) ?_)
                  rw [e10, nI_mul, nI_mul, nI_1]
                  refine wp_if (fun h => ?_) (fun h => ?_)
                  · have hb : btN m k = false := decide_eq_false h
                    rw [hb] at ih2; exact ih2
                  · have hb : btN m k = true := decide_eq_true (Classical.not_not.mp h)
                    rw [hb] at ih2; exact ih2
                · intro _ _
                  have hwt : wtN w m n ≤ 10 ^ n := wt_le w2 n
                  have h5 : 10 ^ n ≤ 10 ^ 5 := Nat.pow_le_pow_right (by decide) (show n ≤ 5 by omega)
                  refine wp_eq (e141_24 _ _ _ _ _ _ _) (wp_t (nI_le (Nat.le_refl _) n3) (wp_if (fun h => ?_) (fun h => ?_)))
                  · have hz : wtN w m n = 0 := by
                      have := (nI_leI (b := 0) (by omega) (by decide)).mp h
                      omega
                    have ih := ih D2 ⟨i1, i2⟩
                    have er : rnT σ.2.1 σ.2.2.1 p n w (m + 1) = rnT σ.2.1 σ.2.2.1 p n w m := by
                      rw [rnT, hz]
                      split
                      · exact Int32.add_zero _
                      · rfl
                    rw [er] at ih
                    rw [nI_1]
                    exact wp_weak (ls := [.ref 0, .int (nI p), .int (nI n), .int (nI w), .int (rnT σ.2.1 σ.2.2.1 p n w m), .int (nI (m + 1)), .null, .null]) (by simp [lle, lng]) ih
                  · refine wp_cI (c_rainy (d := d + 44) hσ i1 p1 n3) (fun v D3 h3 => ?_)
                    obtain ⟨rfl, j1, j2⟩ := h3
                    have ih := ih D3 ⟨j1, i2.tr j2⟩
                    rw [rnT] at ih
                    refine wp_eq (e141_51 _ _ _ _ _ _ _ _) ?_
                    rw [nI_1]
                    cases hf : rnF σ.2.1 σ.2.2.1 p n m with
                    | false =>
                      rw [hf, if_neg (by decide)] at ih
                      refine wp_t rfl ?_
                      exact wp_weak (ls := [.ref 0, .int (nI p), .int (nI n), .int (nI w), .int (rnT σ.2.1 σ.2.2.1 p n w m), .int (nI (m + 1)), .null, .null]) (by simp [lle, lng]) ih
                    | true =>
                      rw [hf, if_pos rfl] at ih
                      refine wp_f (by decide) ?_
                      exact wp_weak (ls := [.ref 0, .int (nI p), .int (nI n), .int (nI w), .int (rnT σ.2.1 σ.2.2.1 p n w m + nI (wtN w m n)), .int (nI (m + 1)), .null, .null]) (by simp [lle, lng]) ih
              · intro D2 ⟨i1, i2⟩
                refine wp_eq (e141_15 _ _ _ _ _) ?_
                rw [eb]
                exact wp_t (nI_le (Nat.le_refl _) (by omega)) (wp_cr i1 (fun q hq => i2.1 q (by omega) (by omega)))
            · exact absurd iz g
          · exact absurd iy g
        · exact absurd ix g
      · have hM0 := hM.th (v := 0) hn
        have h0 := ud_at D 70 0 0
        have h43 : ud D 70 0 0 70 43 = 0 := hM0.2.2.2.2.2.2
        refine wp_eq (e286_0 _ _ _) ?_
        refine wp_iE ((m_pers (X := X) (d := d + 48) (u := u) (J := J) (x := nI p) h31 hM0.2.1.1 h0).1 ix) ?_
        refine wp_eq (e286_6 _ _ _ _) (wp_f (by decide) ?_)
        refine wp_iE m_within ?_
        rw [if_pos iy]
        refine wp_eq (e286_12 _ _ _ _) (wp_f (by decide) ?_)
        refine wp_iE m_within ?_
        rw [if_pos iz]
        refine wp_eq (e286_17 _ _ _ _) (wp_f (by decide) ?_)
        refine wp_iE ((m_right h0 (by decide)).1 (by decide)) ?_
        refine wp_eq (e286_23 _ _ _ _) (wp_t (by decide) ?_)
        refine wp_loop (R := fun m (D2 : DD) => Ev X (d + 50) 286 (30, [.ref 70, .int (nI p), .int (nI n), .int (nI w), .int (rnT σ.2.1 σ.2.2.1 p n w m), .int (nI m), .null, .null], [], hS u D2 J)) (fun m (D2 : DD) => FrR (ud D 70 0 0) D2) (2 ^ n) ?_ ?_ 0 _ (Nat.zero_le _) ((FrM.rf 85 _).r)
        · intro m D2 hm i2 ih
          refine wp_eq (e286_30 _ _ _ _ _) ?_
          rw [eb]
          refine wp_f (nI_ge hm (by omega)) ?_
          have hr2 : RowM 0 σ.2.1 σ.2.2.1 (D2 78) := hM0.2.2.1.copy hn (fun i hi => by rw [Nat.zero_add]; exact i2.2.1 i (by omega))
          refine wp_cV (m_try0 hn hr2) (fun D3 h3 => ?_)
          refine wp_eq (e286_39 _ _ _ _ _ _) ?_
          refine wp_loop (R := fun k (D4 : DD) => Ev X (d + 50) 286 (41, [.ref 70, .int (nI p), .int (nI n), .int (nI w), .int (rnT σ.2.1 σ.2.2.1 p n w m), .int (nI m), .int (nI (wtN w m k)), .int (nI k)], [], hS u D4 J)) (fun k (D4 : DD) => RowM 85 σ.2.1 (rnK σ.2.1 σ.2.2.1 m k) (D4 78) ∧ FrR (ud D 70 0 0) D4) n ?_ ?_ 0 D3 (Nat.zero_le _) ⟨h3.1, i2.tr h3.2.2.r⟩
          · intro k D4 hk ⟨j1, j2⟩ ih2
            have hgk := rn_good hσ.2.1.1 hσ.2.2.1 m k
            rw [wtN] at ih2
            refine wp_eq (e286_41 _ _ _ _ _ _ _) (wp_f (nI_ge hk n3) ?_)
            rw [e10, nI_mul, nI_mul]
            have go : ∀ (b : Bool), btN m k = b → Wp (bV (EvM X (d + 49) 228 [.ref 70, .int 85] (hS u (ud D4 70 43 (bI32 b)) J)) (fun h => Ev X (d + 49 + 1) 286 (70, [.ref 70, .int (nI p), .int (nI n), .int (nI w), .int (rnT σ.2.1 σ.2.2.1 p n w m), .int (nI m), .int (nI (wtN w m k * (if b = true then w else 10 - w))), .int (nI k)], [], h)) (fun e h => some (.inr e, h))) (MR σ D u J (rnT σ.2.1 σ.2.2.1 p n w (2 ^ n)) 0) := by
              intro b hb
              have fr : FrR (ud D 70 0 0) (ud D4 70 43 (bI32 b)) := j2.tr FrR.u43
              refine wp_cV (s_sunday (d := d + 43) (b := 85) (rain := b) (Or.inr rfl) hσ.2.1 (hM0.2.1.mv (fun k _ _ => fr.2.2 k (by omega) (by omega) (by omega) (by omega) (by omega)) (fr.1 71 (by decide) (by decide) (by omega))) (by rw [ud_q (by decide)]; exact j1) hgk.1.v hgk.bz (ud_at _ _ _ _)) (fun D5 h5 => ?_)
              obtain ⟨s1, -, -, -, s5⟩ := h5
              refine wp_eq (e286_70 _ _ _ _ _ _ _) ?_
              rw [nI_1]
              have := ih2 D5 ⟨by rw [rnK, hb]; exact s1, fr.tr s5.r⟩
              rw [hb] at this
              exact this
            refine wp_if (fun h => ?_) (fun h => ?_)
            · rw [ud_at]
              exact wp_t rfl (go false (decide_eq_false h))
            · rw [ud_at]
              exact wp_f (by decide) (go true (decide_eq_true (Classical.not_not.mp h)))
          · intro D4 ⟨j1, j2⟩
            have ih := ih D4 j2
            rw [rnT] at ih
            refine wp_eq (e286_41 _ _ _ _ _ _ _) (wp_t (nI_le (Nat.le_refl _) n3) ?_)
            obtain ⟨-, t2, -⟩ := j1.s hn p1
            have t2 : D4 78 (98 + p) = pewO (rnK σ.2.1 σ.2.2.1 m n p) := t2
            rw [la, nI_clamp (by omega), t2, nI_1]
            refine oG (by omega) (by decide) (wp_if (fun h => ?_) (fun h => ?_))
            · rw [if_neg (by unfold rnF; simp [h])] at ih
              rw [Int32.add_zero]
              exact wp_weak (ls := [.ref 70, .int (nI p), .int (nI n), .int (nI w), .int (rnT σ.2.1 σ.2.2.1 p n w m), .int (nI (m + 1)), .null, .null]) (by simp [lle, lng]) ih
            · rw [if_pos (by unfold rnF; simp [Classical.not_not.mp h])] at ih
              exact wp_weak (ls := [.ref 70, .int (nI p), .int (nI n), .int (nI w), .int (rnT σ.2.1 σ.2.2.1 p n w m + nI (wtN w m n)), .int (nI (m + 1)), .null, .null]) (by simp [lle, lng]) ih
        · intro D2 i2
          refine wp_eq (e286_30 _ _ _ _ _) ?_
          rw [eb]
          refine wp_t (nI_le (Nat.le_refl _) (by omega)) ?_
          exact ((i2.tr FrR.u43).m (by rw [ud_at, h43])).fin hM0 hn
    · refine ⟨.inr 2, σ, hσ, fun u J D hC => ?_, fun u J D hM => ?_, by first | exact trivial | exact rfl | exact Or.inl rfl | exact Or.inr rfl⟩
      · refine wp_eq (e141_0 _ _ _) ?_
        rcases c_pers (X := X) (d := d + 49) (u := u) (J := J) (x := x) h31 hC.2.1.1 with ⟨_, g⟩ | ⟨g, _⟩
        · refine wp_vE g ?_
          refine wp_eq (e141_3 _ _ _) ?_
          rcases c_within (X := X) (d := d + 49) (u := u) (D := D) (J := J) (x := y) (a := 1) (b := 5) with ⟨g1, g⟩ | ⟨_, g⟩
          · refine wp_vE g ?_
            refine wp_eq (e141_7 _ _ _) ?_
            rcases c_within (X := X) (d := d + 49) (u := u) (D := D) (J := J) (x := z) (a := 0) (b := 10) with ⟨g2, _⟩ | ⟨_, g⟩
            · exact absurd ⟨g1, g2⟩ hh
            · exact wp_vT g (wp_ct hC (fun _ _ => rfl))
          · exact wp_vT g (wp_ct hC (fun _ _ => rfl))
        · exact absurd ix g
      · have hM0 := hM.th (v := 0) hn
        have h0 := ud_at D 70 0 0
        have no : Wp (bI (EvM X (d + 49) 172 [.ref 70, .int 0, .int 2] (hS u (ud D 70 0 0) J)) (fun y' h => Ev X (d + 49 + 1) 286 (23, [.ref 70, .int x, .int y, .int z, .null, .null, .null, .null], [.int y'], h)) (fun e h => some (.inr e, h))) (MR σ D u J 0 2) := by
          refine wp_iE ((m_right h0 (by decide)).2 rfl) ?_
          refine wp_eq (e286_23 _ _ _ _) (wp_f (by decide) ?_)
          exact wp_mr (hM0.th hn) (ud_at _ 70 0 2) (fun q hq => by rw [ud_q (by omega), ud_q (by omega)])
        refine wp_eq (e286_0 _ _ _) ?_
        refine wp_iE ((m_pers (X := X) (d := d + 48) (u := u) (J := J) (x := x) h31 hM0.2.1.1 h0).1 ix) ?_
        refine wp_eq (e286_6 _ _ _ _) (wp_f (by decide) ?_)
        refine wp_iE m_within ?_
        refine wp_eq (e286_12 _ _ _ _) ?_
        by_cases iy : ¬ y < 1 ∧ ¬ 5 < y
        · rw [if_pos iy]
          refine wp_f (by decide) ?_
          refine wp_iE m_within ?_
          rw [if_neg (fun iz => hh ⟨iy, iz⟩)]
          exact wp_eq (e286_17 _ _ _ _) (wp_t rfl no)
        · rw [if_neg iy]
          exact wp_t rfl no
  · refine ⟨.inr 1, σ, hσ, fun u J D hC => ?_, fun u J D hM => ?_, by first | exact trivial | exact rfl | exact Or.inl rfl | exact Or.inr rfl⟩
    · refine wp_eq (e141_0 _ _ _) ?_
      rcases c_pers (X := X) (d := d + 49) (u := u) (J := J) (x := x) h31 hC.2.1.1 with ⟨g, _⟩ | ⟨_, g⟩
      · exact absurd g ix
      · exact wp_vT g (wp_ct hC (fun _ _ => rfl))
    · have hM0 := hM.th (v := 0) hn
      refine wp_eq (e286_0 _ _ _) ?_
      refine wp_iE ((m_pers (X := X) (d := d + 48) (u := u) (J := J) (x := x) h31 hM0.2.1.1 (ud_at D 70 0 0)).2 ix) ?_
      refine wp_eq (e286_6 _ _ _ _) (wp_t rfl ?_)
      exact wp_mr (hM0.th hn) (ud_at _ 70 0 1) (fun q hq => by rw [ud_q (by omega), ud_q (by omega)])
end RAIN
