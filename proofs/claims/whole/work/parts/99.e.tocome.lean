/-! ===== toCome, whose, toBar ===== -/
def mnS (v0 : Int32) (f : Nat → Int32) : Nat → Int32 × Int32
  | 0 => (-1, v0)
  | k + 1 => if (mnS v0 f k).2 ≤ f k then mnS v0 f k else (nI k, f k)
theorem mn_eq {v w : Int32} {f : Nat → Int32} (h1 : ¬ v ≤ f 0) (h2 : ¬ w ≤ f 0) : ∀ k, mnS v f (k + 1) = mnS w f (k + 1)
  | 0 => by
    rw [mnS, mnS, mnS, mnS, if_neg h1, if_neg h2]
  | k + 1 => by
    rw [mnS, mn_eq h1 h2 k, mnS.eq_2 w f (k + 1)]
theorem mn_eq' {v w : Int32} {f : Nat → Int32} {m : Nat} (hm : 0 < m) (h1 : ¬ v ≤ f 0) (h2 : ¬ w ≤ f 0) : mnS v f m = mnS w f m := by
  obtain ⟨k, rfl⟩ : ∃ k, m = k + 1 := ⟨m - 1, by omega⟩
  exact mn_eq h1 h2 k
def woN (A : Nat → Bool) (f : Nat → Int32) (b0 : Int32) : Nat → Int32 × Int32
  | 0 => (b0, -1)
  | k + 1 => if A k = true ∧ ¬ (woN A f b0 k).1 ≤ f k then (f k, nI k) else woN A f b0 k
section TOCOME
variable {X : XS} {d u : Nat} {D D1 : DD} {J : JJ} {σ : Sg} {ρ : Ru} {c : Cc} {L : Nat × (Nat → Nat)} {p k j : Nat} {q : Option Nat}
theorem tb_fS {a : Nat → Nat} {p : Nat} (hp : p < 12) : ∀ m, (∀ i, i < m → a i < 12) → (tbN (fS (fun x y : Int32 => x ||| y) 0 bitN a m) p = 1 ∧ ∃ i, i < m ∧ a i = p) ∨ (tbN (fS (fun x y : Int32 => x ||| y) 0 bitN a m) p = 0 ∧ ∀ i, i < m → a i ≠ p)
  | 0, _ => Or.inr ⟨tb_0 p (by omega), fun i hi => absurd hi (Nat.not_lt_zero i)⟩
  | m + 1, h => by
    have e : tbN (fS (fun x y : Int32 => x ||| y) 0 bitN a (m + 1)) p = tbN (fS (fun x y : Int32 => x ||| y) 0 bitN a m) p ||| (if a m = p then 1 else 0) := by
      rw [fS, tb_or, tb_bit _ (by have := h m (by omega); omega) p (by omega)]
    rw [e]
    have ih := tb_fS hp m (fun i hi => h i (by omega))
    by_cases hm : a m = p
    · rw [if_pos hm]
      refine Or.inl ⟨?_, m, by omega, hm⟩
      rcases ih with ⟨h1, -⟩ | ⟨h1, -⟩ <;> rw [h1] <;> decide
    · rw [if_neg hm]
      rcases ih with ⟨h1, i, i1, i2⟩ | ⟨h1, h2⟩
      · exact Or.inl ⟨by rw [h1]; decide, i, by omega, i2⟩
      · refine Or.inr ⟨by rw [h1]; decide, fun i hi z => ?_⟩
        by_cases him : i = m
        · rw [him] at z; exact hm z
        · exact h2 i (by omega) z
theorem tb_cm (hn : ρ.1 ≤ 12) (hp : p < 12) : tbN (cmN ρ c) p = if (plO (lineN ρ c false ρ.1) (some p)).isSome = true then 1 else 0 := by
  have hL := line_12 hn c
  unfold cmN
  cases hk : plO (lineN ρ c false ρ.1) (some p) with
  | none =>
    rcases tb_fS hp (lineN ρ c false ρ.1).1 hL.2 with ⟨-, i, i1, i2⟩ | ⟨h1, -⟩
    · exact absurd (by rw [i2]) (pl_none hk i i1)
    · rw [h1]; rfl
  | some k =>
    obtain ⟨k1, k2⟩ := pl_some hk
    rcases tb_fS hp (lineN ρ c false ρ.1).1 hL.2 with ⟨h1, -⟩ | ⟨-, h2⟩
    · rw [h1]; rfl
    · exact absurd (by injection k2) (h2 k k1)
theorem isP31 : isP 31 := Or.inr (Or.inl rfl)
/-- the trial's line -/
theorem c_tline (hσ : SgOk σ) (hC : CI σ D) (h1 : PewsC 31 σ.2.1 σ.2.2.1 D1) (hf : FrP 31 D D1) : Wp (EvM X (d + 1) 45 [.ref 31, .int 0] (hS u D1 J)) (RV u J (fun D' => isL 31 (lineN σ.2.1 σ.2.2.1 false σ.2.1.1) D' ∧ D' 32 = σ.2.2.1 ∧ RulesC σ.2.1 D' ∧ FrP 31 D D')) := by
  obtain ⟨y, h2, D2, rfl, h3⟩ := s_line (X := X) (d := d) (u := u) (J := J) (rain := false) isP31 hσ.2.1 (hC.2.1.p isP31 hf) h1.1
  refine ⟨_, h2, D2, rfl, ⟨h3.1, h3.2.2.1⟩, ?_, hC.2.1.p isP31 (hf.tr h3.fr), hf.tr h3.fr⟩
  rw [h3.2.2.2.2.1 32 (by decide) (by decide) (by decide) (by decide)]
  exact h1.1
theorem c_tserv (hσ : SgOk σ) (hC : CI σ D) (hL : LineD σ.2.1 L) (h4 : isL 31 L D1) (h32 : D1 32 = σ.2.2.1) (hf : FrP 31 D D1) : Wp (EvM X (d + 3) 50 [.ref 31] (hS u D1 J)) (RV u J (fun D' => D' 32 = servN σ.2.1 σ.2.2.1 L ∧ CI σ D' ∧ FrP 31 D D')) := by
  obtain ⟨y, h2, D2, rfl, h3⟩ := s_serv (X := X) (d := d) (u := u) (J := J) isP31 hσ.2.1 (hC.2.1.p isP31 hf) h32 hL h4.1 h4.2
  obtain ⟨a1, -, -, -, -, -, a7⟩ := h3
  have e : D2 32 = servN σ.2.1 σ.2.2.1 L := a1.1
  exact ⟨_, h2, D2, rfl, e, hC.p31 (hf.tr a7) (by rw [e]; exact (hσ.2.2.1.serv hσ.2.1.1 hL).2.1), hf.tr a7⟩
theorem FrP.a31 {D2 : DD} (hf : FrP 31 D D1) (h : ∀ a, a ≠ 31 → a ≠ 31 + 4 → D2 a = D1 a) : FrP 31 D D2 := hf.tr ⟨fun a ha _ => h a (by omega) (by omega), fun i _ _ => by rw [h 5 (by decide) (by decide)]⟩
theorem c_hold (hσ : SgOk σ) (hC : CI σ D) (hq : ∀ b, q = some b → b < 12) : Wp (EvM X (d + 4) 135 [.ref 0, .int (whoA q)] (hS u D J)) (RI u J (fun y D' => y = (if (plO (lineN σ.2.1 σ.2.2.1 false σ.2.1.1) q).isSome = true then 1 else 0) ∧ D' 32 = servN σ.2.1 σ.2.2.1 (outO (lineN σ.2.1 σ.2.2.1 false σ.2.1.1) q) ∧ CI σ D' ∧ FrP 31 D D')) := by
  have hn := hσ.2.1.1.1
  have hL := line_D hn σ.2.2.1 false
  refine wp_eq (e135_0 _) ?_
  refine wp_cV (c_trial hσ hC) (fun D1 h1 => ?_)
  refine wp_eq (e135_5 _) ?_
  refine wp_cV (c_tline (d := d + 2) hσ hC h1.1 h1.2) (fun D2 h2 => ?_)
  obtain ⟨g1, g2, g3, g4⟩ := h2
  refine wp_eq (e135_9 _) ?_
  refine wp_cI (c_leaveOut (d := d + 2) isP31 hL hn g1 hq) (fun y D3 h3 => ?_)
  obtain ⟨rfl, k1, k2⟩ := h3
  refine wp_eq (e135_13 _ _) ?_
  refine wp_cV (c_tserv (d := d) hσ hC (out_D hL) k1 (by rw [k2 32 (by decide) (by decide)]; exact g2) (g4.a31 k2)) (fun D4 h4 => ?_)
  refine wp_eq (e135_17 _ _) (wp_gd ?_ (wp_rI ⟨rfl, h4.1, h4.2⟩))
  split <;> rfl
/-! the reference -/
theorem FrO.m {b : Nat} (h : FrO D D1) : FrM b D D1 := ⟨fun q a _ c => h.1 q a (by omega), fun i _ => by rw [h.1 78 (by decide) (by decide)], fun k _ _ _ e => h.2 k e⟩
theorem m_pre (hR : RuOk ρ) (hG : Good ρ c) (hC : RulesM ρ D) (hr : RowM 0 ρ c (D 78)) (hra : D 70 43 = 0) : Wp (EvM X d 211 [.ref 70] (hS u D J)) (RV u J (fun D1 => RowM 85 ρ c (D1 78) ∧ FrM 85 D D1)) ∧ ∀ D1, RowM 85 ρ c (D1 78) → FrM 85 D D1 → Wp (EvM X (d + 3) 224 [.ref 70, .int 85] (hS u D1 J)) (RV u J (fun D2 => isLM (lineN ρ c false ρ.1) D2 ∧ RowM 85 ρ c (D2 78) ∧ FrM 85 D D2)) := by
  have hn := hR.1.1
  refine ⟨?_, fun D1 h1 hf => ?_⟩
  · obtain ⟨y, h2, D2, rfl, t1, t2, -, t4⟩ := m_tries (X := X) (d := d) (u := u) (J := J) hn hr
    exact ⟨_, h2, D2, rfl, t1, fun q q1 q2 q3 => t4 q q2 (by omega), fun i hi => t2 i (by omega), fun k _ _ _ _ => by rw [t4 70 (by decide) (by decide)]⟩
  · have e43 : D1 70 43 = bI32 false := by
      rw [hf.2.2 43 (by decide) (by decide) (by decide) (by decide)]; exact hra
    obtain ⟨y, h2, D2, rfl, h3⟩ := s_asks (X := X) (d := d) (u := u) (J := J) (b := 85) (rain := false) (Or.inr rfl) hR (hC.fr hf) h1 hG.1.v hG.bz e43
    exact ⟨_, h2, D2, rfl, ⟨h3.1, h3.2.2.1⟩, by rw [h3.2.2.2.2 78 (by decide) (by omega)]; exact h1, hf.tr h3.fr⟩
theorem serv_p (hR : Ru0 ρ) (hG : Good ρ c) (hL : LineD ρ L) (hp : p < ρ.1) (hm : ∃ i, i < L.1 ∧ L.2 i = p) : ∃ s, s < 144 ∧ servN ρ c L p = nI s ∧ pewO (servN ρ c L p) = nI (s / 12) ∧ p12 (servN ρ c L p) = nI (s / 12) := by
  have hv := (hG.serv hR hL).1.v p hp
  rcases hv with h | ⟨s, s1, s2⟩
  · obtain ⟨i, i1, i2⟩ := hm
    exact absurd i2 ((serv_sits hR hL hp).mp h i i1)
  · refine ⟨s, s1, s2, by rw [s2]; exact (pewO_s s1).1, ?_⟩
    rw [s2]
    unfold p12
    rw [if_pos (nI_pos' (by omega)), (n144 s s1).1]
theorem m_270e {x2 x3 : Int32} (hR : RuOk ρ) (hG : Good ρ c) (hC : RulesM ρ D) (hL : LineD ρ L) (hp : p < ρ.1) (hl : isLM L D1) (hr : RowM 85 ρ c (D1 78)) (hf : FrM 85 D D1) : Wp (Ev X (d + 6) 270 (19, [.ref 70, .int (nI p), .int x2, .int x3], [], hS u D1 J)) (RI u J (fun y D' => y = p12 (servN ρ c L p) ∧ FrM 85 D D')) := by
  have hn := hR.1.1
  refine wp_eq (e270_19 _ _ _) ?_
  refine wp_cV (s_comesAll (d := d) (c := c) (b := 85) (Or.inr rfl) hR (hC.fr hf) hr hL hl.1 hl.2) (fun D2 h2 => ?_)
  obtain ⟨a1, -, -, -, -, a6⟩ := h2
  refine wp_eq (e270_22 _ _ _) ?_
  refine wp_iE (m_p12 (b := 85) (Or.inr rfl) hn a1 hp ((hG.serv hR.1 hL).1.v p hp)) ?_
  exact wp_eq (e270_26 _ _ _ _) (wp_rI ⟨rfl, hf.tr a6⟩)
theorem m_270o (hR : RuOk ρ) (hG : Good ρ c) (hC : RulesM ρ D) (hr : RowM 0 ρ c (D 78)) (hra : D 70 43 = 0) (hp : p < ρ.1) (hq : ∀ b, q = some b → b < 12) (hk : ∀ b, q = some b → (plO (lineN ρ c false ρ.1) q).isSome = true) : Wp (EvM X (d + 6) 270 [.ref 70, .int (nI p), .int (-1), .int (whoA q)] (hS u D J)) (RI u J (fun y D' => y = p12 (servN ρ c (outO (lineN ρ c false ρ.1) q) p) ∧ FrM 85 D D')) := by
  have hn := hR.1.1
  have hL := line_D hn c false
  obtain ⟨w1, w2⟩ := m_pre (X := X) (d := d + 2) (u := u) (J := J) hR hG hC hr hra
  refine wp_eq (e270_0 _ _ _) ?_
  refine wp_cV (m_pre (X := X) (d := d + 5) (u := u) (J := J) hR hG hC hr hra).1 (fun D1 h1 => ?_)
  refine wp_eq (e270_2 _ _ _) ?_
  refine wp_cV (w2 D1 h1.1 h1.2) (fun D2 h2 => ?_)
  obtain ⟨g1, g2, g3⟩ := h2
  refine wp_eq (e270_5 _ _ _) (wp_t rfl ?_)
  refine wp_eq (e270_12 _ _ _) ?_
  cases q with
  | none =>
    refine wp_t rfl ?_
    rw [out_n]
    exact m_270e (d := d) hR hG hC hL hp g1 g2 g3
  | some b =>
    have hb := hq b rfl
    have hb2 := hk b rfl
    obtain ⟨k, hk⟩ : ∃ k, plO (lineN ρ c false ρ.1) (some b) = some k := by
      cases h : plO (lineN ρ c false ρ.1) (some b) with
      | none => rw [h] at hb2; cases hb2
      | some k => exact ⟨k, rfl⟩
    refine wp_f (nI_ne1 (show b < 2 ^ 31 by omega)) ?_
    refine wp_cV (m_out (d := d + 4) hL hn g1 hb hk) (fun D3 h3 => ?_)
    exact m_270e (d := d) hR hG hC (out_D hL) hp h3.1 (by rw [h3.2.1 78 (by decide) (by decide)]; exact g2) (g3.tr h3.2.m)
theorem m_270a (hR : RuOk ρ) (hG : Good ρ c) (hC : RulesM ρ D) (hr : RowM 0 ρ c (D 78)) (hra : D 70 43 = 0) (hp : p < ρ.1) (hk : plO (lineN ρ c false ρ.1) (some p) = some k) (hj : j < (lineN ρ c false ρ.1).1) : Wp (EvM X (d + 6) 270 [.ref 70, .int (nI p), .int (nI j), .int (-1)] (hS u D J)) (RI u J (fun y D' => y = p12 (servN ρ c (atL (lineN ρ c false ρ.1) p j) p) ∧ FrM 85 D D')) := by
  have hn := hR.1.1
  have hL := line_D hn c false
  have h12 := hL.1
  refine wp_eq (e270_0 _ _ _) ?_
  refine wp_cV (m_pre (X := X) (d := d + 5) (u := u) (J := J) hR hG hC hr hra).1 (fun D1 h1 => ?_)
  refine wp_eq (e270_2 _ _ _) ?_
  refine wp_cV ((m_pre (X := X) (d := d + 2) (u := u) (J := J) hR hG hC hr hra).2 D1 h1.1 h1.2) (fun D2 h2 => ?_)
  obtain ⟨g1, g2, g3⟩ := h2
  refine wp_eq (e270_5 _ _ _) (wp_f (nI_ne1 (by omega)) ?_)
  refine wp_cV (m_at (d := d + 4) hL hn g1 (by omega) hk hj) (fun D3 h3 => ?_)
  refine wp_eq (e270_12 _ _ _) (wp_t rfl ?_)
  exact m_270e (d := d) hR hG hC (at_D hL hk hj).1 hp h3.1 (by rw [h3.2.1 78 (by decide) (by decide)]; exact g2) (g3.tr h3.2.m)
theorem m_273 (hR : RuOk ρ) (hG : Good ρ c) (hC : RulesM ρ D) (hr : RowM 0 ρ c (D 78)) (hra : D 70 43 = 0) (hq : ∀ b, q = some b → b < 12) (hk : ∀ b, q = some b → (plO (lineN ρ c false ρ.1) q).isSome = true) : Wp (EvM X (d + 6) 273 [.ref 70, .int (whoA q)] (hS u D J)) (RI u J (fun y D' => y = smN (servN ρ c (outO (lineN ρ c false ρ.1) q)) 24 ρ.1 ∧ FrM 85 D D')) := by
  have hn := hR.1.1
  have hL := line_D hn c false
  refine wp_eq (e273_0 _) ?_
  refine wp_cV (m_pre (X := X) (d := d + 5) (u := u) (J := J) hR hG hC hr hra).1 (fun D1 h1 => ?_)
  refine wp_eq (e273_2 _) ?_
  refine wp_cV ((m_pre (X := X) (d := d + 2) (u := u) (J := J) hR hG hC hr hra).2 D1 h1.1 h1.2) (fun D2 h2 => ?_)
  obtain ⟨g1, g2, g3⟩ := h2
  have fin : ∀ {L' : Nat × (Nat → Nat)} {D3 : DD}, LineD ρ L' → isLM L' D3 → RowM 85 ρ c (D3 78) → FrM 85 D D3 → ∀ x1, Wp (Ev X (d + 6) 273 (12, [.ref 70, .int x1], [], hS u D3 J)) (RI u J (fun y D' => y = smN (servN ρ c L') 24 ρ.1 ∧ FrM 85 D D')) := by
    intro L' D3 l1 l2 l3 l4 x1
    refine wp_eq (e273_12 _) ?_
    refine wp_cV (s_comesAll (d := d) (c := c) (b := 85) (Or.inr rfl) hR (hC.fr l4) l3 l1 l2.1 l2.2) (fun D4 h4 => ?_)
    obtain ⟨a1, -, -, -, -, a6⟩ := h4
    refine wp_eq (e273_15 _) ?_
    refine wp_iE (m_sum (b := 85) (k := 24) (kk := 37) (Or.inr rfl) hn (hC.fr (l4.tr a6)).1 (fun p hp => (a1.s hn hp).2.2.2.1) (by decide)) ?_
    exact wp_eq (e273_19 _ _) (wp_rI ⟨rfl, l4.tr a6⟩)
  refine wp_eq (e273_5 _) ?_
  cases q with
  | none =>
    refine wp_t rfl ?_
    rw [out_n]
    exact fin hL g1 g2 g3 _
  | some b =>
    have hb := hq b rfl
    have hb2 := hk b rfl
    obtain ⟨k, hk⟩ : ∃ k, plO (lineN ρ c false ρ.1) (some b) = some k := by
      cases h : plO (lineN ρ c false ρ.1) (some b) with
      | none => rw [h] at hb2; cases hb2
      | some k => exact ⟨k, rfl⟩
    refine wp_f (nI_ne1 (show b < 2 ^ 31 by omega)) ?_
    refine wp_cV (m_out (d := d + 4) hL hn g1 hb hk) (fun D3 h3 => ?_)
    exact fin (out_D hL) h3.1 (by rw [h3.2.1 78 (by decide) (by decide)]; exact g2) (g3.tr h3.2.m) _
end TOCOME
