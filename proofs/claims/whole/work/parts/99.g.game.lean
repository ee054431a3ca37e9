/-! ===== game ===== -/
def erL (L : Nat × (Nat → Nat)) (p : Nat) : Nat × (Nat → Nat) := match plO L (some p) with | none => L | some _ => atL L p 0
def gmL (L : Nat × (Nat → Nat)) (P Q a b : Nat) : Nat × (Nat → Nat) := if Q ≤ P then (if b = 1 then erL (if a = 1 then erL L P else L) Q else (if a = 1 then erL L P else L)) else (if a = 1 then erL (if b = 1 then erL L Q else L) P else (if b = 1 then erL L Q else L))
def gaN (s : Cc) (p : Nat) : Int32 := if s p = -1 then 0 else 12 - pewO (s p) - s (24 + p)
def g1N (ρ : Ru) (c : Cc) (P Q a b : Nat) : Int32 := gaN (servN ρ c (gmL (lineN ρ c false ρ.1) P Q a b)) P - nI a
def g2N (ρ : Ru) (c : Cc) (P Q a b : Nat) : Int32 := gaN (servN ρ c (gmL (lineN ρ c false ρ.1) P Q a b)) Q - nI b
def rsB (ρ : Ru) (c : Cc) (P Q a b : Nat) : Bool := !decide (g1N ρ c P Q a b < g1N ρ c P Q (1 - a) b) && !decide (g2N ρ c P Q a b < g2N ρ c P Q a (1 - b))
def stG (r : Bool) (m : Nat) (x : Int32 × Int32) : Int32 × Int32 := if r = true then (x.1 + 1, 10 * nI (m / 2) + nI (m % 2)) else x
def stM (r : Bool) (m : Nat) (x : Int32 × Int32) : Int32 × Int32 := if r = true then (x.1 + 1, if x.2 = -1 then 10 * nI (m / 2) + nI (m % 2) else x.2) else x
theorem st_eq : ∀ r0 r1 r2 r3 : Bool, stM r3 3 (stM r2 2 (stM r1 1 (stM r0 0 (0, -1)))) = stG r0 0 (stG r1 1 (stG r2 2 (stG r3 3 (0, -1)))) := by decide +kernel
theorem g4 : ∀ m, m < 4 → nI m >>> ((1 : Int32) &&& 31) = nI (m / 2) ∧ nI m &&& 1 = nI (m % 2) ∧ nI m / 2 = nI (m / 2) ∧ nI m - nI m / 2 * 2 = nI (m % 2) ∧ 2 * nI m = nI (2 * m) ∧ 2 * nI m + 1 = nI (2 * m + 1) ∧ 2 * (nI m ^^^ 2) = nI (2 * (m ^^^ 2)) ∧ 2 * (nI m ^^^ 1) + 1 = nI (2 * (m ^^^ 1) + 1) := by decide +kernel
theorem g4n : ∀ m, m < 4 → (m ^^^ 2) < 4 ∧ (m ^^^ 1) < 4 ∧ (m ^^^ 2) / 2 = 1 - m / 2 ∧ (m ^^^ 2) % 2 = m % 2 ∧ (m ^^^ 1) / 2 = m / 2 ∧ (m ^^^ 1) % 2 = 1 - m % 2 := by decide
theorem g2n : ∀ a, a < 2 → (nI a = 1 ↔ a = 1) ∧ 1 - nI a = nI (1 - a) := by decide +kernel
section GAME
variable {X : XS} {d u : Nat} {D D1 : DD} {J : JJ} {σ : Sg} {ρ : Ru} {c : Cc} {L : Nat × (Nat → Nat)} {p k j : Nat} {q : Option Nat}
theorem log_mem (hR : Ru0 ρ) (hL : LineD ρ L) : ∀ k, k ≤ L.1 → ∀ e ∈ logN ρ (resN c) L.2 k, ∃ j, j < k ∧ L.2 j = e.1
  | 0, _, e, he => absurd he List.not_mem_nil
  | k + 1, hk, e, he => by
    obtain ⟨k1, k2, -⟩ := sits_ok hR (c := c) hL k (by omega)
    have hs : sitsN ρ (resN c) L.2 k (L.2 k) = -1 := (k2 _ (hL.2.1 k (by omega))).mpr (fun j hj z => by have := hL.2.2 j k (by omega) (by omega) z; omega)
    obtain ⟨-, -, -, -, -, -, r7, -⟩ := sit_ok0 hR k1 (hL.2.1 k (by omega)) hs
    rcases List.mem_append.mp he with h | h
    · obtain ⟨j, j1, j2⟩ := log_mem hR hL k (by omega) e h
      exact ⟨j, by omega, j2⟩
    · obtain ⟨e1, -, v, x, -, v2, x2, e2⟩ := r7 e h
      apply Classical.byContradiction
      intro hno
      have := (k2 e.1 e1).mpr (fun j hj z => hno ⟨j, by omega, z⟩)
      rw [this] at e2
      exact nI_ne1 (by omega) e2.symm
theorem serv_mv0 (hR : Ru0 ρ) (hL : LineD ρ L) (hp : p < ρ.1) (h : servN ρ c L p = -1) : servN ρ c L (24 + p) = 0 := by
  have hn := hR.1
  have hno := (serv_sits hR hL hp).mp h
  obtain ⟨-, -, -, -, k5⟩ := sits_ok hR (c := c) hL L.1 (Nat.le_refl _)
  show endN ρ _ (24 + p) = 0
  rw [endN_spot (by omega), (k5 p (by omega)).1, lc_zero (fun e he z => ?_), nI_0]
  obtain ⟨j, j1, j2⟩ := log_mem hR hL L.1 (Nat.le_refl _) e he
  exact hno j j1 (j2.trans z)
theorem er_D (hL : LineD ρ L) : LineD ρ (erL L p) := by
  unfold erL
  cases h : plO L (some p) with
  | none => exact hL
  | some k => exact (at_D hL h (by have := (pl_some h).1; omega)).1
theorem gm_D {P Q a b : Nat} (hL : LineD ρ L) : LineD ρ (gmL L P Q a b) := by
  unfold gmL
  split <;> split <;> split <;> first | exact er_D (er_D hL) | exact er_D hL | exact hL
theorem c_early (hL : LineD ρ L) (hn : ρ.1 ≤ 12) (hl : isL 31 L D) (hp : p < 12) : Wp (EvM X (d + 2) 49 [.ref 31, .int (nI p), .int 0] (hS u D J)) (RV u J (fun D' => isL 31 (erL L p) D' ∧ ∀ a, a ≠ 31 → a ≠ 31 + 4 → D' a = D a)) := by
  cases h : plO L (some p) with
  | none =>
    have e : erL L p = L := by unfold erL; rw [h]
    rw [e]
    refine wp_eq (e49_0 isP31 _ _) ?_
    refine wp_cI (c_leaveOut (d := d) (q := some p) isP31 hL hn hl (fun b hb => by cases hb; exact hp)) (fun y D2 h2 => ?_)
    obtain ⟨rfl, g1, g2⟩ := h2
    rw [out_none h] at g1
    refine wp_eq (e49_3 isP31 _ _ _) ?_
    rw [h]
    exact wp_f (fun z => z rfl) (wp_rV ⟨g1, g2⟩)
  | some k =>
    have e : erL L p = atL L p 0 := by unfold erL; rw [h]
    rw [e]
    exact c_standAt (d := d) (j := 0) isP31 hL hn hl hp h (by have := (pl_some h).1; omega)
theorem m_early (hL : LineD ρ L) (hn : ρ.1 ≤ 12) (hl : isLM L D) (hp : p < 12) : Wp (EvM X (d + 2) 287 [.ref 70, .int (nI p)] (hS u D J)) (RV u J (fun D' => isLM (erL L p) D' ∧ FrO D D')) := by
  have h12 := hL.1
  refine wp_eq (e287_0 _) ?_
  refine wp_iE (s_placeOf (L := L) hp h12 (fun i hi => by have := hL.2.1 i hi; omega) hl.1 hl.2) ?_
  rw [← pl_eq]
  refine wp_eq (e287_3 _ _) ?_
  cases h : plO L (some p) with
  | none =>
    have e : erL L p = L := by unfold erL; rw [h]
    rw [e]
    exact wp_t rfl (wp_eq (e287_9 _) (wp_rV ⟨hl, fun _ _ _ => rfl, fun _ _ => rfl⟩))
  | some k =>
    have e : erL L p = atL L p 0 := by unfold erL; rw [h]
    rw [e]
    have k1 := (pl_some h).1
    refine wp_f (nI_ne1 (show k < 2 ^ 31 by omega)) ?_
    refine wp_cV (m_at (d := d) (j := 0) hL hn hl hp h (by omega)) (fun D2 h2 => ?_)
    exact wp_eq (e287_9 _) (wp_rV h2)
theorem FrO.tr {D2 : DD} (h1 : FrO D D1) (h2 : FrO D1 D2) : FrO D D2 := ⟨fun a a1 a2 => (h2.1 a a1 a2).trans (h1.1 a a1 a2), fun k hk => (h2.2 k hk).trans (h1.2 k hk)⟩
/-- the line of the reference: me first -/
def gmM (L : Nat × (Nat → Nat)) (P Q a b : Nat) : Nat × (Nat → Nat) :=
  let L1 := if a = 1 ∧ ¬ P ≤ Q then erL L P else L
  let L2 := if b = 1 then erL L1 Q else L1
  if a = 1 ∧ ¬ Q ≤ P then erL L2 P else L2
theorem gm_1 {P Q a b : Nat} (h : P ≠ Q) : gmM L P Q a b = gmL L P Q a b := by
  unfold gmM gmL
  by_cases hq : Q ≤ P
  · have h1 : ¬ (a = 1 ∧ ¬ Q ≤ P) := fun z => z.2 hq
    simp only [if_neg h1, if_pos hq]
    by_cases ha : a = 1
    · simp only [if_pos (show a = 1 ∧ ¬ P ≤ Q from ⟨ha, by omega⟩), if_pos ha]
    · simp only [if_neg (show ¬ (a = 1 ∧ ¬ P ≤ Q) from fun z => ha z.1), if_neg ha]
  · have h1 : ¬ (a = 1 ∧ ¬ P ≤ Q) := fun z => z.2 (by omega)
    simp only [if_neg h1, if_neg hq]
    by_cases ha : a = 1
    · simp only [if_pos (show a = 1 ∧ ¬ Q ≤ P from ⟨ha, hq⟩), if_pos ha]
    · simp only [if_neg (show ¬ (a = 1 ∧ ¬ Q ≤ P) from fun z => ha z.1), if_neg ha]
theorem gm_2 {P Q a b : Nat} (h : P ≠ Q) : gmM L Q P b a = gmL L P Q a b := by
  unfold gmM gmL
  by_cases hq : Q ≤ P
  · have h1 : ¬ (b = 1 ∧ ¬ Q ≤ P) := fun z => z.2 hq
    simp only [if_neg h1, if_pos hq]
    by_cases hb : b = 1
    · simp only [if_pos (show b = 1 ∧ ¬ P ≤ Q from ⟨hb, by omega⟩), if_pos hb]
    · simp only [if_neg (show ¬ (b = 1 ∧ ¬ P ≤ Q) from fun z => hb z.1), if_neg hb]
  · have h1 : ¬ (b = 1 ∧ ¬ P ≤ Q) := fun z => z.2 (by omega)
    simp only [if_neg h1, if_neg hq]
    by_cases hb : b = 1
    · simp only [if_pos (show b = 1 ∧ ¬ Q ≤ P from ⟨hb, hq⟩), if_pos hb]
    · simp only [if_neg (show ¬ (b = 1 ∧ ¬ Q ≤ P) from fun z => hb z.1), if_neg hb]
theorem m_gain {P Q a b : Nat} (hR : RuOk ρ) (hG : Good ρ c) (hC : RulesM ρ D) (hr : RowM 0 ρ c (D 78)) (hra : D 70 43 = 0) (hP : P < ρ.1) (hQ : Q < ρ.1) (ha : a < 2) (hb : b < 2) : Wp (EvM X (d + 6) 288 [.ref 70, .int (nI P), .int (nI Q), .int (nI a), .int (nI b)] (hS u D J)) (RI u J (fun y D' => y = gaN (servN ρ c (gmM (lineN ρ c false ρ.1) P Q a b)) P - nI a ∧ FrM 85 D D')) := by
  have hn := hR.1.1
  have hL := line_D hn c false
  obtain ⟨ga, -⟩ := g2n a ha
  obtain ⟨gb, -⟩ := g2n b hb
  have hle : ∀ x y : Nat, x < ρ.1 → y < ρ.1 → (nI x ≤ nI y ↔ x ≤ y) := fun x y hx hy => ⟨fun z => Nat.le_of_not_lt (fun w => nI_ge w (by omega) z), fun z => nI_le z (by omega)⟩
  refine wp_eq (e288_0 _ _ _ _) ?_
  refine wp_cV (m_pre (X := X) (d := d + 5) (u := u) (J := J) hR hG hC hr hra).1 (fun D1 h1 => ?_)
  refine wp_eq (e288_2 _ _ _ _) ?_
  refine wp_cV ((m_pre (X := X) (d := d + 2) (u := u) (J := J) hR hG hC hr hra).2 D1 h1.1 h1.2) (fun D2 h2 => ?_)
  obtain ⟨l1, l2, l3⟩ := h2
  -- the end
  have s3 : ∀ L' (D3 : DD), LineD ρ L' → isLM L' D3 → FrO D2 D3 → Wp (Ev X (d + 6) 288 (29, [.ref 70, .int (nI P), .int (nI Q), .int (nI a), .int (nI b)], [], hS u D3 J)) (RI u J (fun y D' => y = gaN (servN ρ c L') P - nI a ∧ FrM 85 D D')) := by
    intro L' D3 k1 k2 k3
    have f3 : FrM 85 D D3 := l3.tr k3.m
    refine wp_eq (e288_29 _ _ _ _) ?_
    refine wp_cV (s_comesAll (d := d) (c := c) (b := 85) (Or.inr rfl) hR (hC.fr f3) (by rw [k3.1 78 (by decide) (by decide)]; exact l2) k1 k2.1 k2.2) (fun D4 h4 => ?_)
    obtain ⟨a1, -, -, -, -, a6⟩ := h4
    have hv := (hG.serv hR.1 k1).1.v P hP
    refine wp_eq (e288_32 _ _ _ _) ?_
    refine wp_iE (m_p12 (b := 85) (Or.inr rfl) hn a1 hP hv) ?_
    refine wp_eq (e288_37 _ _ _ _ _ _) ?_
    obtain ⟨-, -, -, t4, -⟩ := a1.s hn hP
    have t4 : D4 78 (122 + P) = servN ρ c L' (24 + P) := t4
    rw [la, nI_clamp (show 122 + P < 2 ^ 31 by omega), t4]
    refine oG (by omega) (by decide) (wp_rI ⟨?_, f3.tr a6⟩)
    unfold gaN
    rcases hv with hv | ⟨s, s1, s2⟩
    · rw [if_pos hv, serv_mv0 hR.1 k1 hP hv, hv]; rfl
    · rw [if_neg (by rw [s2]; exact nI_ne1 (by omega)), s2, (pewO_s s1).1]
      unfold p12
      rw [if_pos (nI_pos' (by omega)), (n144 s s1).1]
  have s2 : ∀ L' (D3 : DD), LineD ρ L' → isLM L' D3 → FrO D2 D3 → Wp (Ev X (d + 6) 288 (20, [.ref 70, .int (nI P), .int (nI Q), .int (nI a), .int (nI b)], [], hS u D3 J)) (RI u J (fun y D' => y = gaN (servN ρ c (if a = 1 ∧ ¬ Q ≤ P then erL L' P else L')) P - nI a ∧ FrM 85 D D')) := by
    intro L' D3 k1 k2 k3
    refine wp_eq (e288_20 _ _ _ _) ?_
    by_cases h1 : a = 1
    · refine wp_f (fun z => z (ga.mpr h1)) ?_
      by_cases h2 : Q ≤ P
      · rw [if_neg (fun z => z.2 h2)]
        exact wp_t ((hle Q P hQ hP).mpr h2) (s3 L' D3 k1 k2 k3)
      · rw [if_pos ⟨h1, h2⟩]
        refine wp_f (fun z => h2 ((hle Q P hQ hP).mp z)) ?_
        refine wp_cV (m_early (d := d + 3) k1 hn k2 (show P < 12 by omega)) (fun D4 h4 => ?_)
        exact s3 _ D4 (er_D k1) h4.1 (k3.tr h4.2)
    · rw [if_neg (fun z => h1 z.1)]
      exact wp_t (fun z => h1 (ga.mp z)) (s3 L' D3 k1 k2 k3)
  have s1 : ∀ L' (D3 : DD), LineD ρ L' → isLM L' D3 → FrO D2 D3 → Wp (Ev X (d + 6) 288 (14, [.ref 70, .int (nI P), .int (nI Q), .int (nI a), .int (nI b)], [], hS u D3 J)) (RI u J (fun y D' => y = gaN (servN ρ c (if a = 1 ∧ ¬ Q ≤ P then erL (if b = 1 then erL L' Q else L') P else (if b = 1 then erL L' Q else L'))) P - nI a ∧ FrM 85 D D')) := by
    intro L' D3 k1 k2 k3
    refine wp_eq (e288_14 _ _ _ _) ?_
    by_cases h1 : b = 1
    · rw [if_pos h1]
      refine wp_f (fun z => z (gb.mpr h1)) ?_
      refine wp_cV (m_early (d := d + 3) k1 hn k2 (show Q < 12 by omega)) (fun D4 h4 => ?_)
      exact s2 _ D4 (er_D k1) h4.1 (k3.tr h4.2)
    · rw [if_neg h1]
      exact wp_t (fun z => h1 (gb.mp z)) (s2 L' D3 k1 k2 k3)
  refine wp_eq (e288_5 _ _ _ _) ?_
  have rfO : FrO D2 D2 := ⟨fun _ _ _ => rfl, fun _ _ => rfl⟩
  show Wp _ (RI u J (fun y D' => y = gaN (servN ρ c (if a = 1 ∧ ¬ Q ≤ P then erL (if b = 1 then erL (if a = 1 ∧ ¬ P ≤ Q then erL (lineN ρ c false ρ.1) P else lineN ρ c false ρ.1) Q else (if a = 1 ∧ ¬ P ≤ Q then erL (lineN ρ c false ρ.1) P else lineN ρ c false ρ.1)) P else (if b = 1 then erL (if a = 1 ∧ ¬ P ≤ Q then erL (lineN ρ c false ρ.1) P else lineN ρ c false ρ.1) Q else (if a = 1 ∧ ¬ P ≤ Q then erL (lineN ρ c false ρ.1) P else lineN ρ c false ρ.1)))) P - nI a ∧ FrM 85 D D'))
  by_cases h1 : a = 1
  · refine wp_f (fun z => z (ga.mpr h1)) ?_
    by_cases h2 : P ≤ Q
    · rw [if_neg (show ¬ (a = 1 ∧ ¬ P ≤ Q) from fun z => z.2 h2)]
      exact wp_t ((hle P Q hP hQ).mpr h2) (s1 _ D2 hL l1 rfO)
    · rw [if_pos (show a = 1 ∧ ¬ P ≤ Q from ⟨h1, h2⟩)]
      refine wp_f (fun z => h2 ((hle P Q hP hQ).mp z)) ?_
      refine wp_cV (m_early (d := d + 3) hL hn l1 (show P < 12 by omega)) (fun D4 h4 => ?_)
      exact s1 _ D4 (er_D hL) h4.1 h4.2
  · rw [if_neg (show ¬ (a = 1 ∧ ¬ P ≤ Q) from fun z => h1 z.1)]
    exact wp_t (fun z => h1 (ga.mp z)) (s1 _ D2 hL l1 rfO)
/-! the class -/
theorem c_gain {s : Cc} (h32 : D 32 = s) (hp : p < 12) : EvM X (d + 1) 145 [.ref 0, .int (nI p)] (hS u D J) = some (.inl (some (.int (gaN s p))), hS u D J) := by
  refine wp_eqI ?_
  refine wp_eq (e145_0 _) ?_
  rw [la, nI_clamp (by omega), Nat.zero_add, h32]
  refine oG (by omega) (by decide) ?_
  unfold gaN
  by_cases h : s p = -1
  · rw [if_pos h]
    exact wp_f (fun z => z h) (wp_rI ⟨rfl, rfl⟩)
  · rw [if_neg h]
    refine wp_t h (wp_iE c_pewOf ?_)
    refine wp_eq (e145_16 _ _ _ _) ?_
    rw [la, nI_clamp (by omega), h32]
    exact oG (by omega) (by decide) (wp_rI ⟨rfl, rfl⟩)
def FrG (D D' : DD) : Prop := ∀ q, 70 ≤ q → D' q = D q
theorem c_144 {P Q m : Nat} (hσ : SgOk σ) (hC : CI σ D) (hP : P < σ.2.1.1) (hQ : Q < σ.2.1.1) (hm : m < 4) : Wp (EvM X (d + 4) 144 [.ref 0, .int (nI P), .int (nI Q), .int (nI m)] (hS u D J)) (RV u J (fun D' => CI σ D' ∧ D' 69 (2 * m) = g1N σ.2.1 σ.2.2.1 P Q (m / 2) (m % 2) ∧ D' 69 (2 * m + 1) = g2N σ.2.1 σ.2.2.1 P Q (m / 2) (m % 2) ∧ (∀ i, i ≠ 2 * m → i ≠ 2 * m + 1 → D' 69 i = D 69 i) ∧ FrG D D')) := by
  have hn := hσ.2.1.1.1
  have hL := line_D hn σ.2.2.1 false
  obtain ⟨q1, q2, -, -, q5, q6, -, -⟩ := g4 m hm
  obtain ⟨ga, -⟩ := g2n (m / 2) (by omega)
  obtain ⟨gb, -⟩ := g2n (m % 2) (by omega)
  have hle : ∀ x y : Nat, x < σ.2.1.1 → y < σ.2.1.1 → (nI x ≤ nI y ↔ x ≤ y) := fun x y hx hy => ⟨fun z => Nat.le_of_not_lt (fun w => nI_ge w (by omega) z), fun z => nI_le z (by omega)⟩
  refine wp_eq (e144_0 _ _ _) ?_
  refine wp_cV (c_trial hσ hC) (fun D1 h1 => ?_)
  rw [q1, q2]
  refine wp_eq (e144_13 _ _ _ _ _) ?_
  refine wp_cV (c_tline (d := d + 2) hσ hC h1.1 h1.2) (fun D2 h2 => ?_)
  obtain ⟨l1, l2, l3, l4⟩ := h2
  -- the end
  have s3 : ∀ L' (D3 : DD) x6, LineD σ.2.1 L' → L' = gmL (lineN σ.2.1 σ.2.2.1 false σ.2.1.1) P Q (m / 2) (m % 2) → isL 31 L' D3 → (∀ a, a ≠ 31 → a ≠ 31 + 4 → D3 a = D2 a) → Wp (Ev X (d + 4) 144 (56, [.ref 0, .int (nI P), .int (nI Q), .int (nI m), .int (nI (m / 2)), .int (nI (m % 2)), .int x6], [], hS u D3 J)) (RV u J (fun D' => CI σ D' ∧ D' 69 (2 * m) = g1N σ.2.1 σ.2.2.1 P Q (m / 2) (m % 2) ∧ D' 69 (2 * m + 1) = g2N σ.2.1 σ.2.2.1 P Q (m / 2) (m % 2) ∧ (∀ i, i ≠ 2 * m → i ≠ 2 * m + 1 → D' 69 i = D 69 i) ∧ FrG D D')) := by
    intro L' D3 x6 k1 k0 k2 k3
    refine wp_eq (e144_56 _ _ _ _ _ _) ?_
    refine wp_cV (c_tserv (d := d) hσ hC k1 k2 (by rw [k3 32 (by decide) (by decide)]; exact l2) (l4.a31 k3)) (fun D4 h4 => ?_)
    obtain ⟨a1, a2, a3⟩ := h4
    refine wp_eq (e144_59 _ _ _ _ _ _) ?_
    refine wp_iE (c_gain (d := d + 2) a1 (show P < 12 by omega)) ?_
    refine wp_eq (e144_67 _ _ _ _ _ _ _ _) ?_
    rw [q5, nI_clamp (show 2 * m < 2 ^ 31 by omega)]
    refine oG (by omega) (by decide) ?_
    refine wp_iE (c_gain (d := d + 2) (s := servN σ.2.1 σ.2.2.1 L') (by rw [ud_q (by decide)]; exact a1) (show Q < 12 by omega)) ?_
    refine wp_eq (e144_80 _ _ _ _ _ _ _ _) ?_
    rw [nI_1, nI_clamp (show 2 * m + 1 < 2 ^ 31 by omega)]
    have hq : ∀ a, a ≠ 69 → ud (ud D4 69 (2 * m) (gaN (servN σ.2.1 σ.2.2.1 L') P - nI (m / 2))) 69 (2 * m + 1) (gaN (servN σ.2.1 σ.2.2.1 L') Q - nI (m % 2)) a = D4 a := fun a ha => by rw [ud_q ha, ud_q ha]
    refine oG (by omega) (by decide) (wp_rV ⟨a2.scr (fun q hh => hq q (by omega)) (fun i _ _ => by rw [hq 5 (by decide)]) (by rw [hq 32 (by decide)]; exact a2.2.2.2.2.2.2.2.2.1), ?_, ?_, fun i i1 i2 => ?_, fun q hh => ?_⟩)
    · rw [ud_k (by omega), ud_at, k0]; rfl
    · rw [ud_at, k0]; rfl
    · rw [ud_k i2, ud_k i1, a3.1 69 (by omega) (by omega)]
    · rw [hq q (by omega), a3.1 q (by omega) (by omega)]
  refine wp_eq (e144_17 _ _ _ _ _) ?_
  have rf2 : ∀ a, a ≠ 31 → a ≠ 31 + 4 → D2 a = D2 a := fun _ _ _ => rfl
  by_cases hq : Q ≤ P
  · refine wp_t ((hle Q P hQ hP).mpr hq) ?_
    have nxt : ∀ L' (D3 : DD), LineD σ.2.1 L' → L' = (if m / 2 = 1 then erL (lineN σ.2.1 σ.2.2.1 false σ.2.1.1) P else lineN σ.2.1 σ.2.2.1 false σ.2.1.1) → isL 31 L' D3 → (∀ a, a ≠ 31 → a ≠ 31 + 4 → D3 a = D2 a) → Wp (Ev X (d + 4) 144 (40, [.ref 0, .int (nI P), .int (nI Q), .int (nI m), .int (nI (m / 2)), .int (nI (m % 2)), .int 0], [], hS u D3 J)) (RV u J (fun D' => CI σ D' ∧ D' 69 (2 * m) = g1N σ.2.1 σ.2.2.1 P Q (m / 2) (m % 2) ∧ D' 69 (2 * m + 1) = g2N σ.2.1 σ.2.2.1 P Q (m / 2) (m % 2) ∧ (∀ i, i ≠ 2 * m → i ≠ 2 * m + 1 → D' 69 i = D 69 i) ∧ FrG D D')) := by
      intro L' D3 k1 k0 k2 k3
      refine wp_eq (e144_40 _ _ _ _ _ _) (wp_t rfl ?_)
      by_cases hb : m % 2 = 1
      · refine wp_f (fun z => z (gb.mpr hb)) (wp_t rfl ?_)
        refine wp_cV (c_early (d := d + 1) k1 hn k2 (show Q < 12 by omega)) (fun D4 h4 => ?_)
        refine s3 _ D4 _ (er_D k1) ?_ h4.1 (fun a a1 a2 => by rw [h4.2 a a1 a2]; exact k3 a a1 a2)
        unfold gmL
        rw [if_pos hq, if_pos hb, k0]
      · refine wp_t (fun z => hb (gb.mp z)) (s3 L' D3 _ k1 ?_ k2 k3)
        unfold gmL
        rw [if_pos hq, if_neg hb, k0]
    by_cases ha : m / 2 = 1
    · refine wp_f (fun z => z (ga.mpr ha)) ?_
      refine wp_cV (c_early (d := d + 1) hL hn l1 (show P < 12 by omega)) (fun D4 h4 => ?_)
      exact nxt _ D4 (er_D hL) (by rw [if_pos ha]) h4.1 h4.2
    · exact wp_t (fun z => ha (ga.mp z)) (nxt _ D2 hL (by rw [if_neg ha]) l1 rf2)
  · refine wp_f (fun z => hq ((hle Q P hQ hP).mp z)) ?_
    have nxt : ∀ L' (D3 : DD), LineD σ.2.1 L' → L' = (if m % 2 = 1 then erL (lineN σ.2.1 σ.2.2.1 false σ.2.1.1) Q else lineN σ.2.1 σ.2.2.1 false σ.2.1.1) → isL 31 L' D3 → (∀ a, a ≠ 31 → a ≠ 31 + 4 → D3 a = D2 a) → Wp (Ev X (d + 4) 144 (40, [.ref 0, .int (nI P), .int (nI Q), .int (nI m), .int (nI (m / 2)), .int (nI (m % 2)), .int 1], [], hS u D3 J)) (RV u J (fun D' => CI σ D' ∧ D' 69 (2 * m) = g1N σ.2.1 σ.2.2.1 P Q (m / 2) (m % 2) ∧ D' 69 (2 * m + 1) = g2N σ.2.1 σ.2.2.1 P Q (m / 2) (m % 2) ∧ (∀ i, i ≠ 2 * m → i ≠ 2 * m + 1 → D' 69 i = D 69 i) ∧ FrG D D')) := by
      intro L' D3 k1 k0 k2 k3
      refine wp_eq (e144_40 _ _ _ _ _ _) (wp_f (by decide) ?_)
      by_cases ha : m / 2 = 1
      · refine wp_f (fun z => z (ga.mpr ha)) (wp_f (by decide) ?_)
        refine wp_cV (c_early (d := d + 1) k1 hn k2 (show P < 12 by omega)) (fun D4 h4 => ?_)
        refine s3 _ D4 _ (er_D k1) ?_ h4.1 (fun a a1 a2 => by rw [h4.2 a a1 a2]; exact k3 a a1 a2)
        unfold gmL
        rw [if_neg hq, if_pos ha, k0]
      · refine wp_t (fun z => ha (ga.mp z)) (s3 L' D3 _ k1 ?_ k2 k3)
        unfold gmL
        rw [if_neg hq, if_neg ha, k0]
    by_cases hb : m % 2 = 1
    · refine wp_f (fun z => z (gb.mpr hb)) ?_
      refine wp_cV (c_early (d := d + 1) hL hn l1 (show Q < 12 by omega)) (fun D4 h4 => ?_)
      exact nxt _ D4 (er_D hL) (by rw [if_pos hb]) h4.1 h4.2
    · exact wp_t (fun z => hb (gb.mp z)) (nxt _ D2 hL (by rw [if_neg hb]) l1 rf2)
theorem c_146 {P Q m : Nat} (hm : m < 4) (h : ∀ i, i < 4 → D 69 (2 * i) = g1N ρ c P Q (i / 2) (i % 2) ∧ D 69 (2 * i + 1) = g2N ρ c P Q (i / 2) (i % 2)) : EvM X d 146 [.ref 0, .int (nI m)] (hS u D J) = some (.inl (some (.int (if rsB ρ c P Q (m / 2) (m % 2) = true then 1 else 0))), hS u D J) := by
  obtain ⟨-, -, -, -, q5, q6, q7, q8⟩ := g4 m hm
  obtain ⟨n1, n2, n3, n4, n5, n6⟩ := g4n m hm
  refine wp_eqI ?_
  refine wp_eq (e146_0 _) ?_
  rw [q7, q8, q6, q5, nI_clamp (show 2 * (m ^^^ 2) < 2 ^ 31 by omega), nI_clamp (show 2 * (m ^^^ 1) + 1 < 2 ^ 31 by omega), nI_clamp (show 2 * m < 2 ^ 31 by omega), nI_clamp (show 2 * m + 1 < 2 ^ 31 by omega), (h m hm).1, (h m hm).2, (h _ n1).1, (h _ n2).2, n3, n4, n5, n6]
  refine oG (by omega) (by decide) (oG (by omega) (by decide) (wp_if (fun h1 => ?_) (fun h1 => oG (by omega) (by decide) (oG (by omega) (by decide) (wp_if (fun h2 => ?_) (fun h2 => ?_))))))
  · rw [if_neg (by unfold rsB; simp [h1])]
    exact wp_eq (e146_36 _) (wp_rI ⟨rfl, rfl⟩)
  · rw [if_neg (by unfold rsB; simp [h2])]
    exact wp_eq (e146_36 _) (wp_rI ⟨rfl, rfl⟩)
  · rw [if_pos (by unfold rsB; simp [h1, h2])]
    exact wp_rI ⟨rfl, rfl⟩
theorem p_game {x y z : Int32} (hσ : SgOk σ) : PairI σ (fun u J D => EvM X (d + 50) 143 [.ref 0, .int x, .int y, .int z] (hS u D J)) (fun u J D => EvM X (d + 50) 289 [.ref 70, .int x, .int y, .int z] (hS u D J)) nI xC := by
  have hn := hσ.2.1.1.1
  have hG := hσ.2.2.1
  have h31 : σ.2.1.1 < 2 ^ 31 := by omega
  by_cases hok : isPe σ.2.1.1 x ∧ isPe σ.2.1.1 y ∧ (¬ z < 0 ∧ ¬ 1 < z)
  · obtain ⟨ix, iy, iz⟩ := hok
    have cc : ∀ (Q : Rs → Prop) u J D, CI σ D → Wp (Ev X (d + 50) 143 (9, [.ref 0, .int x, .int y, .int z, .null, .null, .null], [], hS u D J)) Q → Wp (EvM X (d + 50) 143 [.ref 0, .int x, .int y, .int z] (hS u D J)) Q := by
      intro Q u J D hC hk
      refine wp_eq (e143_0 _ _ _) ?_
      rcases c_pers (X := X) (d := d + 49) (u := u) (J := J) (x := x) h31 hC.2.1.1 with ⟨_, g⟩ | ⟨g, _⟩
      · refine wp_vE g ?_
        refine wp_eq (e143_3 _ _ _) ?_
        rcases c_pers (X := X) (d := d + 49) (u := u) (J := J) (x := y) h31 hC.2.1.1 with ⟨_, g⟩ | ⟨g, _⟩
        · refine wp_vE g ?_
          refine wp_eq (e143_6 _ _ _) ?_
          rcases c_what (X := X) (d := d + 49) (u := u) (D := D) (J := J) (x := z) (k := 1) with ⟨_, g⟩ | ⟨g, _⟩
          · exact wp_vE g hk
          · exact absurd iz g
        · exact absurd iy g
      · exact absurd ix g
    have mm : ∀ (Q : Rs → Prop) u J D, MI σ D → Wp (Ev X (d + 50) 289 (15, [.ref 70, .int x, .int y, .int z, .null, .null, .null, .null, .null], [.int 1], hS u (ud D 70 0 0) J)) Q → Wp (EvM X (d + 50) 289 [.ref 70, .int x, .int y, .int z] (hS u D J)) Q := by
      intro Q u J D hM hk
      have hM0 := hM.th (v := 0) hn
      have h0 := ud_at D 70 0 0
      refine wp_eq (e289_0 _ _ _) ?_
      refine wp_iE ((m_pers (X := X) (d := d + 48) (u := u) (J := J) (x := x) h31 hM0.2.1.1 h0).1 ix) ?_
      refine wp_eq (e289_6 _ _ _ _) (wp_f (by decide) ?_)
      refine wp_iE ((m_pers (X := X) (d := d + 48) (u := u) (J := J) (x := y) h31 hM0.2.1.1 h0).1 iy) ?_
      refine wp_eq (e289_10 _ _ _ _) (wp_f (by decide) ?_)
      exact wp_iE ((m_what (d := d + 48) h0).1 iz) hk
    by_cases hxy : x = y
    · refine ⟨.inr 2, σ, hσ, fun u J D hC => cc _ u J D hC ?_, fun u J D hM => mm _ u J D hM ?_, by first | exact trivial | exact rfl | exact Or.inl rfl | exact Or.inr rfl⟩
      · exact wp_eq (e143_9 _ _ _) (wp_f (fun w => w hxy) (wp_ct hC (fun _ _ => rfl)))
      · have hM0 := hM.th (v := 0) hn
        refine wp_eq (e289_15 _ _ _ _) (wp_f (by decide) (wp_t hxy ?_))
        refine wp_iE ((m_right (ud_at D 70 0 0) (by decide)).2 rfl) ?_
        exact wp_eq (e289_25 _ _ _ _) (wp_f (fun w => w rfl) (wp_mr (hM0.th hn) (ud_at _ 70 0 2) (fun q hq => by rw [ud_q (by omega), ud_q (by omega)])))
    · obtain ⟨P, P1, rfl⟩ := id ix
      obtain ⟨Q, Q1, rfl⟩ := id iy
      have hPQ : P ≠ Q := fun w => hxy (by rw [w])
      let r : Nat → Bool := fun m => rsB σ.2.1 σ.2.2.1 P Q (m / 2) (m % 2)
      refine ⟨.inl (if z = 0 then (stG (r 0) 0 (stG (r 1) 1 (stG (r 2) 2 (stG (r 3) 3 (0, -1))))).1 else (stG (r 0) 0 (stG (r 1) 1 (stG (r 2) 2 (stG (r 3) 3 (0, -1))))).2), σ, hσ, fun u J D hC => cc _ u J D hC ?_, fun u J D hM => mm _ u J D hM ?_, by first | exact trivial | exact rfl | exact Or.inl rfl | exact Or.inr rfl⟩
      · refine wp_eq (e143_9 _ _ _) (wp_t hxy ?_)
        refine wp_loop (R := fun m (D2 : DD) => Ev X (d + 50) 143 (19, [.ref 0, .int (nI P), .int (nI Q), .int z, .int (nI m), .null, .null], [], hS u D2 J)) (fun m (D2 : DD) => CI σ D2 ∧ (∀ i, i < m → D2 69 (2 * i) = g1N σ.2.1 σ.2.2.1 P Q (i / 2) (i % 2) ∧ D2 69 (2 * i + 1) = g2N σ.2.1 σ.2.2.1 P Q (i / 2) (i % 2)) ∧ FrG D D2) 4 ?_ ?_ 0 D (by decide) ⟨hC, fun i hi => absurd hi (Nat.not_lt_zero i), fun _ _ => rfl⟩
        · intro m D2 hm ⟨i1, i2, i3⟩ ih
          refine wp_eq (e143_19 _ _ _ _) (wp_f (nI_ge (b := 4) hm (by decide)) ?_)
          refine wp_cV (c_144 (d := d + 45) hσ i1 P1 Q1 hm) (fun D3 h3 => ?_)
          obtain ⟨a1, a2, a3, a4, a5⟩ := h3
          refine wp_eq (e143_27 _ _ _ _) ?_
          rw [nI_1]
          refine ih D3 ⟨a1, fun i hi => ?_, fun q hq => by rw [a5 q hq]; exact i3 q hq⟩
          by_cases him : i = m
          · rw [him]; exact ⟨a2, a3⟩
          · rw [a4 _ (by omega) (by omega), a4 _ (by omega) (by omega)]; exact i2 i (by omega)
        · intro D2 ⟨i1, i2, i3⟩
          refine wp_eq (e143_19 _ _ _ _) (wp_t (nI_le (a := 4) (Nat.le_refl _) (by decide)) ?_)
          have step : ∀ m, m < 4 → ∀ (w : Int32 × Int32) (Q' : Rs → Prop), Wp (Ev X (d + 50) 143 (35, [.ref 0, .int (nI P), .int (nI Q), .int z, .int (stG (r m) m w).1, .int (stG (r m) m w).2, .int (nI m + (-1))], [], hS u D2 J)) Q' → Wp (Ev X (d + 50) 143 (35, [.ref 0, .int (nI P), .int (nI Q), .int z, .int w.1, .int w.2, .int (nI m)], [], hS u D2 J)) Q' := by
            intro m hm w Q' hk
            obtain ⟨q1, q2, -⟩ := g4 m hm
            refine wp_eq (e143_35 _ _ _ _ _ _) (wp_f (nI_pos (by omega)) ?_)
            refine wp_iE (c_146 hm i2) ?_
            refine wp_eq (e143_40 _ _ _ _ _ _ _) ?_
            rw [q1, q2]
            by_cases hr : rsB σ.2.1 σ.2.2.1 P Q (m / 2) (m % 2) = true
            · rw [if_pos hr]
              have e : stG (r m) m w = (w.1 + 1, 10 * nI (m / 2) + nI (m % 2)) := if_pos hr
              rw [e] at hk
              exact wp_f (by decide) hk
            · rw [if_neg hr]
              have e : stG (r m) m w = w := if_neg hr
              rw [e] at hk
              exact wp_t rfl hk
          refine step 3 (by decide) (0, -1) _ ?_
          refine step 2 (by decide) (stG (r 3) 3 (0, -1)) _ ?_
          refine step 1 (by decide) (stG (r 2) 2 (stG (r 3) 3 (0, -1))) _ ?_
          refine step 0 (by decide) (stG (r 1) 1 (stG (r 2) 2 (stG (r 3) 3 (0, -1)))) _ ?_
          refine wp_eq (e143_35 _ _ _ _ _ _) (wp_t (by decide) (wp_if (fun h => ?_) (fun h => ?_)))
          · rw [if_neg h]; exact wp_cr i1 i3
          · rw [if_pos (Classical.not_not.mp h)]; exact wp_cr i1 i3
      · have hM0 := hM.th (v := 0) hn
        refine wp_eq (e289_15 _ _ _ _) (wp_f (by decide) (wp_f hxy ?_))
        refine wp_iE ((m_right (ud_at D 70 0 0) (by decide)).1 (by decide)) ?_
        refine wp_eq (e289_25 _ _ _ _) (wp_t (by decide) ?_)
        have step : ∀ m, m < 4 → ∀ (w : Int32 × Int32) (Q' : Rs → Prop) (D2 : DD), FrM 85 (ud D 70 0 0) D2 → (∀ D3, FrM 85 (ud D 70 0 0) D3 → Wp (Ev X (d + 50) 289 (34, [.ref 70, .int (nI P), .int (nI Q), .int z, .int (stM (r m) m w).1, .int (stM (r m) m w).2, .int (nI (m + 1)), .null, .null], [], hS u D3 J)) Q') → Wp (Ev X (d + 50) 289 (34, [.ref 70, .int (nI P), .int (nI Q), .int z, .int w.1, .int w.2, .int (nI m), .null, .null], [], hS u D2 J)) Q' := by
          intro m hm w Q' D2 f2 hk
          obtain ⟨-, -, q3, q4, -⟩ := g4 m hm
          obtain ⟨-, ga⟩ := g2n (m / 2) (by omega)
          obtain ⟨-, gb⟩ := g2n (m % 2) (by omega)
          have hM2 := f2.mi hM0 hn
          refine wp_eq (e289_34 _ _ _ _ _ _) (wp_f (nI_ge (b := 4) hm (by decide)) ?_)
          rw [q4, q3, ga]
          refine wp_cI (m_gain (d := d + 43) hσ.2.1 hG hM2.2.1 hM2.2.2.1 hM2.2.2.2.2.2.2 P1 Q1 (show 1 - m / 2 < 2 by omega) (show m % 2 < 2 by omega)) (fun v1 D3 h3 => ?_)
          obtain ⟨rfl, h3⟩ := h3
          have f3 := f2.tr h3
          have hM3 := f3.mi hM0 hn
          refine wp_eq (e289_53 _ _ _ _ _ _ _ _ _) ?_
          refine wp_cI (m_gain (d := d + 43) hσ.2.1 hG hM3.2.1 hM3.2.2.1 hM3.2.2.2.2.2.2 P1 Q1 (show m / 2 < 2 by omega) (show m % 2 < 2 by omega)) (fun v2 D4 h4 => ?_)
          obtain ⟨rfl, h4⟩ := h4
          have f4 := f3.tr h4
          have hM4 := f4.mi hM0 hn
          rw [gm_1 hPQ, gm_1 hPQ]
          have no : ∀ D5, FrM 85 (ud D 70 0 0) D5 → ¬ r m = true → Wp (Ev X (d + 50) 289 (34, [.ref 70, .int (nI P), .int (nI Q), .int z, .int w.1, .int w.2, .int (nI m + 1), .int (nI (m / 2)), .int (nI (m % 2))], [], hS u D5 J)) Q' := by
            intro D5 f5 hr
            have hk := hk D5 f5
            have e : stM (r m) m w = w := if_neg hr
            rw [e] at hk
            rw [nI_1]
            exact wp_weak (by simp [lle, lng]) hk
          refine wp_eq (e289_59 _ _ _ _ _ _ _ _ _ _) (wp_if (fun h1 => ?_) (fun h1 => ?_))
          · refine no D4 f4 (fun hr => ?_)
            have hr : rsB σ.2.1 σ.2.2.1 P Q (m / 2) (m % 2) = true := hr
            unfold rsB at hr
            rw [Bool.and_eq_true] at hr
            have := hr.1
            simp only [Bool.not_eq_true', decide_eq_false_iff_not] at this
            exact this h1
          · rw [gb]
            refine wp_cI (m_gain (d := d + 43) hσ.2.1 hG hM4.2.1 hM4.2.2.1 hM4.2.2.2.2.2.2 Q1 P1 (show 1 - m % 2 < 2 by omega) (show m / 2 < 2 by omega)) (fun v3 D5 h5 => ?_)
            obtain ⟨rfl, h5⟩ := h5
            have f5 := f4.tr h5
            have hM5 := f5.mi hM0 hn
            refine wp_eq (e289_68 _ _ _ _ _ _ _ _ _) ?_
            refine wp_cI (m_gain (d := d + 43) hσ.2.1 hG hM5.2.1 hM5.2.2.1 hM5.2.2.2.2.2.2 Q1 P1 (show m % 2 < 2 by omega) (show m / 2 < 2 by omega)) (fun v4 D6 h6 => ?_)
            obtain ⟨rfl, h6⟩ := h6
            have f6 := f5.tr h6
            rw [gm_2 hPQ, gm_2 hPQ]
            refine wp_eq (e289_74 _ _ _ _ _ _ _ _ _ _) (wp_if (fun h2 => ?_) (fun h2 => ?_))
            · have hr : r m = true := by
                show rsB σ.2.1 σ.2.2.1 P Q (m / 2) (m % 2) = true
                unfold rsB
                rw [Bool.and_eq_true]
                exact ⟨by simp only [Bool.not_eq_true', decide_eq_false_iff_not]; exact h1, by simp only [Bool.not_eq_true', decide_eq_false_iff_not]; exact Int32.not_lt.mpr h2⟩
              have hk := hk D6 f6
              have e : stM (r m) m w = (w.1 + 1, if w.2 = -1 then 10 * nI (m / 2) + nI (m % 2) else w.2) := if_pos hr
              rw [e] at hk
              rw [nI_1]
              refine wp_if (fun h3 => ?_) (fun h3 => ?_)
              · rw [if_neg h3] at hk
                exact wp_weak (by simp [lle, lng]) hk
              · rw [if_pos (Classical.not_not.mp h3)] at hk
                exact wp_weak (by simp [lle, lng]) hk
            · refine no D6 f6 (fun hr => ?_)
              have hr : rsB σ.2.1 σ.2.2.1 P Q (m / 2) (m % 2) = true := hr
              unfold rsB at hr
              rw [Bool.and_eq_true] at hr
              have := hr.2
              simp only [Bool.not_eq_true', decide_eq_false_iff_not] at this
              exact h2 (Int32.not_lt.mp this)
        refine step 0 (by decide) (0, -1) _ _ (FrM.rf 85 _) (fun D2 f2 => ?_)
        refine step 1 (by decide) (stM (r 0) 0 (0, -1)) _ _ f2 (fun D3 f3 => ?_)
        refine step 2 (by decide) (stM (r 1) 1 (stM (r 0) 0 (0, -1))) _ _ f3 (fun D4 f4 => ?_)
        refine step 3 (by decide) (stM (r 2) 2 (stM (r 1) 1 (stM (r 0) 0 (0, -1)))) _ _ f4 (fun D5 f5 => ?_)
        rw [st_eq]
        refine wp_eq (e289_34 _ _ _ _ _ _) (wp_t (nI_le (a := 4) (Nat.le_refl _) (by decide)) (wp_if (fun h => ?_) (fun h => ?_)))
        · rw [if_neg h]; exact f5.fin hM0 hn
        · rw [if_pos (Classical.not_not.mp h)]; exact f5.fin hM0 hn
  · refine ⟨.inr 1, σ, hσ, fun u J D hC => ?_, fun u J D hM => ?_, by first | exact trivial | exact rfl | exact Or.inl rfl | exact Or.inr rfl⟩
    · refine wp_eq (e143_0 _ _ _) ?_
      rcases c_pers (X := X) (d := d + 49) (u := u) (J := J) (x := x) h31 hC.2.1.1 with ⟨k1, g⟩ | ⟨_, g⟩
      · refine wp_vE g ?_
        refine wp_eq (e143_3 _ _ _) ?_
        rcases c_pers (X := X) (d := d + 49) (u := u) (J := J) (x := y) h31 hC.2.1.1 with ⟨k2, g⟩ | ⟨_, g⟩
        · refine wp_vE g ?_
          refine wp_eq (e143_6 _ _ _) ?_
          rcases c_what (X := X) (d := d + 49) (u := u) (D := D) (J := J) (x := z) (k := 1) with ⟨k3, _⟩ | ⟨_, g⟩
          · exact absurd ⟨k1, k2, k3⟩ hok
          · exact wp_vT g (wp_ct hC (fun _ _ => rfl))
        · exact wp_vT g (wp_ct hC (fun _ _ => rfl))
      · exact wp_vT g (wp_ct hC (fun _ _ => rfl))
    · have hM0 := hM.th (v := 0) hn
      have h0 := ud_at D 70 0 0
      have fin : Wp (some (.inl (some (.int 0)), hS u (ud (ud D 70 0 0) 70 0 1) J)) (MR σ D u J 0 1) := wp_mr (hM0.th hn) (ud_at _ 70 0 1) (fun q hq => by rw [ud_q (by omega), ud_q (by omega)])
      refine wp_eq (e289_0 _ _ _) ?_
      by_cases ix : isPe σ.2.1.1 x
      · refine wp_iE ((m_pers (X := X) (d := d + 48) (u := u) (J := J) (x := x) h31 hM0.2.1.1 h0).1 ix) ?_
        refine wp_eq (e289_6 _ _ _ _) (wp_f (by decide) ?_)
        by_cases iy : isPe σ.2.1.1 y
        · refine wp_iE ((m_pers (X := X) (d := d + 48) (u := u) (J := J) (x := y) h31 hM0.2.1.1 h0).1 iy) ?_
          refine wp_eq (e289_10 _ _ _ _) (wp_f (by decide) ?_)
          refine wp_iE ((m_what (d := d + 48) h0).2 (fun w => hok ⟨ix, iy, w⟩)) ?_
          exact wp_eq (e289_15 _ _ _ _) (wp_t rfl fin)
        · refine wp_iE ((m_pers (X := X) (d := d + 48) (u := u) (J := J) (x := y) h31 hM0.2.1.1 h0).2 iy) ?_
          exact wp_eq (e289_10 _ _ _ _) (wp_t rfl fin)
      · refine wp_iE ((m_pers (X := X) (d := d + 48) (u := u) (J := J) (x := x) h31 hM0.2.1.1 h0).2 ix) ?_
        exact wp_eq (e289_6 _ _ _ _) (wp_t rfl fin)
end GAME
