/-! ===== what holds between the calls ===== -/
def sunK (ρ : Ru) (c : Cc) : Nat → Cc
  | 0 => c
  | k + 1 => sunN ρ false (sunK ρ c k)
def c00 : Cc := fun _ => 0
/-- a state of people that may come about -/
def Good (ρ : Ru) (c : Cc) : Prop := Ok ρ c ∧ Tl c ∧ (∀ p, ρ.1 ≤ p → p < 12 → c p = -1 ∧ c (12 + p) = 0 ∧ c (24 + p) = 0 ∧ c (36 + p) = 0 ∧ c (48 + p) = 0 ∧ c (60 + p) = 0) ∧ (∀ p, p < ρ.1 → ∃ a, a ≤ 29 ∧ c (12 + p) = nI a) ∧ ∀ p, p < ρ.1 → ∃ a, a ≤ 9 ∧ c (60 + p) = nI a
theorem Good.bz {ρ : Ru} {c : Cc} (h : Good ρ c) : Bz ρ c := fun p hp => by
  obtain ⟨a, a1, a2⟩ := h.2.2.2.2 p hp
  rw [a2]; exact nI_pos' (by omega)
theorem sits_tl {ρ : Ru} (hR : Ru0 ρ) {c : Cc} {L : Nat × (Nat → Nat)} (hL : LineD ρ L) (i : Nat) (hi : 73 ≤ i) : servN ρ c L i = c i := by
  obtain ⟨-, -, k3, -, -⟩ := sits_ok hR (c := c) hL L.1 (Nat.le_refl _)
  have hn := hR.1
  unfold servN endN
  rw [if_neg (by omega), if_neg (by omega), if_neg (by omega), k3 i (by omega)]
theorem lc_zero {q : Nat} : ∀ {l : List (Nat × Nat)}, (∀ e ∈ l, e.1 ≠ q) → lcN q l = 0
  | [], _ => rfl
  | e :: l, h => by
    show (if e.1 = q then 1 else 0) + lcN q l = 0
    rw [if_neg (h e List.mem_cons_self), lc_zero (fun e' he => h e' (List.mem_cons_of_mem _ he))]
theorem log_lt {ρ : Ru} (hR : Ru0 ρ) {c : Cc} {L : Nat × (Nat → Nat)} (hL : LineD ρ L) : ∀ k, k ≤ L.1 → ∀ e ∈ logN ρ (resN c) L.2 k, e.1 < ρ.1 ∧ e.2 < ρ.1
  | 0, _, e, he => absurd he List.not_mem_nil
  | k + 1, hk, e, he => by
    obtain ⟨k1, k2, -⟩ := sits_ok hR (c := c) hL k (by omega)
    have hs : sitsN ρ (resN c) L.2 k (L.2 k) = -1 := (k2 _ (hL.2.1 k (by omega))).mpr (fun j hj z => by have := hL.2.2 j k (by omega) (by omega) z; omega)
    obtain ⟨-, -, -, -, -, -, r7, -⟩ := sit_ok0 hR k1 (hL.2.1 k (by omega)) hs
    rcases List.mem_append.mp he with h | h
    · exact log_lt hR hL k (by omega) e h
    · exact ⟨(r7 e h).1, (r7 e h).2.1⟩
theorem Good.serv {ρ : Ru} (hR : Ru0 ρ) {c : Cc} (h : Good ρ c) {L : Nat × (Nat → Nat)} (hL : LineD ρ L) : Good ρ (servN ρ c L) := by
  have hn := hR.1
  obtain ⟨-, k2, k3, k4, k5⟩ := sits_ok hR (c := c) hL L.1 (Nat.le_refl _)
  obtain ⟨g1, g2, g3, g4, g5⟩ := h
  refine ⟨serv_ok hR hL, fun i hi => (sits_tl hR hL i hi).trans (g2 i hi), fun p hp hp2 => ?_, fun p hp => ?_, fun p hp => ?_⟩
  · obtain ⟨z1, z2, z3, z4, z5, z6⟩ := g3 p hp hp2
    obtain ⟨m1, m2⟩ := k5 p hp2
    rw [lc_zero (fun e he => by have := (log_lt hR hL L.1 (Nat.le_refl _) e he).1; omega)] at m1 m2
    refine ⟨?_, ?_, ?_, ?_, ?_, ?_⟩
    · show endN ρ _ p = _
      rw [endN_spot (by omega)]; exact k4 p hp hp2
    · show endN ρ _ (12 + p) = _
      rw [endN_spot (by omega), k3 (12 + p) (by omega)]; exact z2
    · show endN ρ _ (24 + p) = _
      rw [endN_spot (by omega), m1, nI_0]
    · show endN ρ _ (36 + p) = _
      rw [endN_spot (by omega), m2, nI_0, Int32.add_zero]; exact z4
    · unfold servN endN
      rw [if_neg (by omega), if_neg (by omega), if_neg (by omega), k3 (48 + p) (by omega)]; exact z5
    · unfold servN endN
      rw [if_neg (by omega), if_neg (by omega), if_neg (by omega), k3 (60 + p) (by omega)]; exact z6
  · obtain ⟨a, a1, a2⟩ := g4 p hp
    refine ⟨a, a1, ?_⟩
    show endN ρ _ (12 + p) = _
    rw [endN_spot (by omega), k3 (12 + p) (by omega)]; exact a2
  · obtain ⟨a, a1, a2⟩ := g5 p hp
    have e : servN ρ c L (60 + p) = if 0 < c (60 + p) then c (60 + p) - 1 else c (60 + p) := by
      unfold servN endN
      rw [if_neg (by omega), if_pos (by omega), k3 (60 + p) (by omega)]
    rw [e, a2]
    by_cases h0 : a = 0
    · subst h0
      exact ⟨0, by omega, by rw [nI_0, if_neg (by decide)]⟩
    · obtain ⟨a', rfl⟩ : ∃ a', a = a' + 1 := ⟨a - 1, by omega⟩
      refine ⟨a', by omega, ?_⟩
      rw [if_pos, nI_pred]
      exact nI_lt (a := 0) (by omega) (by omega)
theorem Good.sun {ρ : Ru} (hR : Ru0 ρ) {c : Cc} (h : Good ρ c) (rain : Bool) : Good ρ (sunN ρ rain c) := h.serv hR (line_D hR.1 c rain)
theorem Good.sunK {ρ : Ru} (hR : Ru0 ρ) {c : Cc} (h : Good ρ c) : ∀ k, Good ρ (sunK ρ c k)
  | 0 => h
  | k + 1 => (Good.sunK hR h k).sun hR false
/-! the class's -/
def ActsC (A : Nat) (l : List Cc) (D : DD) : Prop := D A 0 = nI l.length ∧ ∃ o, o < 40 ∧ D A 1 = nI o ∧ ∀ j, j < l.length → ∀ i, i < 73 → D (A + 1) (73 * ((o + j) % 40) + i) = l.getD j c00 i
abbrev Sn : Type := Nat × Nat × Nat
def SeenC (S : Nat) (l : List Sn) (D : DD) : Prop := D S 0 = nI l.length ∧ ∀ j, j < l.length → D (S + 1) j = nI (l.getD j (0, 0, 0)).1 ∧ D (S + 2) j = nI (l.getD j (0, 0, 0)).2.1 ∧ D (S + 3) j = nI (l.getD j (0, 0, 0)).2.2
def FutC (ρ : Ru) (c : Cc) (D : DD) : Prop := D 37 0 = -1 ∨ ∃ K, K ≤ 200 ∧ D 37 0 = nI K ∧ (∀ j, j ≤ K → ∀ p, p < 12 → D 44 (12 * j + p) = sunK ρ c j p ∧ D 45 (12 * j + p) = sunK ρ c j (24 + p)) ∧ PewsC 38 ρ (sunK ρ c K) D
/-- whether all that was seen is so, from c on -/
def soN (ρ : Ru) (c : Cc) (l : List Sn) : Bool := l.all (fun e => decide (pewO (sunK ρ c e.2.1 e.1) = nI e.2.2))
def gueN (ρ : Ru) (c : Cc) (l : List Sn) (p a : Nat) : Bool := decide (¬ nI a = c (12 + p)) && soN ρ (upd c (12 + p) (nI a)) l
def GueC (ρ : Ru) (c : Cc) (l : List Sn) (D : DD) : Prop := D 52 0 = 0 ∨ (D 52 0 = 1 ∧ ∀ p, p < 12 → D 53 p = if p < ρ.1 then orP (gueN ρ c l p) 30 else 0)
abbrev Im : Type := Cc × List Cc × List Sn
def KeepC (im : Option Im) (D : DD) : Prop := match im with
  | none => D 55 0 = 0
  | some m => D 55 0 = 1 ∧ D 56 = m.1 ∧ ActsC 57 m.2.1 D ∧ SeenC 59 m.2.2 D
/-- tape, fault and refusals; rules; people; acts; what was seen; the image -/
abbrev Sg : Type := (Nat × (Nat → Int32) × Int32 × (Nat → Int32)) × Ru × Cc × List Cc × List Sn × Option Im
def TapeC (τ : Nat × (Nat → Int32) × Int32 × (Nat → Int32)) (D : DD) : Prop := D 0 1 = nI τ.1 ∧ (∀ i, i < τ.1 → D 1 i = τ.2.1 i) ∧ D 0 2 = τ.2.2.1 ∧ ∀ k, k < 3 → D 2 k = τ.2.2.2 k
def CI (σ : Sg) (D : DD) : Prop := TapeC σ.1 D ∧ RulesC σ.2.1 D ∧ PewsC 25 σ.2.1 σ.2.2.1 D ∧ FutC σ.2.1 σ.2.2.1 D ∧ ActsC 46 σ.2.2.2.1 D ∧ SeenC 48 σ.2.2.2.2.1 D ∧ GueC σ.2.1 σ.2.2.1 σ.2.2.2.2.1 D ∧ KeepC σ.2.2.2.2.2 D ∧ Tl (D 32) ∧ Tl (D 39) ∧ Tl (D 56)
/-! the reference's -/
def TapeM (τ : Nat × (Nat → Int32) × Int32 × (Nat → Int32)) (D : DD) : Prop := D 70 8 = nI τ.1 ∧ (∀ i, i < τ.1 → D 72 i = τ.2.1 i) ∧ D 70 10 = τ.2.2.1 ∧ ∀ k, k < 3 → D 73 k = τ.2.2.2 k
def KeptM (ρ : Ru) (l : List Cc) (r : Nat → Int32) : Prop := ∀ j, j < l.length → RowM (85 * j) ρ (l.getD j c00) r
def SeesM (l : List Sn) (r : Nat → Int32) : Prop := ∀ j, j < l.length → r (3 * j) = nI (l.getD j (0, 0, 0)).1 ∧ r (3 * j + 1) = nI (l.getD j (0, 0, 0)).2.1 ∧ r (3 * j + 2) = nI (l.getD j (0, 0, 0)).2.2
def ImgM (ρ : Ru) (im : Option Im) (D : DD) : Prop := match im with
  | none => D 70 56 = 0
  | some m => D 70 56 = 1 ∧ D 70 57 = nI m.2.1.length ∧ D 70 58 = nI m.2.2.length ∧ RowM 0 ρ m.1 (D 92) ∧ KeptM ρ m.2.1 (D 93) ∧ SeesM m.2.2 (D 94)
def MI (σ : Sg) (D : DD) : Prop := TapeM σ.1 D ∧ RulesM σ.2.1 D ∧ RowM 0 σ.2.1 σ.2.2.1 (D 78) ∧ (D 70 36 = nI σ.2.2.2.1.length ∧ KeptM σ.2.1 σ.2.2.2.1 (D 79)) ∧ (D 70 51 = nI σ.2.2.2.2.1.length ∧ SeesM σ.2.2.2.2.1 (D 89)) ∧ ImgM σ.2.1 σ.2.2.2.2.2 D ∧ D 70 43 = 0
/-- what is sound of it all -/
def SgOk (σ : Sg) : Prop := σ.1.1 ≤ 700 ∧ RuOk σ.2.1 ∧ Good σ.2.1 σ.2.2.1 ∧ (σ.2.2.2.1.length ≤ 40 ∧ ∀ a ∈ σ.2.2.2.1, Good σ.2.1 a) ∧ (σ.2.2.2.2.1.length ≤ 8 ∧ ∀ e ∈ σ.2.2.2.2.1, e.1 < σ.2.1.1 ∧ e.2.1 ≤ 20 ∧ e.2.2 < 12) ∧ (∀ m, σ.2.2.2.2.2 = some m → Good σ.2.1 m.1 ∧ (m.2.1.length ≤ 40 ∧ ∀ a ∈ m.2.1, Good σ.2.1 a) ∧ (m.2.2.length ≤ 8 ∧ ∀ e ∈ m.2.2, e.1 < σ.2.1.1 ∧ e.2.1 ≤ 20 ∧ e.2.2 < 12)) ∧ ∀ i, ∃ a, a < 256 ∧ σ.1.2.1 i = nI a
theorem ActsC.mv {A : Nat} {l : List Cc} {D D' : DD} (h : ActsC A l D) (h1 : D' A = D A) (h2 : D' (A + 1) = D (A + 1)) : ActsC A l D' := by
  unfold ActsC
  rw [h1, h2]; exact h
theorem SeenC.mv {S : Nat} {l : List Sn} {D D' : DD} (h : SeenC S l D) (h0 : D' S = D S) (h1 : D' (S + 1) = D (S + 1)) (h2 : D' (S + 2) = D (S + 2)) (h3 : D' (S + 3) = D (S + 3)) : SeenC S l D' := by
  unfold SeenC
  rw [h0, h1, h2, h3]; exact h
theorem KeepC.mv {im : Option Im} {D D' : DD} (h : KeepC im D) (hq : ∀ q, 55 ≤ q → q ≤ 62 → D' q = D q) : KeepC im D' := by
  cases im with
  | none => show D' 55 0 = 0; rw [hq 55 (by omega) (by omega)]; exact h
  | some m =>
    obtain ⟨a1, a2, a3, a4⟩ := h
    exact ⟨by rw [hq 55 (by omega) (by omega)]; exact a1, by rw [hq 56 (by omega) (by omega)]; exact a2, a3.mv (hq 57 (by omega) (by omega)) (hq 58 (by omega) (by omega)), a4.mv (hq 59 (by omega) (by omega)) (hq 60 (by omega) (by omega)) (hq 61 (by omega) (by omega)) (hq 62 (by omega) (by omega))⟩
theorem FutC.mv {ρ : Ru} {c : Cc} {D D' : DD} (h : FutC ρ c D) (hq : ∀ q, 37 ≤ q → q ≤ 45 → D' q = D q) : FutC ρ c D' := by
  rcases h with h | ⟨K, h1, h2, h3, h4⟩
  · exact Or.inl (by rw [hq 37 (by omega) (by omega)]; exact h)
  · refine Or.inr ⟨K, h1, by rw [hq 37 (by omega) (by omega)]; exact h2, fun j hj p hp => ?_, h4.mv (hq 39 (by omega) (by omega)) (hq 40 (by omega) (by omega)) (hq 41 (by omega) (by omega))⟩
    rw [hq 44 (by omega) (by omega), hq 45 (by omega) (by omega)]; exact h3 j hj p hp
theorem GueC.mv {ρ : Ru} {c : Cc} {l : List Sn} {D D' : DD} (h : GueC ρ c l D) (h1 : D' 52 = D 52) (h2 : D' 53 = D 53) : GueC ρ c l D' := by
  unfold GueC
  rw [h1, h2]; exact h
theorem TapeC.mv {τ : Nat × (Nat → Int32) × Int32 × (Nat → Int32)} {D D' : DD} (h : TapeC τ D) (h0 : D' 0 = D 0) (h1 : D' 1 = D 1) (h2 : D' 2 = D 2) : TapeC τ D' := by
  unfold TapeC
  rw [h0, h1, h2]; exact h
theorem TapeM.mv {τ : Nat × (Nat → Int32) × Int32 × (Nat → Int32)} {D D' : DD} (h : TapeM τ D) (h0 : D' 70 8 = D 70 8) (h0' : D' 70 10 = D 70 10) (h1 : D' 72 = D 72) (h2 : D' 73 = D 73) : TapeM τ D' := by
  unfold TapeM
  rw [h0, h0', h1, h2]; exact h
theorem ImgM.mv {ρ : Ru} {im : Option Im} {D D' : DD} (h : ImgM ρ im D) (h0 : ∀ k, 56 ≤ k → k ≤ 58 → D' 70 k = D 70 k) (hq : ∀ q, 92 ≤ q → q ≤ 94 → D' q = D q) : ImgM ρ im D' := by
  cases im with
  | none => show D' 70 56 = 0; rw [h0 56 (by omega) (by omega)]; exact h
  | some m =>
    obtain ⟨a1, a2, a3, a4, a5, a6⟩ := h
    exact ⟨by rw [h0 56 (by omega) (by omega)]; exact a1, by rw [h0 57 (by omega) (by omega)]; exact a2, by rw [h0 58 (by omega) (by omega)]; exact a3, by rw [hq 92 (by omega) (by omega)]; exact a4, by rw [hq 93 (by omega) (by omega)]; exact a5, by rw [hq 94 (by omega) (by omega)]; exact a6⟩
/-- the class's part looks at its own cells alone -/
theorem CI.mv {σ : Sg} {D D' : DD} (h : CI σ D) (hq : ∀ q, q < 70 → D' q = D q) : CI σ D' := by
  obtain ⟨a1, a2, a3, a4, a5, a6, a7, a8, a9, a10, a11⟩ := h
  exact ⟨a1.mv (hq 0 (by omega)) (hq 1 (by omega)) (hq 2 (by omega)), a2.mv (hq 3 (by omega)) (fun q _ _ => hq q (by omega)) (fun i _ _ => by rw [hq 5 (by omega)]), a3.mv (hq 26 (by omega)) (hq 27 (by omega)) (hq 28 (by omega)), a4.mv (fun q _ _ => hq q (by omega)), a5.mv (hq 46 (by omega)) (hq 47 (by omega)), a6.mv (hq 48 (by omega)) (hq 49 (by omega)) (hq 50 (by omega)) (hq 51 (by omega)), a7.mv (hq 52 (by omega)) (hq 53 (by omega)), a8.mv (fun q _ _ => hq q (by omega)), by rw [hq 32 (by omega)]; exact a9, by rw [hq 39 (by omega)]; exact a10, by rw [hq 56 (by omega)]; exact a11⟩
/-- the reference's part doesn't look at what its own work changes beyond the row that is now -/
theorem MI.mv {σ : Sg} {D D' : DD} (h : MI σ D) (h0 : ∀ k, 1 ≤ k → k ≤ 5 ∨ k = 8 ∨ k = 10 ∨ k = 36 ∨ k = 43 ∨ k = 51 ∨ 56 ≤ k → k ≤ 58 → D' 70 k = D 70 k) (hr : ∀ i, i < 85 → D' 78 i = D 78 i) (hq : ∀ q, q = 71 ∨ q = 72 ∨ q = 73 ∨ q = 79 ∨ q = 89 ∨ q = 92 ∨ q = 93 ∨ q = 94 → D' q = D q) (hn : σ.2.1.1 ≤ 12) : MI σ D' := by
  obtain ⟨a1, a2, a3, a4, a5, a6, a7⟩ := h
  refine ⟨a1.mv (h0 8 (by omega) (by omega) (by omega)) (h0 10 (by omega) (by omega) (by omega)) (hq 72 (by omega)) (hq 73 (by omega)), a2.mv (fun k k1 k2 => h0 k k1 (by omega) (by omega)) (hq 71 (by omega)), ⟨?_, fun p hp => ?_⟩, ?_, ?_, a6.mv (fun k k1 k2 => h0 k (by omega) (by omega) k2) (fun q _ _ => hq q (by omega)), by rw [h0 43 (by omega) (by omega) (by omega)]; exact a7⟩
  · rw [hr 0 (by omega)]; exact a3.1
  · obtain ⟨t1, t2, t3, t4, t5, t6, t7⟩ := a3.2 p hp
    exact ⟨by rw [hr _ (by omega)]; exact t1, by rw [hr _ (by omega)]; exact t2, fun z => by rw [hr _ (by omega)]; exact t3 z, by rw [hr _ (by omega)]; exact t4, by rw [hr _ (by omega)]; exact t5, by rw [hr _ (by omega)]; exact t6, by rw [hr _ (by omega)]; exact t7⟩
  · rw [h0 36 (by omega) (by omega) (by omega), hq 79 (by omega)]; exact a4
  · rw [h0 51 (by omega) (by omega) (by omega), hq 89 (by omega)]; exact a5
