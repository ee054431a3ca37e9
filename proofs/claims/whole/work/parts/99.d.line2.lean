/-! ===== one stays out of the line, or stands elsewhere in it ===== -/
theorem find_mem {P : Nat → Bool} : ∀ {r p q : Nat}, findN P r p = some q → P q = true ∧ p ≤ q ∧ q < p + r
  | 0, p, q, h => by cases h
  | r + 1, p, q, h => by
    rw [findN] at h
    by_cases hp : P p = true
    · rw [if_pos hp] at h
      cases h
      exact ⟨hp, by omega, by omega⟩
    · rw [if_neg hp] at h
      obtain ⟨h1, h2, h3⟩ := find_mem h
      exact ⟨h1, by omega, by omega⟩
theorem find_no {P : Nat → Bool} : ∀ {r p : Nat}, findN P r p = none → ∀ j, p ≤ j → j < p + r → P j = false
  | 0, p, _, j, h1, h2 => by omega
  | r + 1, p, h, j, h1, h2 => by
    rw [findN] at h
    by_cases hp : P p = true
    · rw [if_pos hp] at h; cases h
    · rw [if_neg hp] at h
      by_cases hj : j = p
      · rw [hj]; cases hh : P p <;> simp_all
      · exact find_no h j (by omega) (by omega)
def plO (L : Nat × (Nat → Nat)) (q : Option Nat) : Option Nat := findN (fun i => decide (some (L.2 i) = q)) L.1 0
def diN (k i : Nat) : Nat := if i < k then i else i + 1
def outO (L : Nat × (Nat → Nat)) (q : Option Nat) : Nat × (Nat → Nat) := match plO L q with | none => L | some k => (L.1 - 1, fun i => L.2 (diN k i))
def atL (L : Nat × (Nat → Nat)) (p j : Nat) : Nat × (Nat → Nat) := ((outO L (some p)).1 + 1, insN (outO L (some p)).2 j p)
section LN
variable {X : XS} {d u : Nat} {D D1 : DD} {J : JJ} {σ : Sg} {ρ : Ru} {c : Cc} {L : Nat × (Nat → Nat)} {P k p j : Nat} {q : Option Nat}
theorem pl_some (h : plO L q = some k) : k < L.1 ∧ some (L.2 k) = q := by
  obtain ⟨h1, -, h3⟩ := find_mem h
  exact ⟨by omega, of_decide_eq_true h1⟩
theorem pl_none (h : plO L q = none) : ∀ i, i < L.1 → ¬ some (L.2 i) = q := fun i hi => of_decide_eq_false (find_no h i (Nat.zero_le _) (by omega))
theorem out_none (h : plO L q = none) : outO L q = L := by unfold outO; rw [h]
theorem out_some (h : plO L q = some k) : outO L q = (L.1 - 1, fun i => L.2 (diN k i)) := by unfold outO; rw [h]
theorem pl_n : plO L none = none := find_none (fun j _ _ => decide_eq_false (fun z => by cases z))
theorem out_n : outO L none = L := out_none pl_n
theorem pl_eq : plO L (some p) = findN (fun i => decide (L.2 i = p)) L.1 0 := find_congr (fun j _ _ => by simp)
theorem out_D (hL : LineD ρ L) : LineD ρ (outO L q) := by
  cases h : plO L q with
  | none => rw [out_none h]; exact hL
  | some k =>
    obtain ⟨k1, -⟩ := pl_some h
    obtain ⟨l1, l2, l3⟩ := hL
    rw [out_some h]
    refine ⟨by show L.1 - 1 ≤ 12; omega, fun i hi => ?_, fun i j hi hj e => ?_⟩
    · have hi : i < L.1 - 1 := hi
      refine l2 _ ?_
      unfold diN
      split <;> omega
    · have hi : i < L.1 - 1 := hi
      have hj : j < L.1 - 1 := hj
      have e : L.2 (diN k i) = L.2 (diN k j) := e
      have := l3 _ _ (by unfold diN; split <;> omega) (by unfold diN; split <;> omega) e
      unfold diN at this
      split at this <;> split at this <;> omega
theorem out_mem (hL : LineD ρ L) (hpq : ¬ some p = q) (h : ∃ i, i < L.1 ∧ L.2 i = p) : ∃ i, i < (outO L q).1 ∧ (outO L q).2 i = p := by
  cases hq : plO L q with
  | none => rw [out_none hq]; exact h
  | some k =>
    obtain ⟨k1, k2⟩ := pl_some hq
    obtain ⟨i, i1, i2⟩ := h
    have hik : i ≠ k := fun z => hpq (by rw [← i2, z]; exact k2)
    rw [out_some hq]
    by_cases hlt : i < k
    · refine ⟨i, by show i < L.1 - 1; omega, ?_⟩
      show L.2 (diN k i) = p
      unfold diN
      rw [if_pos hlt]; exact i2
    · refine ⟨i - 1, by show i - 1 < L.1 - 1; omega, ?_⟩
      show L.2 (diN k (i - 1)) = p
      unfold diN
      rw [if_neg (by omega), show i - 1 + 1 = i by omega]; exact i2
theorem out_not (hL : LineD ρ L) : ∀ i, i < (outO L (some p)).1 → (outO L (some p)).2 i ≠ p := by
  intro i hi z
  cases hq : plO L (some p) with
  | none =>
    rw [out_none hq] at hi z
    exact pl_none hq i hi (by rw [z])
  | some k =>
    obtain ⟨k1, k2⟩ := pl_some hq
    rw [out_some hq] at hi z
    have hi : i < L.1 - 1 := hi
    have z : L.2 (diN k i) = p := z
    have k2 : L.2 k = p := by injection k2
    have := hL.2.2 _ _ (by unfold diN; split <;> omega) k1 (z.trans k2.symm)
    unfold diN at this
    split at this <;> omega
theorem at_1 (h : plO L (some p) = some k) : (atL L p j).1 = L.1 := by
  unfold atL
  rw [out_some h]
  have := (pl_some h).1
  show L.1 - 1 + 1 = L.1
  omega
theorem at_D (hL : LineD ρ L) (h : plO L (some p) = some k) (hj : j < L.1) : LineD ρ (atL L p j) ∧ (atL L p j).2 j = p := by
  obtain ⟨k1, k2⟩ := pl_some h
  have k2 : L.2 k = p := by injection k2
  have hO := out_D (q := some p) hL
  have e1 := at_1 (j := j) h
  have eO : (outO L (some p)).1 = L.1 - 1 := by rw [out_some h]
  have hno := out_not (p := p) hL
  refine ⟨⟨by rw [e1]; exact hL.1, fun i hi => ?_, fun i i' hi hi' e => ?_⟩, ?_⟩
  · rw [e1] at hi
    show insN _ j p i < ρ.1
    rcases ins_mem (a := (outO L (some p)).2) (k := j) (p := p) (i := i) with ⟨a1, a2⟩ | ⟨a1, a2⟩ | ⟨a1, a2⟩
    · rw [a2, ← k2]; exact hL.2.1 k k1
    · rw [a2]; exact hO.2.1 i (by omega)
    · rw [a2]; exact hO.2.1 (i - 1) (by omega)
  · rw [e1] at hi hi'
    have e : insN (outO L (some p)).2 j p i = insN (outO L (some p)).2 j p i' := e
    rcases ins_mem (a := (outO L (some p)).2) (k := j) (p := p) (i := i) with ⟨a1, a2⟩ | ⟨a1, a2⟩ | ⟨a1, a2⟩ <;> rcases ins_mem (a := (outO L (some p)).2) (k := j) (p := p) (i := i') with ⟨b1, b2⟩ | ⟨b1, b2⟩ | ⟨b1, b2⟩ <;> rw [a2, b2] at e
    · omega
    · exact absurd e.symm (hno i' (by omega))
    · exact absurd e.symm (hno (i' - 1) (by omega))
    · exact absurd e (hno i (by omega))
    · exact hO.2.2 i i' (by omega) (by omega) e
    · have := hO.2.2 i (i' - 1) (by omega) (by omega) e; omega
    · exact absurd e (hno (i - 1) (by omega))
    · have := hO.2.2 (i - 1) i' (by omega) (by omega) e; omega
    · have := hO.2.2 (i - 1) (i' - 1) (by omega) (by omega) e; omega
  · show insN _ j p j = p
    exact ins_at _ _ _
/-- who stands in the line sits then -/
theorem serv_sits (hR : Ru0 ρ) (hL : LineD ρ L) (hp : p < ρ.1) : servN ρ c L p = -1 ↔ ∀ i, i < L.1 → L.2 i ≠ p := by
  have hn := hR.1
  obtain ⟨-, k2, -⟩ := sits_ok hR (c := c) hL _ (Nat.le_refl _)
  have e : servN ρ c L p = sitsN ρ (resN c) L.2 L.1 p := by
    show endN ρ _ p = _
    rw [endN_spot (by omega)]
  rw [e]; exact k2 p hp
def isL (P : Nat) (L : Nat × (Nat → Nat)) (D : DD) : Prop := D P 4 = nI L.1 ∧ ∀ i, i < L.1 → D (P + 4) i = nI (L.2 i)
theorem who_ne {a : Nat} (ha : a < 2 ^ 31) (hq : ∀ b, q = some b → b < 2 ^ 31) : nI a = whoA q ↔ some a = q := by
  cases q with
  | none => exact ⟨fun z => absurd z (nI_ne1 ha), fun z => by cases z⟩
  | some b => exact ⟨fun z => by rw [nI_inj ha (hq b rfl) z], fun z => by cases z; rfl⟩
theorem c_place (hP : isP P) (hL : LineD ρ L) (hn : ρ.1 ≤ 12) (hl : isL P L D) (hq : ∀ b, q = some b → b < 12) : EvM X d 47 [.ref P, .int (whoA q)] (hS u D J) = some (.inl (some (.int (whoA (plO L q)))), hS u D J) := by
  have h12 := hL.1
  refine wp_eqI ?_
  refine wp_eq (e47_0 hP _) ?_
  have main : ∀ (r k : Nat), k + r = L.1 → Wp (Ev X d 47 (2, [.ref P, .int (whoA q), .int (nI k)], [], hS u D J)) (RI u J (fun y D' => y = whoA (findN (fun i => decide (some (L.2 i) = q)) r k) ∧ D' = D)) := by
    intro r
    induction r with
    | zero =>
      intro k hk
      refine wp_eq (e47_2 hP _ _) ?_
      rw [hl.1]
      exact wp_t (nI_le (by omega) (by omega)) (wp_rI ⟨rfl, rfl⟩)
    | succ r ih =>
      intro k hk
      have hkL : k < L.1 := by omega
      have := hL.2.1 k hkL
      refine wp_eq (e47_2 hP _ _) ?_
      rw [hl.1]
      refine wp_f (nI_ge hkL (by omega)) ?_
      rw [nI_clamp (by omega), hl.2 k hkL, nI_1]
      refine oG (by omega) (by decide) (wp_if (fun h => ?_) (fun h => ?_))
      · rw [findN, if_neg (fun z => h ((who_ne (by omega) (fun b hb => by have := hq b hb; omega)).mpr (of_decide_eq_true z)))]
        exact ih (k + 1) (by omega)
      · rw [findN, if_pos (decide_eq_true ((who_ne (by omega) (fun b hb => by have := hq b hb; omega)).mp (Classical.not_not.mp h)))]
        exact wp_rI ⟨rfl, rfl⟩
  exact main L.1 0 (by omega)
theorem c_leaveOut (hP : isP P) (hL : LineD ρ L) (hn : ρ.1 ≤ 12) (hl : isL P L D) (hq : ∀ b, q = some b → b < 12) : Wp (EvM X (d + 1) 48 [.ref P, .int (whoA q)] (hS u D J)) (RI u J (fun y D' => y = (if (plO L q).isSome = true then 1 else 0) ∧ isL P (outO L q) D' ∧ ∀ a, a ≠ P → a ≠ P + 4 → D' a = D a)) := by
  have h12 := hL.1
  refine wp_eq (e48_0 hP _) ?_
  refine wp_iE (c_place hP hL hn hl hq) ?_
  refine wp_eq (e48_3 hP _ _) ?_
  cases hk : plO L q with
  | none =>
    refine wp_f (fun z => z rfl) (wp_rI ⟨rfl, ?_, fun _ _ _ => rfl⟩)
    rw [out_none hk]; exact hl
  | some k =>
    obtain ⟨k1, -⟩ := pl_some hk
    have ek : whoA (some k) = nI k := rfl
    have e1 : nI L.1 - 1 = nI (L.1 - 1) := nI_sub (b := 1) (by omega)
    rw [ek, hl.1, e1]
    refine wp_t (nI_ne1 (by omega)) ?_
    refine wp_loop (R := fun i (D2 : DD) => Ev X (d + 1) 48 (17, [.ref P, .int (whoA q), .int (nI k), .int (nI i)], [], hS u D2 J)) (fun i (D2 : DD) => k ≤ i ∧ D2 P 4 = nI (L.1 - 1) ∧ (∀ j, j < i → D2 (P + 4) j = nI (L.2 (diN k j))) ∧ (∀ j, i ≤ j → j < L.1 → D2 (P + 4) j = nI (L.2 j)) ∧ ∀ a, a ≠ P → a ≠ P + 4 → D2 a = D a) (L.1 - 1) ?_ ?_ k _ (by omega) ⟨Nat.le_refl _, ud_at _ _ _ _, fun j hj => ?_, fun j _ hj => ?_, fun a a1 _ => ud_q a1⟩
    · intro i D2 hi ⟨i0, i1, i2, i3, i4⟩ ih
      refine wp_eq (e48_17 hP _ _ _) ?_
      rw [i1]
      refine wp_f (nI_ge hi (by omega)) ?_
      rw [nI_1, nI_clamp (show i < 2 ^ 31 by omega), nI_clamp (show i + 1 < 2 ^ 31 by omega), i3 (i + 1) (by omega) (by omega)]
      refine oG (by omega) (by decide) (oG (by omega) (by decide) (ih _ ⟨by omega, by rw [ud_q (by omega)]; exact i1, fun j hj => ?_, fun j j1 j2 => by rw [ud_k (by omega)]; exact i3 j (by omega) j2, fun a a1 a2 => by rw [ud_q a2]; exact i4 a a1 a2⟩))
      by_cases hji : j = i
      · rw [hji, ud_at]
        unfold diN
        rw [if_neg (by omega)]
      · rw [ud_k hji]; exact i2 j (by omega)
    · intro D2 ⟨i0, i1, i2, i3, i4⟩
      refine wp_eq (e48_17 hP _ _ _) ?_
      rw [i1]
      refine wp_t (nI_le (Nat.le_refl _) (by omega)) (wp_rI ⟨rfl, ?_, i4⟩)
      rw [out_some hk]
      exact ⟨i1, i2⟩
    · rw [ud_q (by omega), hl.2 j (by omega)]
      unfold diN
      rw [if_pos hj]
    · rw [ud_q (by omega)]; exact hl.2 j hj
theorem c_standAt (hP : isP P) (hL : LineD ρ L) (hn : ρ.1 ≤ 12) (hl : isL P L D) (hp : p < 12) (hk : plO L (some p) = some k) (hj : j < L.1) : Wp (EvM X (d + 2) 49 [.ref P, .int (nI p), .int (nI j)] (hS u D J)) (RV u J (fun D' => isL P (atL L p j) D' ∧ ∀ a, a ≠ P → a ≠ P + 4 → D' a = D a)) := by
  have h12 := hL.1
  have eO : (outO L (some p)).1 = L.1 - 1 := by rw [out_some hk]
  refine wp_eq (e49_0 hP _ _) ?_
  refine wp_cI (c_leaveOut (d := d) (q := some p) hP hL hn hl (fun b hb => by cases hb; exact hp)) (fun y D2 h2 => ?_)
  obtain ⟨rfl, g1, g2⟩ := h2
  refine wp_eq (e49_3 hP _ _ _) ?_
  rw [hk]
  refine wp_t (show ¬ (1 : Int32) = 0 by decide) ?_
  rw [g1.1, eO]
  obtain ⟨r, hr⟩ : ∃ r, L.1 - 1 = j + r := ⟨L.1 - 1 - j, by omega⟩
  rw [hr]
  refine wp_down (R := fun r (D3 : DD) => Ev X (d + 2) 49 (8, [.ref P, .int (nI p), .int (nI j), .int (nI (j + r))], [], hS u D3 J)) (fun r (D3 : DD) => j + r ≤ L.1 - 1 ∧ D3 P 4 = nI (L.1 - 1) ∧ (∀ i, i < j + r → D3 (P + 4) i = nI ((outO L (some p)).2 i)) ∧ (∀ i, j + r < i → i ≤ L.1 - 1 → D3 (P + 4) i = nI ((outO L (some p)).2 (i - 1))) ∧ ∀ a, a ≠ P → a ≠ P + 4 → D3 a = D a) ?_ ?_ r D2 ⟨by omega, by rw [g1.1, eO], fun i hi => g1.2 i (by omega), fun i i1 i2 => by omega, g2⟩
  · intro r D3 ⟨i0, i1, i2, i3, i4⟩ ih
    refine wp_eq (e49_8 hP _ _ _) (wp_f (nI_ge (by omega) (by omega)) ?_)
    have e1 : nI (j + (r + 1)) - 1 = nI (j + r) := by rw [← Nat.add_assoc]; exact nI_sub (b := 1) (by omega)
    have e2 : nI (j + (r + 1)) + (-1) = nI (j + r) := by rw [← e1]; exact (Int32.sub_eq_add_neg _ _).symm
    rw [e1, e2, nI_clamp (show j + r < 2 ^ 31 by omega), nI_clamp (show j + (r + 1) < 2 ^ 31 by omega), i2 (j + r) (by omega)]
    refine oG (by omega) (by decide) (oG (by omega) (by decide) (ih _ ⟨by omega, by rw [ud_q (by omega)]; exact i1, fun i hi => by rw [ud_k (by omega)]; exact i2 i (by omega), fun i a1 a2 => ?_, fun a a1 a2 => by rw [ud_q a2]; exact i4 a a1 a2⟩))
    by_cases hir : i = j + (r + 1)
    · rw [hir, ud_at]; congr 2
    · rw [ud_k hir]; exact i3 i (by omega) a2
  · intro D3 ⟨i0, i1, i2, i3, i4⟩
    refine wp_eq (e49_8 hP _ _ _) (wp_t (nI_le (by omega) (by omega)) ?_)
    rw [nI_clamp (show j < 2 ^ 31 by omega), ud_q (show P ≠ P + 4 by omega), i1, nI_1]
    refine oG (by omega) (by decide) (wp_rV ⟨⟨by rw [ud_at, at_1 hk]; congr 1; omega, fun i hi => ?_⟩, fun a a1 a2 => by rw [ud_q a1, ud_q a2]; exact i4 a a1 a2⟩)
    rw [at_1 hk] at hi
    rw [ud_q (by omega)]
    show _ = nI (insN _ j p i)
    rcases ins_mem (a := (outO L (some p)).2) (k := j) (p := p) (i := i) with ⟨a1, a2⟩ | ⟨a1, a2⟩ | ⟨a1, a2⟩
    · rw [a2, a1, ud_at]
    · rw [a2, ud_k (by omega)]; exact i2 i (by omega)
    · rw [a2, ud_k (by omega)]; exact i3 i (by omega) (by omega)
/-! the reference -/
def isLM (L : Nat × (Nat → Nat)) (D : DD) : Prop := D 70 46 = nI L.1 ∧ ∀ i, i < L.1 → D 83 i = nI (L.2 i)
def FrO (D D' : DD) : Prop := (∀ a, a ≠ 70 → a ≠ 83 → D' a = D a) ∧ ∀ k, k ≠ 46 → D' 70 k = D 70 k
theorem m_reo {x2 : Int32} {Q : Rs → Prop} (hL : LineD ρ L) (hn : ρ.1 ≤ 12) (hl : isLM L D) (hp : p < 12) (hk : plO L (some p) = some k) (hQ : ∀ D2, isLM (outO L (some p)) D2 → FrO D D2 → Wp (br (decide (¬ x2 = (-1))) (Ev X (d + 1) 226 (35, [.ref 70, .int (nI p), .int x2, .int (nI k), .int (D2 70 46)], [], hS u D2 J)) (some (.inl none, hS u D2 J))) Q) : Wp (EvM X (d + 1) 226 [.ref 70, .int (nI p), .int x2] (hS u D J)) Q := by
  have h12 := hL.1
  obtain ⟨k1, k2⟩ := pl_some hk
  refine wp_eq (e226_0 _ _) ?_
  refine wp_iE (s_placeOf (L := L) hp h12 (fun i hi => by have := hL.2.1 i hi; omega) hl.1 hl.2) ?_
  rw [← pl_eq, hk]
  have ek : whoA (some k) = nI k := rfl
  have e1 : nI L.1 - 1 = nI (L.1 - 1) := nI_sub (b := 1) (by omega)
  refine wp_eq (e226_3 _ _ _) ?_
  rw [ek, hl.1, e1]
  refine wp_loop (R := fun i (D2 : DD) => Ev X (d + 1) 226 (12, [.ref 70, .int (nI p), .int x2, .int (nI k), .int (nI i)], [], hS u D2 J)) (fun i (D2 : DD) => k ≤ i ∧ D2 70 46 = nI (L.1 - 1) ∧ (∀ j, j < i → D2 83 j = nI (L.2 (diN k j))) ∧ (∀ j, i ≤ j → j < L.1 → D2 83 j = nI (L.2 j)) ∧ FrO D D2) (L.1 - 1) ?_ ?_ k _ (by omega) ⟨Nat.le_refl _, ud_at _ _ _ _, fun j hj => ?_, fun j _ hj => ?_, fun a a1 _ => ud_q a1, fun j hj => ud_k hj⟩
  · intro i D2 hi ⟨i0, i1, i2, i3, i4⟩ ih
    refine wp_eq (e226_12 _ _ _ _) ?_
    rw [i1]
    refine wp_f (nI_ge hi (by omega)) ?_
    rw [nI_1, nI_clamp (show i < 2 ^ 31 by omega), nI_clamp (show i + 1 < 2 ^ 31 by omega), i3 (i + 1) (by omega) (by omega)]
    refine oG (by omega) (by decide) (oG (by omega) (by decide) (ih _ ⟨by omega, by rw [ud_q (by omega)]; exact i1, fun j hj => ?_, fun j j1 j2 => by rw [ud_k (by omega)]; exact i3 j (by omega) j2, fun a a1 a2 => by rw [ud_q a2]; exact i4.1 a a1 a2, fun j hj => by rw [ud_q (by decide)]; exact i4.2 j hj⟩))
    by_cases hji : j = i
    · rw [hji, ud_at]
      unfold diN
      rw [if_neg (by omega)]
    · rw [ud_k hji]; exact i2 j (by omega)
  · intro D2 ⟨i0, i1, i2, i3, i4⟩
    refine wp_eq (e226_12 _ _ _ _) ?_
    have hQ := hQ D2 (by rw [out_some hk]; exact ⟨i1, i2⟩) i4
    rw [i1] at hQ ⊢
    exact wp_t (nI_le (Nat.le_refl _) (by omega)) hQ
  · rw [ud_q (by omega), hl.2 j (by omega)]
    unfold diN
    rw [if_pos hj]
  · rw [ud_q (by omega)]; exact hl.2 j hj
theorem m_out (hL : LineD ρ L) (hn : ρ.1 ≤ 12) (hl : isLM L D) (hp : p < 12) (hk : plO L (some p) = some k) : Wp (EvM X (d + 1) 226 [.ref 70, .int (nI p), .int (-1)] (hS u D J)) (RV u J (fun D' => isLM (outO L (some p)) D' ∧ FrO D D')) :=
  m_reo hL hn hl hp hk (fun D2 h1 h2 => wp_f (fun z => z rfl) (wp_rV ⟨h1, h2⟩))
theorem m_at (hL : LineD ρ L) (hn : ρ.1 ≤ 12) (hl : isLM L D) (hp : p < 12) (hk : plO L (some p) = some k) (hj : j < L.1) : Wp (EvM X (d + 1) 226 [.ref 70, .int (nI p), .int (nI j)] (hS u D J)) (RV u J (fun D' => isLM (atL L p j) D' ∧ FrO D D')) := by
  have h12 := hL.1
  have eO : (outO L (some p)).1 = L.1 - 1 := by rw [out_some hk]
  refine m_reo hL hn hl hp hk (fun D2 g1 g2 => wp_t (nI_ne1 (by omega)) ?_)
  rw [g1.1, eO]
  obtain ⟨r, hr⟩ : ∃ r, L.1 - 1 = j + r := ⟨L.1 - 1 - j, by omega⟩
  rw [hr]
  refine wp_down (R := fun r (D3 : DD) => Ev X (d + 1) 226 (35, [.ref 70, .int (nI p), .int (nI j), .int (nI k), .int (nI (j + r))], [], hS u D3 J)) (fun r (D3 : DD) => j + r ≤ L.1 - 1 ∧ D3 70 46 = nI (L.1 - 1) ∧ (∀ i, i < j + r → D3 83 i = nI ((outO L (some p)).2 i)) ∧ (∀ i, j + r < i → i ≤ L.1 - 1 → D3 83 i = nI ((outO L (some p)).2 (i - 1))) ∧ FrO D D3) ?_ ?_ r D2 ⟨by omega, by rw [g1.1, eO], fun i hi => g1.2 i (by omega), fun i i1 i2 => by omega, g2⟩
  · intro r D3 ⟨i0, i1, i2, i3, i4⟩ ih
    refine wp_eq (e226_35 _ _ _ _) (wp_f (nI_ge (by omega) (by omega)) ?_)
    have e1 : nI (j + (r + 1)) - 1 = nI (j + r) := by rw [← Nat.add_assoc]; exact nI_sub (b := 1) (by omega)
    have e2 : nI (j + (r + 1)) + (-1) = nI (j + r) := by rw [← e1]; exact (Int32.sub_eq_add_neg _ _).symm
    rw [e1, e2, nI_clamp (show j + r < 2 ^ 31 by omega), nI_clamp (show j + (r + 1) < 2 ^ 31 by omega), i2 (j + r) (by omega)]
    refine oG (by omega) (by decide) (oG (by omega) (by decide) (ih _ ⟨by omega, by rw [ud_q (by omega)]; exact i1, fun i hi => by rw [ud_k (by omega)]; exact i2 i (by omega), fun i a1 a2 => ?_, fun a a1 a2 => by rw [ud_q a2]; exact i4.1 a a1 a2, fun k hk => by rw [ud_q (by decide)]; exact i4.2 k hk⟩))
    by_cases hir : i = j + (r + 1)
    · rw [hir, ud_at]; congr 2
    · rw [ud_k hir]; exact i3 i (by omega) a2
  · intro D3 ⟨i0, i1, i2, i3, i4⟩
    refine wp_eq (e226_35 _ _ _ _) (wp_t (nI_le (by omega) (by omega)) ?_)
    rw [nI_clamp (show j < 2 ^ 31 by omega), ud_q (show 70 ≠ 83 by omega), i1, nI_1]
    refine oG (by omega) (by decide) (wp_rV ⟨⟨by rw [ud_at, at_1 hk]; congr 1; omega, fun i hi => ?_⟩, fun a a1 a2 => by rw [ud_q a1, ud_q a2]; exact i4.1 a a1 a2, fun k hk => by rw [ud_k hk, ud_q (by decide)]; exact i4.2 k hk⟩)
    rw [at_1 hk] at hi
    rw [ud_q (by omega)]
    show _ = nI (insN _ j p i)
    rcases ins_mem (a := (outO L (some p)).2) (k := j) (p := p) (i := i) with ⟨a1, a2⟩ | ⟨a1, a2⟩ | ⟨a1, a2⟩
    · rw [a2, a1, ud_at]
    · rw [a2, ud_k (by omega)]; exact i2 i (by omega)
    · rw [a2, ud_k (by omega)]; exact i3 i (by omega) (by omega)
end LN
