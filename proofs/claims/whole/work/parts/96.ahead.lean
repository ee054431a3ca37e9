/-! ===== ahead ===== -/
def mvT (ρ : Ru) (c : Cc) (p : Nat) : Nat → Int32
  | 0 => 0
  | n + 1 => mvT ρ c p n + sunK ρ c (n + 1) (24 + p)
def piN (ρ : Ru) (c : Cc) (p : Nat) : Nat → Int32
  | 0 => 0
  | n + 1 => if sunK ρ c (n + 1) p = -1 then piN ρ c p n else piN ρ c p n + 1
def unN (ρ : Ru) (c : Cc) : Nat → Int32
  | 0 => 0
  | n + 1 => if smN (sunK ρ c (n + 1)) 24 ρ.1 = 0 then unN ρ c n + 1 else unN ρ c n
def dpN (ρ : Ru) (c : Cc) : Nat → Int32
  | 0 => 0
  | n + 1 => if nI (pwN ρ (sunK ρ c (n + 1)) 12 0) ≤ dpN ρ c n then dpN ρ c n else nI (pwN ρ (sunK ρ c (n + 1)) 12 0)
def beN (f : Nat → Int32) : Nat → Int32 × Int32
  | 0 => (0, -1)
  | k + 1 => if f k ≤ (beN f k).1 then beN f k else (f k, nI k)
theorem be_inv (f : Nat → Int32) : ∀ k, ((beN f k).2 = -1 ∧ (beN f k).1 = 0) ∨ ∃ j, j < k ∧ (beN f k).2 = nI j ∧ (beN f k).1 = f j
  | 0 => Or.inl ⟨rfl, rfl⟩
  | k + 1 => by
    rw [beN]
    split
    · rcases be_inv f k with h | ⟨j, h1, h2, h3⟩
      · exact Or.inl h
      · exact Or.inr ⟨j, by omega, h2, h3⟩
    · exact Or.inr ⟨k, by omega, rfl, rfl⟩
def FrA (D D' : DD) : Prop := (∀ q, q ≠ 70 → q ≠ 78 → q < 80 ∨ 86 < q → D' q = D q) ∧ (∀ i, i < 85 ∨ 170 ≤ i → D' 78 i = D 78 i) ∧ ∀ k, k ≠ 40 → k ≠ 41 → k ≠ 42 → k ≠ 46 → D' 70 k = D 70 k
theorem FrM.a {D D' : DD} (h : FrM 85 D D') : FrA D D' := ⟨fun q a b c => h.1 q a b (by omega), fun i hi => h.2.1 i (by omega), h.2.2⟩
theorem FrA.tr {A B C : DD} (h1 : FrA A B) (h2 : FrA B C) : FrA A C := ⟨fun q a b c => (h2.1 q a b c).trans (h1.1 q a b c), fun i a => (h2.2.1 i a).trans (h1.2.1 i a), fun k a b c e => (h2.2.2 k a b c e).trans (h1.2.2 k a b c e)⟩
section AHEAD
variable {X : XS} {d u : Nat} {D D1 : DD} {J : JJ} {σ : Sg} {ρ : Ru} {c : Cc} {K : Nat}
theorem FrA.mi (h : FrA D D1) (hM : MI σ D) (hn : σ.2.1.1 ≤ 12) : MI σ D1 :=
  hM.mv (fun k k1 k2 k3 => h.2.2 k (by omega) (by omega) (by omega) (by omega)) (fun i hi => h.2.1 i (by omega)) (fun q hq => h.1 q (by omega) (by omega) (by omega)) hn
theorem FrA.fin {r : Int32} (hM0 : MI σ (ud D 70 0 0)) (hn : σ.2.1.1 ≤ 12) (h1 : FrA (ud D 70 0 0) D1) : Wp (some (.inl (some (.int r)), hS u D1 J)) (MR σ D u J r 0) :=
  wp_mr (h1.mi hM0 hn) (by rw [h1.2.2 0 (by decide) (by decide) (by decide) (by decide)]; exact ud_at D 70 0 0) (fun q hq => by rw [h1.1 q (by omega) (by omega) (by omega), ud_q (by omega)])
theorem c_mv {p n : Nat} (hF : FutK ρ c K D) (hn : n ≤ K) (hp : p < 12) : EvM X d 13 [.ref 37, .int (nI p), .int (nI n)] (hS u D J) = some (.inl (some (.int (mvT ρ c p n))), hS u D J) := by
  have hK := hF.1
  refine wp_eqI ?_
  refine wp_eq (e13_0 _ _) ?_
  refine wp_loop (R := fun k (v : Int32) => Ev X d 13 (4, [.ref 37, .int (nI p), .int (nI n), .int v, .int (nI (k + 1))], [], hS u D J)) (fun k v => v = mvT ρ c p k) n ?_ ?_ 0 0 (Nat.zero_le _) rfl
  · intro k v hk hv ih
    refine wp_eq (e13_4 _ _ _ _) (wp_f (Int32.not_lt.mpr (nI_le (by omega) (by omega))) ?_)
    rw [lw, nI_clamp (by omega), (hF.2.2.1 (k + 1) (by omega) p hp).2, nI_1]
    exact oG (by omega) (by decide) (ih _ (by rw [hv]; rfl))
  · intro v hv
    exact wp_eq (e13_4 _ _ _ _) (wp_t (nI_lt (by omega) (by omega)) (wp_rI ⟨hv, rfl⟩))
theorem c_restless {n : Nat} (hn' : ρ.1 ≤ 12) (h3 : D 3 0 = nI ρ.1) (hF : FutK ρ c K D) (hn : n ≤ K) : EvM X (d + 1) 152 [.ref 0, .int (nI n)] (hS u D J) = some (.inl (some (.int (beN (fun p => mvT ρ c p n) ρ.1).2)), hS u D J) := by
  refine wp_eqI ?_
  refine wp_eq (e152_0 _) ?_
  refine wp_loop (R := fun p (_ : Unit) => Ev X (d + 1) 152 (6, [.ref 0, .int (nI n), .int (beN (fun p => mvT ρ c p n) p).1, .int (beN (fun p => mvT ρ c p n) p).2, .int (nI p), .null], [], hS u D J)) (fun _ _ => True) ρ.1 ?_ ?_ 0 () (Nat.zero_le _) trivial
  · intro p _ hp _ ih
    have ih := ih () trivial
    rw [beN] at ih
    refine wp_eq (e152_6 _ _ _ _) ?_
    rw [h3]
    refine wp_f (nI_ge hp (by omega)) ?_
    refine wp_iE (c_mv hF hn (show p < 12 by omega)) ?_
    refine wp_eq (e152_16 _ _ _ _ _) ?_
    rw [nI_1]
    refine wp_if (fun h => ?_) (fun h => ?_)
    · rw [if_pos h] at ih
      exact wp_weak (ls := [.ref 0, .int (nI n), .int (beN (fun p => mvT ρ c p n) p).1, .int (beN (fun p => mvT ρ c p n) p).2, .int (nI (p + 1)), .null]) (by simp [lle, lng]) ih
    · rw [if_neg h] at ih
      exact wp_weak (ls := [.ref 0, .int (nI n), .int (mvT ρ c p n), .int (nI p), .int (nI (p + 1)), .null]) (by simp [lle, lng]) ih
  · intro _ _
    refine wp_eq (e152_6 _ _ _ _) ?_
    rw [h3]
    exact wp_t (nI_le (Nat.le_refl _) (by omega)) (wp_rI ⟨rfl, rfl⟩)
theorem c_pious {n : Nat} (hn' : ρ.1 ≤ 12) (h3 : D 3 0 = nI ρ.1) (hF : FutK ρ c K D) (hn : n ≤ K) : EvM X d 153 [.ref 0, .int (nI n)] (hS u D J) = some (.inl (some (.int (beN (fun p => piN ρ c p n) ρ.1).2)), hS u D J) := by
  have hK := hF.1
  refine wp_eqI ?_
  refine wp_eq (e153_0 _) ?_
  refine wp_loop (R := fun p (_ : Unit) => Ev X d 153 (6, [.ref 0, .int (nI n), .int (beN (fun p => piN ρ c p n) p).1, .int (beN (fun p => piN ρ c p n) p).2, .int (nI p), .null, .null], [], hS u D J)) (fun _ _ => True) ρ.1 ?_ ?_ 0 () (Nat.zero_le _) trivial
  · intro p _ hp _ ih
    have ih := ih () trivial
    rw [beN] at ih
    refine wp_eq (e153_6 _ _ _ _) ?_
    rw [h3]
    refine wp_f (nI_ge hp (by omega)) ?_
    refine wp_loop (R := fun k (_ : Unit) => Ev X d 153 (15, [.ref 0, .int (nI n), .int (beN (fun p => piN ρ c p n) p).1, .int (beN (fun p => piN ρ c p n) p).2, .int (nI p), .int (piN ρ c p k), .int (nI (k + 1))], [], hS u D J)) (fun _ _ => True) n ?_ ?_ 0 () (Nat.zero_le _) trivial
    · intro k _ hk _ ih2
      have ih2 := ih2 () trivial
      rw [piN] at ih2
      refine wp_eq (e153_15 _ _ _ _ _ _) (wp_f (Int32.not_lt.mpr (nI_le (by omega) (by omega))) ?_)
      rw [lw, nI_clamp (by omega), (hF.2.2.1 (k + 1) (by omega) p (by omega)).1, nI_1]
      refine oG (by omega) (by decide) (wp_if (fun h => ?_) (fun h => ?_))
      · rw [if_pos h] at ih2; exact ih2
      · rw [if_neg h] at ih2; exact ih2
    · intro _ _
      refine wp_eq (e153_15 _ _ _ _ _ _) (wp_t (nI_lt (by omega) (by omega)) ?_)
      rw [nI_1]
      refine wp_if (fun h => ?_) (fun h => ?_)
      · rw [if_pos h] at ih
        exact wp_weak (ls := [.ref 0, .int (nI n), .int (beN (fun p => piN ρ c p n) p).1, .int (beN (fun p => piN ρ c p n) p).2, .int (nI (p + 1)), .null, .null]) (by simp [lle, lng]) ih
      · rw [if_neg h] at ih
        exact wp_weak (ls := [.ref 0, .int (nI n), .int (piN ρ c p n), .int (nI p), .int (nI (p + 1)), .null, .null]) (by simp [lle, lng]) ih
  · intro _ _
    refine wp_eq (e153_6 _ _ _ _) ?_
    rw [h3]
    exact wp_t (nI_le (Nat.le_refl _) (by omega)) (wp_rI ⟨rfl, rfl⟩)
theorem c_unmoved {n : Nat} (hn' : ρ.1 ≤ 12) (hg : ∀ k, Good ρ (sunK ρ c k)) (hF : FutK ρ c K D) (hn : n ≤ K) : EvM X (d + 1) 154 [.ref 0, .int (nI n)] (hS u D J) = some (.inl (some (.int (unN ρ c n))), hS u D J) := by
  have hK := hF.1
  refine wp_eqI ?_
  refine wp_eq (e154_0 _) ?_
  refine wp_loop (R := fun k (_ : Unit) => Ev X (d + 1) 154 (4, [.ref 0, .int (nI n), .int (unN ρ c k), .int (nI (k + 1))], [], hS u D J)) (fun _ _ => True) n ?_ ?_ 0 () (Nat.zero_le _) trivial
  · intro k _ hk _ ih
    have ih := ih () trivial
    rw [unN] at ih
    refine wp_eq (e154_4 _ _ _) (wp_f (Int32.not_lt.mpr (nI_le (by omega) (by omega))) ?_)
    refine wp_iE (c_movesAt hn' (hg (k + 1)) hF (show k + 1 ≤ K by omega)) ?_
    refine wp_eq (e154_11 _ _ _ _) ?_
    rw [nI_1]
    refine wp_if (fun h => ?_) (fun h => ?_)
    · rw [if_neg h] at ih; exact ih
    · rw [if_pos (Classical.not_not.mp h)] at ih; exact ih
  · intro _ _
    exact wp_eq (e154_4 _ _ _) (wp_t (nI_lt (by omega) (by omega)) (wp_rI ⟨rfl, rfl⟩))
theorem c_deepest {n : Nat} (hn' : ρ.1 ≤ 12) (hg : ∀ k, Good ρ (sunK ρ c k)) (hF : FutK ρ c K D) (hn : n ≤ K) : EvM X (d + 3) 155 [.ref 0, .int (nI n)] (hS u D J) = some (.inl (some (.int (dpN ρ c n))), hS u D J) := by
  have hK := hF.1
  refine wp_eqI ?_
  refine wp_eq (e155_0 _) ?_
  refine wp_loop (R := fun k (_ : Unit) => Ev X (d + 3) 155 (4, [.ref 0, .int (nI n), .int (dpN ρ c k), .int (nI (k + 1))], [], hS u D J)) (fun _ _ => True) n ?_ ?_ 0 () (Nat.zero_le _) trivial
  · intro k _ hk _ ih
    have ih := ih () trivial
    rw [dpN] at ih
    refine wp_eq (e155_4 _ _ _) (wp_f (Int32.not_lt.mpr (nI_le (by omega) (by omega))) ?_)
    refine wp_iE (c_pewsAt (d := d) hn' (hg (k + 1)) hF (show k + 1 ≤ K by omega)) ?_
    refine wp_eq (e155_12 _ _ _ _ _) ?_
    rw [nI_1]
    by_cases h : nI (pwN ρ (sunK ρ c (k + 1)) 12 0) ≤ dpN ρ c k
    · rw [if_pos h] at ih
      rw [if_neg (Int32.not_lt.mpr h)]; exact ih
    · rw [if_neg h] at ih
      rw [if_pos (Int32.not_le.mp h)]; exact ih
  · intro _ _
    exact wp_eq (e155_4 _ _ _) (wp_t (nI_lt (by omega) (by omega)) (wp_rI ⟨rfl, rfl⟩))
/-- the reference: who has most -/
theorem m_most {W : Nat} {f : Nat → Int32} (hW : isW W) (hn : ρ.1 ≤ 12) (h1 : D 70 1 = nI ρ.1) (hf : ∀ p, p < ρ.1 → D W p = f p) : EvM X d 261 [.ref 70, .ref W] (hS u D J) = some (.inl (some (.int (beN f ρ.1).2)), hS u D J) := by
  refine wp_eqI ?_
  refine wp_eq (e261_0 hW) ?_
  refine wp_loop (R := fun p (_ : Unit) => Ev X d 261 (4, [.ref 70, .ref W, .int (beN f p).2, .int (nI p)], [], hS u D J)) (fun _ _ => True) ρ.1 ?_ ?_ 0 () (Nat.zero_le _) trivial
  · intro p _ hp _ ih
    have ih := ih () trivial
    rw [beN] at ih
    refine wp_eq (e261_4 hW _ _) ?_
    rw [h1, nI_clamp (show p < 2 ^ 31 by omega), hf p hp, nI_1]
    refine wp_f (nI_ge hp (by omega)) (oG (by omega) (by decide) ?_)
    rcases be_inv f p with ⟨b1, b2⟩ | ⟨j, j1, b1, b2⟩
    · rw [b2] at ih
      refine wp_f (fun z => z b1) (wp_if (fun h => ?_) (fun h => ?_))
      · rw [if_pos h] at ih; exact ih
      · rw [if_neg h] at ih; exact ih
    · rw [b2] at ih
      rw [b1]
      rw [nI_clamp (show j < 2 ^ 31 by omega), hf j (by omega)]
      refine wp_t (nI_ne1 (by omega)) (oG (by omega) (by decide) (wp_if (fun h => ?_) (fun h => ?_)))
      · rw [if_pos h, b1] at ih; exact ih
      · rw [if_neg h] at ih; exact ih
  · intro _ _
    refine wp_eq (e261_4 hW _ _) ?_
    rw [h1]
    exact wp_t (nI_le (Nat.le_refl _) (by omega)) (wp_rI ⟨rfl, rfl⟩)
theorem came (hR : Ru0 ρ) (c : Cc) {p : Nat} (hp : p < ρ.1) : whoA (findN (fun i => decide ((lineN ρ c false ρ.1).2 i = p)) (lineN ρ c false ρ.1).1 0) = -1 ↔ sunN ρ false c p = -1 := by
  have hn := hR.1
  have hL := line_D hn c false
  obtain ⟨-, k2, -⟩ := sits_ok hR (c := c) hL _ (Nat.le_refl _)
  have e : sunN ρ false c p = sitsN ρ (resN c) (lineN ρ c false ρ.1).2 (lineN ρ c false ρ.1).1 p := by
    show endN ρ _ p = _
    rw [endN_spot (by omega)]
  rw [e, k2 p hp]
  constructor
  · intro h j hj z
    rw [find_some (P := fun i => decide ((lineN ρ c false ρ.1).2 i = p)) (q := j) (decide_eq_true z) (Nat.zero_le _) (by omega) (fun i _ hi => decide_eq_false (fun z2 => by have := hL.2.2 i j (by omega) hj (z2.trans z.symm); omega))] at h
    exact nI_ne1 (by have := hL.1; omega) h
  · intro h
    rw [find_none (fun j _ hj => decide_eq_false (h j (by omega)))]; rfl
end AHEAD
