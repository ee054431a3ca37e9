/-! ===== longest ===== -/
def lvN (ag : Nat → Int32) (i : Nat) (g : Nat → Nat) : Nat → Nat
  | 0 => 1
  | k + 1 => if ag (i + 1 + k) < ag i then lvN ag i g k else if lvN ag i g k < g (i + 1 + k) + 1 then g (i + 1 + k) + 1 else lvN ag i g k
def lnN (ag : Nat → Int32) (m : Nat) : Nat → Nat → Nat
  | 0 => fun _ => 0
  | t + 1 => fun x => if x = m - 1 - t then lvN ag (m - 1 - t) (lnN ag m t) t else lnN ag m t x
def mxN (ag : Nat → Int32) (m : Nat) : Nat → Nat
  | 0 => 0
  | t + 1 => if mxN ag m t < lvN ag (m - 1 - t) (lnN ag m t) t then lvN ag (m - 1 - t) (lnN ag m t) t else mxN ag m t
def pkS (A : Nat → Bool) (a : Nat → Nat) (s : Nat) : Nat → Option Nat
  | 0 => none
  | k + 1 => if A (s + k) = true then (match pkS A a s k with | none => some (s + k) | some y => if a y ≤ a (s + k) then some y else some (s + k)) else pkS A a s k
def fitB (ag : Nat → Int32) (b : Option Nat) (x : Nat) : Bool := match b with | none => true | some y => !decide (ag x < ag y)
def stB (b : Option Nat) : Nat := match b with | none => 0 | some y => y + 1
def chA (ag : Nat → Int32) (len : Nat → Nat) (b : Option Nat) (w : Nat) : Nat → Bool := fun x => decide (len x = w) && fitB ag b x
def chN (ag : Nat → Int32) (a : Nat → Nat) (m : Nat) : Nat → Option Nat
  | 0 => none
  | t + 1 => pkS (chA ag (lnN ag m m) (chN ag a m t) (mxN ag m m - t)) a (stB (chN ag a m t)) (m - stB (chN ag a m t))
section LONG0
variable {ag : Nat → Int32} {a : Nat → Nat} {m : Nat}
theorem lv_le {i t : Nat} {g : Nat → Nat} (hg : ∀ x, g x ≤ t) : ∀ k, lvN ag i g k ≤ t + 1
  | 0 => by show 1 ≤ t + 1; omega
  | k + 1 => by
    have h1 := lv_le (i := i) hg k
    have h2 := hg (i + 1 + k)
    rw [lvN]
    split
    · exact h1
    · split <;> omega
theorem ln_le : ∀ t x, lnN ag m t x ≤ t
  | 0, _ => Nat.le_refl 0
  | t + 1, x => by
    show (if x = m - 1 - t then _ else _) ≤ t + 1
    split
    · exact lv_le (ln_le t) t
    · have := ln_le t x; omega
theorem mx_le : ∀ t, mxN ag m t ≤ t
  | 0 => Nat.le_refl 0
  | t + 1 => by
    have h1 := mx_le t
    have h2 := lv_le (ag := ag) (i := m - 1 - t) (g := lnN ag m t) (ln_le t) t
    rw [mxN]
    split <;> omega
theorem lv_ex {i : Nat} {g : Nat → Nat} : ∀ k, lvN ag i g k = 1 ∨ ∃ y, i < y ∧ y < i + 1 + k ∧ ¬ ag y < ag i ∧ lvN ag i g k = g y + 1
  | 0 => Or.inl rfl
  | k + 1 => by
    have ih := lv_ex (i := i) (g := g) k
    rw [lvN]
    have old : lvN ag i g k = 1 ∨ ∃ y, i < y ∧ y < i + 1 + (k + 1) ∧ ¬ ag y < ag i ∧ lvN ag i g k = g y + 1 := by
      rcases ih with h | ⟨y, h1, h2, h3, h4⟩
      · exact Or.inl h
      · exact Or.inr ⟨y, h1, by omega, h3, h4⟩
    by_cases h : ag (i + 1 + k) < ag i
    · rw [if_pos h]; exact old
    · rw [if_neg h]
      by_cases h2 : lvN ag i g k < g (i + 1 + k) + 1
      · rw [if_pos h2]; exact Or.inr ⟨i + 1 + k, by omega, by omega, h, rfl⟩
      · rw [if_neg h2]; exact old
theorem ln_ex : ∀ t, t ≤ m → ∀ x, m - t ≤ x → x < m → lnN ag m t x = 1 ∨ ∃ y, x < y ∧ y < m ∧ ¬ ag y < ag x ∧ lnN ag m t x = lnN ag m t y + 1
  | 0, _, x, h1, h2 => by omega
  | t + 1, ht, x, h1, h2 => by
    have e : ∀ y, m - 1 - t < y → lnN ag m (t + 1) y = lnN ag m t y := fun y hy => by
      show (if y = m - 1 - t then _ else _) = _
      rw [if_neg (by omega)]
    by_cases hx : x = m - 1 - t
    · have e1 : lnN ag m (t + 1) x = lvN ag x (lnN ag m t) t := by
        show (if x = m - 1 - t then _ else _) = _
        rw [if_pos hx, hx]
      rw [e1]
      rcases lv_ex (ag := ag) (i := x) (g := lnN ag m t) t with h | ⟨y, y1, y2, y3, y4⟩
      · exact Or.inl h
      · exact Or.inr ⟨y, y1, by omega, y3, by rw [e y (by omega)]; exact y4⟩
    · rw [e x (by omega)]
      rcases ln_ex t (by omega) x (by omega) h2 with h | ⟨y, y1, y2, y3, y4⟩
      · exact Or.inl h
      · exact Or.inr ⟨y, y1, y2, y3, by rw [e y (by omega)]; exact y4⟩
theorem mx_ex : ∀ t, t ≤ m → mxN ag m t = 0 ∨ ∃ x, m - t ≤ x ∧ x < m ∧ lnN ag m t x = mxN ag m t
  | 0, _ => Or.inl rfl
  | t + 1, ht => by
    rw [mxN]
    by_cases h : mxN ag m t < lvN ag (m - 1 - t) (lnN ag m t) t
    · rw [if_pos h]
      exact Or.inr ⟨m - 1 - t, by omega, by omega, if_pos rfl⟩
    · rw [if_neg h]
      rcases mx_ex t (by omega) with h0 | ⟨x, x1, x2, x3⟩
      · exact Or.inl h0
      · exact Or.inr ⟨x, by omega, x2, (if_neg (by omega)).trans x3⟩
theorem pk_some {A : Nat → Bool} {s : Nat} : ∀ k y, pkS A a s k = some y → s ≤ y ∧ y < s + k ∧ A y = true
  | 0, y, h => by cases h
  | k + 1, y, h => by
    rw [pkS] at h
    by_cases hA : A (s + k) = true
    · rw [if_pos hA] at h
      cases hp : pkS A a s k with
      | none =>
        rw [hp] at h
        have h : some (s + k) = some y := h
        cases h
        exact ⟨by omega, by omega, hA⟩
      | some z =>
        rw [hp] at h
        obtain ⟨z1, z2, z3⟩ := pk_some k z hp
        have h : (if a z ≤ a (s + k) then some z else some (s + k)) = some y := h
        by_cases hl : a z ≤ a (s + k)
        · rw [if_pos hl] at h
          cases h
          exact ⟨z1, by omega, z3⟩
        · rw [if_neg hl] at h
          cases h
          exact ⟨by omega, by omega, hA⟩
    · rw [if_neg hA] at h
      obtain ⟨z1, z2, z3⟩ := pk_some k y h
      exact ⟨z1, by omega, z3⟩
theorem pk_ex {A : Nat → Bool} {s x : Nat} (hx : s ≤ x) (hA : A x = true) : ∀ k, x < s + k → ∃ y, pkS A a s k = some y
  | 0, h => by omega
  | k + 1, h => by
    rw [pkS]
    by_cases hk : A (s + k) = true
    · rw [if_pos hk]
      cases hp : pkS A a s k with
      | none => exact ⟨_, rfl⟩
      | some z =>
        by_cases hl : a z ≤ a (s + k)
        · exact ⟨z, if_pos hl⟩
        · exact ⟨s + k, if_neg hl⟩
    · rw [if_neg hk]
      exact pk_ex hx hA k (Nat.lt_of_le_of_ne (by omega) (fun z => hk (by rw [show s + k = x by omega]; exact hA)))
theorem ch_ex : ∀ t, t < mxN ag m m → ∃ y, y < m ∧ chN ag a m (t + 1) = some y ∧ lnN ag m m y = mxN ag m m - t
  | 0, h => by
    rcases mx_ex (ag := ag) (m := m) m (Nat.le_refl _) with h0 | ⟨x, x1, x2, x3⟩
    · omega
    · obtain ⟨y, hy⟩ := pk_ex (a := a) (A := chA ag (lnN ag m m) none (mxN ag m m - 0)) (s := 0) (x := x) (Nat.zero_le _) (by
        unfold chA fitB
        simp [x3]) m (by omega)
      obtain ⟨y1, y2, y3⟩ := pk_some _ _ hy
      refine ⟨y, by omega, hy, ?_⟩
      unfold chA at y3
      rw [Bool.and_eq_true] at y3
      exact of_decide_eq_true y3.1
  | t + 1, h => by
    obtain ⟨b, b1, b2, b3⟩ := ch_ex t (by omega)
    rcases ln_ex (ag := ag) (m := m) m (Nat.le_refl _) b (by omega) b1 with h1 | ⟨x, x1, x2, x3, x4⟩
    · omega
    · have e : chN ag a m (t + 1 + 1) = pkS (chA ag (lnN ag m m) (some b) (mxN ag m m - (t + 1))) a (b + 1) (m - (b + 1)) := by
        rw [chN, b2]; rfl
      obtain ⟨y, hy⟩ := pk_ex (a := a) (A := chA ag (lnN ag m m) (some b) (mxN ag m m - (t + 1))) (s := b + 1) (x := x) (by omega) (by
        unfold chA fitB
        rw [Bool.and_eq_true]
        exact ⟨decide_eq_true (by omega), by simp only [Bool.not_eq_true', decide_eq_false_iff_not]; exact x3⟩) (m - (b + 1)) (by omega)
      obtain ⟨y1, y2, y3⟩ := pk_some _ _ hy
      refine ⟨y, by omega, e.trans hy, ?_⟩
      unfold chA at y3
      rw [Bool.and_eq_true] at y3
      exact of_decide_eq_true y3.1
theorem ch_lt {t y : Nat} (h : chN ag a m t = some y) : y < m := by
  cases t with
  | zero => cases h
  | succ t =>
    obtain ⟨y1, y2, -⟩ := pk_some _ _ h
    omega
end LONG0
section LONG
variable {X : XS} {d u : Nat} {D D1 : DD} {J : JJ} {σ : Sg} {ρ : Ru} {c : Cc} {L : Nat × (Nat → Nat)} {ag : Nat → Int32}
/-- the class's line and ages -/
def LaC (L : Nat × (Nat → Nat)) (ag : Nat → Int32) (D : DD) : Prop := D 25 4 = nI L.1 ∧ (∀ i, i < L.1 → D 29 i = nI (L.2 i)) ∧ ∀ i, i < L.1 → D 26 (12 + L.2 i) = ag i
theorem c_fits {b : Option Nat} {x : Nat} (hL : L.1 ≤ 12 ∧ ∀ i, i < L.1 → L.2 i < 12) (h : LaC L ag D) (hb : ∀ y, b = some y → y < L.1) (hx : x < L.1) : EvM X d 31 [.ref 66, .ref 25, .int (whoA b), .int (nI x)] (hS u D J) = some (.inl (some (.int (if fitB ag b x = true then 1 else 0))), hS u D J) := by
  refine (e31_0 _ _).trans ?_
  cases b with
  | none => exact brT rfl
  | some y =>
    have hy := hb y rfl
    have l1 := hL.2 x hx
    have l2 := hL.2 y hy
    show br (decide (nI y = -1)) _ _ = _
    rw [brF (nI_ne1 (by omega))]
    show gd _ _ = _
    have ez : (whoA (some y)) = nI y := rfl
    rw [ez, nI_clamp (show x < 2 ^ 31 by omega), nI_clamp (show y < 2 ^ 31 by omega), h.2.1 x hx, h.2.1 y hy, la, la, nI_clamp (show 12 + L.2 x < 2 ^ 31 by omega), nI_clamp (show 12 + L.2 y < 2 ^ 31 by omega), h.2.2 x hx, h.2.2 y hy, gd_t (ob_n (by omega) (by decide)), gd_t (ob_n (by omega) (by decide)), gd_t (ob_n (by omega) (by decide)), gd_t (ob_n (by omega) (by decide))]
    by_cases h2 : ag x < ag y
    · rw [brT h2, if_neg (by simp [fitB, h2])]
    · rw [brF h2, if_pos (by simp [fitB, h2])]
def FrL (D D' : DD) : Prop := ∀ q, q ≠ 66 → q ≠ 67 → q ≠ 68 → D' q = D q
theorem LaC.fr {D' : DD} (h : LaC L ag D) (hf : FrL D D') : LaC L ag D' := by
  unfold LaC
  rw [hf 25 (by decide) (by decide) (by decide), hf 26 (by decide) (by decide) (by decide), hf 29 (by decide) (by decide) (by decide)]; exact h
theorem c_pick {b : Option Nat} {w : Nat} {len : Nat → Nat} (hL : L.1 ≤ 12 ∧ ∀ i, i < L.1 → L.2 i < 12) (h : LaC L ag D) (hb : ∀ y, b = some y → y < L.1) (hw : w < 2 ^ 31) (hl : ∀ x, x < L.1 → D 68 x = nI (len x) ∧ len x < 2 ^ 31) : EvM X (d + 1) 32 [.ref 66, .ref 25, .int (whoA b), .int (nI w)] (hS u D J) = some (.inl (some (.int (whoA (pkS (chA ag len b w) L.2 (stB b) (L.1 - stB b))))), hS u D J) := by
  have hs : stB b ≤ L.1 := by
    cases b with
    | none => exact Nat.zero_le _
    | some y => exact hb y rfl
  have e1 : whoA b + 1 = nI (stB b) := by
    cases b with
    | none => rfl
    | some y => exact nI_1 y
  refine wp_eqI ?_
  refine wp_eq (e32_0 _ _) ?_
  rw [e1]
  refine wp_loop (R := fun k (_ : Unit) => Ev X (d + 1) 32 (6, [.ref 66, .ref 25, .int (whoA b), .int (nI w), .int (whoA (pkS (chA ag len b w) L.2 (stB b) k)), .int (nI (stB b + k))], [], hS u D J)) (fun _ _ => True) (L.1 - stB b) ?_ ?_ 0 () (Nat.zero_le _) trivial
  · intro k _ hk _ ih
    have ih := ih () trivial
    rw [pkS] at ih
    have hx : stB b + k < L.1 := by omega
    refine wp_eq (e32_6 _ _ _ _) ?_
    rw [h.1]
    refine wp_f (nI_ge hx (by omega)) ?_
    rw [nI_clamp (show stB b + k < 2 ^ 31 by omega), (hl _ hx).1, nI_1]
    refine oG (by omega) (by decide) ?_
    have no : ¬ chA ag len b w (stB b + k) = true → Wp (Ev X (d + 1) 32 (6, [.ref 66, .ref 25, .int (whoA b), .int (nI w), .int (whoA (pkS (chA ag len b w) L.2 (stB b) k)), .int (nI (stB b + k + 1))], [], hS u D J)) (RI u J (fun y D' => y = whoA (pkS (chA ag len b w) L.2 (stB b) (L.1 - stB b)) ∧ D' = D)) := fun hA => by
      rw [if_neg hA] at ih; exact ih
    refine wp_if (fun h1 => ?_) (fun h1 => ?_)
    · refine no (fun z => h1 ?_)
      unfold chA at z
      rw [Bool.and_eq_true] at z
      rw [of_decide_eq_true z.1]
    · have h1 := nI_inj (hl _ hx).2 hw (Classical.not_not.mp h1)
      refine wp_iE (c_fits hL h hb hx) ?_
      refine wp_eq (e32_21 _ _ _ _ _) ?_
      rw [nI_1]
      by_cases hf : fitB ag b (stB b + k) = true
      · rw [if_pos hf]
        refine wp_f (by decide) ?_
        have hA : chA ag len b w (stB b + k) = true := by
          unfold chA
          rw [hf, decide_eq_true h1]; rfl
        rw [if_pos hA] at ih
        cases hp : pkS (chA ag len b w) L.2 (stB b) k with
        | none =>
          rw [hp] at ih
          exact wp_t rfl ih
        | some y =>
          rw [hp] at ih
          obtain ⟨y1, y2, -⟩ := pk_some _ _ hp
          have l1 := hL.2 y (by omega)
          have l2 := hL.2 (stB b + k) hx
          have ey : whoA (some y) = nI y := rfl
          rw [ey, nI_clamp (show stB b + k < 2 ^ 31 by omega), nI_clamp (show y < 2 ^ 31 by omega), h.2.1 _ hx, h.2.1 y (by omega)]
          refine wp_f (nI_ne1 (by omega)) (oG (by omega) (by decide) (oG (by omega) (by decide) ?_))
          by_cases hle : L.2 y ≤ L.2 (stB b + k)
          · have ih : Wp (Ev X (d + 1) 32 (6, [.ref 66, .ref 25, .int (whoA b), .int (nI w), .int (whoA (if L.2 y ≤ L.2 (stB b + k) then some y else some (stB b + k))), .int (nI (stB b + (k + 1)))], [], hS u D J)) _ := ih
            rw [if_pos hle] at ih
            exact wp_t (nI_le hle (by omega)) ih
          · have ih : Wp (Ev X (d + 1) 32 (6, [.ref 66, .ref 25, .int (whoA b), .int (nI w), .int (whoA (if L.2 y ≤ L.2 (stB b + k) then some y else some (stB b + k))), .int (nI (stB b + (k + 1)))], [], hS u D J)) _ := ih
            rw [if_neg hle] at ih
            exact wp_f (nI_ge (by omega) (by omega)) ih
      · rw [if_neg hf]
        refine wp_t rfl (no (fun z => hf ?_))
        unfold chA at z
        rw [Bool.and_eq_true] at z
        exact z.2
  · intro _ _
    refine wp_eq (e32_6 _ _ _ _) ?_
    rw [h.1, show stB b + (L.1 - stB b) = L.1 by omega]
    exact wp_t (nI_le (Nat.le_refl _) (by omega)) (wp_rI ⟨rfl, rfl⟩)
theorem c_long (hL : L.1 ≤ 12 ∧ ∀ i, i < L.1 → L.2 i < 12) (h : LaC L ag D) : Wp (EvM X (d + 2) 30 [.ref 66, .ref 25] (hS u D J)) (RV u J (fun D' => D' 66 0 = nI (mxN ag L.1 L.1) ∧ (∀ t, t < mxN ag L.1 L.1 → ∃ y, y < L.1 ∧ chN ag L.2 L.1 (t + 1) = some y ∧ D' 67 t = nI (L.2 y)) ∧ FrL D D')) := by
  have hmx := mx_le (ag := ag) (m := L.1) L.1
  refine wp_eq e30_0 ?_
  rw [ud_q (show 25 ≠ 66 by decide), h.1]
  refine wp_down (R := fun j (D2 : DD) => Ev X (d + 2) 30 (8, [.ref 66, .ref 25, .int (nI j - 1), .null], [], hS u D2 J)) (fun j (D2 : DD) => j ≤ L.1 ∧ (∀ x, j ≤ x → x < L.1 → D2 68 x = nI (lnN ag L.1 (L.1 - j) x)) ∧ D2 66 0 = nI (mxN ag L.1 (L.1 - j)) ∧ FrL D D2) ?_ ?_ L.1 _ ⟨Nat.le_refl _, fun x x1 x2 => by omega, by rw [ud_at, Nat.sub_self]; rfl, fun q q1 q2 q3 => ud_q q1⟩
  · intro j D2 ⟨i0, i1, i2, i3⟩ ih
    have ej : nI (j + 1) - 1 = nI j := nI_sub (b := 1) (by omega)
    refine wp_eq (e30_8 _) ?_
    rw [ej]
    refine wp_f (nI_pos (by omega)) ?_
    rw [nI_clamp (by omega), nI_1]
    refine oG (by omega) (by decide) ?_
    obtain ⟨t, ht⟩ : ∃ t, L.1 - (j + 1) = t := ⟨_, rfl⟩
    rw [ht] at i1 i2
    have htj : L.1 - 1 - t = j := by omega
    have hLj : L.1 - j = t + 1 := by omega
    refine wp_loop (R := fun k (D3 : DD) => Ev X (d + 2) 30 (19, [.ref 66, .ref 25, .int (nI j), .int (nI (j + 1 + k))], [], hS u D3 J)) (fun k (D3 : DD) => D3 68 j = nI (lvN ag j (lnN ag L.1 t) k) ∧ (∀ x, j < x → x < L.1 → D3 68 x = nI (lnN ag L.1 t x)) ∧ D3 66 0 = D2 66 0 ∧ FrL D D3) t ?_ ?_ 0 _ (Nat.zero_le _) ⟨by rw [ud_at]; rfl, fun x x1 x2 => by rw [ud_k (by omega)]; exact i1 x (by omega) x2, by rw [ud_q (by decide)], fun q q1 q2 q3 => by rw [ud_q q3]; exact i3 q q1 q2 q3⟩
    · intro k D3 hk ⟨g1, g2, g3, g4⟩ ih3
      have h3 := h.fr g4
      have hx : j + 1 + k < L.1 := by omega
      refine wp_eq (e30_19 _ _) ?_
      rw [h3.1]
      refine wp_f (nI_ge hx (by omega)) ?_
      refine wp_iE (c_fits (b := some j) hL h3 (fun y hy => by cases hy; omega) hx) ?_
      refine wp_eq (e30_28 _ _ _) ?_
      rw [nI_1]
      have l1 := ln_le (ag := ag) (m := L.1) t (j + 1 + k)
      have l2 := lv_le (ag := ag) (i := j) (g := lnN ag L.1 t) (ln_le t) k
      by_cases hf : ag (j + 1 + k) < ag j
      · rw [if_neg (by simp [fitB, hf])]
        refine wp_t rfl (ih3 D3 ⟨?_, g2, g3, g4⟩)
        rw [lvN, if_pos hf]; exact g1
      · rw [if_pos (by simp [fitB, hf]), nI_clamp (show j < 2 ^ 31 by omega), nI_clamp (show j + 1 + k < 2 ^ 31 by omega), g1, g2 _ (by omega) hx, nI_1]
        refine wp_f (by decide) (oG (by omega) (by decide) (oG (by omega) (by decide) (oG (by omega) (by decide) (ih3 _ ⟨?_, fun x x1 x2 => by rw [ud_k (by omega)]; exact g2 x x1 x2, by rw [ud_q (by decide)]; exact g3, fun q q1 q2 q3 => by rw [ud_q q3]; exact g4 q q1 q2 q3⟩))))
        rw [ud_at, lvN, if_neg hf]
        by_cases hlt : lvN ag j (lnN ag L.1 t) k < lnN ag L.1 t (j + 1 + k) + 1
        · rw [if_pos hlt, if_pos (nI_lt hlt (by omega))]
        · rw [if_neg hlt, if_neg (fun z => hlt ((nI_ltI (by omega) (by omega)).mp z))]
    · intro D3 ⟨g1, g2, g3, g4⟩
      have h3 := h.fr g4
      refine wp_eq (e30_19 _ _) ?_
      rw [h3.1, show j + 1 + t = L.1 by omega, nI_clamp (show j < 2 ^ 31 by omega), g1, g3, i2]
      refine wp_t (nI_le (Nat.le_refl _) (by omega)) (oG (by omega) (by decide) ?_)
      have ej2 : nI j + (-1) = nI j - 1 := (Int32.sub_eq_add_neg _ _).symm
      rw [ej2]
      refine wp_weak (ls := [.ref 66, .ref 25, .int (nI j - 1), .null]) (by simp [lle, lng]) ?_
      have l0 := mx_le (ag := ag) (m := L.1) t
      have l2 := lv_le (ag := ag) (i := j) (g := lnN ag L.1 t) (ln_le t) t
      refine ih _ ⟨by omega, fun x x1 x2 => ?_, ?_, fun q q1 q2 q3 => by rw [ud_q q1]; exact g4 q q1 q2 q3⟩
      · rw [ud_q (by decide), hLj]
        show _ = nI (if x = L.1 - 1 - t then _ else _)
        rw [htj]
        by_cases hxj : x = j
        · rw [if_pos hxj, hxj]; exact g1
        · rw [if_neg hxj]; exact g2 x (by omega) x2
      · rw [ud_at, hLj, mxN, htj]
        by_cases hlt : mxN ag L.1 t < lvN ag j (lnN ag L.1 t) t
        · rw [if_pos hlt, if_pos (nI_lt hlt (by omega))]
        · rw [if_neg hlt, if_neg (fun z => hlt ((nI_ltI (by omega) (by omega)).mp z))]
  · intro D2 ⟨i0, i1, i2, i3⟩
    rw [Nat.sub_zero] at i1 i2
    refine wp_eq (e30_8 _) (wp_t (by decide) ?_)
    refine wp_loop (R := fun t (D3 : DD) => Ev X (d + 2) 30 (61, [.ref 66, .ref 25, .int (whoA (chN ag L.2 L.1 t)), .int (nI t)], [], hS u D3 J)) (fun t (D3 : DD) => D3 66 = D2 66 ∧ D3 68 = D2 68 ∧ (∀ s, s < t → ∃ y, y < L.1 ∧ chN ag L.2 L.1 (s + 1) = some y ∧ D3 67 s = nI (L.2 y)) ∧ FrL D D3) (mxN ag L.1 L.1) ?_ ?_ 0 D2 (Nat.zero_le _) ⟨rfl, rfl, fun s hs => absurd hs (Nat.not_lt_zero s), i3⟩
    · intro t D3 ht ⟨g1, g2, g3, g4⟩ ih
      have h3 := h.fr g4
      obtain ⟨y, y1, y2, y3⟩ := ch_ex (ag := ag) (a := L.2) (m := L.1) t ht
      refine wp_eq (e30_61 _ _) ?_
      have es : nI (mxN ag L.1 L.1) - nI t = nI (mxN ag L.1 L.1 - t) := nI_sub (by omega)
      rw [g1, i2, es]
      refine wp_f (nI_ge ht (by omega)) ?_
      refine wp_iE (c_pick (d := d) (b := chN ag L.2 L.1 t) (w := mxN ag L.1 L.1 - t) (len := lnN ag L.1 L.1) hL h3 (fun z hz => ch_lt hz) (by omega) (fun x hx => ⟨by rw [g2]; exact i1 x (Nat.zero_le _) hx, by have := ln_le (ag := ag) (m := L.1) L.1 x; omega⟩)) ?_
      have ep : pkS (chA ag (lnN ag L.1 L.1) (chN ag L.2 L.1 t) (mxN ag L.1 L.1 - t)) L.2 (stB (chN ag L.2 L.1 t)) (L.1 - stB (chN ag L.2 L.1 t)) = some y := y2
      rw [ep]
      refine wp_eq (e30_73 _ _ _) ?_
      have ey : whoA (some y) = nI y := rfl
      rw [ey]
      refine wp_f (nI_ne1 (by omega)) ?_
      rw [nI_clamp (show y < 2 ^ 31 by omega), nI_clamp (show t < 2 ^ 31 by omega), h3.2.1 y y1, nI_1]
      refine oG (by omega) (by decide) (oG (by omega) (by decide) ?_)
      have ih := ih (ud D3 67 t (nI (L.2 y))) ⟨by rw [ud_q (by decide)]; exact g1, by rw [ud_q (by decide)]; exact g2, fun s hs => ?_, fun q q1 q2 q3 => by rw [ud_q q2]; exact g4 q q1 q2 q3⟩
      · rw [y2] at ih; exact ih
      · by_cases hst : s = t
        · subst hst; exact ⟨y, y1, y2, ud_at _ _ _ _⟩
        · obtain ⟨z, z1, z2, z3⟩ := g3 s (by omega)
          exact ⟨z, z1, z2, by rw [ud_k hst]; exact z3⟩
    · intro D3 ⟨g1, g2, g3, g4⟩
      refine wp_eq (e30_61 _ _) ?_
      rw [g1, i2]
      exact wp_t (nI_le (Nat.le_refl _) (by omega)) (wp_rV ⟨by rw [g1]; exact i2, g3, g4⟩)
/-! the reference -/
def LaM (L : Nat × (Nat → Nat)) (ag : Nat → Int32) (D : DD) : Prop := D 70 46 = nI L.1 ∧ (∀ i, i < L.1 → D 83 i = nI (L.2 i)) ∧ ∀ i, i < L.1 → D 78 (1 + L.2 i) = ag i
theorem LaM.fr {D' : DD} (h : LaM L ag D) (hf : ∀ q, q ≠ 87 → D' q = D q) : LaM L ag D' := by
  unfold LaM
  rw [hf 70 (by decide), hf 78 (by decide), hf 83 (by decide)]; exact h
theorem m_long (hL : L.1 ≤ 12 ∧ ∀ i, i < L.1 → L.2 i < 12) (h : LaM L ag D) : Wp (Ev X d 268 (3, [.ref 70, .null, .null, .null, .null], [], hS u D J)) (RI u J (fun y D' => y = nI (mxN ag L.1 L.1) ∧ (∀ x, x < L.1 → D' 87 x = nI (lnN ag L.1 L.1 x)) ∧ ∀ q, q ≠ 87 → D' q = D q)) := by
  refine wp_eq e268_3 ?_
  rw [h.1]
  refine wp_down (R := fun j (D2 : DD) => Ev X d 268 (10, [.ref 70, .int (nI (mxN ag L.1 (L.1 - j))), .int (nI j - 1), .null, .null], [], hS u D2 J)) (fun j (D2 : DD) => j ≤ L.1 ∧ (∀ x, j ≤ x → x < L.1 → D2 87 x = nI (lnN ag L.1 (L.1 - j) x)) ∧ ∀ q, q ≠ 87 → D2 q = D q) ?_ ?_ L.1 D ⟨Nat.le_refl _, fun x x1 x2 => by omega, fun _ _ => rfl⟩ |> fun z => by
    rw [Nat.sub_self] at z; exact z
  · intro j D2 ⟨i0, i1, i2⟩ ih
    have ej : nI (j + 1) - 1 = nI j := nI_sub (b := 1) (by omega)
    obtain ⟨t, ht⟩ : ∃ t, L.1 - (j + 1) = t := ⟨_, rfl⟩
    rw [ht] at i1
    have htj : L.1 - 1 - t = j := by omega
    have hLj : L.1 - j = t + 1 := by omega
    have h2 := h.fr i2
    rw [hLj] at ih
    show Wp (Ev X d 268 (10, [.ref 70, .int (nI (mxN ag L.1 (L.1 - (j + 1)))), .int (nI (j + 1) - 1), .null, .null], [], hS u D2 J)) _
    rw [ht, ej]
    refine wp_eq (e268_10 _ _) (wp_f (nI_pos (by omega)) ?_)
    rw [nI_1]
    refine wp_loop (R := fun k (_ : Unit) => Ev X d 268 (18, [.ref 70, .int (nI (mxN ag L.1 t)), .int (nI j), .int (nI (lvN ag j (lnN ag L.1 t) k)), .int (nI (j + 1 + k))], [], hS u D2 J)) (fun _ _ => True) t ?_ ?_ 0 () (Nat.zero_le _) trivial
    · intro k _ hk _ ih3
      have ih3 := ih3 () trivial
      rw [lvN] at ih3
      have hx : j + 1 + k < L.1 := by omega
      have a1 := hL.2 _ hx
      have a2 := hL.2 j (by omega)
      have l1 := ln_le (ag := ag) (m := L.1) t (j + 1 + k)
      have l2 := lv_le (ag := ag) (i := j) (g := lnN ag L.1 t) (ln_le t) k
      refine wp_eq (e268_18 _ _ _ _) ?_
      rw [h2.1]
      refine wp_f (nI_ge hx (by omega)) ?_
      rw [nI_clamp (show j + 1 + k < 2 ^ 31 by omega), nI_clamp (show j < 2 ^ 31 by omega), h2.2.1 _ hx, h2.2.1 j (by omega), la, la, nI_clamp (show 1 + L.2 (j + 1 + k) < 2 ^ 31 by omega), nI_clamp (show 1 + L.2 j < 2 ^ 31 by omega), h2.2.2 _ hx, h2.2.2 j (by omega), i1 _ (by omega) hx]
      refine oG (by omega) (by decide) (oG (by omega) (by decide) (oG (by omega) (by decide) (oG (by omega) (by decide) (wp_if (fun hf => ?_) (fun hf => oG (by omega) (by decide) ?_)))))
      · rw [if_pos hf] at ih3
        refine wp_eq (e268_54 _ _ _ _) ?_
        rw [nI_1]; exact ih3
      · rw [if_neg hf] at ih3
        by_cases hlt : lvN ag j (lnN ag L.1 t) k < lnN ag L.1 t (j + 1 + k) + 1
        · rw [if_pos hlt] at ih3
          refine wp_f (fun z => by have := (nI_ltI (by omega) (by omega)).mp z; omega) (oG (by omega) (by decide) ?_)
          refine wp_eq (e268_54 _ _ _ _) ?_
          rw [nI_1, nI_1]; exact ih3
        · rw [if_neg hlt] at ih3
          refine wp_t (nI_lt (by omega) (by omega)) ?_
          refine wp_eq (e268_54 _ _ _ _) ?_
          rw [nI_1]; exact ih3
    · intro _ _
      refine wp_eq (e268_18 _ _ _ _) ?_
      rw [h2.1, show j + 1 + t = L.1 by omega]
      refine wp_t (nI_le (Nat.le_refl _) (by omega)) ?_
      refine wp_eq (e268_56 _ _ _ _) ?_
      rw [nI_clamp (show j < 2 ^ 31 by omega)]
      refine oG (by omega) (by decide) ?_
      have ej2 : nI j + (-1) = nI j - 1 := (Int32.sub_eq_add_neg _ _).symm
      have l0 := mx_le (ag := ag) (m := L.1) t
      have l2 := lv_le (ag := ag) (i := j) (g := lnN ag L.1 t) (ln_le t) t
      have ih := ih (ud D2 87 j (nI (lvN ag j (lnN ag L.1 t) t))) ⟨by omega, fun x x1 x2 => ?_, fun q hq => by rw [ud_q hq]; exact i2 q hq⟩
      · rw [mxN, htj] at ih
        refine wp_eq (e268_61 _ _ _ _) (wp_if (fun hle => ?_) (fun hle => ?_))
        · rw [if_neg (fun z => Int32.not_lt.mpr hle (nI_lt z (by omega)))] at ih
          refine wp_eq (e268_66 _ _ _ _) (wp_eq (e268_68 _ _ _ _) ?_)
          rw [ej2]
          exact wp_weak (ls := [.ref 70, .int (nI (mxN ag L.1 t)), .int (nI j - 1), .null, .null]) (by simp [lle, lng]) ih
        · rw [if_pos ((nI_ltI (by omega) (by omega)).mp (Int32.not_le.mp hle))] at ih
          refine wp_eq (e268_68 _ _ _ _) ?_
          rw [ej2]
          exact wp_weak (ls := [.ref 70, .int (nI (lvN ag j (lnN ag L.1 t) t)), .int (nI j - 1), .null, .null]) (by simp [lle, lng]) ih
      · show _ = nI (if x = L.1 - 1 - t then _ else _)
        rw [htj]
        by_cases hxj : x = j
        · rw [if_pos hxj, hxj, ud_at]
        · rw [if_neg hxj, ud_k hxj]; exact i1 x (by omega) x2
  · intro D2 ⟨i0, i1, i2⟩
    rw [Nat.sub_zero] at i1
    show Wp (Ev X d 268 (10, [.ref 70, .int (nI (mxN ag L.1 (L.1 - 0))), .int (nI 0 - 1), .null, .null], [], hS u D2 J)) _
    rw [Nat.sub_zero]
    exact wp_eq (e268_10 _ _) (wp_t (by decide) (wp_eq (e268_70 _ _) (wp_rI ⟨rfl, fun x hx => i1 x (Nat.zero_le _) hx, i2⟩)))
theorem m_chain {n : Nat} {Q : Rs → Prop} (hL : L.1 ≤ 12 ∧ ∀ i, i < L.1 → L.2 i < 12) (h : LaM L ag D) (hl : ∀ x, x < L.1 → D 87 x = nI (lnN ag L.1 L.1 x)) (hn : n < mxN ag L.1 L.1) (hQ : ∀ y, y < L.1 → chN ag L.2 L.1 (n + 1) = some y → Wp (some (.inl (some (.int (nI (L.2 y)))), hS u D J)) Q) : Wp (Ev X d 269 (26, [.ref 70, .int (nI n), .int (nI (mxN ag L.1 L.1)), .null, .null, .null, .null], [], hS u D J)) Q := by
  have hmx := mx_le (ag := ag) (m := L.1) L.1
  refine wp_eq (e269_26 _ _) ?_
  refine wp_loop (R := fun t (_ : Unit) => Ev X d 269 (30, [.ref 70, .int (nI n), .int (nI (mxN ag L.1 L.1)), .int (whoA (chN ag L.2 L.1 t)), .int (nI t), .null, .null], [], hS u D J)) (fun _ _ => True) (n + 1) ?_ ?_ 0 () (Nat.zero_le _) trivial
  · intro t _ ht _ ih
    have ih := ih () trivial
    rw [chN] at ih
    refine wp_eq (e269_30 _ _ _ _) (wp_f (Int32.not_lt.mpr (nI_le (by omega) (by omega))) ?_)
    obtain ⟨b, hb⟩ : ∃ b, chN ag L.2 L.1 t = b := ⟨_, rfl⟩
    have hbl : ∀ y, b = some y → y < L.1 := fun y hy => ch_lt (hb.trans hy)
    rw [hb] at ih ⊢
    have hs : stB b ≤ L.1 := by
      cases b with
      | none => exact Nat.zero_le _
      | some y => exact hbl y rfl
    have e1 : whoA b + 1 = nI (stB b) := by
      cases b with
      | none => rfl
      | some y => exact nI_1 y
    have es : nI (mxN ag L.1 L.1) - nI t = nI (mxN ag L.1 L.1 - t) := nI_sub (by omega)
    rw [e1]
    refine wp_loop (R := fun k (_ : Unit) => Ev X d 269 (39, [.ref 70, .int (nI n), .int (nI (mxN ag L.1 L.1)), .int (whoA b), .int (nI t), .int (whoA (pkS (chA ag (lnN ag L.1 L.1) b (mxN ag L.1 L.1 - t)) L.2 (stB b) k)), .int (nI (stB b + k))], [], hS u D J)) (fun _ _ => True) (L.1 - stB b) ?_ ?_ 0 () (Nat.zero_le _) trivial
    · intro k _ hk _ ih2
      have ih2 := ih2 () trivial
      rw [pkS] at ih2
      have hx : stB b + k < L.1 := by omega
      have lx := hL.2 _ hx
      have hln := ln_le (ag := ag) (m := L.1) L.1 (stB b + k)
      have no : ¬ chA ag (lnN ag L.1 L.1) b (mxN ag L.1 L.1 - t) (stB b + k) = true → Wp (Ev X d 269 (88, [.ref 70, .int (nI n), .int (nI (mxN ag L.1 L.1)), .int (whoA b), .int (nI t), .int (whoA (pkS (chA ag (lnN ag L.1 L.1) b (mxN ag L.1 L.1 - t)) L.2 (stB b) k)), .int (nI (stB b + k))], [], hS u D J)) Q := fun hA => by
        rw [if_neg hA] at ih2
        refine wp_eq (e269_88 _ _ _ _ _ _) ?_
        rw [nI_1]; exact ih2
      have yes : chA ag (lnN ag L.1 L.1) b (mxN ag L.1 L.1 - t) (stB b + k) = true → Wp (Ev X d 269 (74, [.ref 70, .int (nI n), .int (nI (mxN ag L.1 L.1)), .int (whoA b), .int (nI t), .int (whoA (pkS (chA ag (lnN ag L.1 L.1) b (mxN ag L.1 L.1 - t)) L.2 (stB b) k)), .int (nI (stB b + k))], [], hS u D J)) Q := fun hA => by
        rw [if_pos hA] at ih2
        refine wp_eq (e269_74 _ _ _ _ _ _) ?_
        cases hp : pkS (chA ag (lnN ag L.1 L.1) b (mxN ag L.1 L.1 - t)) L.2 (stB b) k with
        | none =>
          rw [hp] at ih2
          refine wp_t rfl (wp_eq (e269_86 _ _ _ _ _ _) (wp_eq (e269_88 _ _ _ _ _ _) ?_))
          rw [nI_1]; exact ih2
        | some y =>
          rw [hp] at ih2
          obtain ⟨y1, y2, -⟩ := pk_some _ _ hp
          have l1 := hL.2 y (by omega)
          have ey : whoA (some y) = nI y := rfl
          rw [ey, nI_clamp (show stB b + k < 2 ^ 31 by omega), nI_clamp (show y < 2 ^ 31 by omega), h.2.1 _ hx, h.2.1 y (by omega)]
          refine wp_f (nI_ne1 (by omega)) (oG (by omega) (by decide) (oG (by omega) (by decide) ?_))
          have ih2 : Wp (Ev X d 269 (39, [.ref 70, .int (nI n), .int (nI (mxN ag L.1 L.1)), .int (whoA b), .int (nI t), .int (whoA (if L.2 y ≤ L.2 (stB b + k) then some y else some (stB b + k))), .int (nI (stB b + (k + 1)))], [], hS u D J)) Q := ih2
          by_cases hle : L.2 y ≤ L.2 (stB b + k)
          · rw [if_pos hle] at ih2
            refine wp_t (nI_le hle (by omega)) (wp_eq (e269_88 _ _ _ _ _ _) ?_)
            rw [nI_1]; exact ih2
          · rw [if_neg hle] at ih2
            refine wp_f (nI_ge (by omega) (by omega)) (wp_eq (e269_86 _ _ _ _ _ _) (wp_eq (e269_88 _ _ _ _ _ _) ?_))
            rw [nI_1]; exact ih2
      refine wp_eq (e269_39 _ _ _ _ _ _) ?_
      rw [h.1]
      refine wp_f (nI_ge hx (by omega)) ?_
      rw [nI_clamp (show stB b + k < 2 ^ 31 by omega), hl _ hx, es]
      refine oG (by omega) (by decide) (wp_if (fun h1 => ?_) (fun h1 => ?_))
      · refine no (fun z => h1 ?_)
        unfold chA at z
        rw [Bool.and_eq_true] at z
        rw [of_decide_eq_true z.1]
      · have h1 := nI_inj (by omega) (by omega) (Classical.not_not.mp h1)
        cases b with
        | none =>
          refine wp_t rfl (yes ?_)
          unfold chA fitB
          rw [decide_eq_true h1]; rfl
        | some z =>
          have hz := hbl z rfl
          have lz := hL.2 z hz
          have ez : whoA (some z) = nI z := rfl
          rw [ez] at no yes ⊢
          refine wp_f (nI_ne1 (by omega)) ?_
          rw [nI_clamp (show z < 2 ^ 31 by omega), h.2.1 _ hx, h.2.1 z hz, la, la, nI_clamp (show 1 + L.2 (stB (some z) + k) < 2 ^ 31 by omega), nI_clamp (show 1 + L.2 z < 2 ^ 31 by omega), h.2.2 _ hx, h.2.2 z hz]
          refine oG (by omega) (by decide) (oG (by omega) (by decide) (oG (by omega) (by decide) (oG (by omega) (by decide) (wp_if (fun h2 => yes ?_) (fun h2 => no (fun y => h2 ?_))))))
          · unfold chA fitB
            rw [decide_eq_true h1]
            simp only [Bool.true_and, Bool.not_eq_true', decide_eq_false_iff_not]
            exact Int32.not_lt.mpr h2
          · unfold chA fitB at y
            rw [Bool.and_eq_true] at y
            have := y.2
            simp only [Bool.not_eq_true', decide_eq_false_iff_not] at this
            exact Int32.not_lt.mp this
    · intro _ _
      refine wp_eq (e269_39 _ _ _ _ _ _) ?_
      rw [h.1, show stB b + (L.1 - stB b) = L.1 by omega]
      refine wp_t (nI_le (Nat.le_refl _) (by omega)) (wp_eq (e269_90 _ _ _ _ _ _) ?_)
      rw [nI_1]
      exact wp_weak (ls := [.ref 70, .int (nI n), .int (nI (mxN ag L.1 L.1)), .int (whoA (pkS (chA ag (lnN ag L.1 L.1) b (mxN ag L.1 L.1 - t)) L.2 (stB b) (L.1 - stB b))), .int (nI (t + 1)), .null, .null]) (by simp [lle, lng]) ih
  · intro _ _
    obtain ⟨y, y1, y2, -⟩ := ch_ex (ag := ag) (a := L.2) (m := L.1) n hn
    refine wp_eq (e269_30 _ _ _ _) (wp_t (nI_lt (by omega) (by omega)) (wp_eq (e269_94 _ _ _ _) ?_))
    rw [y2]
    have ey : whoA (some y) = nI y := rfl
    rw [ey, nI_clamp (show y < 2 ^ 31 by omega), h.2.1 y y1]
    exact oG (by omega) (by decide) (hQ y y1 y2)
end LONG
