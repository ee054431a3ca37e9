/-! ===== a Sunday: pure facts ===== -/
theorem find_congr {A B : Nat → Bool} : ∀ {r p : Nat}, (∀ j, p ≤ j → j < p + r → A j = B j) → findN A r p = findN B r p
  | 0, _, _ => rfl
  | r + 1, p, h => by
    rw [findN, findN, h p (Nat.le_refl p) (by omega), find_congr (r := r) (fun j h1 h2 => h j (by omega) (by omega))]
theorem who_congr {ρ : Ru} {c c' : Cc} (h : ∀ p, p < ρ.1 → c p = c' p) (s : Nat) : whoN ρ c s = whoN ρ c' s := by
  unfold whoN
  rw [find_congr (fun j _ hj => by rw [h j (by omega)])]
theorem Rep.congr {ρ : Ru} {c c' : Cc} {row fil : Nat → Int32} (hr : Rep ρ c row fil) (h : ∀ p, p < ρ.1 → c p = c' p) : Rep ρ c' row fil :=
  ⟨fun w hw => by rw [← size_congr h]; exact hr.1 w hw, fun w x hw hx => by rw [← who_congr h]; exact hr.2 w x hw (by rw [size_congr h]; exact hx)⟩
/-- a line of people that are apart -/
def LineD (ρ : Ru) (L : Nat × (Nat → Nat)) : Prop := L.1 ≤ 12 ∧ (∀ i, i < L.1 → L.2 i < ρ.1) ∧ ∀ i j, i < L.1 → j < L.1 → L.2 i = L.2 j → i = j
def logN (ρ : Ru) (c : Cc) (a : Nat → Nat) : Nat → List (Nat × Nat)
  | 0 => []
  | k + 1 => logN ρ c a k ++ (sitN ρ 12 (sitsN ρ c a k) (a k) 0).2.1
theorem lc_app (q : Nat) : ∀ l m : List (Nat × Nat), lcN q (l ++ m) = lcN q l + lcN q m
  | [], m => by
    show lcN q m = 0 + lcN q m
    omega
  | e :: l, m => by
    show (if e.1 = q then 1 else 0) + lcN q (l ++ m) = (if e.1 = q then 1 else 0) + lcN q l + lcN q m
    rw [lc_app q l m]; omega
theorem wc_app (a b : Int32) : ∀ l m : List (Nat × Nat), wcN a b (l ++ m) = wcN a b l + wcN a b m
  | [], m => by
    show wcN a b m = 0 + wcN a b m
    omega
  | e :: l, m => by
    show (if nI e.1 = a ∧ nI e.2 = b then 1 else 0) + wcN a b (l ++ m) = (if nI e.1 = a ∧ nI e.2 = b then 1 else 0) + wcN a b l + wcN a b m
    rw [wc_app a b l m]; omega
theorem res_lo {c : Cc} {p : Nat} (h : p < 12) : resN c p = -1 := if_pos h
theorem size_res {ρ : Ru} (hn : ρ.1 ≤ 12) (c : Cc) (w : Nat) : sizeN ρ (resN c) w = 0 := by
  have h : ∀ n, n ≤ 12 → cntN (inW (resN c) w) n = 0 := by
    intro n
    induction n with
    | zero => intro _; rfl
    | succ n ih =>
      intro hn
      rw [cntN, ih (by omega), inW_no (res_lo (by omega))]; rfl
  exact h ρ.1 hn
theorem ok_res {ρ : Ru} (hn : ρ.1 ≤ 12) (c : Cc) : Ok ρ (resN c) := by
  have hz := size_res hn c
  refine ⟨fun p hp => Or.inl (res_lo (by omega)), fun w x hw hx => ?_, fun p q hp hq e hne => absurd (res_lo (by omega)) hne, fun w _ => by rw [hz]; omega, fun w _ _ => hz _⟩
  rw [hz] at hx; omega
theorem sits_ok {ρ : Ru} (hR : Ru0 ρ) {c : Cc} {L : Nat × (Nat → Nat)} (hL : LineD ρ L) : ∀ k, k ≤ L.1 → Ok ρ (sitsN ρ (resN c) L.2 k) ∧ (∀ q, q < ρ.1 → (sitsN ρ (resN c) L.2 k q = -1 ↔ ∀ j, j < k → L.2 j ≠ q)) ∧ (∀ i, (12 ≤ i ∧ i < 24) ∨ 48 ≤ i → sitsN ρ (resN c) L.2 k i = c i) ∧ (∀ q, ρ.1 ≤ q → q < 12 → sitsN ρ (resN c) L.2 k q = -1) ∧
    (∀ q, q < 12 → sitsN ρ (resN c) L.2 k (24 + q) = nI (lcN q (logN ρ (resN c) L.2 k)) ∧ sitsN ρ (resN c) L.2 k (36 + q) = c (36 + q) + nI (lcN q (logN ρ (resN c) L.2 k)))
  | 0, _ => by
    refine ⟨ok_res hR.1 c, fun q hq => ⟨fun _ j hj => absurd hj (Nat.not_lt_zero j), fun _ => res_lo (by have := hR.1; omega)⟩, fun i hi => ?_, fun q _ hq => res_lo hq, fun q hq => ⟨?_, ?_⟩⟩
    · show (if i < 12 then _ else if 24 ≤ i ∧ i < 36 then _ else c i) = c i
      rw [if_neg (by omega), if_neg (by omega)]
    · show (if 24 + q < 12 then _ else if 24 ≤ 24 + q ∧ 24 + q < 36 then 0 else _) = nI 0
      rw [if_neg (by omega), if_pos (by omega), nI_0]
    · show (if 36 + q < 12 then _ else if 24 ≤ 36 + q ∧ 36 + q < 36 then _ else c (36 + q)) = c (36 + q) + nI 0
      rw [if_neg (by omega), if_neg (by omega), nI_0, Int32.add_zero]
  | k + 1, hk => by
    obtain ⟨h1, h2, h3, h4, h5⟩ := sits_ok hR (c := c) hL k (by omega)
    obtain ⟨-, l1, l2⟩ := hL
    have hs : sitsN ρ (resN c) L.2 k (L.2 k) = -1 := (h2 _ (l1 k (by omega))).mpr (fun j hj z => by have := l2 j k (by omega) (by omega) z; omega)
    obtain ⟨r1, r2, r3, r4, r5, r6, -, -⟩ := sit_ok0 hR h1 (l1 k (by omega)) hs
    refine ⟨r1, fun q hq => ?_, fun i hi => (r4 i hi).trans (h3 i hi), fun q hq hq2 => (r5 q hq hq2).trans (h4 q hq hq2), fun q hq => ?_⟩
    · show (sitN ρ 12 (sitsN ρ (resN c) L.2 k) (L.2 k) 0).1 q = -1 ↔ _
      rw [r2 q hq, h2 q hq]
      constructor
      · intro ⟨z1, z2⟩ j hj
        by_cases hj2 : j = k
        · rw [hj2]; exact fun z => z2 z.symm
        · exact z1 j (by omega)
      · intro z
        exact ⟨fun j hj => z j (by omega), fun y => z k (by omega) y.symm⟩
    · obtain ⟨a1, a2⟩ := r6 q hq
      obtain ⟨b1, b2⟩ := h5 q hq
      show (sitN ρ 12 (sitsN ρ (resN c) L.2 k) (L.2 k) 0).1 (24 + q) = nI (lcN q (logN ρ (resN c) L.2 k ++ _)) ∧ (sitN ρ 12 (sitsN ρ (resN c) L.2 k) (L.2 k) 0).1 (36 + q) = _ + nI (lcN q (logN ρ (resN c) L.2 k ++ _))
      rw [a1, a2, b1, b2, lc_app, nI_add, Int32.add_assoc, nI_add]
      exact ⟨rfl, rfl⟩
def endK (k : Nat) (c : Cc) : Cc := fun i => if 48 ≤ i ∧ i < 48 + k then (if c (i - 48) = -1 then c i + 1 else 0) else if 60 ≤ i ∧ i < 60 + k then (if 0 < c i then c i - 1 else c i) else c i
theorem endK_0 (c : Cc) : endK 0 c = c := by
  funext i
  unfold endK
  rw [if_neg (by omega), if_neg (by omega)]
theorem endK_end {ρ : Ru} (hn : ρ.1 ≤ 12) (c : Cc) : upd (endK ρ.1 c) 72 (endK ρ.1 c 72 + 1) = endN ρ c := by
  funext i
  unfold endN upd endK
  by_cases h : i = 72
  · subst h
    rw [if_pos rfl, if_neg (by omega), if_neg (by omega), if_neg (by omega), if_neg (by omega), if_pos rfl]
  · rw [if_neg h, if_neg h]
theorem endK_spot {k : Nat} {c : Cc} {p : Nat} (hp : p < 48) : endK k c p = c p := by
  unfold endK
  rw [if_neg (by omega), if_neg (by omega)]
theorem endN_spot {ρ : Ru} {c : Cc} {p : Nat} (hp : p < 48) : endN ρ c p = c p := by
  unfold endN
  rw [if_neg (by omega), if_neg (by omega), if_neg (by omega)]
theorem ek1 {k i : Nat} {c : Cc} (h : 48 ≤ i ∧ i < 48 + k) : endK k c i = if c (i - 48) = -1 then c i + 1 else 0 := by
  unfold endK
  rw [if_pos h]
theorem ek2 {k i : Nat} {c : Cc} (h1 : ¬ (48 ≤ i ∧ i < 48 + k)) (h2 : 60 ≤ i ∧ i < 60 + k) : endK k c i = if 0 < c i then c i - 1 else c i := by
  unfold endK
  rw [if_neg h1, if_pos h2]
theorem ek3 {k i : Nat} {c : Cc} (h1 : ¬ (48 ≤ i ∧ i < 48 + k)) (h2 : ¬ (60 ≤ i ∧ i < 60 + k)) : endK k c i = c i := by
  unfold endK
  rw [if_neg h1, if_neg h2]
theorem endK_succ {k : Nat} (hk : k < 12) (c : Cc) : upd (upd (endK k c) (48 + k) (if c k = -1 then c (48 + k) + 1 else 0)) (60 + k) (if 0 < c (60 + k) then c (60 + k) - 1 else c (60 + k)) = endK (k + 1) c := by
  funext i
  show (if i = 60 + k then (if 0 < c (60 + k) then c (60 + k) - 1 else c (60 + k)) else if i = 48 + k then (if c k = -1 then c (48 + k) + 1 else 0) else endK k c i) = _
  by_cases h1 : i = 60 + k
  · rw [if_pos h1, h1, ek2 (by omega) (by omega)]
  · rw [if_neg h1]
    by_cases h2 : i = 48 + k
    · rw [if_pos h2, h2, ek1 (by omega), Nat.add_sub_cancel_left]
    · rw [if_neg h2]
      by_cases h3 : 48 ≤ i ∧ i < 48 + k
      · rw [ek1 h3, ek1 (by omega)]
      · by_cases h4 : 60 ≤ i ∧ i < 60 + k
        · rw [ek2 h3 h4, ek2 (by omega) (by omega)]
        · rw [ek3 h3 h4, ek3 (by omega) (by omega)]
theorem serv_ok {ρ : Ru} (hR : Ru0 ρ) {c : Cc} {L : Nat × (Nat → Nat)} (hL : LineD ρ L) : Ok ρ (servN ρ c L) :=
  (sits_ok hR (c := c) hL L.1 (Nat.le_refl _)).1.congr (fun p hp => (endN_spot (by have := hR.1; omega)).symm)
/-- who is in the line -/
theorem ins_mem {a : Nat → Nat} {k p i : Nat} : (i = k ∧ insN a k p i = p) ∨ (i < k ∧ insN a k p i = a i) ∨ (k < i ∧ insN a k p i = a (i - 1)) := by
  unfold insN
  by_cases h1 : i < k
  · exact Or.inr (Or.inl ⟨h1, if_pos h1⟩)
  · by_cases h2 : i = k
    · exact Or.inl ⟨h2, by rw [if_neg h1, if_pos h2]⟩
    · exact Or.inr (Or.inr ⟨by omega, by rw [if_neg h1, if_neg h2]⟩)
theorem line_mem (ρ : Ru) (c : Cc) (rain : Bool) : ∀ k, (∀ i, i < (lineN ρ c rain k).1 → (lineN ρ c rain k).2 i < k ∧ comesF ρ c rain ((lineN ρ c rain k).2 i) = true) ∧ (∀ i j, i < (lineN ρ c rain k).1 → j < (lineN ρ c rain k).1 → (lineN ρ c rain k).2 i = (lineN ρ c rain k).2 j → i = j) ∧ ∀ p, p < k → comesF ρ c rain p = true → ∃ i, i < (lineN ρ c rain k).1 ∧ (lineN ρ c rain k).2 i = p
  | 0 => ⟨fun i hi => absurd hi (Nat.not_lt_zero i), fun i j hi => absurd hi (Nat.not_lt_zero i), fun p hp => absurd hp (Nat.not_lt_zero p)⟩
  | k + 1 => by
    obtain ⟨h1, h2, h3⟩ := line_mem ρ c rain k
    rw [lineN]
    by_cases hc : comesF ρ c rain k = true
    · rw [if_pos hc]
      dsimp only
      have hps := pos_le (arrF ρ c) (lineN ρ c rain k).2 (arrF ρ c k) (lineN ρ c rain k).1
      generalize posN (arrF ρ c) (lineN ρ c rain k).2 (arrF ρ c k) (lineN ρ c rain k).1 = s at hps ⊢
      refine ⟨fun i hi => ?_, fun i j hi hj e => ?_, fun p hp hcp => ?_⟩
      · rcases ins_mem (a := (lineN ρ c rain k).2) (k := s) (p := k) (i := i) with ⟨q, z⟩ | ⟨q, z⟩ | ⟨q, z⟩
        · rw [z]; exact ⟨by omega, hc⟩
        · rw [z]; have := h1 i (by omega); exact ⟨by omega, this.2⟩
        · rw [z]; have := h1 (i - 1) (by omega); exact ⟨by omega, this.2⟩
      · rcases ins_mem (a := (lineN ρ c rain k).2) (k := s) (p := k) (i := i) with ⟨q, z⟩ | ⟨q, z⟩ | ⟨q, z⟩ <;> rcases ins_mem (a := (lineN ρ c rain k).2) (k := s) (p := k) (i := j) with ⟨q', z'⟩ | ⟨q', z'⟩ | ⟨q', z'⟩ <;> rw [z, z'] at e
        · omega
        · have := (h1 j (by omega)).1; omega
        · have := (h1 (j - 1) (by omega)).1; omega
        · have := (h1 i (by omega)).1; omega
        · exact h2 i j (by omega) (by omega) e
        · have := h2 i (j - 1) (by omega) (by omega) e; omega
        · have := (h1 (i - 1) (by omega)).1; omega
        · have := h2 (i - 1) j (by omega) (by omega) e; omega
        · have := h2 (i - 1) (j - 1) (by omega) (by omega) e; omega
      · by_cases hpk : p = k
        · exact ⟨s, by omega, by rw [ins_at, hpk]⟩
        · obtain ⟨i, i1, i2⟩ := h3 p (by omega) hcp
          by_cases his : i < s
          · exact ⟨i, by omega, by unfold insN; rw [if_pos his]; exact i2⟩
          · exact ⟨i + 1, by omega, by unfold insN; rw [if_neg (by omega), if_neg (by omega), Nat.add_sub_cancel]; exact i2⟩
    · rw [if_neg hc]
      refine ⟨fun i hi => ⟨Nat.lt_succ_of_lt (h1 i hi).1, (h1 i hi).2⟩, h2, fun p hp hcp => ?_⟩
      by_cases hpk : p = k
      · rw [hpk] at hcp; exact absurd hcp hc
      · exact h3 p (by omega) hcp
theorem line_D {ρ : Ru} (hn : ρ.1 ≤ 12) (c : Cc) (rain : Bool) : LineD ρ (lineN ρ c rain ρ.1) := by
  obtain ⟨h1, h2, -⟩ := line_mem ρ c rain ρ.1
  exact ⟨Nat.le_trans (line_le ρ c rain ρ.1) hn, fun i hi => (h1 i hi).1, h2⟩
/-! ===== the class: a service ===== -/
section SERV
variable {X : XS} {d u : Nat} {D : DD} {J : JJ} {P : Nat} {ρ : Ru} {c : Cc}
theorem s_fill {Q n : Nat} {v : Int32} (hQ : isQ Q n) : Wp (EvM X d 332 [.ref Q, .int v] (hS u D J)) (RV u J (fun D' => (∀ i, i < n → D' Q i = v) ∧ (∀ i, n ≤ i → D' Q i = D Q i) ∧ ∀ q, q ≠ Q → D' q = D q)) := by
  have hn : n ≤ 73 := by unfold isQ at hQ; omega
  refine wp_eq (e332_0 hQ _) ?_
  refine wp_loop (R := fun i (D1 : DD) => Ev X d 332 (5, [.ref Q, .int v, .int (nI i), .int (Int32.ofNat n)], [], hS u D1 J)) (fun i (D1 : DD) => (∀ j, j < i → D1 Q j = v) ∧ (∀ j, i ≤ j → D1 Q j = D Q j) ∧ ∀ q, q ≠ Q → D1 q = D q) n ?_ ?_ 0 D (Nat.zero_le n) ⟨fun j hj => absurd hj (Nat.not_lt_zero j), fun _ _ => rfl, fun _ _ => rfl⟩
  · intro i D1 hi ⟨h1, h2, h3⟩ ih
    refine wp_eq (e332_5 hQ _ _ _) ?_
    refine wp_f (nI_ge hi (by omega)) ?_
    refine oG hi (by omega) ?_
    rw [nI_clamp (by omega), nI_1]
    refine ih _ ⟨fun j hj => ?_, fun j hj => ?_, fun q hq => ?_⟩
    · by_cases hji : j = i
      · rw [hji, ud_at]
      · rw [ud_k hji]; exact h1 j (by omega)
    · rw [ud_k (by omega)]; exact h2 j (by omega)
    · rw [ud_q hq]; exact h3 q hq
  · intro D1 h
    refine wp_eq (e332_5 hQ _ _ _) ?_
    exact wp_t (nI_le (a := n) (Nat.le_refl _) (by omega)) (wp_rV h)
theorem isP_Q (hP : isP P) : isQ (P + 3) 12 := by
  unfold isP at hP
  unfold isQ
  omega
theorem s_stand (hP : isP P) : Wp (EvM X (d + 1) 35 [.ref P] (hS u D J)) (RV u J (fun D' => D' (P + 1) = resN (D (P + 1)) ∧ (∀ w, w < 12 → D' (P + 3) w = 0) ∧ ∀ q, q ≠ P + 1 → q ≠ P + 3 → D' q = D q)) := by
  have hPl := isP_lo hP
  refine wp_eq (e35_0 hP) ?_
  refine wp_loop (R := fun i (D1 : DD) => Ev X (d + 1) 35 (2, [.ref P, .int (nI i)], [], hS u D1 J)) (fun i (D1 : DD) => D1 (P + 1) = (fun j => if j < i then -1 else if 24 ≤ j ∧ j < 24 + i then 0 else D (P + 1) j) ∧ ∀ q, q ≠ P + 1 → D1 q = D q) 12 ?_ ?_ 0 D (by decide) ⟨?_, fun _ _ => rfl⟩
  · intro i D1 hi ⟨h1, h2⟩ ih
    refine wp_eq (e35_2 hP _) ?_
    refine wp_f (nI_ge (b := 12) hi (by decide)) ?_
    rw [la, la, nI_clamp (by omega), nI_clamp (by omega), Nat.zero_add]
    refine oG (by omega) (by decide) (oG (by omega) (by decide) ?_)
    rw [nI_1]
    refine ih _ ⟨?_, fun q hq => by rw [ud_q hq, ud_q hq]; exact h2 q hq⟩
    rw [ud_row, ud_row, h1]
    funext j
    show (if j = 24 + i then (0 : Int32) else if j = i then -1 else if j < i then -1 else if 24 ≤ j ∧ j < 24 + i then 0 else D (P + 1) j) = if j < i + 1 then -1 else if 24 ≤ j ∧ j < 24 + (i + 1) then 0 else D (P + 1) j
    by_cases j1 : j < i + 1
    · rw [if_pos j1, if_neg (show ¬ j = 24 + i by omega)]
      by_cases j2 : j = i
      · rw [if_pos j2]
      · rw [if_neg j2, if_pos (show j < i by omega)]
    · rw [if_neg j1, if_neg (show ¬ j = i by omega), if_neg (show ¬ j < i by omega)]
      by_cases j3 : j = 24 + i
      · rw [if_pos j3, if_pos (show 24 ≤ j ∧ j < 24 + (i + 1) by omega)]
      · rw [if_neg j3]
        by_cases j4 : 24 ≤ j ∧ j < 24 + i
        · rw [if_pos j4, if_pos (show 24 ≤ j ∧ j < 24 + (i + 1) by omega)]
        · rw [if_neg j4, if_neg (show ¬ (24 ≤ j ∧ j < 24 + (i + 1)) by omega)]
  · intro D1 ⟨h1, h2⟩
    refine wp_eq (e35_2 hP _) ?_
    refine wp_t (nI_le (a := 12) (Nat.le_refl _) (by decide)) ?_
    refine wp_cV (s_fill (isP_Q hP)) (fun D2 hD2 => ?_)
    obtain ⟨g1, -, g3⟩ := hD2
    refine wp_eq (e35_25 hP _) (wp_rV ⟨?_, g1, fun q q1 q2 => (g3 q q2).trans (h2 q q1)⟩)
    rw [g3 (P + 1) (by omega), h1]
    rfl
  · funext j
    rw [if_neg (by omega), if_neg (by omega)]
/-- what a service leaves: L is the line -/
def ServPost (P : Nat) (ρ : Ru) (c : Cc) (L : Nat × (Nat → Nat)) (D D' : DD) : Prop :=
  PewsC P ρ (servN ρ c L) D' ∧ D' P 6 = D P 6 + nI (wcN (D P 7) (D P 8) (logN ρ (resN c) L.2 L.1)) ∧ D' P 4 = D P 4 ∧ D' P 7 = D P 7 ∧ D' P 8 = D P 8 ∧ D' (P + 4) = D (P + 4) ∧ FrP P D D'
theorem s_serv {L : Nat × (Nat → Nat)} (hP : isP P) (hR : RuOk ρ) (hC : RulesC ρ D) (hc : D (P + 1) = c) (hL : LineD ρ L) (h4 : D P 4 = nI L.1) (hl : ∀ i, i < L.1 → D (P + 4) i = nI (L.2 i)) :
    Wp (EvM X (d + 3) 50 [.ref P] (hS u D J)) (RV u J (ServPost P ρ c L D)) := by
  have hPl := isP_lo hP
  have hn := hR.1.1
  refine wp_eq (e50_0 hP) ?_
  refine wp_cV (s_stand (d := d + 1) hP) (fun D0 h0 => ?_)
  obtain ⟨a1, a2, a3⟩ := h0
  rw [hc] at a1
  have hf0 : FrP P D D0 := ⟨fun q hq _ => a3 q (by omega) (by omega), fun i _ _ => by rw [a3 5 (by omega) (by omega)]⟩
  have p0 : D0 P = D P := a3 P (by omega) (by omega)
  have p04 : D0 (P + 4) = D (P + 4) := a3 (P + 4) (by omega) (by omega)
  refine wp_eq (e50_2 hP) ?_
  have hz := size_res hn c
  -- all of the line sit down
  refine wp_loop (R := fun i (D1 : DD) => Ev X (d + 3) 50 (4, [.ref P, .int (nI i)], [], hS u D1 J)) (fun i (D1 : DD) => PewsC P ρ (sitsN ρ (resN c) L.2 i) D1 ∧ D1 P 6 = D P 6 + nI (wcN (D P 7) (D P 8) (logN ρ (resN c) L.2 i)) ∧ D1 P 4 = D P 4 ∧ D1 P 7 = D P 7 ∧ D1 P 8 = D P 8 ∧ D1 (P + 4) = D (P + 4) ∧ FrP P D D1) L.1 ?_ ?_ 0 D0 (Nat.zero_le _) ?_
  · intro i D1 hi ⟨i1, i2, i3, i4, i5, i6, i7⟩ ih
    have hl12 := hL.1
    obtain ⟨k1, k2, -⟩ := sits_ok hR.1 (c := c) hL i (by omega)
    have hs : sitsN ρ (resN c) L.2 i (L.2 i) = -1 := (k2 _ (hL.2.1 i hi)).mpr (fun j hj z => by have := hL.2.2 j i (by omega) hi z; omega)
    refine wp_eq (e50_4 hP _) ?_
    rw [i3, h4]
    refine wp_f (nI_ge hi (by omega)) ?_
    refine oG (by omega) (by decide) ?_
    rw [nI_clamp (by omega), i6, hl i hi]
    refine wp_cI (s_sit (d := d) hP hR (hC.p hP i7) i1 k1 (hL.2.1 i hi) hs) (fun y D2 h2 => ?_)
    obtain ⟨-, b2, b3, b4, b5, b6, b7, b8, b9⟩ := h2
    refine wp_eq (e50_14 hP _ _) ?_
    rw [nI_1]
    have q4 : ud D1 P 5 0 P 4 = D1 P 4 := ud_k (by omega)
    have q6 : ud D1 P 5 0 P 6 = D1 P 6 := ud_k (by omega)
    have q7 : ud D1 P 5 0 P 7 = D1 P 7 := ud_k (by omega)
    have q8 : ud D1 P 5 0 P 8 = D1 P 8 := ud_k (by omega)
    have q44 : ud D1 P 5 0 (P + 4) = D1 (P + 4) := ud_q (by omega)
    rw [q6, q7, q8] at b4
    rw [q4] at b5
    rw [q7] at b6
    rw [q8] at b7
    rw [q44] at b8
    refine ih D2 ⟨b2, ?_, b5.trans i3, b6.trans i4, b7.trans i5, b8.trans i6, i7.tr ((FrP.ud hP (by omega) (by omega)).tr b9)⟩
    rw [b4, i2, i4, i5, Int32.add_assoc, nI_add]
    show _ = _ + nI (wcN _ _ (logN ρ (resN c) L.2 i ++ _))
    rw [wc_app]
  · intro D1 ⟨i1, i2, i3, i4, i5, i6, i7⟩
    have hl12 := hL.1
    refine wp_eq (e50_4 hP _) ?_
    rw [i3, h4]
    refine wp_t (nI_le (Nat.le_refl _) (by omega)) ?_
    refine wp_eq (e50_17 hP _) ?_
    generalize hcs : sitsN ρ (resN c) L.2 L.1 = cs at i1
    have hC1 := hC.p hP i7
    -- who was away
    refine wp_loop (R := fun p (D2 : DD) => Ev X (d + 3) 50 (19, [.ref P, .int (nI p)], [], hS u D2 J)) (fun p (D2 : DD) => D2 (P + 1) = endK p cs ∧ ∀ q, q ≠ P + 1 → D2 q = D1 q) ρ.1 ?_ ?_ 0 D1 (Nat.zero_le _) ⟨by rw [endK_0]; exact i1.1, fun _ _ => rfl⟩
    · intro p D2 hp ⟨g1, g2⟩ ih
      have d3 : D2 3 0 = nI ρ.1 := by rw [g2 3 (by omega)]; exact hC1.1
      refine wp_eq (e50_19 hP _) ?_
      rw [d3]
      refine wp_f (nI_ge hp (by omega)) ?_
      rw [la, la, nI_clamp (by omega), nI_clamp (by omega), Nat.zero_add]
      refine oG (by omega) (by decide) ?_
      -- the second half
      have half : ∀ (D3 : DD), D3 (P + 1) = upd (endK p cs) (48 + p) (if cs p = -1 then cs (48 + p) + 1 else 0) → (∀ q, q ≠ P + 1 → D3 q = D1 q) → Wp (Ev X (d + 3) 50 (48, [.ref P, .int (nI p)], [], hS u D3 J)) (RV u J (ServPost P ρ c L D)) := by
        intro D3 f1 f2
        refine wp_eq (e50_48 hP _) ?_
        rw [la, nI_clamp (by omega)]
        refine oG (by omega) (by decide) ?_
        have r60 : D3 (P + 1) (60 + p) = cs (60 + p) := by
          rw [f1]
          show (if 60 + p = 48 + p then _ else endK p cs (60 + p)) = _
          rw [if_neg (by omega)]
          unfold endK
          rw [if_neg (by omega), if_neg (by omega)]
        rw [r60]
        have fin : ∀ D4 : DD, D4 (P + 1) = upd (D3 (P + 1)) (60 + p) (if 0 < cs (60 + p) then cs (60 + p) - 1 else cs (60 + p)) → (∀ q, q ≠ P + 1 → D4 q = D3 q) → Wp (Ev X (d + 3) 50 (65, [.ref P, .int (nI p)], [], hS u D4 J)) (RV u J (ServPost P ρ c L D)) := by
          intro D4 z1 z2
          refine wp_eq (e50_65 hP _) ?_
          rw [nI_1]
          refine ih D4 ⟨?_, fun q hq => (z2 q hq).trans (f2 q hq)⟩
          rw [z1, f1]
          exact endK_succ (by omega) cs
        refine wp_if (fun h => ?_) (fun h => ?_)
        · refine fin D3 ?_ (fun _ _ => rfl)
          rw [if_neg (Int32.not_lt.mpr h)]
          funext j
          unfold upd
          by_cases hj : j = 60 + p
          · rw [if_pos hj, hj, r60]
          · rw [if_neg hj]
        · refine oG (by omega) (by decide) (oG (by omega) (by decide) ?_)
          refine fin _ ?_ (fun q hq => ud_q hq)
          rw [ud_row, if_pos (Int32.not_le.mp h)]
      have rp : D2 (P + 1) p = cs p := by rw [g1, endK_spot (by omega)]
      have r48 : D2 (P + 1) (48 + p) = cs (48 + p) := by
        rw [g1]
        unfold endK
        rw [if_neg (by omega), if_neg (by omega)]
      rw [rp, r48]
      refine wp_if (fun h => ?_) (fun h => ?_)
      · refine oG (by omega) (by decide) ?_
        refine half _ ?_ (fun q hq => by rw [ud_q hq]; exact g2 q hq)
        rw [ud_row, g1, if_neg h]
      · refine oG (by omega) (by decide) (oG (by omega) (by decide) ?_)
        refine half _ ?_ (fun q hq => by rw [ud_q hq]; exact g2 q hq)
        rw [ud_row, g1, if_pos (Classical.not_not.mp h)]
    · intro D2 ⟨g1, g2⟩
      have d3 : D2 3 0 = nI ρ.1 := by rw [g2 3 (by omega)]; exact hC1.1
      refine wp_eq (e50_19 hP _) ?_
      rw [d3]
      refine wp_t (nI_le (Nat.le_refl _) (by omega)) ?_
      refine wp_eq (e50_67 hP _) ?_
      refine wp_eq (e50_75 hP _) (wp_rV ?_)
      have hP2 : ∀ q, q ≠ P + 1 → ud D2 (P + 1) 72 (D2 (P + 1) 72 + 1) q = D1 q := fun q hq => by rw [ud_q hq]; exact g2 q hq
      have hsv : servN ρ c L = endN ρ cs := by unfold servN; rw [hcs]
      refine ⟨⟨?_, ?_⟩, ?_, ?_, ?_, ?_, ?_, ?_⟩
      · rw [ud_row, g1, hsv]; exact endK_end hn cs
      · rw [hP2 _ (by omega), hP2 _ (by omega), hsv]
        exact i1.2.congr (fun p hp => (endN_spot (by omega)).symm)
      · rw [hP2 P (by omega)]; exact i2
      · rw [hP2 P (by omega)]; exact i3
      · rw [hP2 P (by omega)]; exact i4
      · rw [hP2 P (by omega)]; exact i5
      · rw [hP2 _ (by omega)]; exact i6
      · exact i7.tr ⟨fun q hq _ => hP2 q (by omega), fun i _ _ => by rw [hP2 5 (by omega)]⟩
  · refine ⟨⟨a1, fun w hw => ?_, fun w x hw hx => ?_⟩, ?_, by rw [p0], by rw [p0], by rw [p0], p04, hf0⟩
    · rw [a2 w hw]
      show _ = nI (sizeN ρ (resN c) w)
      rw [hz, nI_0]
    · have hx : x < sizeN ρ (resN c) w := hx
      rw [hz] at hx; omega
    · rw [p0]
      show _ = _ + nI 0
      rw [nI_0, Int32.add_zero]
/-- a Sunday goes by -/
def SunPost (P : Nat) (ρ : Ru) (c : Cc) (rain : Bool) (D D' : DD) : Prop :=
  PewsC P ρ (sunN ρ rain c) D' ∧ D' P 6 = D P 6 + nI (wcN (D P 7) (D P 8) (logN ρ (resN c) (lineN ρ c rain ρ.1).2 (lineN ρ c rain ρ.1).1)) ∧ D' P 7 = D P 7 ∧ D' P 8 = D P 8 ∧ FrP P D D'
theorem s_goBy {rain : Bool} (hP : isP P) (hR : RuOk ρ) (hC : RulesC ρ D) (hc : D (P + 1) = c) : Wp (EvM X (d + 4) 51 [.ref P, .int (bI32 rain)] (hS u D J)) (RV u J (SunPost P ρ c rain D)) := by
  have hPl := isP_lo hP
  refine wp_eq (e51_0 hP _) ?_
  refine wp_cV (s_line (d := d + 2) hP hR hC hc) (fun D1 hI => ?_)
  refine wp_eq (e51_3 hP _) ?_
  have hc1 : D1 (P + 1) = c := by rw [hI.2.2.2.2.1 (P + 1) (by omega) (by omega) (by omega) (by omega), hc]
  refine wp_cV (s_serv (d := d) hP hR (hC.p hP hI.fr) hc1 (line_D hR.1.1 c rain) hI.1 hI.2.2.1) (fun D2 h2 => ?_)
  obtain ⟨a1, a2, a3, a4, a5, a6, a7⟩ := h2
  rw [hI.2.1 6 (by omega), hI.2.1 7 (by omega), hI.2.1 8 (by omega)] at a2
  rw [hI.2.1 7 (by omega)] at a4
  rw [hI.2.1 8 (by omega)] at a5
  exact wp_eq (e51_5 hP _) (wp_rV ⟨a1, a2, a4, a5, hI.fr.tr a7⟩)
/-- another's pews are copied; c has nothing behind its 73 numbers -/
def Tl (c : Cc) : Prop := ∀ i, 73 ≤ i → c i = 0
theorem s_copy (hP : isP P) (hne : P ≠ 25) (hW : PewsC 25 ρ c D) (h4 : ∀ w, w < 12 → sizeN ρ c w ≤ 12) (h1 : Tl (D (25 + 1))) (h2 : Tl (D (P + 1))) : Wp (EvM X d 36 [.ref P, .ref 25] (hS u D J)) (RV u J (fun D' => PewsC P ρ c D' ∧ D' P = D P ∧ FrP P D D')) := by
  have hPl : P = 31 ∨ P = 38 := by unfold isP at hP; omega
  refine wp_eq (e36_0 hP) (wp_rV ⟨⟨?_, ?_, ?_⟩, ?_, ?_, ?_⟩)
  · rw [ucp_q (by omega), ucp_q (by omega), ← hW.1]
    funext i
    unfold ucp
    by_cases hi : i < 73
    · rw [if_pos ⟨rfl, by omega, by omega⟩]
      rw [Nat.zero_add, Nat.sub_zero]
    · rw [if_neg (fun z => by omega), h1 i (by omega), h2 i (by omega)]
  · intro w hw
    have : ucp (ucp (ucp D 26 0 (P + 1) 0 73) 27 0 (P + 2) 0 144) 28 0 (P + 3) 0 12 (P + 3) w = D 28 w := by
      show (if P + 3 = P + 3 ∧ 0 ≤ w ∧ w < 0 + 12 then ucp (ucp D 26 0 (P + 1) 0 73) 27 0 (P + 2) 0 144 28 (0 + (w - 0)) else _) = _
      rw [if_pos ⟨rfl, by omega, by omega⟩, ucp_q (by omega), ucp_q (by omega), Nat.zero_add, Nat.sub_zero]
    rw [this]
    exact hW.2.1 w hw
  · intro w x hw hx
    have h9 := h4 w hw
    have : ucp (ucp (ucp D 26 0 (P + 1) 0 73) 27 0 (P + 2) 0 144) 28 0 (P + 3) 0 12 (P + 2) (12 * w + x) = D 27 (12 * w + x) := by
      rw [ucp_q (by omega)]
      show (if P + 2 = P + 2 ∧ 0 ≤ 12 * w + x ∧ 12 * w + x < 0 + 144 then ucp D 26 0 (P + 1) 0 73 27 (0 + (12 * w + x - 0)) else _) = _
      rw [if_pos ⟨rfl, by omega, by omega⟩, ucp_q (by omega), Nat.zero_add, Nat.sub_zero]
    rw [this]
    exact hW.2.2 w x hw hx
  · rw [ucp_q (by omega), ucp_q (by omega), ucp_q (by omega)]
  · intro q hq _
    rw [ucp_q (by omega), ucp_q (by omega), ucp_q (by omega)]
  · intro i _ _
    rw [ucp_q (by omega), ucp_q (by omega), ucp_q (by omega)]
end SERV
