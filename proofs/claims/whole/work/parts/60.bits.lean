/-! ===== bits ===== -/
theorem or_and32 (a b c : Int32) : (a ||| b) &&& c = (a &&& c) ||| (b &&& c) := Int32.toBitVec_inj.1 (by
  simp only [Int32.toBitVec_and, Int32.toBitVec_or]
  apply BitVec.eq_of_getLsbD_eq
  intro i hi
  simp [Bool.and_or_distrib_right])
def tbN (v : Int32) (k : Nat) : Int32 := (v >>> (nI k &&& 31)) &&& 1
theorem tb_or (a b : Int32) (k : Nat) : tbN (a ||| b) k = tbN a k ||| tbN b k := by
  unfold tbN
  rw [Int32.shiftRight_or, or_and32]
theorem tb_bit : ∀ n, n < 13 → ∀ k, k < 13 → tbN (bitN n) k = if n = k then 1 else 0 := by decide +kernel
theorem tb_0 : ∀ k, k < 13 → tbN 0 k = 0 := by decide +kernel
def orP (P : Nat → Bool) : Nat → Int32
  | 0 => 0
  | n + 1 => orP P n ||| (if P n = true then bitN n else 0)
theorem tb_orP (P : Nat → Bool) : ∀ n, n ≤ 13 → ∀ k, k < 13 → tbN (orP P n) k = if k < n ∧ P k = true then 1 else 0
  | 0, _, k, hk => by
    show tbN 0 k = _
    rw [tb_0 k hk, if_neg (by omega)]
  | n + 1, hn, k, hk => by
    show tbN (orP P n ||| (if P n = true then bitN n else 0)) k = _
    rw [tb_or, tb_orP P n (by omega) k hk]
    by_cases hP : P n = true
    · rw [if_pos hP, tb_bit n (by omega) k hk]
      by_cases hkn : n = k
      · subst hkn
        rw [if_pos rfl, if_neg (by omega), if_pos ⟨by omega, hP⟩]; rfl
      · rw [if_neg hkn]
        by_cases h2 : k < n ∧ P k = true
        · rw [if_pos h2, if_pos ⟨by omega, h2.2⟩]; rfl
        · rw [if_neg h2, if_neg (fun z => h2 ⟨by omega, z.2⟩)]; rfl
    · rw [if_neg hP, tb_0 k hk, Int32.or_zero]
      by_cases h2 : k < n ∧ P k = true
      · rw [if_pos h2, if_pos ⟨by omega, h2.2⟩]
      · rw [if_neg h2, if_neg]
        intro z
        by_cases hkn : k = n
        · subst hkn; exact hP z.2
        · exact h2 ⟨by omega, z.2⟩
theorem cnt_cut (P : Nat → Bool) {m : Nat} : ∀ n, m ≤ n → cntN (fun k => decide (k < m) && P k) n = cntN P m
  | 0, h => by
    have : m = 0 := by omega
    subst this; rfl
  | n + 1, h => by
    by_cases hm : m = n + 1
    · subst hm
      exact cnt_congr (fun p hp => by simp [hp])
    · rw [cntN, cnt_cut P n (by omega)]
      have : (decide (n < m) && P n) = false := by
        rw [decide_eq_false (by omega)]; rfl
      rw [this]
      simp
theorem wp_eqI {r : Option Rs} {u : Nat} {J : JJ} {v : Int32} {D : DD} (h : Wp r (RI u J (fun x D' => x = v ∧ D' = D))) : r = some (.inl (some (.int v)), hS u D J) := by
  obtain ⟨y, h1, x, D', rfl, rfl, rfl⟩ := h
  exact h1
theorem s_bits {X : XS} {d u : Nat} {D : DD} {J : JJ} {v : Int32} {Q : Nat → Bool} (h : ∀ k, k < 13 → tbN v k = if Q k = true then 1 else 0) : EvM X d 177 [.int v] (hS u D J) = some (.inl (some (.int (nI (cntN Q 13)))), hS u D J) := by
  refine wp_eqI ?_
  refine wp_eq (e177_0 _) ?_
  refine wp_loop (R := fun k (_ : Unit) => Ev X d 177 (4, [.int v, .int (nI (cntN Q k)), .int (nI k)], [], hS u D J)) (fun _ _ => True) 13 ?_ ?_ 0 () (by decide) trivial
  · intro k _ hk _ ih
    refine wp_eq (e177_4 _ _ _) ?_
    refine wp_f (Int32.not_lt.mpr (nI_le (a := k) (b := 12) (by omega) (by decide))) ?_
    · have e : nI (cntN Q k) + (v >>> (nI k &&& 31) &&& 1) = nI (cntN Q (k + 1)) := by
        show _ + tbN v k = _
        rw [h k hk, cntN]
        by_cases hq : Q k = true
        · rw [if_pos hq, if_pos hq, nI_1]
        · rw [if_neg hq, if_neg hq, Int32.add_zero, Nat.add_zero]
      rw [e, nI_1]
      exact ih () trivial
  · intro _ _
    refine wp_eq (e177_4 _ _ _) ?_
    exact wp_t (nI_lt (a := 12) (b := 13) (by decide) (by decide)) (wp_rI ⟨rfl, rfl⟩)
theorem s_bitsP {X : XS} {d u : Nat} {D : DD} {J : JJ} {P : Nat → Bool} {n : Nat} (hn : n ≤ 12) : EvM X d 177 [.int (orP P n)] (hS u D J) = some (.inl (some (.int (nI (cntN P n)))), hS u D J) := by
  rw [s_bits (Q := fun k => decide (k < n) && P k) (fun k hk => by
    rw [tb_orP P n (by omega) k hk]
    by_cases h : k < n ∧ P k = true
    · rw [if_pos h, if_pos (by simp [h.1, h.2])]
    · rw [if_neg h, if_neg (fun z => h (by simpa using z))]), cnt_cut P 13 (by omega)]
