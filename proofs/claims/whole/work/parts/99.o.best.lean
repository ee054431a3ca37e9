/-! ===== couples: the first of the best ways, pew by pew ===== -/
def lexL (ρ : Ru) (c : Cc) (w : Nat) (f g : Nat → Nat) : Prop := ∃ p, p < ρ.1 ∧ inW c w p = true ∧ rkN p (f p) < rkN p (g p) ∧ ∀ r, r < p → inW c w r = true → f r = g r
def twN (ρ : Ru) (c : Cc) (w j p : Nat) : Nat := whoN ρ c (12 * w + sqN j (stN c p - 12 * w))
def BestJ (ρ : Ru) (c : Cc) (w b : Nat) : Prop := vaJ (sizeN ρ c w) b ∧ ∀ j, vaJ (sizeN ρ c w) j → smJ (dxN ρ c w) (sizeN ρ c w) b < smJ (dxN ρ c w) (sizeN ρ c w) j ∨ (smJ (dxN ρ c w) (sizeN ρ c w) b = smJ (dxN ρ c w) (sizeN ρ c w) j ∧ ¬ lexL ρ c w (twN ρ c w j) (twN ρ c w b))
def moN (ρ : Ru) (c : Cc) (b : Nat → Nat) (p : Nat) : Nat := if p < ρ.1 ∧ ¬ c p = -1 then twN ρ c (stN c p / 12) (b (stN c p / 12)) p else p
theorem lex_tr {ρ : Ru} {c : Cc} {w : Nat} {f g h : Nat → Nat} (h1 : lexL ρ c w f g) (h2 : lexL ρ c w g h) : lexL ρ c w f h := by
  obtain ⟨p, p1, p2, p3, p4⟩ := h1
  obtain ⟨q, q1, q2, q3, q4⟩ := h2
  rcases Nat.lt_trichotomy p q with hl | hl | hl
  · exact ⟨p, p1, p2, by rw [← q4 p hl p2]; exact p3, fun r a b => (p4 r a b).trans (q4 r (by omega) b)⟩
  · subst hl
    exact ⟨p, p1, p2, Nat.lt_trans p3 q3, fun r a b => (p4 r a b).trans (q4 r a b)⟩
  · exact ⟨q, q1, q2, by rw [p4 q hl q2]; exact q3, fun r a b => (p4 r (by omega) b).trans (q4 r a b)⟩
theorem sum_swap (f : Nat → Nat → Nat) (k : Nat) : ∀ n, sumN (fun w => sumN (fun p => f w p) n) k = sumN (fun p => sumN (fun w => f w p) k) n
  | 0 => by
    have : ∀ k, sumN (fun _ => 0) k = 0 := fun k => by
      induction k with
      | zero => rfl
      | succ k ih => rw [sumN, ih]
    exact this k
  | n + 1 => by
    rw [sumN, ← sum_swap f k n, ← sum_add]; rfl
theorem sum_one {v a : Nat} : ∀ {k : Nat}, sumN (fun w => if decide (v = w) = true then a else 0) k = if v < k then a else 0
  | 0 => by rw [if_neg (by omega)]; rfl
  | k + 1 => by
    rw [sumN, sum_one (k := k)]
    simp only [decide_eq_true_eq]
    split <;> split <;> split <;> omega
section BEST
variable {ρ : Ru} {c : Cc} {m b : Nat → Nat} {w p q : Nat}
theorem sum_dec (hO : Ok ρ c) (g : Nat → Nat) : sumN g ρ.1 = sumN (fun p => if c p = -1 then g p else 0) ρ.1 + sumN (fun w => sumN (fun p => if inW c w p = true then g p else 0) ρ.1) 12 := by
  rw [sum_swap, ← sum_add]
  refine sum_congr (fun p hp => ?_)
  rcases hO.v p hp with h | ⟨s, s1, s2⟩
  · have z : ∀ k, sumN (fun w => if inW c w p = true then g p else 0) k = 0 := fun k => by
      induction k with
      | zero => rfl
      | succ k ih => rw [sumN, ih, inW_no h]; rfl
    rw [if_pos h, z]; rfl
  · have e : sumN (fun w => if inW c w p = true then g p else 0) 12 = sumN (fun w => if decide (s / 12 = w) = true then g p else 0) 12 := sum_congr (fun w hw => by
      rw [inW_s s1 (by omega) s2])
    rw [if_neg (by rw [s2]; exact nI_ne1 (by omega)), e, sum_one, if_pos (by omega), Nat.zero_add]
theorem cst_dec (hO : Ok ρ c) : coN ρ.1 (dsC c) (FN ρ.1) m = sumN (fun p => if c p = -1 then csN (dsC c) p (m p) else 0) ρ.1 + sumN (fun w => cwN ρ c m w) 12 := by
  have e : coN ρ.1 (dsC c) (FN ρ.1) m = sumN (fun p => csN (dsC c) p (m p)) ρ.1 := sum_congr (fun p hp => by
    show (if decide (p < ρ.1) = true then _ else 0) = _
    rw [decide_eq_true hp]; rfl)
  rw [e]
  exact sum_dec hO (fun p => csN (dsC c) p (m p))
theorem seat_of (hO : Ok ρ c) (hp : p < ρ.1) (h : ¬ c p = -1) : ∃ w x, w < 12 ∧ x < sizeN ρ c w ∧ c p = nI (12 * w + x) ∧ p = whoN ρ c (12 * w + x) ∧ stN c p = 12 * w + x ∧ stN c p / 12 = w ∧ x < 12 := by
  rcases hO.1 p hp with z | ⟨w, x, z1, z2, z3⟩
  · exact absurd z h
  · have h4 := hO.2.2.2.1 w z1
    have e : stN c p = 12 * w + x := by unfold stN; rw [z3, nI_clamp (by omega)]
    exact ⟨w, x, z1, z2, z3, (who_at hO hp (by omega) z3).symm, e, by omega, by omega⟩
theorem tw_seat (hO : Ok ρ c) (hw : w < 12) {x j : Nat} (hx : x < sizeN ρ c w) : twN ρ c w j (whoN ρ c (12 * w + x)) = whoN ρ c (12 * w + sqN j x) := by
  have h4 := hO.2.2.2.1 w hw
  obtain ⟨g1, g2⟩ := who_ex hO hw hx
  unfold twN stN
  rw [g2, nI_clamp (by omega), show 12 * w + x - 12 * w = x by omega]
theorem mo_seat (hO : Ok ρ c) (hw : w < 12) {x : Nat} (hx : x < sizeN ρ c w) : moN ρ c b (whoN ρ c (12 * w + x)) = whoN ρ c (12 * w + sqN (b w) x) := by
  have h4 := hO.2.2.2.1 w hw
  obtain ⟨g1, g2⟩ := who_ex hO hw hx
  have e : stN c (whoN ρ c (12 * w + x)) / 12 = w := by unfold stN; rw [g2, nI_clamp (by omega)]; omega
  unfold moN
  rw [if_pos ⟨g1, by rw [g2]; exact nI_ne1 (by omega)⟩, e]
  exact tw_seat hO hw hx
theorem mo_MT (hO : Ok ρ c) (hb : ∀ w, w < 12 → vaJ (sizeN ρ c w) (b w)) : MT (adC ρ c) (FN ρ.1) (moN ρ c b) := by
  refine ⟨fun p => ?_, fun p hp => ?_, fun p hp => ?_⟩
  · by_cases h : p < ρ.1 ∧ ¬ c p = -1
    · obtain ⟨w, x, w1, w2, w3, w4, -⟩ := seat_of hO h.1 h.2
      obtain ⟨s1, s2, -⟩ := sp_ok (hb w w1) w2
      rw [w4, mo_seat hO w1 w2, mo_seat hO w1 s1, s2]
    · have e : moN ρ c b p = p := if_neg h
      rw [e, e]
  · have hp := of_decide_eq_false hp
    exact if_neg (fun z => hp z.1)
  · by_cases h : p < ρ.1 ∧ ¬ c p = -1
    · obtain ⟨w, x, w1, w2, w3, w4, w5, w6, w7⟩ := seat_of hO h.1 h.2
      obtain ⟨s1, -, s3⟩ := sp_ok (hb w w1) w2
      have h4 := hO.2.2.2.1 w w1
      have em : moN ρ c b p = whoN ρ c (12 * w + sqN (b w) x) := by rw [w4]; exact mo_seat hO w1 w2
      obtain ⟨g1, g2⟩ := who_ex hO w1 s1
      have e2 : stN c (moN ρ c b p) = 12 * w + sqN (b w) x := by rw [em]; unfold stN; rw [g2, nI_clamp (by omega)]
      have hne : sqN (b w) x ≠ x := fun z => hp (by rw [em, z]; exact w4.symm)
      refine decide_eq_true ⟨h.1, by rw [em]; exact g1, h.2, by rw [em, g2]; exact nI_ne1 (by omega), by rw [e2, w5]; omega, by rw [e2, w5]; omega⟩
    · exact absurd (if_neg h) hp
theorem mo_cost (hO : Ok ρ c) (hb : ∀ w, w < 12 → vaJ (sizeN ρ c w) (b w)) (hw : w < 12) : cwN ρ c (moN ρ c b) w = 1000 * (sizeN ρ c w % 2) + smJ (dxN ρ c w) (sizeN ρ c w) (b w) := by
  have hM := mo_MT hO hb
  obtain ⟨e1, e2⟩ := cw_e hO hM hw
  rw [cw_seats hO hw]
  refine sp_cost (mu := muN ρ c (moN ρ c b) w) (hb w hw) (fun y hy => ?_) e1 e2
  obtain ⟨s1, -, -⟩ := sp_ok (hb w hw) hy
  have h4 := hO.2.2.2.1 w hw
  obtain ⟨g1, g2⟩ := who_ex hO hw s1
  unfold muN
  rw [mo_seat hO hw hy]
  unfold stN
  rw [g2, nI_clamp (by omega)]; omega
theorem se_lt {k j i : Nat} (hj : vaJ k j) (hi : i < k / 2) : seJ j i + 1 < k := by
  unfold vaJ at hj
  unfold seJ
  split <;> omega
theorem sm_le2 {d : Nat → Nat} {k j B : Nat} (hj : vaJ k j) (h : ∀ x, x + 1 < k → d x ≤ B) : smJ d k j ≤ B * (k / 2) := by
  unfold smJ
  have : ∀ r, r ≤ k / 2 → sumN (fun i => d (seJ j i)) r ≤ B * r := by
    intro r
    induction r with
    | zero => intro _; exact Nat.zero_le _
    | succ r ih =>
      intro hr
      rw [sumN, Nat.mul_succ]
      have := h (seJ j r) (se_lt hj (by omega))
      have := ih (by omega)
      omega
  exact this _ (Nat.le_refl _)
theorem dx_le (hG : Good ρ c) (hw : w < 12) {x : Nat} (hx : x + 1 < sizeN ρ c w) : dxN ρ c w x ≤ 29 := by
  obtain ⟨g1, -⟩ := who_ex hG.1 hw (show x < sizeN ρ c w by omega)
  obtain ⟨k1, -⟩ := who_ex hG.1 hw hx
  obtain ⟨a, a1, a2⟩ := hG.2.2.2.1 _ g1
  obtain ⟨a', b1, b2⟩ := hG.2.2.2.1 _ k1
  unfold dxN dsC agV
  rw [a2, b2, nI_clamp (by omega), nI_clamp (by omega)]; omega
theorem mt_stand (h : MT (adC ρ c) (FN ρ.1) m) (hp : c p = -1) : m p = p := by
  apply Classical.byContradiction
  intro hne
  exact (of_decide_eq_true (h.2.2 p hne)).2.2.1 hp
theorem mo_best (hG : Good ρ c) (hn : ρ.1 ≤ 12) (hb : ∀ w, w < 12 → BestJ ρ c w (b w)) : Best ρ.1 (adC ρ c) (dsC c) (FN ρ.1) (moN ρ c b) := by
  have hO := hG.1
  have hb1 : ∀ w, w < 12 → vaJ (sizeN ρ c w) (b w) := fun w hw => (hb w hw).1
  have hM := mo_MT hO hb1
  have small : ∀ w, w < 12 → smJ (dxN ρ c w) (sizeN ρ c w) (b w) ≤ 174 := fun w hw => by
    have h4 := hO.2.2.2.1 w hw
    have := sm_le2 (d := dxN ρ c w) (B := 29) (hb1 w hw) (fun x hx => dx_le hG hw hx)
    omega
  have stand : ∀ m, MT (adC ρ c) (FN ρ.1) m → sumN (fun p => if c p = -1 then csN (dsC c) p (m p) else 0) ρ.1 = sumN (fun p => if c p = -1 then csN (dsC c) p (moN ρ c b p) else 0) ρ.1 := fun m hm => sum_congr (fun p _ => by
    by_cases hc : c p = -1
    · rw [if_pos hc, if_pos hc, mt_stand hm hc, mt_stand hM hc]
    · rw [if_neg hc, if_neg hc])
  have le : ∀ m, MT (adC ρ c) (FN ρ.1) m → ∀ w, w < 12 → cwN ρ c (moN ρ c b) w ≤ cwN ρ c m w := fun m hm w hw => by
    rw [mo_cost hO hb1 hw]
    have := small w hw
    rcases cw_way hO hm hw with ⟨j, j1, -, j3⟩ | h
    · rw [j3]
      rcases (hb w hw).2 j j1 with h | ⟨h, -⟩ <;> omega
    · omega
  refine ⟨hM, fun m hm => ?_, fun m hm e p hr hlt => ?_⟩
  · rw [cst_dec hO, cst_dec hO, stand m hm]
    exact Nat.add_le_add_left (sum_le (le m hm)) _
  · rw [cst_dec hO, cst_dec hO, stand m hm] at e
    have heq := sum_eq_of (f := fun w => cwN ρ c (moN ρ c b) w) (g := fun w => cwN ρ c m w) (n := 12) (le m hm) (by omega)
    by_cases h : p < ρ.1 ∧ ¬ c p = -1
    · obtain ⟨w, x, w1, w2, w3, w4, w5, w6, w7⟩ := seat_of hO h.1 h.2
      have ew : cwN ρ c (moN ρ c b) w = cwN ρ c m w := heq w w1
      rw [mo_cost hO hb1 w1] at ew
      have := small w w1
      rcases cw_way hO hm w1 with ⟨j, j1, j2, j3⟩ | hd
      · rw [j3] at ew
        rcases (hb w w1).2 j j1 with hh | ⟨-, hh⟩
        · omega
        · apply hh
          have tm : ∀ r, r < ρ.1 → inW c w r = true → twN ρ c w j r = m r ∧ twN ρ c w (b w) r = moN ρ c b r := by
            intro r hr hi
            have hrn : ¬ c r = -1 := fun z => by rw [inW_no z] at hi; cases hi
            obtain ⟨w', x', v1, v2, v3, v4, v5, v6, v7⟩ := seat_of hO hr hrn
            rw [inW_s (by omega) (by omega) v3] at hi
            have hww : w' = w := by have := of_decide_eq_true hi; omega
            subst hww
            constructor
            · rw [v4, tw_seat hO v1 v2, j2 x' v2]
            · rw [v4, tw_seat hO v1 v2, mo_seat hO v1 v2]
          have hin : inW c w p = true := by rw [inW_s (by omega) (by omega) w3]; exact decide_eq_true (by omega)
          refine ⟨p, h.1, hin, ?_, fun r r1 r2 => ?_⟩
          · rw [(tm p h.1 hin).1, (tm p h.1 hin).2]; exact hlt
          · rw [(tm r (by omega) r2).1, (tm r (by omega) r2).2]; exact hr r r1
      · omega
    · have e1 : moN ρ c b p = p := if_neg h
      have e2 : m p = p := by
        by_cases hp : p < ρ.1
        · exact mt_stand hm (Classical.not_not.mp (fun z => h ⟨hp, z⟩))
        · exact mt_F hm hp
      rw [e1, e2] at hlt
      exact Nat.lt_irrefl _ hlt
/-- how much it costs: who is alone, how much they differ -/
def aloN (ρ : Ru) (c : Cc) : Nat := cntN (fun p => decide (c p = -1)) ρ.1 + sumN (fun w => sizeN ρ c w % 2) 12
def difN (ρ : Ru) (c : Cc) (b : Nat → Nat) : Nat := sumN (fun w => smJ (dxN ρ c w) (sizeN ρ c w) (b w)) 12
theorem sum_cnt (P : Nat → Bool) (a : Nat) : ∀ n, sumN (fun p => if P p = true then a else 0) n = a * cntN P n
  | 0 => rfl
  | n + 1 => by
    rw [sumN, cntN, sum_cnt P a n, Nat.mul_add]
    congr 1
    by_cases h : P n = true
    · rw [if_pos h, if_pos h, Nat.mul_one]
    · rw [if_neg h, if_neg h, Nat.mul_zero]
theorem sum_mul (a : Nat) (f : Nat → Nat) : ∀ n, sumN (fun w => a * f w) n = a * sumN f n
  | 0 => rfl
  | n + 1 => by rw [sumN, sumN, sum_mul a f n, Nat.mul_add]
theorem mo_val (hG : Good ρ c) (hb : ∀ w, w < 12 → vaJ (sizeN ρ c w) (b w)) : coN ρ.1 (dsC c) (FN ρ.1) (moN ρ c b) = 1000 * aloN ρ c + difN ρ c b := by
  have hO := hG.1
  have hM := mo_MT hO hb
  rw [cst_dec hO]
  have e1 : sumN (fun p => if c p = -1 then csN (dsC c) p (moN ρ c b p) else 0) ρ.1 = 1000 * cntN (fun p => decide (c p = -1)) ρ.1 := by
    rw [← sum_cnt]
    refine sum_congr (fun p _ => ?_)
    by_cases hc : c p = -1
    · rw [if_pos hc, mt_stand hM hc, decide_eq_true hc]
      have : csN (dsC c) p p = 1000 := if_pos rfl
      rw [this]; rfl
    · rw [if_neg hc, decide_eq_false hc]; rfl
  have e2 : sumN (fun w => cwN ρ c (moN ρ c b) w) 12 = 1000 * sumN (fun w => sizeN ρ c w % 2) 12 + difN ρ c b := by
    unfold difN
    rw [← sum_mul, ← sum_add]
    exact sum_congr (fun w hw => mo_cost hO hb hw)
  rw [e1, e2]
  unfold aloN
  omega
theorem dif_le (hG : Good ρ c) (hn : ρ.1 ≤ 12) (hb : ∀ w, w < 12 → vaJ (sizeN ρ c w) (b w)) : difN ρ c b ≤ 348 := by
  have hO := hG.1
  have h1 : difN ρ c b ≤ sumN (fun w => 29 * (sizeN ρ c w / 2)) 12 := sum_le (fun w hw => sm_le2 (hb w hw) (fun x hx => dx_le hG hw hx))
  have h2 : sumN (fun w => 29 * (sizeN ρ c w / 2)) 12 ≤ sumN (fun w => 29 * sizeN ρ c w) 12 := sum_le (fun w _ => by omega)
  have h3 : sumN (fun w => sizeN ρ c w) 12 ≤ ρ.1 := Nat.le_trans (tot_le c ρ.1) (cnt_le _ _)
  have h5 : sumN (fun w => 29 * sizeN ρ c w) 12 = 29 * sumN (fun w => sizeN ρ c w) 12 := sum_mul 29 (fun w => sizeN ρ c w) 12
  omega
theorem all_n (hO : Ok ρ c) : ρ.1 = aloN ρ c + 2 * sumN (fun w => sizeN ρ c w / 2) 12 := by
  have h := sum_dec hO (fun _ => 1)
  have e0 : ∀ n, sumN (fun _ => 1) n = n := fun n => by
    induction n with
    | zero => rfl
    | succ n ih => rw [sumN, ih]
  have e1 : sumN (fun p => if c p = -1 then 1 else 0) ρ.1 = cntN (fun p => decide (c p = -1)) ρ.1 := by
    have := sum_cnt (fun p => decide (c p = -1)) 1 ρ.1
    rw [Nat.one_mul] at this
    rw [← this]
    exact sum_congr (fun p _ => by simp)
  have e2 : sumN (fun w => sumN (fun p => if inW c w p = true then 1 else 0) ρ.1) 12 = sumN (fun w => sizeN ρ c w % 2) 12 + 2 * sumN (fun w => sizeN ρ c w / 2) 12 := by
    rw [← sum_mul, ← sum_add]
    refine sum_congr (fun w _ => ?_)
    have := sum_cnt (inW c w) 1 ρ.1
    rw [Nat.one_mul] at this
    show sumN (fun p => if inW c w p = true then 1 else 0) ρ.1 = sizeN ρ c w % 2 + 2 * (sizeN ρ c w / 2)
    rw [this]
    show sizeN ρ c w = _
    omega
  rw [e0, e1, e2] at h
  unfold aloN
  omega
end BEST
