/-! ===== leave ===== -/
/-- where who sat in s sits, when who sat in s0 has gone; z: the pew is empty then -/
def shN (z : Bool) (s0 s : Nat) : Nat := if z = true then (if s0 / 12 < s / 12 then s - 12 else s) else if s / 12 = s0 / 12 ∧ s0 < s then s - 1 else s
def leK (z : Bool) (c : Cc) (p s0 k : Nat) : Cc := fun q => if q = p then -1 else if q < k ∧ ¬ c q = -1 then nI (shN z s0 (c q).toNatClampNeg) else c q
def zN (ρ : Ru) (c : Cc) (s0 : Nat) : Bool := decide (sizeN ρ c (s0 / 12) = 1)
def leN (ρ : Ru) (c : Cc) (p s0 : Nat) : Cc := leK (zN ρ c s0) c p s0 12
def mvG (c : Cc) (p a t k : Nat) : Cc := fun q => if q = p then -1 else if q < 12 ∧ ¬ c q = -1 ∧ a ≤ (c q).toNatClampNeg ∧ (c q).toNatClampNeg < t then nI ((c q).toNatClampNeg - k) else c q
def szN (ρ : Ru) (c : Cc) (s0 w : Nat) : Nat := if zN ρ c s0 = true then (if w < s0 / 12 then sizeN ρ c w else sizeN ρ c (w + 1)) else if w = s0 / 12 then sizeN ρ c w - 1 else sizeN ρ c w
section LEAVE
variable {X : XS} {d u : Nat} {D D1 : DD} {J : JJ} {σ : Sg} {ρ : Ru} {c : Cc} {K P : Nat}
theorem le_k {z : Bool} {p s0 k q s : Nat} (hq : q < k) (hqp : q ≠ p) (hs : s < 144) (h : c q = nI s) : leK z c p s0 k q = nI (shN z s0 s) := by
  unfold leK
  rw [if_neg hqp, if_pos ⟨hq, by rw [h]; exact nI_ne1 (by omega)⟩, h, nI_clamp (by omega)]
theorem le_n {z : Bool} {p s0 k q : Nat} (h : c q = -1) : leK z c p s0 k q = -1 := by
  unfold leK
  by_cases hq : q = p
  · rw [if_pos hq]
  · rw [if_neg hq, if_neg (fun z => z.2 h), h]
theorem le_p {z : Bool} {p s0 k : Nat} : leK z c p s0 k p = -1 := by
  unfold leK
  rw [if_pos rfl]
theorem sz12 (hO : Ok ρ c) {w : Nat} (h1 : 12 ≤ w) (h2 : w < 2 ^ 31) : sizeN ρ c w = 0 := by
  have e : sizeN ρ c w = cntN (fun _ => false) ρ.1 := cnt_congr (fun q hq => by
    rcases hO.v q hq with h | ⟨s, s1, s2⟩
    · exact inW_no h
    · rw [inW_s s1 h2 s2]
      exact decide_eq_false (by omega))
  rw [e]
  have : ∀ n, cntN (fun _ => false) n = 0 := by
    intro n
    induction n with
    | zero => rfl
    | succ n ih => rw [cntN, ih]; rfl
  exact this _
/-- a seat that is taken by another -/
theorem le_occ (hO : Ok ρ c) {p s0 t : Nat} (hc : c p = nI s0) (h0 : s0 < 144) (ht : t < 144) (h : t % 12 < sizeN ρ c (t / 12)) (hne : t ≠ s0) : whoN ρ c t < ρ.1 ∧ whoN ρ c t ≠ p ∧ c (whoN ρ c t) = nI t := by
  have e : 12 * (t / 12) + t % 12 = t := by omega
  obtain ⟨g1, g2⟩ := who_ex hO (w := t / 12) (x := t % 12) (by omega) h
  rw [e] at g1 g2
  refine ⟨g1, fun z => ?_, g2⟩
  rw [z, hc] at g2
  exact hne (nI_inj (by omega) (by omega) g2).symm
theorem le_seat (hO : Ok ρ c) {p s0 q : Nat} (hp : p < ρ.1) (hc : c p = nI s0) (h0 : s0 < 144) (hq : q < ρ.1) (hqp : q ≠ p) (hn : ¬ c q = -1) : ∃ s, s < 144 ∧ c q = nI s ∧ s % 12 < sizeN ρ c (s / 12) ∧ s ≠ s0 := by
  rcases hO.1 q hq with h | ⟨w, x, h1, h2, h3⟩
  · exact absurd h hn
  · have h4 := hO.2.2.2.1 w h1
    refine ⟨12 * w + x, by omega, h3, by rw [show (12 * w + x) % 12 = x by omega, show (12 * w + x) / 12 = w by omega]; exact h2, fun z => ?_⟩
    exact hqp (hO.2.2.1 q p hq hp (by rw [h3, hc, z]) hn)
theorem le_own (hO : Ok ρ c) {p s0 : Nat} (hp : p < ρ.1) (hc : c p = nI s0) (h0 : s0 < 144) : s0 % 12 < sizeN ρ c (s0 / 12) := by
  rcases hO.1 p hp with h | ⟨w, x, h1, h2, h3⟩
  · rw [hc] at h; exact absurd h (nI_ne1 (by omega))
  · have h4 := hO.2.2.2.1 w h1
    have : s0 = 12 * w + x := nI_inj (by omega) (by omega) (hc.symm.trans h3)
    rw [this, show (12 * w + x) % 12 = x by omega, show (12 * w + x) / 12 = w by omega]; exact h2
/-- in an emptied pew nobody else sits -/
theorem le_alone (hO : Ok ρ c) {p s0 s : Nat} (hp : p < ρ.1) (hc : c p = nI s0) (h0 : s0 < 144) (hz : sizeN ρ c (s0 / 12) = 1) (hs : s % 12 < sizeN ρ c (s / 12)) (hne : s ≠ s0) : s / 12 ≠ s0 / 12 := by
  intro z
  have h1 := le_own hO hp hc h0
  rw [z] at hs
  omega
theorem le_size (hn : ρ.1 ≤ 12) (hO : Ok ρ c) (hb : ∀ q, ρ.1 ≤ q → q < 12 → c q = -1) {p s0 w : Nat} (hp : p < ρ.1) (hc : c p = nI s0) (h0 : s0 < 144) (hw : w < 12) : sizeN ρ (leN ρ c p s0) w = szN ρ c s0 w := by
  unfold szN
  by_cases hz : zN ρ c s0 = true
  · have hz1 : sizeN ρ c (s0 / 12) = 1 := of_decide_eq_true hz
    rw [if_pos hz]
    have key : ∀ w', w' = (if w < s0 / 12 then w else w + 1) → sizeN ρ (leN ρ c p s0) w = sizeN ρ c w' := by
      intro w' hw'
      have hb : w' < 13 := by split at hw' <;> omega
      refine cnt_congr (fun q hq => ?_)
      by_cases hqp : q = p
      · rw [hqp, inW_no (show leN ρ c p s0 p = -1 from le_p), inW_s h0 (by omega) hc]
        exact (decide_eq_false (by split at hw' <;> omega)).symm
      · by_cases hm : c q = -1
        · rw [inW_no hm, inW_no (show leN ρ c p s0 q = -1 from le_n hm)]
        · obtain ⟨s, s1, s2, s3, s4⟩ := le_seat hO hp hc h0 hq hqp hm
          have ha := le_alone hO hp hc h0 hz1 s3 s4
          have hs : shN (zN ρ c s0) s0 s < 144 := by
            unfold shN
            rw [if_pos hz]
            split <;> omega
          rw [inW_s (s := shN (zN ρ c s0) s0 s) hs (by omega) (show leN ρ c p s0 q = _ from le_k (by omega) hqp s1 s2), inW_s s1 (by omega) s2]
          unfold shN
          rw [if_pos hz]
          congr 1
          apply propext
          split at hw' <;> split <;> omega
    by_cases h : w < s0 / 12
    · rw [if_pos h]; exact key w (by rw [if_pos h])
    · rw [if_neg h]; exact key (w + 1) (by rw [if_neg h])
  · rw [if_neg hz]
    have hz0 : zN ρ c s0 = false := by cases h : zN ρ c s0 <;> simp_all
    have a1 := cnt_ch (P := inW c w) (Q := inW (leN ρ c p s0) w) (p := p) (fun q hqp => ?_) hp
    · rw [inW_no (show leN ρ c p s0 p = -1 from le_p), inW_s h0 (by omega) hc] at a1
      unfold sizeN
      by_cases hw0 : w = s0 / 12
      · rw [if_pos hw0]
        rw [decide_eq_true hw0.symm] at a1
        simp only [if_true, Bool.false_eq_true, if_false] at a1
        omega
      · rw [if_neg hw0]
        rw [decide_eq_false (fun z => hw0 z.symm)] at a1
        simpa using a1
    · by_cases hq : q < 12
      · by_cases hm : c q = -1
        · rw [inW_no hm, inW_no (show leN ρ c p s0 q = -1 from le_n hm)]
        · have hq' : q < ρ.1 := Nat.lt_of_not_le (fun z => hm (hb q z hq))
          obtain ⟨s, s1, s2, s3, s4⟩ := le_seat hO hp hc h0 hq' hqp hm
          have hs : shN (zN ρ c s0) s0 s < 144 ∧ shN (zN ρ c s0) s0 s / 12 = s / 12 := by
            unfold shN
            rw [if_neg hz]
            split <;> omega
          rw [inW_s (s := shN (zN ρ c s0) s0 s) hs.1 (by omega) (show leN ρ c p s0 q = _ from le_k (by omega) hqp s1 s2), inW_s s1 (by omega) s2, hs.2]
      · unfold inW leN leK
        rw [if_neg hqp, if_neg (fun z => hq z.1)]
/-- where who sits in s came from -/
theorem le_src (hO : Ok ρ c) {p s0 w x : Nat} (hp : p < ρ.1) (hc : c p = nI s0) (h0 : s0 < 144) (hw : w < 12) (hx : x < szN ρ c s0 w) : ∃ t, t < 144 ∧ t % 12 < sizeN ρ c (t / 12) ∧ t ≠ s0 ∧ shN (zN ρ c s0) s0 t = 12 * w + x ∧ ((zN ρ c s0 = true ∧ w < s0 / 12 ∧ t = 12 * w + x) ∨ (zN ρ c s0 = true ∧ s0 / 12 ≤ w ∧ t = 12 * w + x + 12) ∨ (zN ρ c s0 = false ∧ w = s0 / 12 ∧ s0 ≤ 12 * w + x ∧ t = 12 * w + x + 1) ∨ (zN ρ c s0 = false ∧ ¬ (w = s0 / 12 ∧ s0 ≤ 12 * w + x) ∧ t = 12 * w + x)) := by
  have h4 := hO.2.2.2.1
  have hown := le_own hO hp hc h0
  have h12 := sz12 hO (w := 12) (by omega) (by omega)
  unfold szN at hx
  by_cases hz : zN ρ c s0 = true
  · have hz1 : sizeN ρ c (s0 / 12) = 1 := of_decide_eq_true hz
    rw [if_pos hz] at hx
    by_cases h : w < s0 / 12
    · rw [if_pos h] at hx
      have := h4 w hw
      have e1 : (12 * w + x) / 12 = w := by omega
      have e2 : (12 * w + x) % 12 = x := by omega
      refine ⟨12 * w + x, by omega, by rw [e1, e2]; exact hx, by omega, ?_, Or.inl ⟨hz, h, rfl⟩⟩
      unfold shN
      rw [if_pos hz, if_neg (by omega)]
    · rw [if_neg h] at hx
      have hw1 : w + 1 < 12 := Nat.lt_of_not_le (fun z => by
        rw [show w + 1 = 12 by omega, h12] at hx
        omega)
      have := h4 (w + 1) hw1
      have e1 : (12 * w + x + 12) / 12 = w + 1 := by omega
      have e2 : (12 * w + x + 12) % 12 = x := by omega
      refine ⟨12 * w + x + 12, by omega, by rw [e1, e2]; exact hx, by omega, ?_, Or.inr (Or.inl ⟨hz, by omega, rfl⟩)⟩
      unfold shN
      rw [if_pos hz, if_pos (by omega)]; omega
  · rw [if_neg hz] at hx
    have hz0 : zN ρ c s0 = false := by cases h : zN ρ c s0 <;> simp_all
    by_cases h : w = s0 / 12 ∧ s0 ≤ 12 * w + x
    · rw [if_pos h.1] at hx
      have := h4 w hw
      have e1 : (12 * w + x + 1) / 12 = w := by omega
      have e2 : (12 * w + x + 1) % 12 = x + 1 := by omega
      refine ⟨12 * w + x + 1, by omega, by rw [e1, e2]; omega, by omega, ?_, Or.inr (Or.inr (Or.inl ⟨hz0, h.1, h.2, rfl⟩))⟩
      unfold shN
      rw [if_neg hz, if_pos (by omega)]; omega
    · have hx' : x < sizeN ρ c w := by split at hx <;> omega
      have := h4 w hw
      have e1 : (12 * w + x) / 12 = w := by omega
      have e2 : (12 * w + x) % 12 = x := by omega
      refine ⟨12 * w + x, by omega, by rw [e1, e2]; exact hx', fun z => ?_, ?_, Or.inr (Or.inr (Or.inr ⟨hz0, h, rfl⟩))⟩
      · exact h ⟨by omega, by omega⟩
      · unfold shN
        rw [if_neg hz, if_neg (fun z => h ⟨by omega, by omega⟩)]
theorem ok_le (hn : ρ.1 ≤ 12) (hO : Ok ρ c) (hb : ∀ q, ρ.1 ≤ q → q < 12 → c q = -1) {p s0 : Nat} (hp : p < ρ.1) (hc : c p = nI s0) (h0 : s0 < 144) : Ok ρ (leN ρ c p s0) := by
  have h4 := hO.2.2.2.1
  have h5 := hO.2.2.2.2
  have hown := le_own hO hp hc h0
  have h12 := sz12 hO (w := 12) (by omega) (by omega)
  have hsz : ∀ w, w < 12 → sizeN ρ (leN ρ c p s0) w = szN ρ c s0 w := fun w hw => le_size hn hO hb hp hc h0 hw
  have hse : ∀ q, q < ρ.1 → leN ρ c p s0 q = -1 ∨ ∃ s, s < 144 ∧ q ≠ p ∧ c q = nI s ∧ s % 12 < sizeN ρ c (s / 12) ∧ s ≠ s0 ∧ shN (zN ρ c s0) s0 s < 144 ∧ leN ρ c p s0 q = nI (shN (zN ρ c s0) s0 s) := by
    intro q hq
    by_cases hqp : q = p
    · exact Or.inl (by rw [hqp]; exact le_p)
    · by_cases hm : c q = -1
      · exact Or.inl (le_n hm)
      · obtain ⟨s, s1, s2, s3, s4⟩ := le_seat hO hp hc h0 hq hqp hm
        refine Or.inr ⟨s, s1, hqp, s2, s3, s4, ?_, le_k (by omega) hqp s1 s2⟩
        unfold shN
        split <;> split <;> omega
  refine ⟨fun q hq => ?_, fun w x hw hx => ?_, fun q r hq hr e hne => ?_, fun w hw => ?_, fun w hw h => ?_⟩
  · rcases hse q hq with h | ⟨s, s1, -, -, s4, s5, s6, s7⟩
    · exact Or.inl h
    · refine Or.inr ⟨shN (zN ρ c s0) s0 s / 12, shN (zN ρ c s0) s0 s % 12, by omega, ?_, by rw [s7]; congr 1; omega⟩
      rw [hsz _ (by omega)]
      by_cases hz : zN ρ c s0 = true
      · have ha := le_alone hO hp hc h0 (of_decide_eq_true hz) s4 s5
        unfold szN
        rw [if_pos hz]
        unfold shN
        rw [if_pos hz]
        by_cases hl : s0 / 12 < s / 12
        · rw [if_pos hl, if_neg (by omega), show (s - 12) / 12 + 1 = s / 12 by omega]; omega
        · rw [if_neg hl, if_pos (by omega)]; exact s4
      · unfold szN
        rw [if_neg hz]
        unfold shN
        rw [if_neg hz]
        by_cases hl : s / 12 = s0 / 12 ∧ s0 < s
        · rw [if_pos hl, show (s - 1) / 12 = s / 12 by omega, if_pos hl.1]; omega
        · rw [if_neg hl]
          by_cases h6 : s / 12 = s0 / 12
          · rw [if_pos h6]
            rw [h6] at s4 ⊢
            omega
          · rw [if_neg h6]; exact s4
  · rw [hsz w hw] at hx
    obtain ⟨t, t1, t2, t3, t4, -⟩ := le_src hO hp hc h0 hw hx
    obtain ⟨o1, o2, o3⟩ := le_occ hO hc h0 t1 t2 t3
    exact ⟨whoN ρ c t, o1, by rw [← t4]; exact le_k (by omega) o2 t1 o3⟩
  · rcases hse q hq with h | ⟨s, s1, s2, s3, s4, s5, s6, s7⟩
    · exact absurd h hne
    · rcases hse r hr with h | ⟨t, t1, t2, t3, t4, t5, t6, t7⟩
      · exact absurd (e.trans h) hne
      · rw [s7, t7] at e
        have e := nI_inj (by omega) (by omega) e
        have hst : s = t := by
          by_cases hz : zN ρ c s0 = true
          · have ha := le_alone hO hp hc h0 (of_decide_eq_true hz) s4 s5
            have hb := le_alone hO hp hc h0 (of_decide_eq_true hz) t4 t5
            unfold shN at e
            rw [if_pos hz, if_pos hz] at e
            split at e <;> split at e <;> omega
          · unfold shN at e
            rw [if_neg hz, if_neg hz] at e
            split at e <;> split at e <;> omega
        exact hO.2.2.1 q r hq hr (by rw [s3, t3, hst]) (by rw [s3]; exact nI_ne1 (by omega))
  · rw [hsz w hw]
    unfold szN
    have := h4 w hw
    by_cases hw1 : w + 1 < 12
    · have := h4 (w + 1) hw1
      split <;> split <;> omega
    · rw [show w + 1 = 12 by omega, h12]
      split <;> split <;> omega
  · rw [hsz w (by omega)] at h
    rw [hsz (w + 1) hw]
    have a1 := h5 w hw
    unfold szN at h ⊢
    by_cases hz : zN ρ c s0 = true
    · rw [if_pos hz] at h ⊢
      have hz1 : sizeN ρ c (s0 / 12) = 1 := of_decide_eq_true hz
      by_cases hw2 : w + 1 + 1 < 12
      · have a2 := h5 (w + 1) hw2
        split at h
        · split
          · exact a1 h
          · exact a2 (a1 h)
        · rw [if_neg (by omega)]; exact a2 h
      · rw [show w + 1 + 1 = 12 by omega, h12]
        split
        · split at h
          · exact a1 h
          · omega
        · rfl
    · rw [if_neg hz] at h ⊢
      have hz1 : ¬ sizeN ρ c (s0 / 12) = 1 := fun z => hz (decide_eq_true z)
      by_cases hw0 : w = s0 / 12
      · rw [if_pos hw0, hw0] at h
        omega
      · rw [if_neg hw0] at h
        have := a1 h
        split <;> omega
theorem le_good (hn : ρ.1 ≤ 12) (hG : Good ρ c) {p s0 : Nat} (hp : p < ρ.1) (hc : c p = nI s0) (h0 : s0 < 144) : Good ρ (leN ρ c p s0) :=
  hG.of (ok_le hn hG.1 (fun q q1 q2 => (hG.2.2.1 q q1 q2).1) hp hc h0) (fun i hi => by
    unfold leN leK
    rw [if_neg (by omega), if_neg (fun z => by omega)]) (fun q q1 q2 => ⟨by
    unfold leN leK
    rw [if_neg (by omega), if_neg (fun z => z.2 (hG.2.2.1 q q1 q2).1)], by
    unfold leN leK
    rw [if_neg (by omega), if_neg (fun z => by omega)], by
    unfold leN leK
    rw [if_neg (by omega), if_neg (fun z => by omega)]⟩) hn
theorem rep_of {c' : Cc} {row fil : Nat → Int32} (hO : Ok ρ c') (h1 : ∀ w, w < 12 → fil w = nI (sizeN ρ c' w)) (h2 : ∀ w x, w < 12 → x < sizeN ρ c' w → ∃ o, o < ρ.1 ∧ c' o = nI (12 * w + x) ∧ row (12 * w + x) = nI o) : Rep ρ c' row fil := by
  refine ⟨h1, fun w x hw hx => ?_⟩
  obtain ⟨o, o1, o2, o3⟩ := h2 w x hw hx
  rw [who_at hO o1 (hO.lt hw hx) o2]; exact o3
/-! the class -/
theorem mv_step {p a t k o : Nat} (hv : ∀ q, q < 12 → c q = -1 ∨ ∃ s, s < 144 ∧ c q = nI s) (ho : o < 12) (hop : o ≠ p) (hc : c o = nI t) (ht : t < 144) (ha : a ≤ t) (hi : ∀ q, q < 12 → c q = nI t → q = o) : upd (mvG c p a t k) o (nI (t - k)) = mvG c p a (t + 1) k := by
  funext q
  by_cases hq : q = o
  · subst hq
    rw [upd_at]
    unfold mvG
    rw [if_neg hop, if_pos ⟨ho, by rw [hc]; exact nI_ne1 (by omega), by rw [hc, nI_clamp (by omega)]; omega⟩, hc, nI_clamp (by omega)]
  · rw [upd_ne hq]
    unfold mvG
    by_cases hqp : q = p
    · rw [if_pos hqp, if_pos hqp]
    · rw [if_neg hqp, if_neg hqp]
      by_cases h : q < 12 ∧ ¬ c q = -1 ∧ a ≤ (c q).toNatClampNeg ∧ (c q).toNatClampNeg < t
      · rw [if_pos h, if_pos ⟨h.1, h.2.1, h.2.2.1, by omega⟩]
      · rw [if_neg h]
        by_cases h2 : q < 12 ∧ ¬ c q = -1 ∧ a ≤ (c q).toNatClampNeg ∧ (c q).toNatClampNeg < t + 1
        · exfalso
          have he : (c q).toNatClampNeg = t := by
            have : ¬ (c q).toNatClampNeg < t := fun z => h ⟨h2.1, h2.2.1, h2.2.2.1, z⟩
            omega
          refine hq (hi q h2.1 ?_)
          rcases hv q h2.1 with z | ⟨s, z1, z2⟩
          · exact absurd z h2.2.1
          · rw [z2, nI_clamp (by omega)] at he
            rw [z2, he]
        · rw [if_neg h2]
theorem mv_skip {p a k : Nat} : ∀ {t t' : Nat}, t ≤ t' → (∀ q, q < 12 → c q = -1 ∨ ∃ s, s < 144 ∧ c q = nI s ∧ (s < t ∨ t' ≤ s)) → mvG c p a t k = mvG c p a t' k := by
  intro t t' ht hv
  funext q
  unfold mvG
  by_cases hqp : q = p
  · rw [if_pos hqp, if_pos hqp]
  · rw [if_neg hqp, if_neg hqp]
    by_cases h : q < 12 ∧ ¬ c q = -1 ∧ a ≤ (c q).toNatClampNeg ∧ (c q).toNatClampNeg < t
    · rw [if_pos h, if_pos ⟨h.1, h.2.1, h.2.2.1, by omega⟩]
    · rw [if_neg h, if_neg]
      intro h2
      rcases hv q h2.1 with z | ⟨s, z1, z2, z3⟩
      · exact h2.2.1 z
      · rw [z2, nI_clamp (by omega)] at h2
        rw [z2, nI_clamp (by omega)] at h
        exact h ⟨h2.1, h2.2.1, h2.2.2.1, by omega⟩
theorem mv_0 {p a k : Nat} : upd c p (-1) = mvG c p a a k := by
  funext q
  unfold mvG upd
  by_cases hqp : q = p
  · rw [if_pos hqp, if_pos hqp]
  · rw [if_neg hqp, if_neg hqp, if_neg (fun z => by omega)]
/-- the rows, when those from a on to t have gone k seats -/
def RoG (ρ : Ru) (c : Cc) (a t k : Nat) (r r' : Nat → Int32) : Prop := ∀ s, (a ≤ s + k → s + k < t → (s + k) % 12 < sizeN ρ c ((s + k) / 12) → r' s = nI (whoN ρ c (s + k))) ∧ (s + k < a ∨ t ≤ s + k → r' s = r s)
theorem ro_0 {a k : Nat} {r : Nat → Int32} : RoG ρ c a a k r r := fun s => ⟨fun h1 h2 => by omega, fun _ => rfl⟩
theorem ro_step {a t k : Nat} {r r' : Nat → Int32} (h : RoG ρ c a t k r r') (hk : k ≤ t) (ha : a ≤ t) : RoG ρ c a (t + 1) k r (upd r' (t - k) (nI (whoN ρ c t))) := by
  intro s
  refine ⟨fun h1 h2 h3 => ?_, fun h1 => ?_⟩
  · by_cases hs : s = t - k
    · rw [hs, upd_at, show t - k + k = t by omega]
    · rw [upd_ne hs]; exact (h s).1 h1 (by omega) h3
  · rw [upd_ne (by omega)]; exact (h s).2 (by omega)
theorem ro_skip {a t t' k : Nat} {r r' : Nat → Int32} (h : RoG ρ c a t k r r') (ht : t ≤ t') (he : ∀ s, t ≤ s → s < t' → ¬ s % 12 < sizeN ρ c (s / 12)) : RoG ρ c a t' k r r' := by
  intro s
  refine ⟨fun h1 h2 h3 => (h s).1 h1 (Nat.lt_of_not_le (fun z => he _ z h2 h3)) h3, fun h1 => (h s).2 (by omega)⟩
theorem ro_t {a t k s : Nat} {r r' : Nat → Int32} (h : RoG ρ c a t k r r') (hs : t ≤ s + k) : r' s = r s := (h s).2 (Or.inr hs)
theorem good_v (hG : Good ρ c) : ∀ q, q < 12 → c q = -1 ∨ ∃ s, s < 144 ∧ c q = nI s := fun q hq => by
  by_cases h : q < ρ.1
  · exact hG.1.v q h
  · exact Or.inl (hG.2.2.1 q (by omega) hq).1
theorem good_i (hG : Good ρ c) {o t : Nat} (ho : o < ρ.1) (ht : t < 144) (hc : c o = nI t) : ∀ q, q < 12 → c q = nI t → q = o := fun q hq h => by
  by_cases hq2 : q < ρ.1
  · exact hG.1.2.2.1 q o hq2 ho (h.trans hc.symm) (by rw [h]; exact nI_ne1 (by omega))
  · rw [(hG.2.2.1 q (by omega) hq).1] at h
    exact absurd h.symm (nI_ne1 (by omega))
/-- who sits in the pews behind an empty one comes up -/
theorem s_cub {p w0 : Nat} (hP : isP P) (hn : ρ.1 ≤ 12) (hG : Good ρ c) (hp : p < ρ.1) (hw0 : w0 < 12) (hc : c p = nI (12 * w0)) (h1 : D (P + 1) = upd c p (-1)) (hr : ∀ w x, w < 12 → x < sizeN ρ c w → D (P + 2) (12 * w + x) = nI (whoN ρ c (12 * w + x))) (hf : ∀ w, w < 12 → w ≠ w0 → D (P + 3) w = nI (sizeN ρ c w)) : Wp (EvM X (d + 1) 44 [.ref P, .int (nI w0)] (hS u D J)) (RV u J (fun D' => D' (P + 1) = mvG c p (12 * (w0 + 1)) 144 12 ∧ RoG ρ c (12 * (w0 + 1)) 144 12 (D (P + 2)) (D' (P + 2)) ∧ (∀ w, w < 12 → D' (P + 3) w = nI (if w < w0 then sizeN ρ c w else sizeN ρ c (w + 1))) ∧ ∀ q, q ≠ P + 1 → q ≠ P + 2 → q ≠ P + 3 → D' q = D q)) := by
  have hO := hG.1
  have h4 := hO.2.2.2.1
  have hv := good_v hG
  refine wp_eq (e44_0 hP _) ?_
  rw [nI_1]
  refine wp_loop (R := fun v (D2 : DD) => Ev X (d + 1) 44 (4, [.ref P, .int (nI w0), .int (nI v), .null], [], hS u D2 J)) (fun v (D2 : DD) => w0 + 1 ≤ v ∧ D2 (P + 1) = mvG c p (12 * (w0 + 1)) (12 * v) 12 ∧ RoG ρ c (12 * (w0 + 1)) (12 * v) 12 (D (P + 2)) (D2 (P + 2)) ∧ (∀ w, w0 ≤ w → w + 1 < v → D2 (P + 3) w = nI (sizeN ρ c (w + 1))) ∧ (∀ w, w < 12 → w < w0 ∨ v ≤ w → D2 (P + 3) w = nI (sizeN ρ c w)) ∧ ∀ q, q ≠ P + 1 → q ≠ P + 2 → q ≠ P + 3 → D2 q = D q) 12 ?_ ?_ (w0 + 1) D (by omega) ⟨Nat.le_refl _, by rw [h1]; exact mv_0, ro_0, fun w a1 a2 => by omega, fun w a1 a2 => hf w a1 (by omega), fun _ _ _ _ => rfl⟩
  · intro v D2 hv12 ⟨i0, i1, i2, i3, i4, i5⟩ ih
    refine wp_eq (e44_4 hP _ _) (wp_f (nI_ge (b := 12) hv12 (by decide)) ?_)
    have ev : nI v - 1 = nI (v - 1) := nI_sub (b := 1) (by omega)
    rw [ev, nI_clamp (by omega), nI_clamp (by omega), i4 v hv12 (Or.inr (Nat.le_refl _))]
    refine oG (by omega) (by decide) (oG (by omega) (by decide) ?_)
    have h4v := h4 v hv12
    refine wp_loop (R := fun x (D3 : DD) => Ev X (d + 1) 44 (19, [.ref P, .int (nI w0), .int (nI v), .int (nI x)], [], hS u D3 J)) (fun x (D3 : DD) => D3 (P + 1) = mvG c p (12 * (w0 + 1)) (12 * v + x) 12 ∧ RoG ρ c (12 * (w0 + 1)) (12 * v + x) 12 (D (P + 2)) (D3 (P + 2)) ∧ (∀ w, D3 (P + 3) w = ud D2 (P + 3) (v - 1) (nI (sizeN ρ c v)) (P + 3) w) ∧ ∀ q, q ≠ P + 1 → q ≠ P + 2 → q ≠ P + 3 → D3 q = D q) (sizeN ρ c v) ?_ ?_ 0 _ (Nat.zero_le _) ⟨by rw [ud_q (by omega)]; exact i1, by rw [ud_q (by omega)]; exact i2, fun _ => rfl, fun q q1 q2 q3 => by rw [ud_q q3]; exact i5 q q1 q2 q3⟩
    · intro x D3 hx ⟨j1, j2, j3, j4⟩ ih3
      refine wp_eq (e44_19 hP _ _ _) ?_
      have e1 : D3 (P + 3) v = nI (sizeN ρ c v) := by rw [j3 v, ud_k (by omega)]; exact i4 v hv12 (Or.inr (Nat.le_refl _))
      have es : D3 (P + 2) (12 * v + x) = nI (whoN ρ c (12 * v + x)) := by rw [ro_t j2 (by omega)]; exact hr v x hv12 hx
      have e3 : nI (v - 1) * 12 + nI x = nI (12 * v + x - 12) := by rw [lw]; congr 1; omega
      obtain ⟨o1, o2⟩ := who_ex hO hv12 hx
      have hop : whoN ρ c (12 * v + x) ≠ p := fun z => by
        rw [z, hc] at o2
        have := nI_inj (by omega) (by omega) o2
        omega
      rw [nI_clamp (show v < 2 ^ 31 by omega), e1, ev, e3, lw, nI_clamp (show 12 * v + x < 2 ^ 31 by omega), es]
      refine oG (by omega) (by decide) (wp_f (nI_ge hx (by omega)) (oG (by omega) (by decide) ?_))
      refine wp_vE (s_place hP (show whoN ρ c (12 * v + x) < 12 by omega) (show 12 * v + x - 12 < 144 by omega)) ?_
      refine wp_eq (e44_42 hP _ _ _) ?_
      rw [nI_1]
      refine ih3 _ ⟨?_, ?_, fun w => by rw [ud_q (by omega), ud_q (by omega)]; exact j3 w, fun q q1 q2 q3 => by rw [ud_q q2, ud_q q1]; exact j4 q q1 q2 q3⟩
      · rw [ud_q (by omega), ud_row, j1]
        exact mv_step hv (by omega) hop o2 (by omega) (by omega) (good_i hG o1 (by omega) o2)
      · rw [ud_row, ud_q (by omega)]
        exact ro_step (t := 12 * v + x) j2 (by omega) (by omega)
    · intro D3 ⟨j1, j2, j3, j4⟩
      refine wp_eq (e44_19 hP _ _ _) ?_
      have e1 : D3 (P + 3) v = nI (sizeN ρ c v) := by rw [j3 v, ud_k (by omega)]; exact i4 v hv12 (Or.inr (Nat.le_refl _))
      rw [nI_clamp (show v < 2 ^ 31 by omega), e1]
      refine oG (by omega) (by decide) (wp_t (nI_le (Nat.le_refl _) (by omega)) ?_)
      refine wp_weak (ls := [.ref P, .int (nI w0), .int (nI v + 1), .null]) (by simp [lle, lng]) ?_
      rw [nI_1]
      have hno : ∀ s, 12 * v + sizeN ρ c v ≤ s → s < 12 * (v + 1) → ¬ s % 12 < sizeN ρ c (s / 12) := by
        intro s s1 s2 s3
        rw [show s / 12 = v by omega] at s3
        omega
      refine ih D3 ⟨by omega, ?_, ro_skip j2 (by omega) hno, fun w w1 w2 => ?_, fun w w1 w2 => ?_, j4⟩
      · rw [j1]
        refine mv_skip (by omega) (fun q hq => ?_)
        by_cases hq2 : q < ρ.1
        · rcases hO.1 q hq2 with z | ⟨w, x, z1, z2, z3⟩
          · exact Or.inl z
          · have h4w := h4 w z1
            refine Or.inr ⟨12 * w + x, by omega, z3, ?_⟩
            by_cases hwv : w = v
            · subst hwv; omega
            · omega
        · exact Or.inl (hG.2.2.1 q (by omega) hq).1
      · rw [j3 w]
        by_cases hwv : w = v - 1
        · rw [hwv, ud_at, show v - 1 + 1 = v by omega]
        · rw [ud_k hwv]; exact i3 w w1 (by omega)
      · rw [j3 w, ud_k (by omega)]; exact i4 w w1 (by omega)
  · intro D2 ⟨i0, i1, i2, i3, i4, i5⟩
    refine wp_eq (e44_4 hP _ _) (wp_t (nI_le (a := 12) (Nat.le_refl _) (by decide)) (wp_rV ⟨by rw [ud_q (by omega)]; exact i1, by rw [ud_q (by omega)]; exact i2, fun w hw => ?_, fun q q1 q2 q3 => by rw [ud_q q3]; exact i5 q q1 q2 q3⟩))
    by_cases hw11 : w = 11
    · subst hw11
      rw [ud_at, if_neg (by omega), sz12 hO (by omega) (by omega)]; rfl
    · rw [ud_k hw11]
      by_cases hlt : w < w0
      · rw [if_pos hlt]; exact i4 w hw (Or.inl hlt)
      · rw [if_neg hlt]; exact i3 w (by omega) (by omega)
theorem s_getUp {p s0 : Nat} (hP : isP P) (hn : ρ.1 ≤ 12) (hG : Good ρ c) (hp : p < ρ.1) (hc : c p = nI s0) (h0 : s0 < 144) (hW : PewsC P ρ c D) : Wp (EvM X (d + 2) 43 [.ref P, .int (nI p)] (hS u D J)) (RV u J (fun D' => PewsC P ρ (leN ρ c p s0) D' ∧ ∀ q, q ≠ P + 1 → q ≠ P + 2 → q ≠ P + 3 → D' q = D q)) := by
  have hO := hG.1
  have h4 := hO.2.2.2.1
  have hv := good_v hG
  have hb : ∀ q, ρ.1 ≤ q → q < 12 → c q = -1 := fun q q1 q2 => (hG.2.2.1 q q1 q2).1
  have hown := le_own hO hp hc h0
  obtain ⟨w1, w2, w3⟩ := hW
  have hw0 : s0 / 12 < 12 := by omega
  have h4w := h4 (s0 / 12) hw0
  have hok := ok_le hn hO hb hp hc h0
  have hsz : ∀ w, w < 12 → sizeN ρ (leN ρ c p s0) w = szN ρ c s0 w := fun w hw => le_size hn hO hb hp hc h0 hw
  -- whom the seats hold
  have who : ∀ t, t < 144 → t % 12 < sizeN ρ c (t / 12) → t ≠ s0 → leN ρ c p s0 (whoN ρ c t) = nI (shN (zN ρ c s0) s0 t) ∧ whoN ρ c t < ρ.1 := fun t t1 t2 t3 => by
    obtain ⟨o1, o2, o3⟩ := le_occ hO hc h0 t1 t2 t3
    exact ⟨le_k (by omega) o2 t1 o3, o1⟩
  refine wp_eq (e43_0 hP _) ?_
  have e12 : c p / 12 = nI (s0 / 12) := by rw [hc]; exact (n144 s0 h0).1
  rw [la, nI_clamp (by omega), Nat.zero_add, w1, e12, hc, nI_1]
  refine oG (by omega) (by decide) (oG (by omega) (by decide) ?_)
  refine wp_loop (R := fun t (D2 : DD) => Ev X (d + 2) 43 (22, [.ref P, .int (nI p), .int (nI s0), .int (nI (s0 / 12)), .int (nI t)], [], hS u D2 J)) (fun t (D2 : DD) => s0 + 1 ≤ t ∧ D2 (P + 1) = mvG c p (s0 + 1) t 1 ∧ RoG ρ c (s0 + 1) t 1 (D (P + 2)) (D2 (P + 2)) ∧ ∀ q, q ≠ P + 1 → q ≠ P + 2 → D2 q = D q) (12 * (s0 / 12) + sizeN ρ c (s0 / 12)) ?_ ?_ (s0 + 1) _ (by omega) ⟨Nat.le_refl _, by rw [ud_row, w1]; exact mv_0, by rw [ud_q (by omega)]; exact ro_0, fun q q1 q2 => ud_q q1⟩
  · intro t D2 ht ⟨i0, i1, i2, i3⟩ ih
    refine wp_eq (e43_22 hP _ _ _ _) ?_
    have e1 : D2 (P + 3) (s0 / 12) = nI (sizeN ρ c (s0 / 12)) := by rw [i3 _ (by omega) (by omega)]; exact w2 _ hw0
    have ht2 : t % 12 < sizeN ρ c (t / 12) := by rw [show t / 12 = s0 / 12 by omega]; omega
    have es : D2 (P + 2) t = nI (whoN ρ c t) := by
      rw [ro_t i2 (by omega)]
      have := w3 (t / 12) (t % 12) (by omega) ht2
      rw [show 12 * (t / 12) + t % 12 = t by omega] at this
      exact this
    obtain ⟨o1, o2, o3⟩ := le_occ hO hc h0 (show t < 144 by omega) ht2 (by omega)
    have et : nI t - 1 = nI (t - 1) := nI_sub (b := 1) (by omega)
    rw [nI_clamp (show s0 / 12 < 2 ^ 31 by omega), e1, lw, nI_clamp (show t < 2 ^ 31 by omega), es, et]
    refine oG (by omega) (by decide) (wp_f (nI_ge ht (by omega)) (oG (by omega) (by decide) ?_))
    refine wp_vE (s_place hP (show whoN ρ c t < 12 by omega) (show t - 1 < 144 by omega)) ?_
    refine wp_eq (e43_41 hP _ _ _ _) ?_
    rw [nI_1]
    refine ih _ ⟨by omega, ?_, ?_, fun q q1 q2 => by rw [ud_q q2, ud_q q1]; exact i3 q q1 q2⟩
    · rw [ud_q (by omega), ud_row, i1]
      exact mv_step hv (by omega) o2 o3 (by omega) (by omega) (good_i hG o1 (by omega) o3)
    · rw [ud_row, ud_q (by omega)]
      exact ro_step i2 (by omega) (by omega)
  · intro D2 ⟨i0, i1, i2, i3⟩
    refine wp_eq (e43_22 hP _ _ _ _) ?_
    have e1 : D2 (P + 3) (s0 / 12) = nI (sizeN ρ c (s0 / 12)) := by rw [i3 _ (by omega) (by omega)]; exact w2 _ hw0
    have ez : nI (sizeN ρ c (s0 / 12)) - 1 = nI (sizeN ρ c (s0 / 12) - 1) := nI_sub (b := 1) (by omega)
    rw [nI_clamp (show s0 / 12 < 2 ^ 31 by omega), e1, lw, ud_at, ez]
    refine oG (by omega) (by decide) (wp_t (nI_le (Nat.le_refl _) (by omega)) (oG (by omega) (by decide) (oG (by omega) (by decide) (oG (by omega) (by decide) ?_))))
    by_cases hz1 : sizeN ρ c (s0 / 12) = 1
    · have hz : zN ρ c s0 = true := decide_eq_true hz1
      have hs0 : s0 = 12 * (s0 / 12) := by omega
      refine wp_f (by rw [hz1]; decide) ?_
      refine wp_cV (s_cub (d := d) hP hn hG hp hw0 (by rw [← hs0]; exact hc) (by
        rw [ud_q (by omega), i1]
        have : 12 * (s0 / 12) + sizeN ρ c (s0 / 12) = s0 + 1 := by omega
        rw [this]
        exact mv_0.symm) (fun w x hw hx => ?_) (fun w hw hne => by rw [ud_k hne, i3 _ (by omega) (by omega)]; exact w2 w hw)) (fun D3 h3 => ?_)
      · have h4w2 := h4 w hw
        rw [ud_q (by omega), (i2 (12 * w + x)).2 (by omega)]; exact w3 w x hw hx
      · obtain ⟨k1, k2, k3, k4⟩ := h3
        refine wp_eq (e43_59 hP _ _ _ _) (wp_rV ⟨⟨?_, rep_of hok (fun w hw => ?_) (fun w x hw hx => ?_)⟩, fun q q1 q2 q3 => by rw [k4 q q1 q2 q3, ud_q q3]; exact i3 q q1 q2⟩)
        · rw [k1]
          funext q
          unfold mvG leN leK
          by_cases hqp : q = p
          · rw [if_pos hqp, if_pos hqp]
          · rw [if_neg hqp, if_neg hqp]
            by_cases hq : q < 12 ∧ ¬ c q = -1
            · rcases hv q hq.1 with z | ⟨s, z1, z2⟩
              · exact absurd z hq.2
              · rw [if_pos hq, z2, nI_clamp (by omega)]
                unfold shN
                rw [if_pos hz]
                by_cases hl : s0 / 12 < s / 12
                · rw [if_pos hl, if_pos ⟨hq.1, nI_ne1 (by omega), by omega, by omega⟩]
                · rw [if_neg hl, if_neg (fun y => by omega)]
            · rw [if_neg hq, if_neg (fun y => hq ⟨y.1, y.2.1⟩)]
        · rw [k3 w hw, hsz w hw]
          unfold szN
          rw [if_pos hz]
        · have hx12 : x < 12 := by have := hok.2.2.2.1 w hw; omega
          rw [hsz w hw] at hx
          obtain ⟨t, t1, t2, t3, t4, t5⟩ := le_src hO hp hc h0 hw hx
          obtain ⟨o1, o2⟩ := who t t1 t2 t3
          refine ⟨whoN ρ c t, o2, by rw [o1, t4], ?_⟩
          have ex : ∀ a, a = 12 * (t / 12) + t % 12 → D (P + 2) a = nI (whoN ρ c t) := fun a ha => by
            rw [ha, w3 (t / 12) (t % 12) (by omega) t2, show 12 * (t / 12) + t % 12 = t by omega]
          rcases t5 with ⟨-, y1, y2⟩ | ⟨-, y1, y2⟩ | ⟨y, -⟩ | ⟨y, -⟩
          · rw [(k2 (12 * w + x)).2 (by omega), ud_q (by omega), (i2 (12 * w + x)).2 (by omega)]
            exact ex _ (by omega)
          · rw [(k2 (12 * w + x)).1 (by omega) (by omega) (by rw [← y2]; exact t2), y2]
          · rw [hz] at y; cases y
          · rw [hz] at y; cases y
    · have hz : zN ρ c s0 = false := decide_eq_false hz1
      refine wp_t (fun z => hz1 (by have := nI_inj (b := 0) (by omega) (by omega) z; omega)) ?_
      refine wp_eq (e43_59 hP _ _ _ _) (wp_rV ⟨⟨?_, rep_of hok (fun w hw => ?_) (fun w x hw hx => ?_)⟩, fun q q1 q2 q3 => by rw [ud_q q3]; exact i3 q q1 q2⟩)
      · rw [ud_q (by omega), i1]
        funext q
        unfold mvG leN leK
        by_cases hqp : q = p
        · rw [if_pos hqp, if_pos hqp]
        · rw [if_neg hqp, if_neg hqp]
          by_cases hq : q < 12 ∧ ¬ c q = -1
          · have hq' : q < ρ.1 := Nat.lt_of_not_le (fun z => hq.2 (hb q z hq.1))
            obtain ⟨s, s1, s2, s3, s4⟩ := le_seat hO hp hc h0 hq' hqp hq.2
            have ez0 : shN (zN ρ c s0) s0 s = if s / 12 = s0 / 12 ∧ s0 < s then s - 1 else s := by
              unfold shN
              rw [if_neg (by rw [hz]; exact Bool.false_ne_true)]
            rw [if_pos hq, s2, nI_clamp (by omega), ez0]
            by_cases hl : s / 12 = s0 / 12 ∧ s0 < s
            · rw [if_pos hl, if_pos ⟨hq.1, nI_ne1 (by omega), by omega, by rw [hl.1] at s3; omega⟩]
            · rw [if_neg hl, if_neg (fun y => hl (by omega))]
          · rw [if_neg hq, if_neg (fun y => hq ⟨y.1, y.2.1⟩)]
      · rw [hsz w hw]
        unfold szN
        rw [if_neg (by rw [hz]; exact Bool.false_ne_true)]
        by_cases hw2 : w = s0 / 12
        · rw [if_pos hw2, hw2, ud_at]
        · rw [if_neg hw2, ud_k hw2, i3 _ (by omega) (by omega)]; exact w2 w hw
      · have hx12 : x < 12 := by have := hok.2.2.2.1 w hw; omega
        rw [hsz w hw] at hx
        obtain ⟨t, t1, t2, t3, t4, t5⟩ := le_src hO hp hc h0 hw hx
        obtain ⟨o1, o2⟩ := who t t1 t2 t3
        refine ⟨whoN ρ c t, o2, by rw [o1, t4], ?_⟩
        rw [ud_q (by omega)]
        have ex : ∀ a, a = 12 * (t / 12) + t % 12 → D (P + 2) a = nI (whoN ρ c t) := fun a ha => by
          rw [ha, w3 (t / 12) (t % 12) (by omega) t2, show 12 * (t / 12) + t % 12 = t by omega]
        rcases t5 with ⟨y, -⟩ | ⟨y, -⟩ | ⟨-, y1, y2, y3⟩ | ⟨-, y1, y2⟩
        · rw [hz] at y; cases y
        · rw [hz] at y; cases y
        · have hx2 : x < sizeN ρ c (s0 / 12) - 1 := by
            unfold szN at hx
            rw [if_neg (by rw [hz]; exact Bool.false_ne_true), if_pos y1, y1] at hx
            exact hx
          rw [(i2 (12 * w + x)).1 (by omega) (by omega) (by rw [← y3]; exact t2), y3]
        · have : 12 * w + x + 1 < s0 + 1 ∨ 12 * (s0 / 12) + sizeN ρ c (s0 / 12) ≤ 12 * w + x + 1 := by omega
          rw [(i2 (12 * w + x)).2 this]
          exact ex _ (by omega)
end LEAVE
