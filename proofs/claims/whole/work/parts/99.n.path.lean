/-! ===== couples: a pew is a path ===== -/
theorem sum_head (f : Nat → Nat) : ∀ r, sumN f (r + 1) = f 0 + sumN (fun i => f (i + 1)) r
  | 0 => by show 0 + f 0 = f 0 + 0; omega
  | r + 1 => by
    rw [sumN, sum_head f r, sumN]; omega
section PATH
variable {k : Nat} {mu e d : Nat → Nat}
theorem pth (h1 : ∀ x, x < k → mu x < k ∧ mu (mu x) = x ∧ (mu x = x ∨ mu x = x + 1 ∨ mu x + 1 = x)) (e1 : ∀ x, x < k → mu x = x → e x = 1000) : ∀ r x, x + r = k → (x < k → x ≤ mu x) → (r % 2 = 0 → (∀ y, x ≤ y → y < k → mu y = if (y - x) % 2 = 0 then y + 1 else y - 1) ∨ 2000 ≤ sumN (fun i => e (x + i)) r) ∧ (r % 2 = 1 → (∃ j, x ≤ j ∧ j < k ∧ (j - x) % 2 = 0 ∧ ∀ y, x ≤ y → y < k → mu y = if y < j then (if (y - x) % 2 = 0 then y + 1 else y - 1) else if y = j then y else (if (y - j) % 2 = 1 then y + 1 else y - 1)) ∨ 3000 ≤ sumN (fun i => e (x + i)) r) ∧ (r % 2 = 1 → 1000 ≤ sumN (fun i => e (x + i)) r) := by
  intro r
  induction r using Nat.strongRecOn with
  | _ r ih =>
    intro x hx hmx
    match r, ih, hx with
    | 0, _, hx => exact ⟨fun _ => Or.inl (fun y a b => by omega), fun h => by omega, fun h => by omega⟩
    | r + 1, ih, hx =>
      have hxk : x < k := by omega
      obtain ⟨m1, m2, m3⟩ := h1 x hxk
      have hge := hmx hxk
      have hsum : sumN (fun i => e (x + i)) (r + 1) = e x + sumN (fun i => e (x + 1 + i)) r := by
        rw [sum_head]
        congr 1
        exact sum_congr (fun i _ => by show e (x + (i + 1)) = e (x + 1 + i); congr 1; omega)
      by_cases hfix : mu x = x
      · have he := e1 x hxk hfix
        have hnx : x + 1 < k → x + 1 ≤ mu (x + 1) := fun h => by
          obtain ⟨n1, n2, n3⟩ := h1 (x + 1) h
          apply Nat.le_of_not_lt
          intro z
          have : mu (x + 1) = x := by omega
          rw [this, hfix] at n2
          omega
        obtain ⟨i1, i2, i3⟩ := ih r (by omega) (x + 1) (by omega) hnx
        rw [hsum, he]
        refine ⟨fun hr => Or.inr ?_, fun hr => ?_, fun hr => by omega⟩
        · have := i3 (by omega); omega
        · rcases i1 (by omega) with h | h
          · refine Or.inl ⟨x, Nat.le_refl _, hxk, by omega, fun y a b => ?_⟩
            by_cases hy : y = x
            · rw [if_neg (by omega), if_pos hy, hy]; exact hfix
            · rw [if_neg (by omega), if_neg hy, h y (by omega) b]
              by_cases hp : (y - (x + 1)) % 2 = 0
              · rw [if_pos hp, if_pos (by omega)]
              · rw [if_neg hp, if_neg (by omega)]
          · exact Or.inr (by omega)
      · have hst : mu x = x + 1 := by omega
        have hx1 : x + 1 < k := by omega
        obtain ⟨r', rfl⟩ : ∃ r', r = r' + 1 := ⟨r - 1, by omega⟩
        have hb : mu (x + 1) = x := by rw [← hst]; exact m2
        have hnx : x + 2 < k → x + 2 ≤ mu (x + 2) := fun h => by
          obtain ⟨n1, n2, n3⟩ := h1 (x + 2) h
          apply Nat.le_of_not_lt
          intro z
          have : mu (x + 2) = x + 1 := by omega
          rw [this, hb] at n2
          omega
        have hsum2 : sumN (fun i => e (x + 1 + i)) (r' + 1) = e (x + 1) + sumN (fun i => e (x + 2 + i)) r' := by
          rw [sum_head]
          congr 1
          exact sum_congr (fun i _ => by show e (x + 1 + (i + 1)) = e (x + 2 + i); congr 1; omega)
        obtain ⟨i1, i2, i3⟩ := ih r' (by omega) (x + 2) (by omega) hnx
        rw [hsum, hsum2]
        refine ⟨fun hr => ?_, fun hr => ?_, fun hr => ?_⟩
        · rcases i1 (by omega) with h | h
          · refine Or.inl (fun y a b => ?_)
            by_cases hy : y = x
            · rw [hy, if_pos (by omega)]; exact hst
            · by_cases hy1 : y = x + 1
              · rw [hy1, if_neg (by omega), hb]; omega
              · rw [h y (by omega) b]
                by_cases hp : (y - (x + 2)) % 2 = 0
                · rw [if_pos hp, if_pos (by omega)]
                · rw [if_neg hp, if_neg (by omega)]
          · exact Or.inr (by omega)
        · rcases i2 (by omega) with ⟨j, j1, j2, j3, j4⟩ | h
          · refine Or.inl ⟨j, by omega, j2, by omega, fun y a b => ?_⟩
            by_cases hy : y = x
            · rw [hy, if_pos (by omega), if_pos (by omega)]; exact hst
            · by_cases hy1 : y = x + 1
              · rw [hy1, if_pos (by omega), if_neg (by omega), hb]; omega
              · rw [j4 y (by omega) b]
                by_cases hyj : y < j
                · rw [if_pos hyj, if_pos hyj]
                  by_cases hp : (y - (x + 2)) % 2 = 0
                  · rw [if_pos hp, if_pos (by omega)]
                  · rw [if_neg hp, if_neg (by omega)]
                · rw [if_neg hyj, if_neg hyj]
          · exact Or.inr (by omega)
        · have := i3 (by omega); omega
end PATH
def sqN (j x : Nat) : Nat := if x = j then x else if x < j then (if x % 2 = 0 then x + 1 else x - 1) else (if x % 2 = 1 then x + 1 else x - 1)
def vaJ (k j : Nat) : Prop := (k % 2 = 0 ∧ j = k) ∨ (k % 2 = 1 ∧ j % 2 = 0 ∧ j < k)
def seJ (j i : Nat) : Nat := if 2 * i < j then 2 * i else 2 * i + 1
def smJ (d : Nat → Nat) (k j : Nat) : Nat := sumN (fun i => d (seJ j i)) (k / 2)
theorem sp_ok {k j x : Nat} (hj : vaJ k j) (hx : x < k) : sqN j x < k ∧ sqN j (sqN j x) = x ∧ (sqN j x = x ∨ sqN j x = x + 1 ∨ sqN j x + 1 = x) := by
  unfold vaJ at hj
  have key : sqN j x = x ∨ (sqN j x = x + 1 ∧ x + 1 < k ∧ sqN j (x + 1) = x) ∨ (1 ≤ x ∧ sqN j x = x - 1 ∧ sqN j (x - 1) = x) := by
    by_cases h1 : x = j
    · exact Or.inl (if_pos h1)
    · by_cases h2 : x < j
      · have e : sqN j x = if x % 2 = 0 then x + 1 else x - 1 := by unfold sqN; rw [if_neg h1, if_pos h2]
        by_cases h3 : x % 2 = 0
        · rw [if_pos h3] at e
          refine Or.inr (Or.inl ⟨e, by omega, ?_⟩)
          unfold sqN
          rw [if_neg (by omega), if_pos (by omega), if_neg (by omega)]; omega
        · rw [if_neg h3] at e
          refine Or.inr (Or.inr ⟨by omega, e, ?_⟩)
          unfold sqN
          rw [if_neg (by omega), if_pos (by omega), if_pos (by omega)]; omega
      · have e : sqN j x = if x % 2 = 1 then x + 1 else x - 1 := by unfold sqN; rw [if_neg h1, if_neg h2]
        by_cases h3 : x % 2 = 1
        · rw [if_pos h3] at e
          refine Or.inr (Or.inl ⟨e, by omega, ?_⟩)
          unfold sqN
          rw [if_neg (by omega), if_neg (by omega), if_neg (by omega)]; omega
        · rw [if_neg h3] at e
          refine Or.inr (Or.inr ⟨by omega, e, ?_⟩)
          unfold sqN
          rw [if_neg (by omega), if_neg (by omega), if_pos (by omega)]; omega
  rcases key with h | ⟨h, h2, h3⟩ | ⟨h, h2, h3⟩
  · rw [h, h]; exact ⟨hx, rfl, Or.inl rfl⟩
  · rw [h, h3]; exact ⟨h2, rfl, Or.inr (Or.inl rfl)⟩
  · rw [h2, h3]; exact ⟨by omega, rfl, Or.inr (Or.inr (by omega))⟩
section PATH2
variable {k : Nat} {mu e d : Nat → Nat}
theorem pth0 (h1 : ∀ x, x < k → mu x < k ∧ mu (mu x) = x ∧ (mu x = x ∨ mu x = x + 1 ∨ mu x + 1 = x)) (e1 : ∀ x, x < k → mu x = x → e x = 1000) : (∃ j, vaJ k j ∧ ∀ y, y < k → mu y = sqN j y) ∨ 1000 * (k % 2) + 2000 ≤ sumN e k := by
  obtain ⟨p1, p2, -⟩ := pth h1 e1 k 0 (by omega) (fun _ => Nat.zero_le _)
  have es : sumN (fun i => e (0 + i)) k = sumN e k := sum_congr (fun i _ => by rw [Nat.zero_add])
  rw [es] at p1 p2
  simp only [Nat.sub_zero] at p1 p2
  by_cases hk : k % 2 = 0
  · rcases p1 hk with h | h
    · refine Or.inl ⟨k, Or.inl ⟨hk, rfl⟩, fun y hy => ?_⟩
      rw [h y (Nat.zero_le _) hy]
      unfold sqN
      rw [if_neg (show ¬ y = k by omega), if_pos hy]
    · exact Or.inr (by omega)
  · rcases p2 (by omega) with ⟨j, -, j2, j3, j4⟩ | h
    · refine Or.inl ⟨j, Or.inr ⟨by omega, by omega, j2⟩, fun y hy => ?_⟩
      rw [j4 y (Nat.zero_le _) hy]
      unfold sqN
      by_cases hyj : y = j
      · rw [if_neg (by omega), if_pos hyj, if_pos hyj]
      · by_cases hl : y < j
        · simp only [if_neg hyj, if_pos hl]
        · simp only [if_neg hyj, if_neg hl]
          by_cases hp : (y - j) % 2 = 1
          · rw [if_pos hp, if_pos (by omega)]
          · rw [if_neg hp, if_neg (by omega)]
    · exact Or.inr (by omega)
theorem sp_cost {j : Nat} (hj : vaJ k j) (hm : ∀ y, y < k → mu y = sqN j y) (e1 : ∀ x, x < k → mu x = x → e x = 1000) (e2 : ∀ x, x + 1 < k → mu x = x + 1 → e x + e (x + 1) = d x) : sumN e k = 1000 * (k % 2) + smJ d k j := by
  have part1 : ∀ i, 2 * i ≤ j → 2 * i ≤ k → sumN e (2 * i) = sumN (fun i => d (seJ j i)) i := by
    intro i
    induction i with
    | zero => intro _ _; rfl
    | succ i ih =>
      intro a b
      have hmu : mu (2 * i) = 2 * i + 1 := by
        rw [hm _ (by omega)]
        unfold sqN
        rw [if_neg (by omega), if_pos (by omega), if_pos (by omega)]
      have := e2 (2 * i) (by omega) hmu
      have s : seJ j i = 2 * i := if_pos (by omega)
      rw [show 2 * (i + 1) = 2 * i + 1 + 1 by omega, sumN, sumN, sumN, ih (by omega) (by omega), s]
      omega
  unfold vaJ at hj
  unfold smJ
  rcases hj with ⟨a, hjk⟩ | ⟨a, b, cc⟩
  · have := part1 (k / 2) (by omega) (by omega)
    rw [show 2 * (k / 2) = k by omega] at this
    omega
  · have hmj : mu j = j := by rw [hm j cc]; exact if_pos rfl
    have ej := e1 j cc hmj
    have part2 : ∀ i, j / 2 ≤ i → 2 * i + 1 ≤ k → sumN e (2 * i + 1) = 1000 + sumN (fun i => d (seJ j i)) i := by
      intro i
      induction i with
      | zero =>
        intro h1 h2
        have h0 : j = 0 := by omega
        show 0 + e 0 = 1000 + 0
        rw [h0] at ej; omega
      | succ i ih =>
        intro h1 h2
        by_cases hi : j / 2 = i + 1
        · have h3 := part1 (i + 1) (by omega) (by omega)
          rw [sumN, h3, show 2 * (i + 1) = j by omega, ej]; omega
        · have hmu : mu (2 * i + 1) = 2 * i + 1 + 1 := by
            rw [hm _ (by omega)]
            unfold sqN
            rw [if_neg (by omega), if_neg (by omega), if_pos (by omega)]
          have := e2 (2 * i + 1) (by omega) hmu
          have s : seJ j i = 2 * i + 1 := if_neg (by omega)
          rw [show 2 * (i + 1) + 1 = 2 * i + 1 + 1 + 1 by omega, sumN, sumN, ih (by omega) (by omega)]
          show _ = 1000 + (sumN (fun i => d (seJ j i)) i + d (seJ j i))
          have e9 : e (2 * i + 2) = e (2 * i + 1 + 1) := rfl
          rw [s]; omega
    have := part2 (k / 2) (by omega) (by omega)
    rw [show 2 * (k / 2) + 1 = k by omega] at this
    omega
theorem sm_le {j b : Nat} (h : ∀ x, d x ≤ b) : smJ d k j ≤ b * (k / 2) := by
  unfold smJ
  generalize k / 2 = r
  induction r with
  | zero => exact Nat.zero_le _
  | succ r ih =>
    rw [sumN, Nat.mul_succ]
    have := h (seJ j r)
    omega
end PATH2
/-! the chapel's -/
def stN (c : Cc) (p : Nat) : Nat := (c p).toNatClampNeg
def adC (ρ : Ru) (c : Cc) (p q : Nat) : Bool := decide (p < ρ.1 ∧ q < ρ.1 ∧ ¬ c p = -1 ∧ ¬ c q = -1 ∧ stN c p / 12 = stN c q / 12 ∧ (stN c p + 1 = stN c q ∨ stN c q + 1 = stN c p))
def agV (c : Cc) (p : Nat) : Nat := (c (12 + p)).toNatClampNeg
def dsC (c : Cc) (p q : Nat) : Nat := (agV c p - agV c q) + (agV c q - agV c p)
def FN (n : Nat) : Nat → Bool := fun p => decide (p < n)
theorem bs144 : ∀ s, s < 144 → ∀ t, t < 144 → bsB (nI s) (nI t) = decide (s / 12 = t / 12 ∧ (s + 1 = t ∨ t + 1 = s)) := by decide +kernel
theorem ad_sym (ρ : Ru) (c : Cc) (p q : Nat) : adC ρ c p q = adC ρ c q p := by
  unfold adC
  apply decide_eq_decide.mpr
  constructor
  · rintro ⟨a, b, x, y, z, w⟩; exact ⟨b, a, y, x, z.symm, w.symm⟩
  · rintro ⟨a, b, x, y, z, w⟩; exact ⟨b, a, y, x, z.symm, w.symm⟩
section CHAP
variable {ρ : Ru} {c : Cc} {m : Nat → Nat} {w p q : Nat}
theorem ad_bs (hO : Ok ρ c) (hp : p < ρ.1) (hq : q < ρ.1) : bsB (c p) (c q) = adC ρ c p q := by
  unfold adC
  rcases hO.v p hp with h | ⟨s, s1, s2⟩
  · have : bsB (c p) (c q) = false := by unfold bsB; rw [inN_F1 (by rw [h]; exact pewO_1.1)]; rfl
    rw [this]
    exact (decide_eq_false (fun z => z.2.2.1 h)).symm
  · rcases hO.v q hq with h | ⟨t, t1, t2⟩
    · have : bsB (c p) (c q) = false := by
        unfold bsB
        rw [inN_F2 (by rw [h, s2, pewO_1.1, (pewO_s s1).1]; exact nI_ne1 (by omega))]; rfl
      rw [this]
      exact (decide_eq_false (fun z => z.2.2.2.1 h)).symm
    · unfold stN
      rw [s2, t2, bs144 s s1 t t1, nI_clamp (by omega), nI_clamp (by omega)]
      apply decide_eq_decide.mpr
      exact ⟨fun z => ⟨hp, hq, nI_ne1 (by omega), nI_ne1 (by omega), z.1, z.2⟩, fun z => z.2.2.2.2⟩
theorem mt_F (h : MT (adC ρ c) (FN ρ.1) m) (hp : ¬ p < ρ.1) : m p = p := h.2.1 p (decide_eq_false hp)
def muN (ρ : Ru) (c : Cc) (m : Nat → Nat) (w x : Nat) : Nat := stN c (m (whoN ρ c (12 * w + x))) - 12 * w
theorem mu_ok (hO : Ok ρ c) (h : MT (adC ρ c) (FN ρ.1) m) (hw : w < 12) : ∀ x, x < sizeN ρ c w → muN ρ c m w x < sizeN ρ c w ∧ m (whoN ρ c (12 * w + x)) = whoN ρ c (12 * w + muN ρ c m w x) ∧ (muN ρ c m w x = x ∨ muN ρ c m w x = x + 1 ∨ muN ρ c m w x + 1 = x) := by
  intro x hx
  have h4 := hO.2.2.2.1 w hw
  obtain ⟨g1, g2⟩ := who_ex hO hw hx
  by_cases hf : m (whoN ρ c (12 * w + x)) = whoN ρ c (12 * w + x)
  · have e : muN ρ c m w x = x := by
      unfold muN stN
      rw [hf, g2, nI_clamp (by omega)]; omega
    rw [e]
    exact ⟨hx, hf, Or.inl rfl⟩
  · have ha := of_decide_eq_true (h.2.2 _ hf)
    obtain ⟨-, a2, -, a4, a5, a6⟩ := ha
    rcases hO.1 _ a2 with hn | ⟨w', x', z1, z2, z3⟩
    · exact absurd hn a4
    · have h4' := hO.2.2.2.1 w' z1
      have es : stN c (m (whoN ρ c (12 * w + x))) = 12 * w' + x' := by unfold stN; rw [z3, nI_clamp (by omega)]
      have ep : stN c (whoN ρ c (12 * w + x)) = 12 * w + x := by unfold stN; rw [g2, nI_clamp (by omega)]
      rw [es, ep] at a5 a6
      have hww : w' = w := by omega
      subst hww
      have e : muN ρ c m w' x = x' := by unfold muN; rw [es]; omega
      rw [e]
      refine ⟨z2, ?_, by omega⟩
      exact (who_at hO a2 (by omega) z3).symm
theorem mu_mu (hO : Ok ρ c) (h : MT (adC ρ c) (FN ρ.1) m) (hw : w < 12) {x : Nat} (hx : x < sizeN ρ c w) : muN ρ c m w (muN ρ c m w x) = x := by
  have h4 := hO.2.2.2.1 w hw
  obtain ⟨m1, m2, m3⟩ := mu_ok hO h hw x hx
  obtain ⟨g1, g2⟩ := who_ex hO hw hx
  have := h.1 (whoN ρ c (12 * w + x))
  rw [m2] at this
  show stN c (m (whoN ρ c (12 * w + muN ρ c m w x))) - 12 * w = x
  unfold stN
  rw [this, g2, nI_clamp (by omega)]; omega
/-- what a pew costs -/
def cwN (ρ : Ru) (c : Cc) (m : Nat → Nat) (w : Nat) : Nat := sumN (fun p => if inW c w p = true then csN (dsC c) p (m p) else 0) ρ.1
theorem fS_sum (g : Nat → Nat) (a : Nat → Nat) : ∀ k, fS (fun x y : Nat => x + y) 0 g a k = sumN (fun x => g (a x)) k
  | 0 => rfl
  | k + 1 => by rw [fS, sumN, fS_sum g a k]
theorem fP_sum (g : Nat → Nat) (P : Nat → Bool) : ∀ n, fP (fun x y : Nat => x + y) 0 g P n = sumN (fun p => if P p = true then g p else 0) n
  | 0 => rfl
  | n + 1 => by rw [fP, sumN, fP_sum g P n]
theorem cw_seats (hO : Ok ρ c) (hw : w < 12) : cwN ρ c m w = sumN (fun x => csN (dsC c) (whoN ρ c (12 * w + x)) (m (whoN ρ c (12 * w + x)))) (sizeN ρ c w) := by
  obtain ⟨s1, s2, s3⟩ := seat_perm hO hw
  unfold cwN
  rw [← fP_sum (fun p => csN (dsC c) p (m p)) (inW c w), ← fS_sum (fun p => csN (dsC c) p (m p)) (fun x => whoN ρ c (12 * w + x))]
  exact (f_perm (op := fun x y : Nat => x + y) (e := 0) (g := fun p => csN (dsC c) p (m p)) Nat.add_assoc Nat.add_comm Nat.add_zero (sizeN ρ c w) (inW c w) s1 s2 s3).symm
def dxN (ρ : Ru) (c : Cc) (w x : Nat) : Nat := dsC c (whoN ρ c (12 * w + x)) (whoN ρ c (12 * w + (x + 1)))
theorem ds_sym (c : Cc) (p q : Nat) : dsC c p q = dsC c q p := by unfold dsC; omega
theorem cw_e (hO : Ok ρ c) (h : MT (adC ρ c) (FN ρ.1) m) (hw : w < 12) : (∀ x, x < sizeN ρ c w → muN ρ c m w x = x → csN (dsC c) (whoN ρ c (12 * w + x)) (m (whoN ρ c (12 * w + x))) = 1000) ∧ ∀ x, x + 1 < sizeN ρ c w → muN ρ c m w x = x + 1 → csN (dsC c) (whoN ρ c (12 * w + x)) (m (whoN ρ c (12 * w + x))) + csN (dsC c) (whoN ρ c (12 * w + (x + 1))) (m (whoN ρ c (12 * w + (x + 1)))) = dxN ρ c w x := by
  refine ⟨fun x hx hm => ?_, fun x hx hm => ?_⟩
  · obtain ⟨-, m2, -⟩ := mu_ok hO h hw x hx
    rw [m2, hm]
    exact if_pos rfl
  · obtain ⟨-, m2, -⟩ := mu_ok hO h hw x (by omega)
    rw [hm] at m2
    have m3 := h.1 (whoN ρ c (12 * w + x))
    rw [m2] at m3
    rw [m2, m3]
    have hne : whoN ρ c (12 * w + x) ≠ whoN ρ c (12 * w + (x + 1)) := fun z => by
      have := (seat_perm hO hw).2.1 x (x + 1) (by omega) hx z
      omega
    unfold csN dxN
    rw [if_neg (fun z => hne z.symm), if_neg hne]
    by_cases hlt : whoN ρ c (12 * w + x) < whoN ρ c (12 * w + (x + 1))
    · rw [if_pos hlt, if_neg (by omega)]; omega
    · rw [if_neg hlt, if_pos (by omega), ds_sym]; omega
/-- a pew's ways: one of the told ones, or dear -/
theorem cw_way (hO : Ok ρ c) (h : MT (adC ρ c) (FN ρ.1) m) (hw : w < 12) : (∃ j, vaJ (sizeN ρ c w) j ∧ (∀ y, y < sizeN ρ c w → m (whoN ρ c (12 * w + y)) = whoN ρ c (12 * w + sqN j y)) ∧ cwN ρ c m w = 1000 * (sizeN ρ c w % 2) + smJ (dxN ρ c w) (sizeN ρ c w) j) ∨ 1000 * (sizeN ρ c w % 2) + 2000 ≤ cwN ρ c m w := by
  obtain ⟨e1, e2⟩ := cw_e hO h hw
  rw [cw_seats hO hw]
  rcases pth0 (k := sizeN ρ c w) (mu := muN ρ c m w) (e := fun x => csN (dsC c) (whoN ρ c (12 * w + x)) (m (whoN ρ c (12 * w + x)))) (fun x hx => by
    obtain ⟨a1, -, a3⟩ := mu_ok hO h hw x hx
    exact ⟨a1, mu_mu hO h hw hx, a3⟩) e1 with ⟨j, j1, j2⟩ | h'
  · refine Or.inl ⟨j, j1, fun y hy => ?_, sp_cost j1 j2 e1 e2⟩
    rw [(mu_ok hO h hw y hy).2.1, j2 y hy]
  · exact Or.inr h'
end CHAP
