/-! ===== couples: the class ===== -/
def ofN (p q : Nat) : Int32 := if q = p then -1 else nI q
theorem abs30 : ∀ a, a < 30 → ∀ b, b < 30 → (if 0 ≤ nI a - nI b then nI a - nI b else 0 - (nI a - nI b)) = nI ((a - b) + (b - a)) ∧ apI (nI a) (nI b) = nI ((a - b) + (b - a)) := by decide +kernel
theorem l2 (j : Nat) : (2 : Int32) * nI j = nI (2 * j) := by
  have : (2 : Int32) = nI 2 := rfl
  rw [this, nI_mul]
def j0N (k : Nat) : Nat := if k % 2 = 0 then k else 0
def njN (k : Nat) : Nat := if k % 2 = 0 then 1 else (k + 1) / 2
noncomputable def bjN (ρ : Ru) (c : Cc) (w : Nat) : Nat → Nat
  | 0 => j0N (sizeN ρ c w)
  | i + 1 => @ite Nat (smJ (dxN ρ c w) (sizeN ρ c w) (j0N (sizeN ρ c w) + 2 * (i + 1)) < smJ (dxN ρ c w) (sizeN ρ c w) (bjN ρ c w i) ∨ (smJ (dxN ρ c w) (sizeN ρ c w) (j0N (sizeN ρ c w) + 2 * (i + 1)) = smJ (dxN ρ c w) (sizeN ρ c w) (bjN ρ c w i) ∧ lexL ρ c w (twN ρ c w (j0N (sizeN ρ c w) + 2 * (i + 1))) (twN ρ c w (bjN ρ c w i)))) (Classical.propDecidable _) (j0N (sizeN ρ c w) + 2 * (i + 1)) (bjN ρ c w i)
theorem va_j {k i : Nat} (h : i < njN k) : vaJ k (j0N k + 2 * i) := by
  unfold njN at h
  unfold vaJ j0N
  split at h
  · next hk => rw [if_pos hk]; omega
  · next hk => rw [if_neg hk]; omega
theorem j_va {k j : Nat} (h : vaJ k j) : ∃ i, i < njN k ∧ j = j0N k + 2 * i := by
  unfold vaJ at h
  unfold njN j0N
  rcases h with ⟨h1, h2⟩ | ⟨h1, h2, h3⟩
  · rw [if_pos h1, if_pos h1]; exact ⟨0, by omega, by omega⟩
  · rw [if_neg (by omega), if_neg (by omega)]; exact ⟨j / 2, by omega, by omega⟩
theorem bj_inv (ρ : Ru) (c : Cc) (w : Nat) : ∀ i, i < njN (sizeN ρ c w) → (∃ t, t ≤ i ∧ bjN ρ c w i = j0N (sizeN ρ c w) + 2 * t) ∧ ∀ t, t ≤ i → smJ (dxN ρ c w) (sizeN ρ c w) (bjN ρ c w i) < smJ (dxN ρ c w) (sizeN ρ c w) (j0N (sizeN ρ c w) + 2 * t) ∨ (smJ (dxN ρ c w) (sizeN ρ c w) (bjN ρ c w i) = smJ (dxN ρ c w) (sizeN ρ c w) (j0N (sizeN ρ c w) + 2 * t) ∧ ¬ lexL ρ c w (twN ρ c w (j0N (sizeN ρ c w) + 2 * t)) (twN ρ c w (bjN ρ c w i)))
  | 0, _ => ⟨⟨0, Nat.le_refl _, rfl⟩, fun t ht => by
      have : t = 0 := by omega
      subst this
      refine Or.inr ⟨rfl, ?_⟩
      rintro ⟨p, -, -, h, -⟩
      exact Nat.lt_irrefl _ h⟩
  | i + 1, hi => by
    obtain ⟨⟨t0, t1, t2⟩, h2⟩ := bj_inv ρ c w i (by omega)
    have irr : ∀ f : Nat → Nat, ¬ lexL ρ c w f f := by
      rintro f ⟨p, -, -, h, -⟩
      exact Nat.lt_irrefl _ h
    rw [bjN]
    split
    · next hc =>
      refine ⟨⟨i + 1, Nat.le_refl _, rfl⟩, fun t ht => ?_⟩
      by_cases hti : t = i + 1
      · rw [hti]; exact Or.inr ⟨rfl, irr _⟩
      · have h3 := h2 t (by omega)
        rcases hc with hc | ⟨hc, hl⟩
        · rcases h3 with h3 | ⟨h3, -⟩
          · exact Or.inl (by omega)
          · exact Or.inl (by omega)
        · rcases h3 with h3 | ⟨h3, h4⟩
          · exact Or.inl (by omega)
          · exact Or.inr ⟨by omega, fun z => h4 (lex_tr z hl)⟩
    · next hc =>
      refine ⟨⟨t0, by omega, t2⟩, fun t ht => ?_⟩
      by_cases hti : t = i + 1
      · rw [hti]
        by_cases hlt : smJ (dxN ρ c w) (sizeN ρ c w) (bjN ρ c w i) < smJ (dxN ρ c w) (sizeN ρ c w) (j0N (sizeN ρ c w) + 2 * (i + 1))
        · exact Or.inl hlt
        · have : smJ (dxN ρ c w) (sizeN ρ c w) (j0N (sizeN ρ c w) + 2 * (i + 1)) = smJ (dxN ρ c w) (sizeN ρ c w) (bjN ρ c w i) := by
            apply Nat.le_antisymm (by omega)
            exact Nat.le_of_not_lt (fun z => hc (Or.inl z))
          exact Or.inr ⟨this.symm, fun z => hc (Or.inr ⟨this, z⟩)⟩
      · exact h2 t (by omega)
noncomputable def bwN (ρ : Ru) (c : Cc) (w : Nat) : Nat := bjN ρ c w (njN (sizeN ρ c w) - 1)
theorem nj_pos (k : Nat) : 0 < njN k := by
  unfold njN
  split <;> omega
theorem bw_best (ρ : Ru) (c : Cc) (w : Nat) : BestJ ρ c w (bwN ρ c w) := by
  have hp := nj_pos (sizeN ρ c w)
  obtain ⟨⟨t0, t1, t2⟩, h2⟩ := bj_inv ρ c w (njN (sizeN ρ c w) - 1) (by omega)
  unfold bwN
  refine ⟨by rw [t2]; exact va_j (by omega), fun j hj => ?_⟩
  obtain ⟨i, i1, rfl⟩ := j_va hj
  exact h2 i (by omega)
section COUPC
variable {X : XS} {d u : Nat} {D D1 : DD} {J : JJ} {σ : Sg} {ρ : Ru} {c : Cc} {w : Nat}
theorem c_7 {j : Nat} (hG : Good ρ c) (hn : ρ.1 ≤ 12) (hW : PewsC 25 ρ c D) (hw : w < 12) (hj : vaJ (sizeN ρ c w) j) : Wp (EvM X (d + 1) 7 [.ref 63, .ref 25, .int (nI w), .int (nI j)] (hS u D J)) (RI u J (fun y D' => y = nI (smJ (dxN ρ c w) (sizeN ρ c w) j) ∧ (∀ x, x < sizeN ρ c w → D' 65 (whoN ρ c (12 * w + x)) = ofN (whoN ρ c (12 * w + x)) (whoN ρ c (12 * w + sqN j x))) ∧ ∀ q, q ≠ 65 → D' q = D q)) := by
  have hO := hG.1
  have h4 := hO.2.2.2.1 w hw
  obtain ⟨sp1, sp2, -⟩ := seat_perm hO hw
  have hj' := hj
  unfold vaJ at hj'
  have hjk : j ≤ sizeN ρ c w := by omega
  have hinj : ∀ x y, x < sizeN ρ c w → y < sizeN ρ c w → (whoN ρ c (12 * w + x) = whoN ρ c (12 * w + y) ↔ x = y) := fun x y hx hy => ⟨sp2 x y hx hy, fun z => by rw [z]⟩
  obtain ⟨-, rf1, rf2⟩ := id hW
  refine wp_eq (e7_0 _ _) ?_
  refine wp_cV (s_fill (Q := 65) (n := 12) (by unfold isQ; omega)) (fun D1 g => ?_)
  obtain ⟨f1, -, f3⟩ := g
  refine wp_eq (e7_6 _ _ _) ?_
  refine wp_loop (R := fun i (D2 : DD) => Ev X (d + 1) 7 (8, [.ref 63, .ref 25, .int (nI w), .int (nI j), .int (nI (sumN (fun i => dxN ρ c w (seJ j i)) i)), .int (nI i), .null, .null, .null], [], hS u D2 J)) (fun i (D2 : DD) => (∀ x, x < sizeN ρ c w → D2 65 (whoN ρ c (12 * w + x)) = if x < seJ j i then ofN (whoN ρ c (12 * w + x)) (whoN ρ c (12 * w + sqN j x)) else -1) ∧ ∀ q, q ≠ 65 → D2 q = D q) (sizeN ρ c w / 2) ?_ ?_ 0 D1 (Nat.zero_le _) ⟨fun x hx => ?_, f3⟩
  · intro i D2 hi ⟨i1, i2⟩ ih
    have hs := se_lt hj hi
    have e28 : D2 28 w = nI (sizeN ρ c w) := by rw [i2 28 (by decide)]; exact rf1 w hw
    have ek : nI (sizeN ρ c w) / 2 = nI (sizeN ρ c w / 2) := nI_div (b := 2) (by omega) (by decide)
    have es1 : sqN j (seJ j i) = seJ j i + 1 := by
      unfold seJ
      split
      · unfold sqN; rw [if_neg (by omega), if_pos (by omega), if_pos (by omega)]
      · unfold sqN; rw [if_neg (by omega), if_neg (by omega), if_pos (by omega)]
    have es2 : sqN j (seJ j i + 1) = seJ j i := by
      have := (sp_ok hj (show seJ j i < sizeN ρ c w by omega)).2.1
      rw [es1] at this
      exact this
    obtain ⟨l1, l2'⟩ := who_ex hO hw (show seJ j i < sizeN ρ c w by omega)
    obtain ⟨r1, r2⟩ := who_ex hO hw hs
    have hlr : whoN ρ c (12 * w + seJ j i) ≠ whoN ρ c (12 * w + (seJ j i + 1)) := fun z => by
      have := sp2 _ _ (by omega) hs z; omega
    have row1 : D2 27 (12 * w + seJ j i) = nI (whoN ρ c (12 * w + seJ j i)) := by rw [i2 27 (by decide)]; exact rf2 w _ hw (by omega)
    have row2 : D2 27 (12 * w + (seJ j i + 1)) = nI (whoN ρ c (12 * w + (seJ j i + 1))) := by rw [i2 27 (by decide)]; exact rf2 w _ hw hs
    have body : ∀ s, s = seJ j i → Wp (Ev X (d + 1) 7 (31, [.ref 63, .ref 25, .int (nI w), .int (nI j), .int (nI (sumN (fun i => dxN ρ c w (seJ j i)) i)), .int (nI i), .int (nI s), .null, .null], [], hS u D2 J)) (RI u J (fun y D' => y = nI (smJ (dxN ρ c w) (sizeN ρ c w) j) ∧ (∀ x, x < sizeN ρ c w → D' 65 (whoN ρ c (12 * w + x)) = ofN (whoN ρ c (12 * w + x)) (whoN ρ c (12 * w + sqN j x))) ∧ ∀ q, q ≠ 65 → D' q = D q)) := by
      rintro s rfl
      refine wp_eq (e7_31 _ _ _ _ _) ?_
      rw [lw, nI_1, nI_clamp (show 12 * w + seJ j i < 2 ^ 31 by omega), nI_clamp (show 12 * w + seJ j i + 1 < 2 ^ 31 by omega), row1]
      have row2' : D2 27 (12 * w + seJ j i + 1) = nI (whoN ρ c (12 * w + (seJ j i + 1))) := row2
      rw [row2', nI_clamp (show whoN ρ c (12 * w + seJ j i) < 2 ^ 31 by omega)]
      refine oG (by omega) (by decide) (oG (by omega) (by decide) (oG (by omega) (by decide) ?_))
      refine wp_eq (e7_56 _ _ _ _ _ _ _) ?_
      rw [nI_clamp (show whoN ρ c (12 * w + (seJ j i + 1)) < 2 ^ 31 by omega)]
      refine oG (by omega) (by decide) ?_
      have hq : ∀ q, q ≠ 65 → ud (ud D2 65 (whoN ρ c (12 * w + seJ j i)) (nI (whoN ρ c (12 * w + (seJ j i + 1))))) 65 (whoN ρ c (12 * w + (seJ j i + 1))) (nI (whoN ρ c (12 * w + seJ j i))) q = D q := fun q hh => by rw [ud_q hh, ud_q hh]; exact i2 q hh
      generalize hD3 : ud (ud D2 65 (whoN ρ c (12 * w + seJ j i)) (nI (whoN ρ c (12 * w + (seJ j i + 1))))) 65 (whoN ρ c (12 * w + (seJ j i + 1))) (nI (whoN ρ c (12 * w + seJ j i))) = D3 at hq ⊢
      have hW3 : PewsC 25 ρ c D3 := hW.mv (hq 26 (by decide)) (hq 27 (by decide)) (hq 28 (by decide))
      refine wp_eq (e7_61 _ _ _ _ _ _ _) ?_
      refine wp_iE (c_ageAt (Or.inl rfl) hn hW3 hO hw (show seJ j i < sizeN ρ c w by omega)) ?_
      refine wp_eq (e7_66 _ _ _ _ _ _ _ _ _) ?_
      rw [nI_1]
      refine wp_iE (c_ageAt (Or.inl rfl) hn hW3 hO hw hs) ?_
      refine wp_eq (e7_72 _ _ _ _ _ _ _ _ _ _) ?_
      obtain ⟨a, a1, a2⟩ := hG.2.2.2.1 _ l1
      obtain ⟨b, b1, b2⟩ := hG.2.2.2.1 _ r1
      have ed : dxN ρ c w (seJ j i) = (a - b) + (b - a) := by
        unfold dxN dsC agV
        rw [a2, b2, nI_clamp (by omega), nI_clamp (by omega)]
      rw [a2, b2, (abs30 a (by omega) b (by omega)).1, nI_add, nI_1, ← ed]
      refine wp_weak (ls := [.ref 63, .ref 25, .int (nI w), .int (nI j), .int (nI (sumN (fun i => dxN ρ c w (seJ j i)) (i + 1))), .int (nI (i + 1)), .null, .null, .null]) (by simp [lle, lng]; rfl) ?_
      refine ih D3 ⟨fun x hx => ?_, hq⟩
      rw [← hD3]
      by_cases hx1 : x = seJ j i + 1
      · rw [hx1, ud_at, es2, if_pos (by unfold seJ; split <;> split <;> omega)]
        unfold ofN
        rw [if_neg hlr]
      · by_cases hx0 : x = seJ j i
        · rw [hx0, ud_k hlr, ud_at, es1, if_pos (by unfold seJ; split <;> split <;> omega)]
          unfold ofN
          rw [if_neg (fun z => hlr z.symm)]
        · rw [ud_k (fun z => hx1 ((hinj _ _ hx hs).mp z)), ud_k (fun z => hx0 ((hinj _ _ hx (by omega)).mp z)), i1 x hx]
          by_cases hlt : x < seJ j i
          · rw [if_pos hlt, if_pos (by unfold seJ at hlt ⊢; split at hlt <;> split <;> omega)]
          · rw [if_neg hlt]
            by_cases hlt2 : x < seJ j (i + 1)
            · rw [if_pos hlt2]
              have hxj : x = j := by
                unfold seJ at hlt hlt2 hx0 hx1
                split at hlt <;> split at hlt2 <;> simp_all <;> omega
              have : sqN j x = x := by unfold sqN; rw [if_pos hxj]
              unfold ofN
              rw [this, if_pos rfl]
            · rw [if_neg hlt2]
    refine wp_eq (e7_8 _ _ _ _) ?_
    rw [nI_clamp (show w < 2 ^ 31 by omega), e28, ek, l2]
    refine oG hw (by decide) (wp_f (nI_ge hi (by omega)) ?_)
    by_cases hlt : 2 * i < j
    · exact wp_f (nI_ge hlt (by omega)) (body (2 * i) (by unfold seJ; rw [if_pos hlt]))
    · refine wp_t (nI_le (by omega) (by omega)) (wp_eq (e7_25 _ _ _ _) ?_)
      rw [l2, nI_1]
      exact body (2 * i + 1) (by unfold seJ; rw [if_neg hlt])
  · intro D2 ⟨i1, i2⟩
    have e28 : D2 28 w = nI (sizeN ρ c w) := by rw [i2 28 (by decide)]; exact rf1 w hw
    have ek : nI (sizeN ρ c w) / 2 = nI (sizeN ρ c w / 2) := nI_div (b := 2) (by omega) (by decide)
    refine wp_eq (e7_8 _ _ _ _) ?_
    rw [nI_clamp (show w < 2 ^ 31 by omega), e28, ek]
    refine oG hw (by decide) (wp_t (nI_le (Nat.le_refl _) (by omega)) (wp_eq (e7_78 _ _ _ _) (wp_rI ⟨rfl, fun x hx => ?_, i2⟩)))
    rw [i1 x hx, if_pos]
    unfold seJ
    split <;> omega
  · obtain ⟨g1, -⟩ := who_ex hO hw hx
    rw [f1 _ (by omega)]
    by_cases hlt : x < seJ j 0
    · rw [if_pos hlt]
      have hxj : x = j := by
        unfold seJ at hlt
        split at hlt <;> omega
      have : sqN j x = x := by unfold sqN; rw [if_pos hxj]
      unfold ofN
      rw [this, if_pos rfl]
    · rw [if_neg hlt]
theorem of_inj {p a b : Nat} (ha : a < 2 ^ 31) (hb : b < 2 ^ 31) : ofN p a = ofN p b ↔ a = b := by
  unfold ofN
  constructor
  · intro h
    by_cases h1 : a = p
    · rw [if_pos h1] at h
      by_cases h2 : b = p
      · rw [h1, h2]
      · rw [if_neg h2] at h
        exact absurd h.symm (nI_ne1 hb)
    · rw [if_neg h1] at h
      by_cases h2 : b = p
      · rw [if_pos h2] at h
        exact absurd h (nI_ne1 ha)
      · rw [if_neg h2] at h
        exact nI_inj ha hb h
  · intro h; rw [h]
theorem of_m1 {p a : Nat} (ha : a < 2 ^ 31) : ofN p a = -1 ↔ a = p := by
  unfold ofN
  by_cases h : a = p
  · rw [if_pos h]; exact ⟨fun _ => h, fun _ => rfl⟩
  · rw [if_neg h]; exact ⟨fun z => absurd z (nI_ne1 ha), fun z => absurd z h⟩
/-- whether what was tried is the first of both -/
theorem c_8 {f g : Nat → Nat} (hO : Ok ρ c) (hn : ρ.1 ≤ 12) (hW : PewsC 25 ρ c D) (hw : w < 12) (hf : ∀ p, p < ρ.1 → inW c w p = true → D 65 p = ofN p (f p) ∧ f p < 12) (hg : ∀ p, p < ρ.1 → inW c w p = true → D 64 p = ofN p (g p) ∧ g p < 12) : ∃ y : Int32, EvM X (d + 1) 8 [.ref 63, .ref 25, .int (nI w)] (hS u D J) = some (.inl (some (.int y)), hS u D J) ∧ ((y = 1 ∧ lexL ρ c w f g) ∨ (y = 0 ∧ ¬ lexL ρ c w f g)) := by
  suffices h : Wp (EvM X (d + 1) 8 [.ref 63, .ref 25, .int (nI w)] (hS u D J)) (RI u J (fun y D' => ((y = 1 ∧ lexL ρ c w f g) ∨ (y = 0 ∧ ¬ lexL ρ c w f g)) ∧ D' = D)) by
    obtain ⟨Y, h1, y, D', rfl, h2, rfl⟩ := h
    exact ⟨y, h1, h2⟩
  refine wp_eq (e8_0 _) (wp_iE (c_bitsOf (Or.inl rfl) hn hW hO hw) ?_)
  refine wp_eq (e8_3 _ _) ?_
  refine wp_loop (R := fun p (_ : Unit) => Ev X (d + 1) 8 (6, [.ref 63, .ref 25, .int (nI w), .int (orP (inW c w) ρ.1), .int (nI p)], [], hS u D J)) (fun p _ => ∀ r, r < p → r < ρ.1 → inW c w r = true → f r = g r) 12 ?_ ?_ 0 () (by decide) (fun r hr => absurd hr (Nat.not_lt_zero r))
  · intro p _ hp hI ih
    have next : (p < ρ.1 → inW c w p = true → f p = g p) → Wp (Ev X (d + 1) 8 (50, [.ref 63, .ref 25, .int (nI w), .int (orP (inW c w) ρ.1), .int (nI p)], [], hS u D J)) (RI u J (fun y D' => ((y = 1 ∧ lexL ρ c w f g) ∨ (y = 0 ∧ ¬ lexL ρ c w f g)) ∧ D' = D)) := by
      intro he
      refine wp_eq (e8_50 _ _ _) ?_
      rw [nI_1]
      refine ih () (fun r hr hr2 hi => ?_)
      by_cases hrp : r = p
      · rw [hrp] at hr2 hi ⊢; exact he hr2 hi
      · exact hI r (by omega) hr2 hi
    refine wp_eq (e8_6 _ _ _) (wp_f (nI_ge (b := 12) hp (by decide)) ?_)
    have eb : ((orP (inW c w) ρ.1) >>> (nI p &&& 31)) &&& 1 = if p < ρ.1 ∧ inW c w p = true then 1 else 0 := tb_orP (inW c w) ρ.1 (by omega) p (by omega)
    rw [eb]
    by_cases hin : p < ρ.1 ∧ inW c w p = true
    · rw [if_pos hin]
      obtain ⟨f1, f2⟩ := hf p hin.1 hin.2
      obtain ⟨g1, g2⟩ := hg p hin.1 hin.2
      refine wp_f (fun z => z rfl) ?_
      rw [nI_clamp (show p < 2 ^ 31 by omega), f1, g1]
      refine oG hp (by decide) (oG hp (by decide) (wp_if (fun h => next (fun _ _ => (of_inj (by omega) (by omega)).mp h)) (fun h => oG hp (by decide) ?_)))
      have hne : f p ≠ g p := fun z => h (by rw [z])
      have yes : rkN p (f p) < rkN p (g p) → Wp (Ev X (d + 1) 8 (46, [.ref 63, .ref 25, .int (nI w), .int (orP (inW c w) ρ.1), .int (nI p)], [], hS u D J)) (RI u J (fun y D' => ((y = 1 ∧ lexL ρ c w f g) ∨ (y = 0 ∧ ¬ lexL ρ c w f g)) ∧ D' = D)) := fun hr =>
        wp_eq (e8_46 _ _ _) (wp_rI ⟨Or.inl ⟨rfl, p, hin.1, hin.2, hr, fun r r1 r2 => hI r r1 (by omega) r2⟩, rfl⟩)
      have no : rkN p (g p) < rkN p (f p) → Wp (Ev X (d + 1) 8 (48, [.ref 63, .ref 25, .int (nI w), .int (orP (inW c w) ρ.1), .int (nI p)], [], hS u D J)) (RI u J (fun y D' => ((y = 1 ∧ lexL ρ c w f g) ∨ (y = 0 ∧ ¬ lexL ρ c w f g)) ∧ D' = D)) := fun hr => by
        refine wp_eq (e8_48 _ _ _) (wp_rI ⟨Or.inr ⟨rfl, ?_⟩, rfl⟩)
        rintro ⟨q, q1, q2, q3, q4⟩
        rcases Nat.lt_trichotomy q p with hl | hl | hl
        · rw [hI q hl q1 q2] at q3
          exact Nat.lt_irrefl _ q3
        · rw [hl] at q3; omega
        · exact hne (q4 p hl hin.2)
      refine wp_if (fun h1 => ?_) (fun h1 => oG hp (by decide) ?_)
      · have hgp := (of_m1 (by omega)).mp h1
        refine yes ?_
        unfold rkN
        rw [if_pos hgp, if_neg (fun z => hne (z.trans hgp.symm))]; omega
      · have hgp : ¬ g p = p := fun z => h1 ((of_m1 (by omega)).mpr z)
        refine wp_if (fun h2 => ?_) (fun h2 => oG hp (by decide) (oG hp (by decide) ?_))
        · have hfp := (of_m1 (by omega)).mp h2
          refine no ?_
          unfold rkN
          rw [if_neg hgp, if_pos hfp]; omega
        · have hfp : ¬ f p = p := fun z => h2 ((of_m1 (by omega)).mpr z)
          unfold ofN
          rw [if_neg hgp, if_neg hfp]
          refine wp_if (fun h3 => no ?_) (fun h3 => yes ?_)
          · unfold rkN
            rw [if_neg hgp, if_neg hfp]
            have : ¬ f p < g p := fun z => nI_ge z (by omega) h3
            omega
          · unfold rkN
            rw [if_neg hgp, if_neg hfp]
            exact Nat.lt_of_not_le (fun z => h3 (nI_le z (by omega)))
    · rw [if_neg hin]
      exact wp_t (by decide) (next (fun a b => absurd ⟨a, b⟩ hin))
  · intro _ hI
    refine wp_eq (e8_6 _ _ _) (wp_t (nI_le (a := 12) (Nat.le_refl _) (by decide)) (wp_eq (e8_52 _ _ _) (wp_rI ⟨Or.inr ⟨rfl, ?_⟩, rfl⟩)))
    rintro ⟨q, q1, q2, q3, q4⟩
    rw [hI q (by omega) q1 q2] at q3
    exact Nat.lt_irrefl _ q3
theorem tw_in (hO : Ok ρ c) (hw : w < 12) {j p : Nat} (hp : p < ρ.1) (hi : inW c w p = true) : ∃ x, x < sizeN ρ c w ∧ p = whoN ρ c (12 * w + x) ∧ twN ρ c w j p = whoN ρ c (12 * w + sqN j x) := by
  obtain ⟨-, -, s3⟩ := seat_perm hO hw
  obtain ⟨x, x1, x2⟩ := s3 p hp hi
  exact ⟨x, x1, x2.symm, by rw [← x2]; exact tw_seat hO hw x1⟩
theorem tw_lt (hO : Ok ρ c) (hw : w < 12) {j p : Nat} (hj : vaJ (sizeN ρ c w) j) (hp : p < ρ.1) (hi : inW c w p = true) : twN ρ c w j p < ρ.1 := by
  obtain ⟨x, x1, x2, x3⟩ := tw_in (j := j) hO hw hp hi
  rw [x3]
  exact (who_ex hO hw (sp_ok hj x1).1).1
/-- a pew's couples -/
theorem c_6 (hG : Good ρ c) (hn : ρ.1 ≤ 12) (hW : PewsC 25 ρ c D) (hw : w < 12) : Wp (EvM X (d + 2) 6 [.ref 63, .ref 25, .int (nI w)] (hS u D J)) (RV u J (fun D' => D' 63 0 = D 63 0 + nI (sizeN ρ c w / 2) ∧ D' 63 1 = D 63 1 + nI (smJ (dxN ρ c w) (sizeN ρ c w) (bwN ρ c w)) ∧ (∀ p, p < ρ.1 → inW c w p = true → D' 64 p = ofN p (twN ρ c w (bwN ρ c w) p)) ∧ (∀ p, p < ρ.1 → inW c w p = false → D' 64 p = D 64 p) ∧ ∀ q, q ≠ 63 → q ≠ 64 → q ≠ 65 → D' q = D q)) := by
  have hO := hG.1
  have h4 := hO.2.2.2.1 w hw
  obtain ⟨sp1, sp2, sp3⟩ := seat_perm hO hw
  obtain ⟨-, rf1, rf2⟩ := id hW
  have e28 : D 28 w = nI (sizeN ρ c w) := rf1 w hw
  have ek : nI (sizeN ρ c w) / 2 = nI (sizeN ρ c w / 2) := nI_div (b := 2) (by omega) (by decide)
  have em : nI (sizeN ρ c w) - nI (sizeN ρ c w / 2) * 2 = nI (sizeN ρ c w % 2) := by rw [← ek]; exact nI_mod (b := 2) (by omega) (by decide)
  have small : ∀ j, vaJ (sizeN ρ c w) j → smJ (dxN ρ c w) (sizeN ρ c w) j < 2 ^ 31 := fun j hj => by
    have := sm_le2 (d := dxN ρ c w) (B := 29) hj (fun x hx => dx_le hG hw hx)
    omega
  have hnp := nj_pos (sizeN ρ c w)
  have hnj : njN (sizeN ρ c w) ≤ 6 := by unfold njN; split <;> omega
  have hj0 : j0N (sizeN ρ c w) ≤ 12 := by unfold j0N; split <;> omega
  -- the state between two tries
  have hbv : ∀ i, i < njN (sizeN ρ c w) → vaJ (sizeN ρ c w) (bjN ρ c w i) := fun i hi => by
    obtain ⟨⟨t, t1, t2⟩, -⟩ := bj_inv ρ c w i hi
    rw [t2]; exact va_j (by omega)
  have start : Wp (Ev X (d + 2) 6 (15, [.ref 63, .ref 25, .int (nI w), .int (nI (sizeN ρ c w)), .int (-1), .int (nI (j0N (sizeN ρ c w))), .null, .null, .null], [], hS u D J)) (RV u J (fun D' => D' 63 0 = D 63 0 + nI (sizeN ρ c w / 2) ∧ D' 63 1 = D 63 1 + nI (smJ (dxN ρ c w) (sizeN ρ c w) (bwN ρ c w)) ∧ (∀ p, p < ρ.1 → inW c w p = true → D' 64 p = ofN p (twN ρ c w (bwN ρ c w) p)) ∧ (∀ p, p < ρ.1 → inW c w p = false → D' 64 p = D 64 p) ∧ ∀ q, q ≠ 63 → q ≠ 64 → q ≠ 65 → D' q = D q)) := by
    refine wp_loop (R := fun i (x : Int32 × DD) => Ev X (d + 2) 6 (15, [.ref 63, .ref 25, .int (nI w), .int (nI (sizeN ρ c w)), .int x.1, .int (nI (j0N (sizeN ρ c w) + 2 * i)), .null, .null, .null], [], hS u x.2 J)) (fun i (x : Int32 × DD) => (i = 0 → x.1 = -1) ∧ (0 < i → x.1 = nI (smJ (dxN ρ c w) (sizeN ρ c w) (bjN ρ c w (i - 1))) ∧ ∀ p, p < ρ.1 → inW c w p = true → x.2 64 p = ofN p (twN ρ c w (bjN ρ c w (i - 1)) p)) ∧ (∀ p, p < ρ.1 → inW c w p = false → x.2 64 p = D 64 p) ∧ ∀ q, q ≠ 64 → q ≠ 65 → x.2 q = D q) (njN (sizeN ρ c w)) ?_ ?_ 0 (-1, D) (Nat.zero_le _) ⟨fun _ => rfl, fun h => absurd h (Nat.lt_irrefl _), fun _ _ _ => rfl, fun _ _ _ => rfl⟩
    · intro i ⟨x4, D1⟩ hi ⟨i0, i1, i2, i3⟩ ih
      dsimp only at i0 i1 i2 i3 ⊢
      have hjv := va_j (k := sizeN ρ c w) hi
      have hjk : j0N (sizeN ρ c w) + 2 * i ≤ sizeN ρ c w := by unfold vaJ at hjv; omega
      have hW1 : PewsC 25 ρ c D1 := hW.mv (i3 26 (by decide) (by decide)) (i3 27 (by decide) (by decide)) (i3 28 (by decide) (by decide))
      refine wp_eq (e6_15 _ _ _ _) (wp_f (Int32.not_lt.mpr (nI_le hjk (by omega))) ?_)
      refine wp_cI (c_7 (d := d) hG hn hW1 hw hjv) (fun y D2 h2 => ?_)
      obtain ⟨rfl, g1, g2⟩ := h2
      have hW2 : PewsC 25 ρ c D2 := hW1.mv (g2 26 (by decide)) (g2 27 (by decide)) (g2 28 (by decide))
      have g1' : ∀ p, p < ρ.1 → inW c w p = true → D2 65 p = ofN p (twN ρ c w (j0N (sizeN ρ c w) + 2 * i) p) := fun p hp hin => by
        obtain ⟨x, x1, x2, x3⟩ := tw_in (j := j0N (sizeN ρ c w) + 2 * i) hO hw hp hin
        rw [x3, x2]; exact g1 x x1
      have i3' : ∀ q, q ≠ 64 → q ≠ 65 → D2 q = D q := fun q a b => by rw [g2 q b]; exact i3 q a b
      -- it is taken
      have take : ∀ x6 : Int32, bjN ρ c w i = j0N (sizeN ρ c w) + 2 * i → Wp (Ev X (d + 2) 6 (42, [.ref 63, .ref 25, .int (nI w), .int (nI (sizeN ρ c w)), .int (nI (smJ (dxN ρ c w) (sizeN ρ c w) (j0N (sizeN ρ c w) + 2 * i))), .int (nI (j0N (sizeN ρ c w) + 2 * i)), .int x6, .int 0, .null], [], hS u D2 J)) (RV u J (fun D' => D' 63 0 = D 63 0 + nI (sizeN ρ c w / 2) ∧ D' 63 1 = D 63 1 + nI (smJ (dxN ρ c w) (sizeN ρ c w) (bwN ρ c w)) ∧ (∀ p, p < ρ.1 → inW c w p = true → D' 64 p = ofN p (twN ρ c w (bwN ρ c w) p)) ∧ (∀ p, p < ρ.1 → inW c w p = false → D' 64 p = D 64 p) ∧ ∀ q, q ≠ 63 → q ≠ 64 → q ≠ 65 → D' q = D q)) := by
        intro x6 hbj
        refine wp_weak (ls := [.ref 63, .ref 25, .int (nI w), .int (nI (sizeN ρ c w)), .int (nI (smJ (dxN ρ c w) (sizeN ρ c w) (j0N (sizeN ρ c w) + 2 * i))), .int (nI (j0N (sizeN ρ c w) + 2 * i)), .int x6, .int (nI 0), .null]) (by simp [lle, lng]; rfl) ?_
        refine wp_loop (R := fun x (D3 : DD) => Ev X (d + 2) 6 (42, [.ref 63, .ref 25, .int (nI w), .int (nI (sizeN ρ c w)), .int (nI (smJ (dxN ρ c w) (sizeN ρ c w) (j0N (sizeN ρ c w) + 2 * i))), .int (nI (j0N (sizeN ρ c w) + 2 * i)), .int x6, .int (nI x), .null], [], hS u D3 J)) (fun x (D3 : DD) => (∀ y, y < x → D3 64 (whoN ρ c (12 * w + y)) = D2 65 (whoN ρ c (12 * w + y))) ∧ (∀ p, p < ρ.1 → inW c w p = false → D3 64 p = D 64 p) ∧ ∀ q, q ≠ 64 → D3 q = D2 q) (sizeN ρ c w) ?_ ?_ 0 D2 (Nat.zero_le _) ⟨fun y hy => absurd hy (Nat.not_lt_zero y), fun p a b => by rw [g2 64 (by decide)]; exact i2 p a b, fun _ _ => rfl⟩
        · intro x D3 hx ⟨j1, j2, j3⟩ ih3
          obtain ⟨k1, k2⟩ := sp1 x hx
          have row : D3 27 (12 * w + x) = nI (whoN ρ c (12 * w + x)) := by rw [j3 27 (by decide)]; exact hW2.2.2 w x hw hx
          refine wp_eq (e6_42 _ _ _ _ _ _) (wp_f (nI_ge hx (by omega)) ?_)
          rw [lw, nI_clamp (show 12 * w + x < 2 ^ 31 by omega), row, nI_clamp (show whoN ρ c (12 * w + x) < 2 ^ 31 by omega), nI_1, j3 65 (by decide)]
          refine oG (by omega) (by decide) (oG (by omega) (by decide) (oG (by omega) (by decide) ?_))
          refine wp_weak (ls := [.ref 63, .ref 25, .int (nI w), .int (nI (sizeN ρ c w)), .int (nI (smJ (dxN ρ c w) (sizeN ρ c w) (j0N (sizeN ρ c w) + 2 * i))), .int (nI (j0N (sizeN ρ c w) + 2 * i)), .int x6, .int (nI (x + 1)), .null]) (by simp [lle, lng]) ?_
          refine ih3 _ ⟨fun y hy => ?_, fun p a b => ?_, fun q hq => by rw [ud_q hq]; exact j3 q hq⟩
          · by_cases hyx : y = x
            · rw [hyx, ud_at]
            · rw [ud_k (fun z => hyx (sp2 y x (by omega) hx z))]; exact j1 y (by omega)
          · rw [ud_k (fun z => by rw [z, k2] at b; cases b)]; exact j2 p a b
        · intro D3 ⟨j1, j2, j3⟩
          refine wp_eq (e6_42 _ _ _ _ _ _) (wp_t (nI_le (Nat.le_refl _) (by omega)) ?_)
          have e2 : nI (j0N (sizeN ρ c w) + 2 * i) + 2 = nI (j0N (sizeN ρ c w) + 2 * (i + 1)) := by rw [lk]; congr 1
          rw [e2]
          refine wp_weak (ls := [.ref 63, .ref 25, .int (nI w), .int (nI (sizeN ρ c w)), .int (nI (smJ (dxN ρ c w) (sizeN ρ c w) (j0N (sizeN ρ c w) + 2 * i))), .int (nI (j0N (sizeN ρ c w) + 2 * (i + 1))), .null, .null, .null]) (by simp [lle, lng]) ?_
          refine ih (_, D3) ⟨fun h => by omega, fun _ => ⟨?_, fun p hp hin => ?_⟩, j2, fun q a b => by show D3 q = D q; rw [j3 q a]; exact i3' q a b⟩
          · show nI _ = nI (smJ (dxN ρ c w) (sizeN ρ c w) (bjN ρ c w (i + 1 - 1)))
            rw [Nat.add_sub_cancel, hbj]
          · show D3 64 p = ofN p (twN ρ c w (bjN ρ c w (i + 1 - 1)) p)
            rw [Nat.add_sub_cancel, hbj]
            obtain ⟨x, x1, x2⟩ := sp3 p hp hin
            rw [← x2, j1 x x1, x2]
            exact g1' p hp hin
      -- it is not
      have leave : ∀ x6 : Int32, 0 < i → x4 = nI (smJ (dxN ρ c w) (sizeN ρ c w) (bjN ρ c w (i - 1))) → bjN ρ c w i = bjN ρ c w (i - 1) → Wp (Ev X (d + 2) 6 (15, [.ref 63, .ref 25, .int (nI w), .int (nI (sizeN ρ c w)), .int x4, .int (nI (j0N (sizeN ρ c w) + 2 * i) + 2), .int x6, .null, .null], [], hS u D2 J)) (RV u J (fun D' => D' 63 0 = D 63 0 + nI (sizeN ρ c w / 2) ∧ D' 63 1 = D 63 1 + nI (smJ (dxN ρ c w) (sizeN ρ c w) (bwN ρ c w)) ∧ (∀ p, p < ρ.1 → inW c w p = true → D' 64 p = ofN p (twN ρ c w (bwN ρ c w) p)) ∧ (∀ p, p < ρ.1 → inW c w p = false → D' 64 p = D 64 p) ∧ ∀ q, q ≠ 63 → q ≠ 64 → q ≠ 65 → D' q = D q)) := by
        intro x6 h0 hx4 hbj
        have e2 : nI (j0N (sizeN ρ c w) + 2 * i) + 2 = nI (j0N (sizeN ρ c w) + 2 * (i + 1)) := by rw [lk]; congr 1
        rw [e2]
        refine wp_weak (ls := [.ref 63, .ref 25, .int (nI w), .int (nI (sizeN ρ c w)), .int x4, .int (nI (j0N (sizeN ρ c w) + 2 * (i + 1))), .null, .null, .null]) (by simp [lle, lng]) ?_
        refine ih (x4, D2) ⟨fun h => by omega, fun _ => ⟨?_, fun p hp hin => ?_⟩, fun p a b => by show D2 64 p = _; rw [g2 64 (by decide)]; exact i2 p a b, i3'⟩
        · show x4 = nI (smJ (dxN ρ c w) (sizeN ρ c w) (bjN ρ c w (i + 1 - 1)))
          rw [Nat.add_sub_cancel, hbj]; exact hx4
        · show D2 64 p = ofN p (twN ρ c w (bjN ρ c w (i + 1 - 1)) p)
          rw [Nat.add_sub_cancel, hbj, g2 64 (by decide)]; exact (i1 h0).2 p hp hin
      refine wp_eq (e6_23 _ _ _ _ _) ?_
      by_cases hi0 : i = 0
      · rw [i0 hi0]
        refine wp_t rfl (take _ ?_)
        rw [hi0]; rfl
      · obtain ⟨a1, a2⟩ := i1 (by omega)
        obtain ⟨i', rfl⟩ : ∃ i', i = i' + 1 := ⟨i - 1, by omega⟩
        rw [Nat.add_sub_cancel] at a1 a2
        have hbv' := hbv i' (by omega)
        have s1 := small _ hjv
        have s2 := small _ hbv'
        rw [a1]
        refine wp_f (nI_ne1 s2) (wp_if (fun h => take _ ?_) (fun h => wp_if (fun h2 => ?_) (fun h2 => ?_)))
        · rw [bjN, if_pos (Or.inl ((nI_ltI s1 s2).mp h))]
        · rw [a1] at leave
          refine leave _ (by omega) (by rw [Nat.add_sub_cancel]) ?_
          rw [Nat.add_sub_cancel, bjN, if_neg]
          rintro (z | ⟨z, -⟩)
          · exact h (nI_lt z s2)
          · exact h2 (by rw [z])
        · have heq := nI_inj s1 s2 (Classical.not_not.mp h2)
          obtain ⟨y, r, hy⟩ := c_8 (X := X) (d := d) (u := u) (J := J) (f := twN ρ c w (j0N (sizeN ρ c w) + 2 * (i' + 1))) (g := twN ρ c w (bjN ρ c w i')) hO hn hW2 hw (fun p hp hin => ⟨g1' p hp hin, by have := tw_lt hO hw hjv hp hin; omega⟩) (fun p hp hin => ⟨by rw [g2 64 (by decide)]; exact a2 p hp hin, by have := tw_lt hO hw hbv' hp hin; omega⟩)
          refine wp_iE r ?_
          refine wp_eq (e6_37 _ _ _ _ _ _) ?_
          rcases hy with ⟨rfl, hl⟩ | ⟨rfl, hl⟩
          · refine wp_f (by decide) (take _ ?_)
            rw [bjN, if_pos (Or.inr ⟨heq, hl⟩)]
          · rw [a1] at leave
            refine wp_t rfl (leave _ (by omega) (by rw [Nat.add_sub_cancel]) ?_)
            rw [Nat.add_sub_cancel, bjN, if_neg]
            rintro (z | ⟨-, z⟩)
            · omega
            · exact hl z
    · intro ⟨x4, D1⟩ ⟨i0, i1, i2, i3⟩
      dsimp only at i0 i1 i2 i3 ⊢
      obtain ⟨a1, a2⟩ := i1 hnp
      have hlim : sizeN ρ c w < j0N (sizeN ρ c w) + 2 * njN (sizeN ρ c w) := by unfold j0N njN; split <;> omega
      have s2 := small _ (hbv (njN (sizeN ρ c w) - 1) (by omega))
      refine wp_eq (e6_15 _ _ _ _) (wp_t (nI_lt hlim (by omega)) ?_)
      rw [ek, a1, if_neg (nI_pos s2), ud_k (show 1 ≠ 0 by decide), i3 63 (by decide) (by decide)]
      refine wp_rV ⟨by rw [ud_k (by decide), ud_at], by rw [ud_at]; rfl, fun p hp hin => by rw [ud_q (by decide), ud_q (by decide)]; exact a2 p hp hin, fun p hp hin => by rw [ud_q (by decide), ud_q (by decide)]; exact i2 p hp hin, fun q a b cc => by rw [ud_q a, ud_q a]; exact i3 q b cc⟩
  refine wp_eq (e6_0 _) ?_
  rw [nI_clamp (show w < 2 ^ 31 by omega), e28, ek, em]
  refine oG hw (by decide) ?_
  unfold j0N at start
  by_cases hk : sizeN ρ c w % 2 = 0
  · rw [if_pos hk] at start
    rw [hk]
    exact wp_f (fun z => z rfl) start
  · rw [if_neg hk] at start
    have : sizeN ρ c w % 2 = 1 := by omega
    rw [this]
    exact wp_t (by decide) start
theorem c_5 (hσ : SgOk σ) (hC : CI σ D) : Wp (EvM X (d + 3) 5 [.ref 63, .ref 25] (hS u D J)) (RV u J (fun D' => D' 63 0 = nI (sumN (fun w => sizeN σ.2.1 σ.2.2.1 w / 2) 12) ∧ D' 63 1 = nI (difN σ.2.1 σ.2.2.1 (bwN σ.2.1 σ.2.2.1)) ∧ (∀ p, p < σ.2.1.1 → D' 64 p = ofN p (moN σ.2.1 σ.2.2.1 (bwN σ.2.1 σ.2.2.1) p)) ∧ CI σ D' ∧ ∀ q, 70 ≤ q → D' q = D q)) := by
  have hn := hσ.2.1.1.1
  have hG := hσ.2.2.1
  have hO := hG.1
  refine wp_eq e5_0 ?_
  refine wp_cV (s_fill (Q := 64) (n := 12) (by unfold isQ; omega)) (fun D1 g => ?_)
  obtain ⟨f1, -, f3⟩ := g
  refine wp_eq e5_10 ?_
  have q1 : ∀ q, q ≠ 63 → q ≠ 64 → D1 q = D q := fun q a b => by rw [f3 q b, ud_q a, ud_q a]
  have s63 : D1 63 0 = 0 ∧ D1 63 1 = 0 := by
    rw [f3 63 (by decide)]
    exact ⟨by rw [ud_k (by decide), ud_at], by rw [ud_at]⟩
  refine wp_loop (R := fun w (D2 : DD) => Ev X (d + 3) 5 (12, [.ref 63, .ref 25, .int (nI w)], [], hS u D2 J)) (fun w (D2 : DD) => D2 63 0 = nI (sumN (fun w => sizeN σ.2.1 σ.2.2.1 w / 2) w) ∧ D2 63 1 = nI (sumN (fun w => smJ (dxN σ.2.1 σ.2.2.1 w) (sizeN σ.2.1 σ.2.2.1 w) (bwN σ.2.1 σ.2.2.1 w)) w) ∧ (∀ v p, v < w → p < σ.2.1.1 → inW σ.2.2.1 v p = true → D2 64 p = ofN p (twN σ.2.1 σ.2.2.1 v (bwN σ.2.1 σ.2.2.1 v) p)) ∧ (∀ p, p < σ.2.1.1 → (∀ v, v < w → inW σ.2.2.1 v p = false) → D2 64 p = -1) ∧ ∀ q, q ≠ 63 → q ≠ 64 → q ≠ 65 → D2 q = D q) 12 ?_ ?_ 0 D1 (by decide) ⟨s63.1, s63.2, fun v p hv => absurd hv (Nat.not_lt_zero v), fun p hp _ => f1 p (by omega), fun q a b _ => q1 q a b⟩
  · intro w D2 hw ⟨i1, i2, i3, i4, i5⟩ ih
    have hW2 : PewsC 25 σ.2.1 σ.2.2.1 D2 := hC.2.2.1.mv (i5 26 (by decide) (by decide) (by decide)) (i5 27 (by decide) (by decide) (by decide)) (i5 28 (by decide) (by decide) (by decide))
    refine wp_eq (e5_12 _) (wp_f (nI_ge (b := 12) hw (by decide)) ?_)
    refine wp_cV (c_6 (d := d) hG hn hW2 hw) (fun D3 h3 => ?_)
    obtain ⟨k1, k2, k3, k4, k5⟩ := h3
    refine wp_eq (e5_19 _) ?_
    rw [nI_1]
    refine ih D3 ⟨by rw [k1, i1, nI_add]; rfl, by rw [k2, i2, nI_add]; rfl, fun v p hv hp hi => ?_, fun p hp ha => ?_, fun q a b cc => by rw [k5 q a b cc]; exact i5 q a b cc⟩
    · by_cases hvw : v = w
      · rw [hvw] at hi ⊢; exact k3 p hp hi
      · have hno : inW σ.2.2.1 w p = false := by
          have hpn : ¬ σ.2.2.1 p = -1 := fun z => by rw [inW_no z] at hi; cases hi
          obtain ⟨s, s1, s2⟩ := (hO.v p hp).resolve_left hpn
          rw [inW_s s1 (by omega) s2] at hi ⊢
          have := of_decide_eq_true hi
          exact decide_eq_false (by omega)
        rw [k4 p hp hno]; exact i3 v p (by omega) hp hi
    · rw [k4 p hp (ha w (by omega))]; exact i4 p hp (fun v hv => ha v (by omega))
  · intro D2 ⟨i1, i2, i3, i4, i5⟩
    refine wp_eq (e5_12 _) (wp_t (nI_le (a := 12) (Nat.le_refl _) (by decide)) (wp_rV ⟨i1, i2, fun p hp => ?_, hC.scr (fun q hq => i5 q (by omega) (by omega) (by omega)) (fun i _ _ => by rw [i5 5 (by decide) (by decide) (by decide)]) (by rw [i5 32 (by decide) (by decide) (by decide)]; exact hC.2.2.2.2.2.2.2.2.1), fun q hq => i5 q (by omega) (by omega) (by omega)⟩))
    by_cases hs : σ.2.2.1 p = -1
    · have e : moN σ.2.1 σ.2.2.1 (bwN σ.2.1 σ.2.2.1) p = p := if_neg (fun z => z.2 hs)
      rw [e, i4 p hp (fun v _ => inW_no hs)]
      unfold ofN
      rw [if_pos rfl]
    · obtain ⟨w, x, w1, w2, w3, w4, w5, w6, w7⟩ := seat_of hO hp hs
      have e : moN σ.2.1 σ.2.2.1 (bwN σ.2.1 σ.2.2.1) p = twN σ.2.1 σ.2.2.1 w (bwN σ.2.1 σ.2.2.1 w) p := by
        unfold moN
        rw [if_pos ⟨hp, hs⟩, w6]
      rw [e]
      exact i3 w p w1 hp (by rw [inW_s (by omega) (by omega) w3]; exact decide_eq_true (by omega))
end COUPC
