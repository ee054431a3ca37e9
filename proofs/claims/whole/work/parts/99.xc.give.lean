/-! ===== what a rule gives: the class ===== -/
theorem udF (D : DD) (q k : Nat) (v : Int32) : ud D q k v q = upd (D q) k v := by
  funext i
  by_cases h : i = k
  · rw [h, ud_at, upd_at]
  · rw [ud_k h, upd_ne h]
section GIVE
variable {X : XS} {d u : Nat} {D : DD} {J : JJ}
theorem c_opv {x1 x2 x3 x4 : Int32} {Q : Rs → Prop} (ho : ob x2 350 = true) (h : Wp (Ev X d 93 (96, [.ref 3, .int x1, .int x2, .int x3, .int x4, .int (opI (D 6 x2.toNatClampNeg) x3 x4)], [], hS u D J)) Q) : Wp (Ev X d 93 (27, [.ref 3, .int x1, .int x2, .int x3, .int x4, .null], [], hS u D J)) Q := by
  refine wp_eq (e93_27 _ _ _ _) (wp_gd ho ?_)
  unfold opI at h
  generalize D 6 x2.toNatClampNeg = o at h ⊢
  by_cases h0 : o = 0
  · rw [if_pos h0] at h
    refine wp_t h0 ?_
    by_cases a : ¬ x3 = 0
    · rw [if_pos a] at h
      exact wp_t a (wp_eq (e93_36 _ _ _ _) (wp_eq (e93_40 _ _ _ _ _) h))
    · rw [if_neg a] at h
      refine wp_f a ?_
      by_cases c : x4 = 0
      · rw [if_pos c] at h
        exact wp_t c (wp_eq (e93_38 _ _ _ _) (wp_eq (e93_40 _ _ _ _ _) h))
      · rw [if_neg c] at h
        exact wp_f c (wp_eq (e93_36 _ _ _ _) (wp_eq (e93_40 _ _ _ _ _) h))
  rw [if_neg h0] at h
  refine wp_f h0 ?_
  by_cases h1 : o = 1
  · rw [if_pos h1] at h
    refine wp_t h1 ?_
    by_cases a : x3 = 0
    · rw [if_pos a] at h
      exact wp_t a (wp_eq (e93_47 _ _ _ _) (wp_eq (e93_49 _ _ _ _ _) h))
    · rw [if_neg a] at h
      refine wp_f a ?_
      by_cases c : x4 = 0
      · rw [if_pos c] at h
        exact wp_t c (wp_eq (e93_47 _ _ _ _) (wp_eq (e93_49 _ _ _ _ _) h))
      · rw [if_neg c] at h
        exact wp_f c (wp_eq (e93_49 _ _ _ _ _) h)
  rw [if_neg h1] at h
  refine wp_f h1 ?_
  by_cases h2 : o = 2
  · rw [if_pos h2] at h
    refine wp_t h2 ?_
    by_cases a : ¬ x3 = 0
    · rw [if_pos a] at h
      exact wp_t a (wp_eq (e93_54 _ _ _ _) (wp_eq (e93_56 _ _ _ _ _) h))
    · rw [if_neg a] at h
      exact wp_f a (wp_eq (e93_56 _ _ _ _ _) h)
  rw [if_neg h2] at h
  refine wp_f h2 ?_
  by_cases h3 : o = 3
  · rw [if_pos h3] at h
    refine wp_t h3 ?_
    by_cases a : x4 ≤ x3
    · rw [if_pos a] at h
      exact wp_t a (wp_eq (e93_62 _ _ _ _) (wp_eq (e93_64 _ _ _ _ _) h))
    · rw [if_neg a] at h
      exact wp_f a (wp_eq (e93_64 _ _ _ _ _) h)
  rw [if_neg h3] at h
  refine wp_f h3 ?_
  by_cases h4 : o = 4
  · rw [if_pos h4] at h
    refine wp_t h4 ?_
    by_cases a : ¬ x3 = x4
    · rw [if_pos a] at h
      exact wp_t a (wp_eq (e93_70 _ _ _ _) (wp_eq (e93_72 _ _ _ _ _) h))
    · rw [if_neg a] at h
      exact wp_f a (wp_eq (e93_72 _ _ _ _ _) h)
  rw [if_neg h4] at h
  refine wp_f h4 ?_
  by_cases h5 : o = 5
  · rw [if_pos h5] at h
    exact wp_t h5 (wp_eq (e93_77 _ _ _ _ _) h)
  rw [if_neg h5] at h
  refine wp_f h5 ?_
  by_cases h6 : o = 6
  · rw [if_pos h6] at h
    exact wp_t h6 (wp_eq (e93_82 _ _ _ _ _) h)
  rw [if_neg h6] at h
  refine wp_f h6 ?_
  by_cases h7 : o = 7
  · rw [if_pos h7] at h
    exact wp_t h7 (wp_eq (e93_87 _ _ _ _ _) h)
  rw [if_neg h7] at h
  refine wp_f h7 ?_
  by_cases a : ¬ x4 = 0
  · rw [if_pos a] at h
    exact wp_t a (wp_eq (e93_92 _ _ _ _) (wp_gd (decide_eq_true a) h))
  · rw [if_neg a] at h
    exact wp_f a h
theorem giveC {k b e root ns : Nat} {f : RuF} (hk : k < 3) (h9 : D 9 k = nI b) (h10 : D 10 k = nI e) (h11 : D 11 k = nI root) (hbe : b ≤ e) (he : e ≤ 350) (hns : ns ≤ 350) (hr : root < 7 + ns ∨ (357 + b ≤ root ∧ root < 357 + e)) (hv : ∀ i, b ≤ i → i < e → VlR (D 7 i) ∧ VlR (D 8 i)) (hf : ∀ g : Nat → Int32, (∀ i, 7 ≤ i → i < 7 + ns → g i = D 5 i) → runR (D 6) (D 7) (D 8) b (e - b) g root = f g) : GiveC k f D := by
  intro X d u J D1 g1 g2
  have ok : ob (nI k) 3 = true := ob_n hk (by decide)
  refine wp_eq (e93_0 _) (wp_gd ok ?_)
  rw [nI_clamp (by omega), g1 9 (by decide) (by decide), h9]
  refine wp_loop (R := fun s (D2 : DD) => Ev X d 93 (5, [.ref 3, .int (nI k), .int (nI (b + s)), .null, .null, .null], [], hS u D2 J)) (fun s (D2 : DD) => (∀ q, q ≠ 5 → D2 q = D1 q) ∧ D2 5 = runR (D 6) (D 7) (D 8) b s (D1 5)) (e - b) ?_ ?_ 0 D1 (Nat.zero_le _) ⟨fun _ _ => rfl, rfl⟩
  · intro s D2 hs ⟨i1, i2⟩ ih
    have e6 : D2 6 = D 6 := (i1 6 (by decide)).trans (g1 6 (by decide) (by decide))
    have e7 : D2 7 = D 7 := (i1 7 (by decide)).trans (g1 7 (by decide) (by decide))
    have e8 : D2 8 = D 8 := (i1 8 (by decide)).trans (g1 8 (by decide) (by decide))
    have e10 : D2 10 = D 10 := (i1 10 (by decide)).trans (g1 10 (by decide) (by decide))
    obtain ⟨⟨l, l1, l2⟩, r, r1, r2⟩ := hv (b + s) (by omega) (by omega)
    have o2 : ob (nI (b + s)) 350 = true := ob_n (by omega) (by decide)
    refine wp_eq (e93_5 _ _) (wp_gd ok ?_)
    rw [nI_clamp (by omega), nI_clamp (by omega), e10, h10, e7, l2, nI_clamp (by omega)]
    refine wp_f (nI_ge (by omega) (by omega)) (wp_gd o2 (oG l1 (by decide) ?_))
    refine wp_eq (e93_19 _ _ _) (wp_gd o2 ?_)
    rw [nI_clamp (by omega), e8, r2, nI_clamp (by omega)]
    refine oG r1 (by decide) ?_
    refine c_opv o2 ?_
    rw [nI_clamp (by omega), e6]
    refine wp_eq (e93_96 _ _ _ _ _) ?_
    rw [la, nI_clamp (by omega)]
    refine oG (by omega) (by decide) ?_
    refine wp_eq (e93_103 _ _ _ _ _) (wp_eq (e93_104 _ _ _ _ _) ?_)
    rw [nI_1]
    refine wp_weak (ls := [.ref 3, .int (nI k), .int (nI (b + s + 1)), .null, .null, .null]) ⟨Or.inl rfl, Or.inl rfl, Or.inl rfl, Or.inr ⟨rfl, rfl⟩, Or.inr ⟨rfl, rfl⟩, Or.inr ⟨rfl, rfl⟩, trivial⟩ ?_
    refine ih _ ⟨fun q hq => by rw [ud_q hq]; exact i1 q hq, ?_⟩
    rw [udF, i2, runR, l2, r2, nI_clamp (by omega), nI_clamp (by omega), Nat.add_assoc]
  · intro D2 ⟨i1, i2⟩
    have e10 : D2 10 = D 10 := (i1 10 (by decide)).trans (g1 10 (by decide) (by decide))
    have e11 : D2 11 = D 11 := (i1 11 (by decide)).trans (g1 11 (by decide) (by decide))
    refine wp_eq (e93_5 _ _) (wp_gd ok ?_)
    rw [nI_clamp (by omega), e10, h10]
    refine wp_t (nI_le (by omega) (by omega)) ?_
    refine wp_eq (e93_105 _ _) (wp_gd ok ?_)
    rw [nI_clamp (by omega), e11, h11]
    have hr7 : root < 707 := by rcases hr with z | z <;> omega
    refine wp_eq (e93_110 _ _) (wp_t (nI_ne1 (by omega)) ?_)
    refine wp_eq (e93_115 _ _) (oG hr7 (by decide) ?_)
    rw [nI_clamp (by omega)]
    refine wp_rI ⟨?_, i1, fun i hi => ?_⟩
    · rw [i2]
      exact hf (D1 5) (fun i a1 a2 => g2 i a1 (by omega))
    · rw [i2]; exact runR_lo0 hi _
end GIVE
