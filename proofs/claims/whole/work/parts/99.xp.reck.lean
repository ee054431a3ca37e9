/-! ===== what a rule gives, the reference ===== -/
theorem ArrL.tl {f : Nat → Int32} {a : Nat} {x : Int32} {l : List Int32} (h : ArrL f a (x :: l)) : f a = x ∧ ArrL f (a + 1) l := by
  constructor
  · have := h 0 (by rw [List.length_cons]; omega)
    rw [Nat.add_zero] at this
    exact this
  · intro i hi
    have := h (i + 1) (by rw [List.length_cons]; omega)
    rw [show a + (i + 1) = a + 1 + i by omega] at this
    rw [this]; rfl
theorem nI_m1 (a : Nat) : nI (a + 1) + (-1) = nI a := by
  rw [← Int32.sub_eq_add_neg]; exact nI_pred a
section RECK
variable {X : XS} {d u : Nat} {D D' D0 : DD} {J : JJ}
theorem m_212 (c a b : Int32) : EvM X d 212 [.int c, .int a, .int b] (hS u D J) = some (.inl (some (.int (wkI c a b))), hS u D J) := by
  refine (e212_0 c a b).trans ?_
  unfold wkI
  by_cases h4 : c = 4
  · rw [brT h4, if_pos h4]
    by_cases a0 : a = 0
    · rw [brT a0, if_pos a0]
    · rw [brF a0, if_neg a0]
      by_cases b0 : b = 0
      · rw [brT b0, if_pos b0]
      · rw [brF b0, if_neg b0]
  · rw [brF h4, if_neg h4]
    by_cases h5 : c = 5
    · rw [brT h5, if_pos h5]
      by_cases a0 : ¬ a = 0
      · rw [brT a0, if_pos a0]
      · rw [brF a0, if_neg a0]
        by_cases b0 : b = 0
        · rw [brT b0, if_pos b0]
        · rw [brF b0, if_neg b0]
    · rw [brF h5, if_neg h5]
      by_cases h6 : c = 6
      · rw [brT h6, if_pos h6]
        by_cases a0 : b ≤ a
        · rw [brT a0, if_pos a0]
        · rw [brF a0, if_neg a0]
      · rw [brF h6, if_neg h6]
        by_cases h7 : c = 7
        · rw [brT h7, if_pos h7]
          by_cases a0 : ¬ a = b
          · rw [brT a0, if_pos a0]
          · rw [brF a0, if_neg a0]
        · rw [brF h7, if_neg h7]
          by_cases h8 : c = 8
          · rw [brT h8, if_pos h8]
          · rw [brF h8, if_neg h8]
            by_cases h9 : c = 9
            · rw [brT h9, if_pos h9]
            · rw [brF h9, if_neg h9]
              by_cases h10 : c = 10
              · rw [brT h10, if_pos h10]
              · rw [brF h10, if_neg h10]
                by_cases b0 : ¬ b = 0
                · rw [brT b0, if_pos b0, gd_t (decide_eq_true b0)]
                · rw [brF b0, if_neg b0]
theorem pile_top {st : List Int32} {x : Int32} (h : ArrL (D 82) 0 (x :: st).reverse) : ArrL (D 82) 0 st.reverse ∧ D 82 st.length = x := by
  rw [List.reverse_cons] at h
  refine ⟨h.pre, ?_⟩
  have := ArrL.mid (l2 := []) h
  rwa [Nat.zero_add, List.length_reverse] at this
theorem pile_put {st : List Int32} {v : Int32} (h : ArrL (D 82) 0 st.reverse) : ArrL (ud D 82 st.length v 82) 0 (v :: st).reverse := by
  have e : ud D 82 st.length v 82 = upd (D 82) (0 + st.reverse.length) v := by rw [ud_row, Nat.zero_add, List.length_reverse]
  rw [e, List.reverse_cons]; exact h.snoc v
theorem m_reck {x1 r : Int32} : ∀ (N : Nat) (l st : List Int32) (k : Nat) (D : DD), l.length ≤ N → rkO (D0 81) l st = some [r] → ArrL (D0 71) k (l ++ [0]) → ArrL (D 82) 0 st.reverse → 2 * st.length + l.length ≤ 1400 → k + l.length < 1400 → (∀ q, q ≠ 82 → D q = D0 q) → Wp (Ev X (d + 1) 213 (4, [.ref 70, .int x1, .int (nI st.length), .int (nI k), .null], [], hS u D J)) (RI u J (fun x D2 => x = r ∧ ∀ q, q ≠ 82 → D2 q = D0 q)) := by
  intro N
  induction N with
  | zero =>
    intro l st k D hl hr hc hp h1 h2 hf
    have el : l = [] := List.length_eq_zero_iff.mp (by omega)
    subst el
    rw [rkO] at hr
    have est : st = [r] := Option.some.inj hr
    subst est
    have c0 : D0 71 k = 0 := hc.tl.1
    have p0 : D 82 0 = r := (pile_top hp).2
    refine wp_eq (e213_4 _ _ _) ?_
    rw [nI_clamp (by omega), hf 71 (by decide), c0]
    refine oG (by omega) (by decide) (wp_t rfl ?_)
    refine wp_eq (e213_83 _ _ _) ?_
    rw [p0]
    exact wp_rI ⟨rfl, hf⟩
  | succ N ih =>
    intro l st k D hl hr hc hp h1 h2 hf
    cases l with
    | nil =>
      rw [rkO] at hr
      have est : st = [r] := Option.some.inj hr
      subst est
      have c0 : D0 71 k = 0 := hc.tl.1
      have p0 : D 82 0 = r := (pile_top hp).2
      refine wp_eq (e213_4 _ _ _) ?_
      rw [nI_clamp (by omega), hf 71 (by decide), c0]
      refine oG (by omega) (by decide) (wp_t rfl ?_)
      refine wp_eq (e213_83 _ _ _) ?_
      rw [p0]
      exact wp_rI ⟨rfl, hf⟩
    | cons c l =>
      rw [List.length_cons] at hl h1 h2
      have hc' : ArrL (D0 71) k (c :: (l ++ [0])) := hc
      obtain ⟨c0, ct⟩ := hc'.tl
      have wk : ∀ (D2 : DD) (m k2 : Int32) (x4 : Int32), Wp (Ev X (d + 1) 213 (4, [.ref 70, .int x1, .int m, .int k2, .null], [], hS u D2 J)) (RI u J (fun x D2 => x = r ∧ ∀ q, q ≠ 82 → D2 q = D0 q)) → Wp (Ev X (d + 1) 213 (82, [.ref 70, .int x1, .int m, .int k2, .int x4], [], hS u D2 J)) (RI u J (fun x D2 => x = r ∧ ∀ q, q ≠ 82 → D2 q = D0 q)) := fun D2 m k2 x4 h => wp_eq (e213_82 _ _ _ _) (wp_weak (ls := [.ref 70, .int x1, .int m, .int k2, .null]) ⟨Or.inl rfl, Or.inl rfl, Or.inl rfl, Or.inl rfl, Or.inr ⟨rfl, rfl⟩, trivial⟩ h)
      have fr : ∀ (i : Nat) (v : Int32) (q : Nat), q ≠ 82 → ud D 82 i v q = D0 q := fun i v q hq => by rw [ud_q hq]; exact hf q hq
      refine wp_eq (e213_4 _ _ _) ?_
      rw [nI_clamp (by omega), hf 71 (by decide), c0]
      by_cases z0 : c = 0
      · subst z0
        rw [rkO.eq_def] at hr
        dsimp only at hr
        rw [if_pos rfl] at hr
        cases hr
      refine oG (by omega) (by decide) (wp_f z0 (oG (by omega) (by decide) ?_))
      refine wp_eq (e213_14 _ _ _ _) ?_
      rw [nI_1]
      refine wp_eq (e213_15 _ _ _ _) ?_
      by_cases z1 : c = 1
      · subst z1
        refine wp_t rfl (wp_eq (e213_21 _ _ _ _) (wp_f (fun z => z rfl) ?_))
        cases l with
        | nil =>
          rw [rkO.eq_def] at hr
          dsimp only at hr
          rw [if_neg (by decide), if_pos rfl] at hr
          cases hr
        | cons v l =>
          rw [rk_1] at hr
          rw [List.length_cons] at hl h1 h2
          have ct' : ArrL (D0 71) (k + 1) (v :: (l ++ [0])) := ct
          obtain ⟨v0, vt⟩ := ct'.tl
          rw [nI_clamp (by omega), nI_clamp (by omega), hf 71 (by decide), v0]
          refine oG (by omega) (by decide) (oG (by omega) (by decide) ?_)
          refine wp_eq (e213_40 _ _ _ _) (wp_eq (e213_41 _ _ _ _) (wp_eq (e213_42 _ _ _ _) ?_))
          rw [nI_1, nI_1]
          exact wk _ _ _ _ (ih l (v :: st) (k + 1 + 1) _ (by omega) hr vt (pile_put hp) (by rw [List.length_cons]; omega) (by omega) (fr _ _))
      · refine wp_f z1 ?_
        by_cases z2 : c = 2
        · subst z2
          refine wp_f (fun z => z rfl) (wp_eq (e213_21 _ _ _ _) (wp_t (by decide) ?_))
          cases l with
          | nil =>
            rw [rkO.eq_def] at hr
            dsimp only at hr
            rw [if_neg (by decide), if_neg (by decide), if_pos rfl] at hr
            cases hr
          | cons v l =>
            rw [rk_2] at hr
            rw [List.length_cons] at hl h1 h2
            have ct' : ArrL (D0 71) (k + 1) (v :: (l ++ [0])) := ct
            obtain ⟨v0, vt⟩ := ct'.tl
            by_cases ho : ob v 7 = true
            · rw [if_pos ho] at hr
              rw [nI_clamp (by omega), nI_clamp (by omega), hf 71 (by decide), hf 81 (by decide), v0]
              refine oG (by omega) (by decide) (wp_gd ho (oG (by omega) (by decide) ?_))
              refine wp_eq (e213_40 _ _ _ _) (wp_eq (e213_41 _ _ _ _) (wp_eq (e213_42 _ _ _ _) ?_))
              rw [nI_1, nI_1]
              exact wk _ _ _ _ (ih l (_ :: st) (k + 1 + 1) _ (by omega) hr vt (pile_put hp) (by rw [List.length_cons]; omega) (by omega) (fr _ _))
            · rw [if_neg ho] at hr; cases hr
        · refine wp_t z2 (wp_eq (e213_43 _ _ _ _) ?_)
          by_cases z3 : c = 3
          · subst z3
            refine wp_f (fun z => z rfl) ?_
            cases st with
            | nil =>
              rw [rkO.eq_def] at hr
              dsimp only at hr
              rw [if_neg (by decide), if_neg (by decide), if_neg (by decide), if_pos rfl] at hr
              cases hr
            | cons x s =>
              rw [rk_3] at hr
              rw [List.length_cons] at h1 ⊢
              obtain ⟨p1, p2⟩ := pile_top hp
              rw [nI_pred, nI_clamp (by omega), p2]
              refine oG (by omega) (by decide) ?_
              by_cases zx : ¬ x = 0
              · rw [if_pos zx] at hr
                refine wp_t zx (oG (by omega) (by decide) (wp_eq (e213_62 _ _ _ _) ?_))
                exact wk _ _ _ _ (ih l (0 :: s) (k + 1) _ (by omega) hr ct (pile_put p1) (by rw [List.length_cons]; omega) (by omega) (fr _ _))
              · rw [if_neg zx] at hr
                refine wp_f zx (oG (by omega) (by decide) (wp_eq (e213_62 _ _ _ _) ?_))
                exact wk _ _ _ _ (ih l (1 :: s) (k + 1) _ (by omega) hr ct (pile_put p1) (by rw [List.length_cons]; omega) (by omega) (fr _ _))
          · refine wp_t z3 ?_
            have none_ : ∀ st' : List Int32, (∀ a b s, st' ≠ b :: a :: s) → rkO (D0 81) (c :: l) st' ≠ some [r] := fun st' hs hh => by
              rw [rkO.eq_def] at hh
              dsimp only at hh
              rw [if_neg z0, if_neg z1, if_neg z2, if_neg z3] at hh
              split at hh
              · next b a s => exact hs a b s rfl
              · cases hh
            match st, hr, hp, h1 with
            | [], hr, _, _ => exact absurd hr (none_ [] (fun a b s e => by cases e))
            | [x], hr, _, _ => exact absurd hr (none_ [x] (fun a b s e => by cases e))
            | b :: a :: s, hr, hp, h1 =>
              rw [rk_o z0 z1 z2 z3] at hr
              rw [List.length_cons, List.length_cons] at h1 ⊢
              obtain ⟨p1, p2⟩ := pile_top hp
              obtain ⟨p3, p4⟩ := pile_top p1
              rw [List.length_cons] at p2
              refine wp_eq (e213_63 _ _ _ _) ?_
              rw [nI_m1]
              refine wp_eq (e213_64 _ _ _ _) ?_
              rw [nI_pred, nI_clamp (by omega), nI_clamp (by omega), p2, p4]
              refine oG (by omega) (by decide) (oG (by omega) (by decide) ?_)
              refine wp_iE (m_212 c a b) (wp_eq (e213_81 _ _ _ _ _ _) ?_)
              rw [nI_clamp (by omega)]
              refine oG (by omega) (by decide) ?_
              exact wk _ _ _ _ (ih l (wkI c a b :: s) (k + 1) _ (by omega) hr ct (pile_put p3) (by rw [List.length_cons]; omega) (by omega) (fr _ _))
theorem giveM {k at0 : Nat} {C : List Int32} {f : RuF} (hC : Cde C f) (hk : D 70 k = nI at0) (hA : ArrL (D 71) at0 (C ++ [0])) (hb : at0 + C.length < 1400) : GiveM k f D := by
  intro X d u J D1 h71
  rw [hk]
  have hr : rkO (D1 81) C [] = some [f (tvN (D1 81))] := by
    have := hC (D1 81) [] []
    rw [List.append_nil] at this
    rw [this, rkO]
  refine wp_eq (e213_0 _) (wp_eq (e213_2 _ _) ?_)
  refine m_reck (D0 := D1) C.length C [] at0 D1 (Nat.le_refl _) hr (by rw [h71]; exact hA) (fun i hi => absurd hi (Nat.not_lt_zero i)) ?_ hb (fun _ _ => rfl)
  show 2 * 0 + C.length ≤ 1400
  omega
end RECK
