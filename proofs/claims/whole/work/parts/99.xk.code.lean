/-! ===== the reference's code and what waits ===== -/
def ArrL (f : Nat → Int32) (a : Nat) (l : List Int32) : Prop := ∀ i, i < l.length → f (a + i) = l.getD i 0
theorem gD_lt {l l2 : List Int32} {i : Nat} (h : i < l.length) : (l ++ l2).getD i 0 = l.getD i 0 := by
  rw [List.getD_eq_getElem?_getD, List.getD_eq_getElem?_getD, List.getElem?_append_left h]
theorem gD_at {l l2 : List Int32} {x : Int32} : (l ++ x :: l2).getD l.length 0 = x := by
  rw [List.getD_eq_getElem?_getD, List.getElem?_append_right (Nat.le_refl _), Nat.sub_self]; rfl
theorem ArrL.snoc {f : Nat → Int32} {a : Nat} {l : List Int32} (h : ArrL f a l) (x : Int32) : ArrL (upd f (a + l.length) x) a (l ++ [x]) := fun i hi => by
  rw [List.length_append, List.length_singleton] at hi
  by_cases e : i = l.length
  · rw [e, upd_at, gD_at]
  · rw [upd_ne (by omega), gD_lt (by omega)]; exact h i (by omega)
theorem ArrL.pre {f : Nat → Int32} {a : Nat} {l l2 : List Int32} (h : ArrL f a (l ++ l2)) : ArrL f a l := fun i hi => by
  rw [← gD_lt (l2 := l2) hi]
  exact h i (by rw [List.length_append]; omega)
theorem ArrL.mid {f : Nat → Int32} {a : Nat} {l l2 : List Int32} {x : Int32} (h : ArrL f a (l ++ x :: l2)) : f (a + l.length) = x := by
  rw [h l.length (by rw [List.length_append, List.length_cons]; omega), gD_at]
theorem ArrL.cg {f g : Nat → Int32} {a : Nat} {l : List Int32} (h : ArrL f a l) (hf : ∀ i, a ≤ i → i < a + l.length → g i = f i) : ArrL g a l := fun i hi => by
  rw [hf (a + i) (by omega) (by omega)]; exact h i hi
def wkI (c a b : Int32) : Int32 := if c = 4 then (if a = 0 then 0 else if b = 0 then 0 else 1) else if c = 5 then (if ¬ a = 0 then 1 else if b = 0 then 0 else 1) else if c = 6 then (if b ≤ a then 0 else 1) else if c = 7 then (if ¬ a = b then 0 else 1) else if c = 8 then a + b else if c = 9 then a - b else if c = 10 then a * b else (if ¬ b = 0 then a / b else 0)
def cO (o : Int32) : Int32 := if o = 0 then 5 else if o = 1 then 4 else if o = 2 then 3 else if o = 3 then 6 else if o = 4 then 7 else if o = 5 then 8 else if o = 6 then 9 else if o = 7 then 10 else 11
def isOp (o : Int32) : Prop := o = 0 ∨ o = 1 ∨ o = 3 ∨ o = 4 ∨ o = 5 ∨ o = 6 ∨ o = 7 ∨ o = 8
theorem wk_o {o : Int32} (h : isOp o) (a b : Int32) : wkI (cO o) a b = opI o a b := by
  rcases h with h | h | h | h | h | h | h | h <;> subst h <;> rfl
theorem cO_ne {o : Int32} (h : isOp o) : cO o ≠ 0 ∧ cO o ≠ 1 ∧ cO o ≠ 2 ∧ cO o ≠ 3 ∧ cO o < 14 := by
  rcases h with h | h | h | h | h | h | h | h <;> subst h <;> decide
def rkO (tl : Nat → Int32) : List Int32 → List Int32 → Option (List Int32)
  | [], st => some st
  | c :: l, st => if c = 0 then none else if c = 1 then (match l with
      | [] => none
      | v :: l' => rkO tl l' (v :: st)) else if c = 2 then (match l with
      | [] => none
      | v :: l' => if ob v 7 = true then rkO tl l' (tl v.toNatClampNeg :: st) else none) else if c = 3 then (match st with
      | [] => none
      | x :: s => rkO tl l ((if ¬ x = 0 then 0 else 1) :: s)) else (match st with
      | b :: a :: s => rkO tl l (wkI c a b :: s)
      | _ => none)
theorem rk_1 {tl : Nat → Int32} {v : Int32} {l st : List Int32} : rkO tl (1 :: v :: l) st = rkO tl l (v :: st) := by
  rw [rkO.eq_def]
  dsimp only
  rw [if_neg (by decide), if_pos rfl]
theorem rk_2 {tl : Nat → Int32} {v : Int32} {l st : List Int32} : rkO tl (2 :: v :: l) st = if ob v 7 = true then rkO tl l (tl v.toNatClampNeg :: st) else none := by
  rw [rkO.eq_def]
  dsimp only
  rw [if_neg (by decide), if_neg (by decide), if_pos rfl]
theorem rk_3 {tl : Nat → Int32} {x : Int32} {l st : List Int32} : rkO tl (3 :: l) (x :: st) = rkO tl l ((if ¬ x = 0 then 0 else 1) :: st) := by
  rw [rkO.eq_def]
  dsimp only
  rw [if_neg (by decide), if_neg (by decide), if_neg (by decide), if_pos rfl]
theorem rk_o {tl : Nat → Int32} {c a b : Int32} {l st : List Int32} (h0 : c ≠ 0) (h1 : c ≠ 1) (h2 : c ≠ 2) (h3 : c ≠ 3) : rkO tl (c :: l) (b :: a :: st) = rkO tl l (wkI c a b :: st) := by
  rw [rkO.eq_def]
  dsimp only
  rw [if_neg h0, if_neg h1, if_neg h2, if_neg h3]
def Cde (G : List Int32) (f : RuF) : Prop := ∀ (tl : Nat → Int32) (rest st : List Int32), rkO tl (G ++ rest) st = rkO tl rest (f (tvN tl) :: st)
theorem Cde.num (x : Int32) : Cde [1, x] (fun _ => x) := fun tl rest st => rk_1
theorem Cde.vl {r j : Nat} (hj : j < 7) (h : ∀ tl : Nat → Int32, tvN tl r = tl j) : Cde [2, nI j] (fun v => v r) := fun tl rest st => by
  show rkO tl (2 :: nI j :: rest) st = _
  rw [rk_2, if_pos (ob_n hj (by decide)), nI_clamp (by omega), ← h tl]
theorem Cde.op {G H : List Int32} {f g : RuF} {o : Int32} (hf : Cde G f) (hg : Cde H g) (ho : isOp o) : Cde (G ++ H ++ [cO o]) (fun v => opI o (f v) (g v)) := fun tl rest st => by
  obtain ⟨h0, h1, h2, h3, -⟩ := cO_ne ho
  rw [List.append_assoc, List.append_assoc, hf, hg]
  show rkO tl (cO o :: rest) _ = _
  rw [rk_o h0 h1 h2 h3, wk_o ho]
theorem Cde.no {G : List Int32} {f : RuF} (hf : Cde G f) : Cde (G ++ [3]) (fun v => opI 2 (f v) (f v)) := fun tl rest st => by
  rw [List.append_assoc, hf]
  show rkO tl (3 :: rest) _ = _
  rw [rk_3]; rfl
def strN (x : Int32) : Int32 := if ¬ x = 5 then (if ¬ x = 4 then (if ¬ x = 3 then (if x = 6 then 4 else if ¬ x = 7 then (if x = 8 then 5 else if ¬ x = 9 then 6 else 5) else 4) else 3) else 2) else 1
theorem strN_0 (x : Int32) : ¬ strN x < 0 := by
  unfold strN
  repeat' split
  all_goals decide
/-- the code so far from top0 on, and what waits -/
def Cs (top0 : Nat) (E S : List Int32) (D : DD) : Prop := (D 70 25 = nI (top0 + E.length) ∧ ArrL (D 75) top0 E) ∧ D 70 28 = nI S.length ∧ ArrL (D 76) 0 S.reverse
def FrQ (top0 : Nat) (D D' : DD) : Prop := (∀ q, q ≠ 70 → q ≠ 75 → q ≠ 76 → D' q = D q) ∧ (∀ k, k ≠ 25 → k ≠ 28 → D' 70 k = D 70 k) ∧ ∀ i, i < top0 → D' 75 i = D 75 i
theorem FrQ.rf (top0 : Nat) (D : DD) : FrQ top0 D D := ⟨fun _ _ _ _ => rfl, fun _ _ _ => rfl, fun _ _ => rfl⟩
theorem FrQ.tr {top0 : Nat} {A B C : DD} (h : FrQ top0 A B) (h1 : FrQ top0 B C) : FrQ top0 A C := ⟨fun q a b c => (h1.1 q a b c).trans (h.1 q a b c), fun k a b => (h1.2.1 k a b).trans (h.2.1 k a b), fun i a => (h1.2.2 i a).trans (h.2.2 i a)⟩
section CODE
variable {X : XS} {d u : Nat} {D D' : DD} {J : JJ} {top0 : Nat} {E S : List Int32}
theorem m_193 (x : Int32) : EvM X d 193 [.int x] (hS u D J) = some (.inl (some (.int (bI32 (!(decide (x < 14)))))), hS u D J) := by
  refine (e193_0 x).trans ?_
  by_cases h : x < 14
  · rw [brT h, decide_eq_true h]; rfl
  · rw [brF h, decide_eq_false h]; rfl
theorem m_194 (x : Int32) : EvM X d 194 [.int x] (hS u D J) = some (.inl (some (.int (strN x))), hS u D J) := by
  refine (e194_0 x).trans ?_
  unfold strN
  by_cases h5 : ¬ x = 5
  · rw [brT h5, if_pos h5]
    by_cases h4 : ¬ x = 4
    · rw [brT h4, if_pos h4]
      by_cases h3 : ¬ x = 3
      · rw [brT h3, if_pos h3]
        by_cases h6 : x = 6
        · rw [brT h6, if_pos h6]
        · rw [brF h6, if_neg h6]
          by_cases h7 : ¬ x = 7
          · rw [brT h7, if_pos h7]
            by_cases h8 : x = 8
            · rw [brT h8, if_pos h8]
            · rw [brF h8, if_neg h8]
              by_cases h9 : ¬ x = 9
              · rw [brT h9, if_pos h9]
              · rw [brF h9, if_neg h9]
          · rw [brF h7, if_neg h7]
      · rw [brF h3, if_neg h3]
    · rw [brF h4, if_neg h4]
  · rw [brF h5, if_neg h5]
def putD (D : DD) (a : Nat) (x : Int32) : DD := ud (ud D 75 a x) 70 25 (nI (a + 1))
theorem m_puts {a : Nat} (h : D 70 25 = nI a) (ha : a < 1400) (x : Int32) : EvM X d 192 [.ref 70, .int x] (hS u D J) = some (.inl none, hS u (putD D a x) J) := by
  refine (e192_0 x).trans ?_
  rw [h, gd_t (ob_n ha (by decide)), nI_clamp (by omega), ud_q (show (70 : Nat) ≠ 75 by decide), h, nI_1]; rfl
theorem put_fr {a : Nat} {x : Int32} (h : top0 ≤ a) : FrQ top0 D (putD D a x) := ⟨fun q a b c => by unfold putD; rw [ud_q a, ud_q b], fun k a b => by unfold putD; rw [ud_k a, ud_q (by decide)], fun i hi => by unfold putD; rw [ud_q (by decide), ud_k (by omega)]⟩
theorem put_cs {x : Int32} (h : Cs top0 E S D) : Cs top0 (E ++ [x]) S (putD D (top0 + E.length) x) := by
  obtain ⟨⟨a1, a2⟩, a3, a4⟩ := h
  refine ⟨⟨?_, ?_⟩, ?_, ?_⟩
  · unfold putD
    rw [ud_at, List.length_append, List.length_singleton]; rfl
  · have e : putD D (top0 + E.length) x 75 = upd (D 75) (top0 + E.length) x := by unfold putD; rw [ud_q (by decide), ud_row]
    rw [e]; exact a2.snoc x
  · unfold putD
    rw [ud_k (by decide), ud_q (by decide)]; exact a3
  · have e : putD D (top0 + E.length) x 76 = D 76 := by unfold putD; rw [ud_q (by decide), ud_q (by decide)]
    rw [e]; exact a4
def waitD (D : DD) (b : Nat) (x : Int32) : DD := ud (ud D 76 b x) 70 28 (nI (b + 1))
theorem m_wait {b : Nat} (h : D 70 28 = nI b) (hb : b < 950) (x : Int32) : EvM X d 196 [.ref 70, .int x] (hS u D J) = some (.inl none, hS u (waitD D b x) J) := by
  refine (e196_0 x).trans ?_
  rw [h, gd_t (ob_n hb (by decide)), nI_clamp (by omega), ud_q (show (70 : Nat) ≠ 76 by decide), h, nI_1]; rfl
theorem wait_fr {b : Nat} {x : Int32} : FrQ top0 D (waitD D b x) := ⟨fun q a _ b => by unfold waitD; rw [ud_q a, ud_q b], fun k _ a => by unfold waitD; rw [ud_k a, ud_q (by decide)], fun i hi => by unfold waitD; rw [ud_q (by decide), ud_q (by decide)]⟩
theorem wait_cs {x : Int32} (h : Cs top0 E S D) : Cs top0 E (x :: S) (waitD D S.length x) := by
  obtain ⟨⟨a1, a2⟩, a3, a4⟩ := h
  refine ⟨⟨?_, ?_⟩, ?_, ?_⟩
  · unfold waitD
    rw [ud_k (by decide), ud_q (by decide)]; exact a1
  · have e : waitD D S.length x 75 = D 75 := by unfold waitD; rw [ud_q (by decide), ud_q (by decide)]
    rw [e]; exact a2
  · unfold waitD
    rw [ud_at]; rfl
  · have e : waitD D S.length x 76 = upd (D 76) (0 + S.reverse.length) x := by unfold waitD; rw [ud_q (by decide), ud_row, Nat.zero_add, List.length_reverse]
    rw [e, List.reverse_cons]; exact a4.snoc x
/-- one that waits goes -/
theorem pop_cs {x : Int32} (h : Cs top0 E (x :: S) D) : Cs top0 E S (ud D 70 28 (nI S.length)) ∧ D 76 S.length = x := by
  obtain ⟨⟨a1, a2⟩, a3, a4⟩ := h
  rw [List.reverse_cons] at a4
  refine ⟨⟨⟨by rw [ud_k (by decide)]; exact a1, by rw [ud_q (by decide)]; exact a2⟩, ud_at _ _ _ _, by rw [ud_q (by decide)]; exact a4.pre⟩, ?_⟩
  have := ArrL.mid (l2 := []) a4
  rwa [Nat.zero_add, List.length_reverse] at this
theorem pop_fr {v : Int32} : FrQ top0 D (ud D 70 28 v) := ⟨fun q a _ _ => ud_q a, fun k _ a => ud_k a, fun i _ => by rw [ud_q (by decide)]⟩
def wT (s : Int32) (S : List Int32) : Prop := ∀ x l, S = x :: l → ¬ x < 14 ∨ strN x < s
theorem m_drops {s : Int32} : ∀ (Z E : List Int32) (D : DD), Cs top0 E (Z ++ S) D → (∀ z ∈ Z, z < 14 ∧ ¬ strN z < s) → wT s S → top0 + E.length + Z.length ≤ 1400 → S.length + Z.length ≤ 950 → Wp (EvM X (d + 1) 195 [.ref 70, .int s] (hS u D J)) (RV u J (fun D' => Cs top0 (E ++ Z) S D' ∧ FrQ top0 D D'))
  | [], E, D, h, _, hw, _, hl => by
    refine wp_eq (e195_0 _) ?_
    rw [List.append_nil]
    have h0 : Cs top0 E S D := h
    have e28 : D 70 28 = nI S.length := h0.2.1
    cases S with
    | nil =>
      rw [e28]
      exact wp_t (by decide) (wp_rV ⟨h0, FrQ.rf _ _⟩)
    | cons x l =>
      rw [List.length_cons] at hl
      have hx := (pop_cs h0).2
      rw [e28]
      refine wp_f (nI_nle (by rw [List.length_cons]; omega) (by rw [List.length_cons]; omega)) ?_
      rw [List.length_cons, nI_pred, nI_clamp (by omega), hx]
      refine oG (by omega) (by decide) ?_
      refine wp_iE (m_193 _) ?_
      refine wp_eq (e195_11 _ _) ?_
      rcases hw x l rfl with z | z
      · rw [decide_eq_false z]
        exact wp_t (by decide) (wp_rV ⟨h0, FrQ.rf _ _⟩)
      · by_cases z14 : x < 14
        · rw [decide_eq_true z14]
          refine wp_f (by decide) ?_
          rw [e28, List.length_cons, nI_pred, nI_clamp (by omega), hx]
          refine oG (by omega) (by decide) ?_
          refine wp_iE (m_194 _) ?_
          exact wp_eq (e195_20 _ _) (wp_t z (wp_rV ⟨h0, FrQ.rf _ _⟩))
        · rw [decide_eq_false z14]
          exact wp_t (by decide) (wp_rV ⟨h0, FrQ.rf _ _⟩)
  | z :: Z, E, D, h, hz, hw, ht, hl => by
    have h0 : Cs top0 E (z :: (Z ++ S)) D := h
    obtain ⟨p1, p2⟩ := pop_cs h0
    have e28 : D 70 28 = nI ((Z ++ S).length + 1) := h0.2.1
    rw [List.length_cons] at ht hl
    have hZ : (Z ++ S).length = Z.length + S.length := List.length_append
    obtain ⟨z1, z2⟩ := hz z List.mem_cons_self
    refine wp_eq (e195_0 _) ?_
    rw [e28]
    refine wp_f (nI_nle (by omega) (by omega)) ?_
    rw [nI_pred, nI_clamp (by omega), p2]
    refine oG (by omega) (by decide) ?_
    refine wp_iE (m_193 _) ?_
    rw [decide_eq_true z1]
    refine wp_eq (e195_11 _ _) (wp_f (by decide) ?_)
    rw [e28, nI_pred, nI_clamp (by omega), p2]
    refine oG (by omega) (by decide) ?_
    refine wp_iE (m_194 _) ?_
    refine wp_eq (e195_20 _ _) (wp_f z2 ?_)
    rw [e28, nI_pred, ud_at, nI_clamp (by omega), ud_q (show (76 : Nat) ≠ 70 by decide), p2]
    refine oG (by omega) (by decide) ?_
    refine wp_vE (m_puts p1.1.1 (by omega) z) ?_
    refine wp_eq (e195_35 _) ?_
    have q := put_cs (x := z) p1
    have f : FrQ top0 D (putD (ud D 70 28 (nI (Z ++ S).length)) (top0 + E.length) z) := pop_fr.tr (put_fr (by omega))
    refine wp_mono (m_drops Z (E ++ [z]) _ q (fun x hx => hz x (List.mem_cons_of_mem _ hx)) hw (by rw [List.length_append, List.length_singleton]; omega) (by omega)) (fun y hy => ?_)
    obtain ⟨D2, y1, y2, y3⟩ := hy
    refine ⟨D2, y1, ?_, f.tr y3⟩
    rw [List.append_assoc] at y2
    exact y2
/-- whatever waits -/
theorem m_dropsA {s : Int32} : ∀ (b a : Nat) (D : DD), D 70 25 = nI a → D 70 28 = nI b → top0 ≤ a → a + b ≤ 1399 → b ≤ 950 → Wp (EvM X (d + 1) 195 [.ref 70, .int s] (hS u D J)) (RV u J (fun D' => FrQ top0 D D' ∧ ∃ a', D' 70 25 = nI a' ∧ top0 ≤ a' ∧ a' ≤ 1399))
  | 0, a, D, ha, hb, h0, hab, hl => by
    refine wp_eq (e195_0 _) ?_
    rw [hb]
    exact wp_t (by decide) (wp_rV ⟨FrQ.rf _ _, a, ha, h0, by omega⟩)
  | b + 1, a, D, ha, hb, h0, hab, hl => by
    have ret : Wp (some (.inl none, hS u D J)) (RV u J (fun D' => FrQ top0 D D' ∧ ∃ a', D' 70 25 = nI a' ∧ top0 ≤ a' ∧ a' ≤ 1399)) := wp_rV ⟨FrQ.rf _ _, a, ha, h0, by omega⟩
    refine wp_eq (e195_0 _) ?_
    rw [hb]
    refine wp_f (nI_nle (by omega) (by omega)) ?_
    rw [nI_pred, nI_clamp (by omega)]
    refine oG (by omega) (by decide) ?_
    refine wp_iE (m_193 _) ?_
    refine wp_eq (e195_11 _ _) (wp_if (fun _ => ret) (fun _ => ?_))
    rw [hb, nI_pred, nI_clamp (by omega)]
    refine oG (by omega) (by decide) ?_
    refine wp_iE (m_194 _) ?_
    refine wp_eq (e195_20 _ _) (wp_if (fun _ => ret) (fun _ => ?_))
    rw [hb, nI_pred, ud_at, nI_clamp (by omega)]
    refine oG (by omega) (by decide) ?_
    have g : ud D 70 28 (nI b) 70 25 = nI a := by rw [ud_k (by decide)]; exact ha
    refine wp_vE (m_puts g (by omega) _) ?_
    refine wp_eq (e195_35 _) ?_
    generalize hx : ud D 70 28 (nI b) 76 b = x
    have f : FrQ top0 D (putD (ud D 70 28 (nI b)) a x) := pop_fr.tr (put_fr h0)
    refine wp_mono (m_dropsA b (a + 1) _ (by unfold putD; rw [ud_at]) (by unfold putD; rw [ud_k (by decide), ud_q (by decide), ud_at]) (by omega) (by omega) (by omega)) (fun y hy => ?_)
    obtain ⟨D2, y1, y2, y3⟩ := hy
    exact ⟨D2, y1, f.tr y2, y3⟩
end CODE
