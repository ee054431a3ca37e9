/-! ===== the class's chapel ===== -/
def s0L : Ln := (0, fun _ => 0, none, fun _ => none)
def pText (K : Nat → Nat) (V : Nat → Int32) : (Int32 × Nat) ⊕ Ln := pLines K V 701 0 s0L
def ReP (t : Tx) (n : Nat) (D : DD) (r : (Int32 × Nat) ⊕ Ln) (x : Int32) (D' : DD) : Prop := FrT D D' ∧ match r with
  | .inl (e, k') => x = e ∧ e ≠ 0 ∧ D' 12 5 = nI k' ∧ k' ≤ 700 ∧ D' 23 k' = nI (tkN t n k')
  | .inr s' => x = 0 ∧ ∃ m k', LnC t n m s' k' D'
section CCHAP
variable {X : XS} {d u : Nat} {D D' D0 : DD} {J : JJ} {t : Tx} {n m k k0 : Nat} {s : Ln}
theorem At.P (h : At t n m k D) : D 23 k = nI (tkN t n k) := by
  rcases Nat.lt_or_ge k m with q | q
  · exact (h.1.2.2.1 k q).2.2.1
  · have e : k = m := Nat.le_antisymm h.2.1 q
    rw [e, h.1.2.1]; exact h.1.2.2.2.2
theorem c_readL {x1 : Int32} (hn : n ≤ 700) : ∀ (r i k : Nat) (s : Ln) (D : DD), i + r = 701 → FrT D0 D → LnC t n m s k D → Wp (Ev X (d + 51) 60 (21, [.ref 12, .int x1, .int (nI i)], [], hS u D J)) (RI u J (ReP t n D0 (pLines (kK t n) (vV t n) r k s)))
  | 0, i, k, s, D, hi, hF, hL => by
    refine wp_eq (e60_21 _ _) (wp_t (nI_lt (a := 700) (by omega) (by omega)) ?_)
    have hP : ReP t n D0 (.inr s) (D 12 6) D := ⟨hF, hL.2.1, m, k, hL⟩
    exact wp_rI hP
  | r + 1, i, k, s, D, hi, hF, hL => by
    have hA := hL.1
    refine wp_eq (e60_21 _ _) (wp_f (nI_nlt (b := i) (a := 700) (by omega) (by decide)) (wp_f (fun z => z hL.2.1) (wp_gd (hA.ob hn) ?_)))
    rw [hA.cl hn, hA.K, pLines]
    by_cases q : kK t n k = 0
    · rw [if_pos q, q]
      have hP : ReP t n D0 (.inr s) (D 12 6) D := ⟨hF, hL.2.1, m, k, hL⟩
      exact wp_t rfl (wp_rI hP)
    · rw [if_neg q]
      refine wp_f (fun z => q ((kI kK_lt (by decide : 0 < 5)).mp z)) ?_
      refine wp_cV (c_line (d := d) hn hL (hA.lt q)) (fun D2 h2 => ?_)
      refine wp_eq (e60_35 _ _) ?_
      rw [nI_1]
      obtain ⟨f1, h2⟩ := h2
      cases hp : pLine (kK t n) (vV t n) s k with
      | inl e =>
        obtain ⟨e, k'⟩ := e
        rw [hp] at h2
        obtain ⟨a1, a2, a3⟩ : At t n m k' D2 ∧ D2 12 6 = e ∧ e ≠ 0 := h2
        have hP : ReP t n D0 (.inl (e, k')) (D2 12 6) D2 := ⟨hF.tr f1, a2, a3, a1.2.2, a1.le hn, a1.P⟩
        refine wp_eq (e60_21 _ _) (wp_if (fun _ => wp_rI hP) (fun _ => ?_))
        exact wp_t (by rw [a2]; exact a3) (wp_rI hP)
      | inr ks =>
        obtain ⟨k', s'⟩ := ks
        rw [hp] at h2
        exact c_readL hn r (i + 1) k' s' D2 (by omega) (hF.tr f1) h2.1
theorem c_clear : Wp (EvM X (d + 1) 84 [.ref 13] (hS u D J)) (RV u J (fun D' => D' 13 0 = 0 ∧ D' 13 1 = 12 ∧ D' 13 4 = 0 ∧ D' 13 8 = 0 ∧ (∀ i, i < 3 → D' 21 i = -1) ∧ ∀ q, q ≠ 13 → q ≠ 21 → D' q = D q)) := by
  refine wp_eq (e84_0) ?_
  refine wp_cV (s_fill (n := 3) (Or.inl ⟨rfl, rfl⟩)) (fun D1 h1 => ?_)
  obtain ⟨a1, a2, a3⟩ := h1
  refine wp_eq (e84_16) (wp_rV ⟨?_, ?_, ?_, ?_, a1, fun q q1 q2 => ?_⟩)
  · rw [a3 13 (by decide), ud_k (by decide), ud_k (by decide), ud_k (by decide), ud_at]
  · rw [a3 13 (by decide), ud_k (by decide), ud_k (by decide), ud_at]
  · rw [a3 13 (by decide), ud_k (by decide), ud_at]
  · rw [a3 13 (by decide), ud_at]
  · rw [a3 q q2, ud_q q1, ud_q q1, ud_q q1, ud_q q1]
theorem c_read (hn : n ≤ 700) (hby : byB t) (ht : ∀ i, i < n → D 1 i = t i) : Wp (EvM X (d + 51) 60 [.ref 12, .int (nI n)] (hS u D J)) (RI u J (ReP t n D (pText (kK t n) (vV t n)))) := by
  refine wp_eq (e60_0 _) ?_
  refine wp_cV (c_clear (d := d + 49)) (fun D1 h1 => ?_)
  obtain ⟨a1, a2, a3, a4, a5, a6⟩ := h1
  refine wp_eq (e60_3 _) ?_
  rw [if_neg (show ¬ 700 < nI n from nI_nlt (b := n) (a := 700) hn (by decide))]
  refine wp_cV (c_scan (d := d + 48) hn hby (fun i hi => by rw [ud_q (by decide), ud_q (by decide), a6 1 (by decide) (by decide)]; exact ht i hi)) (fun D2 h2 => ?_)
  obtain ⟨b1, m, b2⟩ := h2
  refine wp_eq (e60_16 _) ?_
  have g13 : D2 13 = D1 13 := by rw [b1 13 (by decide) (by decide) (by decide), ud_q (by decide), ud_q (by decide)]
  have g21 : D2 21 = D1 21 := by rw [b1 21 (by decide) (by decide) (by decide), ud_q (by decide), ud_q (by decide)]
  have g126 : D2 12 6 = 0 := by rw [b1 12 (by decide) (by decide) (by decide), ud_k (by decide), ud_at]
  have g128 : D2 12 8 = 0 := by rw [b1 12 (by decide) (by decide) (by decide), ud_at]
  refine c_readL hn 701 0 0 s0L _ rfl (fun q hq => ?_) (m := m) ?_
  · rw [ud_q (by omega), b1 q (by omega) (by omega) (by omega), ud_q (by omega), ud_q (by omega), a6 q (by omega) (by omega)]
  · refine ⟨⟨b2.mv (ud_q (by decide)) (ud_q (by decide)) (ud_q (by decide)), Nat.zero_le _, ud_at _ _ _ _⟩, by rw [ud_k (by decide)]; exact g126, by rw [ud_q (by decide), g13]; exact a1, Nat.zero_le _, fun p hp => absurd hp (Nat.not_lt_zero p), ⟨by rw [ud_k (by decide)]; exact g128, by rw [ud_q (by decide), g13]; exact a2⟩, 0, 0, ⟨by rw [ud_q (by decide), g13]; exact a3, by rw [ud_q (by decide), g13]; exact a4, by decide, by decide, by decide⟩, Nat.zero_le _, Nat.zero_le _, fun r hr => ?_⟩
    show ud D2 12 5 0 21 r = -1
    rw [ud_q (by decide), g21]; exact a5 r hr
/-- what may be told of the text's outcome -/
theorem t_fact (X : XS) (hn : n ≤ 700) (hby : byB t) (h : pText (kK t n) (vV t n) = .inr s) : s.1 ≤ 12 ∧ (∀ p, p < s.1 → ∃ a, a ≤ 29 ∧ s.2.1 p = nI a) ∧ (∀ a, s.2.2.1 = some a → 1 ≤ a ∧ a ≤ 12) ∧ ∀ r, r < 3 → ∀ f, s.2.2.2 r = some f → Dep (decide (r = 2)) f := by
  have w := c_read (X := X) (d := 0) (u := 0) (J := fun _ _ => 0) (D := fun q i => if q = 1 then t i else 0) hn hby (fun i _ => if_pos rfl)
  rw [h] at w
  obtain ⟨y, -, x, D', -, hf, hx, m, k, hL⟩ := w
  obtain ⟨-, -, -, l4, l5, l6, ns, ss, -, -, -, l7⟩ := hL
  refine ⟨l4, fun p hp => (l5 p hp).2, fun a ha => ?_, fun r hr f hf => ?_⟩
  · rw [ha] at l6; exact l6.2.2
  · have := l7 r hr
    rw [hf] at this
    obtain ⟨b, e, root, -, -, -, -, -, a6, -⟩ := this
    exact a6.2.1
theorem t_err (X : XS) (hn : n ≤ 700) (hby : byB t) {e : Int32} (h : pText (kK t n) (vV t n) = .inl (e, k)) : e ≠ 0 := by
  have w := c_read (X := X) (d := 0) (u := 0) (J := fun _ _ => 0) (D := fun q i => if q = 1 then t i else 0) hn hby (fun i _ => if_pos rfl)
  rw [h] at w
  obtain ⟨y, -, x, D', -, hf, hx, he, -⟩ := w
  exact he
end CCHAP
def ruN (s : Ln) : Ru := (s.1, s.2.2.1.getD 12, s.2.2.2 0, s.2.2.2 1, s.2.2.2 2)
def cLn (s : Ln) : Cc := fun i => if i < 12 then -1 else if i < 12 + s.1 then s.2.1 (i - 12) else 0
theorem cnt_z {P : Nat → Bool} : ∀ {n : Nat}, (∀ p, p < n → P p = false) → cntN P n = 0
  | 0, _ => rfl
  | n + 1, h => by
    rw [cntN, cnt_z (fun p hp => h p (by omega)), h n (by omega)]; rfl
theorem size_z {ρ : Ru} {c : Cc} (h : ∀ p, p < ρ.1 → c p = -1) (w : Nat) : sizeN ρ c w = 0 := cnt_z (fun p hp => inW_no (h p hp))
theorem ok_z {ρ : Ru} {c : Cc} (h : ∀ p, p < ρ.1 → c p = -1) : Ok ρ c := by
  have hz := size_z h
  refine ⟨fun p hp => Or.inl (h p hp), fun w x _ hx => ?_, fun p q hp _ _ h1 => absurd (h p hp) h1, fun w _ => by rw [hz]; omega, fun w _ _ => hz _⟩
  rw [hz] at hx; omega
theorem good_s {s : Ln} (h1 : s.1 ≤ 12) (h2 : ∀ p, p < s.1 → ∃ a, a ≤ 29 ∧ s.2.1 p = nI a) : Good (ruN s) (cLn s) := by
  have e0 : (ruN s).1 = s.1 := rfl
  refine ⟨ok_z (fun p hp => ?_), fun i hi => ?_, fun p hp hp2 => ?_, fun p hp => ?_, fun p hp => ?_⟩
  · rw [e0] at hp
    exact if_pos (by omega)
  · unfold cLn
    rw [if_neg (by omega), if_neg (by omega)]
  · rw [e0] at hp
    unfold cLn
    refine ⟨if_pos hp2, ?_, ?_, ?_, ?_, ?_⟩ <;> rw [if_neg (by omega), if_neg (by omega)]
  · rw [e0] at hp
    unfold cLn
    rw [if_neg (by omega), if_pos (by omega), Nat.add_sub_cancel_left]; exact h2 p hp
  · rw [e0] at hp
    refine ⟨0, by omega, ?_⟩
    unfold cLn
    rw [if_neg (by omega), if_neg (by omega)]; rfl
theorem ru_ok {s : Ln} (h1 : s.1 ≤ 12) (h3 : ∀ a, s.2.2.1 = some a → 1 ≤ a ∧ a ≤ 12) (h4 : ∀ r, r < 3 → ∀ f, s.2.2.2 r = some f → Dep (decide (r = 2)) f) : RuOk (ruN s) := by
  refine ⟨⟨h1, ?_⟩, fun F hF v v' h => ?_, fun F hF v v' h => ?_⟩
  · show 1 ≤ s.2.2.1.getD 12 ∧ s.2.2.1.getD 12 ≤ 12
    cases hs : s.2.2.1 with
    | none => exact ⟨by decide, by decide⟩
    | some a => exact h3 a hs
  · have d0 : Dep false F := by
      rcases hF with z | z
      · exact h4 0 (by decide) F z
      · exact h4 1 (by decide) F z
    exact d0 v v' (fun i hi => h i hi)
  · have d2 : Dep true F := h4 2 (by decide) F hF
    exact d2 v v' (fun i hi => h i hi)
