/-! ===== the reference: who comes, in order ===== -/
section REFC
variable {X : XS} {d u b : Nat} {D : DD} {J : JJ} {ρ : Ru} {c : Cc}
theorem RowM.s {r : Nat → Int32} (h : RowM b ρ c r) {p : Nat} (hn : ρ.1 ≤ 12) (hp : p < ρ.1) : r (b + 1 + p) = c (12 + p) ∧ r (b + 13 + p) = pewO (c p) ∧ r (b + 25 + p) = seatO (c p) ∧ r (b + 37 + p) = c (24 + p) ∧ r (b + 49 + p) = c (36 + p) ∧ r (b + 61 + p) = c (48 + p) ∧ r (b + 73 + p) = c (60 + p) := by
  obtain ⟨h1, h2, h3, h4⟩ := h.2 p hp
  exact ⟨h1, h2, h3 (by omega), h4⟩
theorem RowM.to {r : Nat → Int32} (h : RowM b ρ c r) (hn : ρ.1 ≤ 12) (q : Nat) : RowS b ρ c q r := by
  refine ⟨h.1, fun p hp => ?_⟩
  obtain ⟨h1, h2, h3, h4⟩ := h.s hn hp
  exact ⟨h1, h2, fun _ => h3, h4⟩
theorem s_tells {p : Nat} (hb : isB b) (hn : ρ.1 ≤ 12) (hr : RowM b ρ c (D 78)) (hp : p < ρ.1) (hv : c p = -1 ∨ ∃ s, s < 144 ∧ c p = nI s) : Wp (EvM X d 222 [.ref 70, .int (nI b), .int (nI p)] (hS u D J)) (RV u J (fun D' => (∀ i, i < 6 → tvN (D' 81) i = vA c p i) ∧ ∀ q, q ≠ 81 → D' q = D q)) := by
  have hbl := isB_le hb
  obtain ⟨p1, p2, p3, p4, p5, p6, p7⟩ := hr.s hn hp
  have e78 : ∀ (k : Nat) (v : Int32) (E : DD), ud E 81 k v 78 = E 78 := fun k v E => ud_q (by decide)
  -- from 14 on, x3 says whether one sits
  have fin : ∀ x3 : Int32, (x3 = 0 ∧ c p = -1) ∨ (x3 ≠ 0 ∧ ∃ s, s < 144 ∧ c p = nI s) → Wp (Ev X d 222 (14, [.ref 70, .int (nI b), .int (nI p), .int x3], [], hS u D J)) (RV u J (fun D' => (∀ i, i < 6 → tvN (D' 81) i = vA c p i) ∧ ∀ q, q ≠ 81 → D' q = D q)) := by
    intro x3 hx
    refine wp_eq (e222_14 _ _ _) ?_
    rw [ix3, nI_clamp (by omega), p6]
    refine oG (by omega) (by decide) ?_
    refine wp_eq (e222_26 _ _ _) ?_
    rw [lk, nI_clamp (by omega), e78, Nat.add_zero, hr.1]
    refine oG (by omega) (by decide) ?_
    refine wp_eq (e222_36 _ _ _) ?_
    rw [ix3, nI_clamp (by omega), e78, e78, p1]
    refine oG (by omega) (by decide) ?_
    have tail : ∀ (a1 a2 : Int32), a1 = pewV (c p) → a2 = seatV (c p) → Wp (Ev X d 222 (80, [.ref 70, .int (nI b), .int (nI p), .int x3], [], hS u (ud (ud (ud (ud (ud D 81 0 (c (48 + p))) 81 1 (c 72)) 81 2 (c (12 + p))) 81 3 a1) 81 4 a2) J)) (RV u J (fun D' => (∀ i, i < 6 → tvN (D' 81) i = vA c p i) ∧ ∀ q, q ≠ 81 → D' q = D q)) := by
      intro a1 a2 h1 h2
      refine wp_eq (e222_80 _ _ _) ?_
      rw [ix3, nI_clamp (by omega), e78, e78, e78, e78, e78, p4]
      refine oG (by omega) (by decide) ?_
      refine wp_eq (e222_92 _ _ _) (wp_rV ⟨fun i hi => ?_, fun q hq => by rw [ud_q hq, ud_q hq, ud_q hq, ud_q hq, ud_q hq, ud_q hq]⟩)
      subst h1 h2
      rcases (show i = 0 ∨ i = 1 ∨ i = 2 ∨ i = 3 ∨ i = 4 ∨ i = 5 by omega) with rfl | rfl | rfl | rfl | rfl | rfl <;> simp [tvN, vA, ud]
    refine wp_eq (e222_48 _ _ _) ?_
    rcases hx with ⟨x0, hc⟩ | ⟨x0, s, s1, s2⟩
    · refine wp_t x0 ?_
      refine wp_eq (e222_64 _ _ _) ?_
      refine wp_t x0 ?_
      exact tail 12 12 (by rw [hc]; rfl) (by rw [hc]; rfl)
    · have h5 := (n144 s s1).2.2.2.2
      refine wp_f x0 ?_
      rw [ix3, nI_clamp (by omega), e78, e78, e78, p2]
      refine oG (by omega) (by decide) ?_
      refine wp_eq (e222_64 _ _ _) ?_
      refine wp_f x0 ?_
      rw [ix3, nI_clamp (by omega), e78, e78, e78, e78, p3]
      refine oG (by omega) (by decide) ?_
      exact tail _ _ (by unfold pewO pewV; rw [s2, if_neg h5, if_neg h5]) (by unfold seatO seatV; rw [s2, if_neg h5, if_neg h5])
  refine wp_eq (e222_0 _ _) ?_
  rw [ix3, nI_clamp (by omega), p2]
  refine oG (by omega) (by decide) ?_
  rcases hv with hc | ⟨s, s1, s2⟩
  · refine wp_t (by rw [hc]; exact pewO_1.1) ?_
    exact wp_eq (e222_12 _ _) (fin 0 (Or.inl ⟨rfl, hc⟩))
  · refine wp_f (fun z => ?_) (fin 1 (Or.inr ⟨by decide, s, s1, s2⟩))
    rw [s2, (pewO_s s1).1] at z
    exact nI_ne1 (by omega) z
def Bz (ρ : Ru) (c : Cc) : Prop := ∀ p, p < ρ.1 → 0 ≤ c (60 + p)
theorem s_coming {p : Nat} {rain : Bool} (hb : isB b) (hR : RuOk ρ) (hC : RulesM ρ D) (hr : RowM b ρ c (D 78)) (hp : p < ρ.1) (hv : c p = -1 ∨ ∃ s, s < 144 ∧ c p = nI s) (hz : Bz ρ c) (hra : D 70 43 = bI32 rain) : Wp (EvM X (d + 2) 223 [.ref 70, .int (nI b), .int (nI p)] (hS u D J)) (RI u J (fun y D' => y = bI32 (comesF ρ c rain p) ∧ ∀ q, q ≠ 81 → q ≠ 82 → D' q = D q)) := by
  have hbl := isB_le hb
  have hn := hR.1.1
  obtain ⟨p1, p2, p3, p4, p5, p6, p7⟩ := hr.s hn hp
  refine wp_eq (e223_0 _ _) ?_
  rw [ix3, ix3, nI_clamp (by omega), nI_clamp (by omega), p7, p1]
  refine oG (by omega) (by decide) ?_
  have eb : decide (c (60 + p) = 0) = decide (¬ 0 < c (60 + p)) := by
    by_cases h : c (60 + p) = 0
    · rw [decide_eq_true h, h]; rfl
    · rw [decide_eq_false h]
      have : 0 < c (60 + p) := by
        have h0 := hz p hp
        rcases Int32.lt_or_eq_of_le h0 with q | q
        · exact q
        · exact absurd q.symm h
      rw [decide_eq_false (fun z => z this)]
  refine wp_if (fun h => ?_) (fun h => ?_)
  · refine wp_rI ⟨?_, fun _ _ _ => rfl⟩
    unfold comesF
    rw [eb, show decide (¬ 0 < c (60 + p)) = false from decide_eq_false (fun z => z h), Bool.and_false]; rfl
  · have eb1 : decide (c (60 + p) = 0) = true := by rw [eb, decide_eq_true h]
    -- who isn't kept by the rain
    have dry : (rain && decide (15 ≤ c (12 + p))) = false → Wp (br (decide (¬ D 70 4 = -1)) (bV (EvM X (d + 1) 222 [.ref 70, .int (nI b), .int (nI p)] (hS u D J)) (fun h => Ev X (d + 1 + 1) 223 (34, [.ref 70, .int (nI b), .int (nI p)], [], h)) (fun e h => some (.inr e, h))) (some (.inl (some (.int 1)), hS u D J))) (RI u J (fun y D' => y = bI32 (comesF ρ c rain p) ∧ ∀ q, q ≠ 81 → q ≠ 82 → D' q = D q)) := by
      intro hd
      have ec : comesF ρ c rain p = !(sulksF ρ c p) := by
        unfold comesF
        rw [hd, eb1]; simp
      have hs := hC.2.2.2.1
      cases hrr : ρ.2.2.2.1 with
      | none =>
        rw [hrr] at hs
        have hs : D 70 4 = -1 := hs
        refine wp_f (fun z => z hs) (wp_rI ⟨?_, fun _ _ _ => rfl⟩)
        rw [ec]
        unfold sulksF
        rw [hrr]; rfl
      | some F =>
        rw [hrr] at hs
        obtain ⟨hs1, hg⟩ := hs
        refine wp_t hs1 ?_
        refine wp_cV (s_tells hb hn hr hp hv) (fun D2 h2 => ?_)
        obtain ⟨t2, f2⟩ := h2
        refine wp_eq (e223_34 _ _) ?_
        rw [f2 70 (by decide)]
        refine wp_cI (hg X d u J D2 (f2 71 (by decide))) (fun y D3 h3 => ?_)
        obtain ⟨y3, f3⟩ := h3
        have es : sulksF ρ c p = decide (0 < y) := by
          unfold sulksF
          rw [hrr, y3]
          dsimp only
          rw [hR.2.1 F (Or.inr hrr) _ _ t2]
        refine wp_eq (e223_38 _ _ _) ?_
        rw [ec, es]
        refine wp_if (fun h4 => ?_) (fun h4 => ?_)
        · refine wp_rI ⟨?_, fun q a1 a2 => (f3 q a2).trans (f2 q a1)⟩
          rw [decide_eq_true h4]; rfl
        · refine wp_rI ⟨?_, fun q a1 a2 => (f3 q a2).trans (f2 q a1)⟩
          rw [decide_eq_false h4]; rfl
    rw [hra]
    cases rain with
    | false => exact wp_t rfl (dry rfl)
    | true =>
      refine wp_f (by decide) ?_
      refine oG (by omega) (by decide) ?_
      refine wp_if (fun h4 => ?_) (fun h4 => ?_)
      · exact dry (by rw [decide_eq_false (Int32.not_le.mpr h4)]; rfl)
      · refine wp_rI ⟨?_, fun _ _ _ => rfl⟩
        unfold comesF
        rw [decide_eq_true (Int32.not_lt.mp h4)]
        simp [bI32]
/-- the order, behind k people -/
def AskI (ρ : Ru) (c : Cc) (rain : Bool) (D : DD) (k : Nat) (D1 : DD) : Prop :=
  D1 70 46 = nI (lineN ρ c rain k).1 ∧ (∀ j, j ≠ 46 → D1 70 j = D 70 j) ∧ (∀ i, i < (lineN ρ c rain k).1 → D1 83 i = nI ((lineN ρ c rain k).2 i)) ∧ (∀ i, i < (lineN ρ c rain k).1 → D1 84 ((lineN ρ c rain k).2 i) = arrF ρ c ((lineN ρ c rain k).2 i)) ∧ ∀ q, q ≠ 70 → q < 81 ∨ 84 < q → D1 q = D q
theorem AskI.mv {rain : Bool} {k : Nat} {D1 D2 : DD} (h : AskI ρ c rain D k D1) (hf : ∀ q, q ≠ 81 → q ≠ 82 → D2 q = D1 q) : AskI ρ c rain D k D2 := by
  obtain ⟨a1, a2, a3, a4, a5⟩ := h
  exact ⟨by rw [hf 70 (by decide) (by decide)]; exact a1, fun j hj => by rw [hf 70 (by decide) (by decide)]; exact a2 j hj, fun i hi => by rw [hf 83 (by decide) (by decide)]; exact a3 i hi, fun i hi => by rw [hf 84 (by decide) (by decide)]; exact a4 i hi, fun q h1 h2 => (hf q (by omega) (by omega)).trans (a5 q h1 h2)⟩
theorem AskI.fr {rain : Bool} {k : Nat} {D1 : DD} (h : AskI ρ c rain D k D1) : FrM b D D1 := ⟨fun q h1 _ h3 => h.2.2.2.2 q h1 (by omega), fun i _ => by rw [h.2.2.2.2 78 (by decide) (by omega)], fun j _ _ _ h4 => h.2.1 j h4⟩
theorem s_asks {rain : Bool} (hb : isB b) (hR : RuOk ρ) (hC : RulesM ρ D) (hr : RowM b ρ c (D 78)) (hv : ∀ p, p < ρ.1 → c p = -1 ∨ ∃ s, s < 144 ∧ c p = nI s) (hz : Bz ρ c) (hra : D 70 43 = bI32 rain) : Wp (EvM X (d + 3) 224 [.ref 70, .int (nI b)] (hS u D J)) (RV u J (AskI ρ c rain D ρ.1)) := by
  have hn := hR.1.1
  refine wp_eq (e224_0 _) ?_
  refine wp_loop (R := fun k (D1 : DD) => Ev X (d + 3) 224 (5, [.ref 70, .int (nI b), .int (nI k), .null], [], hS u D1 J)) (AskI ρ c rain D) ρ.1 ?_ ?_ 0 (ud D 70 46 0) (Nat.zero_le _) ?_
  · intro k D1 hk hI ih
    have hC1 : RulesM ρ D1 := hC.fr (b := b) hI.fr
    have hr1 : RowM b ρ c (D1 78) := by rw [hI.2.2.2.2 78 (by decide) (by omega)]; exact hr
    refine wp_eq (e224_5 _ _) ?_
    rw [hC1.1]
    refine wp_f (nI_ge hk (by omega)) ?_
    refine wp_cI (s_coming (d := d) (rain := rain) hb hR hC1 hr1 hk (hv k hk) hz (by rw [hI.2.1 43 (by decide)]; exact hra)) (fun y D2 h2 => ?_)
    obtain ⟨y2, f2⟩ := h2
    have hI2 := hI.mv f2
    refine wp_eq (e224_13 _ _ _) ?_
    rw [y2]
    cases hcome : comesF ρ c rain k with
    | false =>
      refine wp_f (fun z => z rfl) ?_
      rw [nI_1]
      refine ih D2 ?_
      have e : lineN ρ c rain (k + 1) = lineN ρ c rain k := by
        rw [lineN, hcome]; rfl
      unfold AskI
      rw [e]; exact hI2
    | true =>
      have el : lineN ρ c rain (k + 1) = ((lineN ρ c rain k).1 + 1, insN (lineN ρ c rain k).2 (posN (arrF ρ c) (lineN ρ c rain k).2 (arrF ρ c k) (lineN ρ c rain k).1) k) := by
        rw [lineN, if_pos hcome]
      obtain ⟨lm1, -, -⟩ := line_mem ρ c rain k
      have hml := line_le ρ c rain k
      refine wp_t (by decide) ?_
      have hr2 : RowM b ρ c (D2 78) := by rw [f2 78 (by decide) (by decide)]; exact hr1
      refine wp_cV (s_tells hb hn hr2 hk (hv k hk)) (fun D3 h3 => ?_)
      obtain ⟨t3, f3⟩ := h3
      have hI3 := hI2.mv (fun q a1 _ => f3 q a1)
      have hC3 : RulesM ρ D3 := hC.fr (b := b) hI3.fr
      -- its arrival is noted; then it is put in
      have put : ∀ D4 : DD, AskI ρ c rain D k D4 → Wp (Ev X (d + 3) 224 (32, [.ref 70, .int (nI b), .int (nI k), .null], [.int (arrF ρ c k), .int (nI k), .ref 84], hS u D4 J)) (RV u J (AskI ρ c rain D ρ.1)) := by
        intro D4 hI4
        obtain ⟨k1, k2, k3, k4, k5⟩ := hI4
        refine wp_eq (e224_32 _ _ _ _) ?_
        refine oG (by omega) (by decide) ?_
        rw [nI_clamp (by omega), ud_q (show 70 ≠ 84 by decide), k1]
        generalize hE : ud D4 84 k (arrF ρ c k) = E
        have E84k : E 84 k = arrF ρ c k := by rw [← hE, ud_at]
        have E84 : ∀ i, i < (lineN ρ c rain k).1 → E 84 ((lineN ρ c rain k).2 i) = arrF ρ c ((lineN ρ c rain k).2 i) := fun i hi => by
          have := (lm1 i hi).1
          rw [← hE, ud_k (by omega)]; exact k4 i hi
        have Eq : ∀ q, q ≠ 84 → E q = D4 q := fun q hq => by rw [← hE, ud_q hq]
        clear hE
        generalize hm : (lineN ρ c rain k).1 = m at *
        generalize ha : (lineN ρ c rain k).2 = a at *
        -- the end: it is put in at j
        have fin : ∀ (j : Nat) (D5 : DD), j ≤ m → posN (arrF ρ c) a (arrF ρ c k) m = j → D5 70 = E 70 → D5 84 = E 84 → (∀ i, i < j → D5 83 i = nI (a i)) → (∀ i, j < i → i ≤ m → D5 83 i = nI (a (i - 1))) → (∀ q, q ≠ 83 → D5 q = E q) → Wp (Ev X (d + 3) 224 (5, [.ref 70, .int (nI b), .int (nI k + 1), .int (nI j)], [], hS u (ud (ud D5 83 j (nI k)) 70 46 (ud D5 83 j (nI k) 70 46 + 1)) J)) (RV u J (AskI ρ c rain D ρ.1)) := by
          intro j D5 hj hp h70 h84 hlo hhi hoth
          refine wp_weak (ls := [.ref 70, .int (nI b), .int (nI k + 1), .null]) (by simp [lle, lng]) ?_
          rw [nI_1]
          refine ih _ ?_
          unfold AskI
          rw [el, hp]
          have e46 : D5 70 46 = nI m := by rw [h70, Eq 70 (by decide)]; exact k1
          refine ⟨?_, fun i hi => ?_, fun i hi => ?_, fun i hi => ?_, fun q q1 q2 => ?_⟩
          · rw [ud_at, ud_q (by decide), e46, nI_1]
          · rw [ud_k hi, ud_q (by decide), h70, Eq 70 (by decide)]; exact k2 i hi
          · have hi : i < m + 1 := hi
            rw [ud_q (by decide)]
            show _ = nI (insN a j k i)
            unfold insN
            by_cases hij : i = j
            · subst hij
              rw [ud_at, if_neg (Nat.lt_irrefl i), if_pos rfl]
            · rw [ud_k hij]
              by_cases hlt : i < j
              · rw [if_pos hlt]; exact hlo i hlt
              · rw [if_neg hlt, if_neg hij]; exact hhi i (by omega) (by omega)
          · have hi : i < m + 1 := hi
            rw [ud_q (by decide), ud_q (by decide), h84]
            show E 84 (insN a j k i) = arrF ρ c (insN a j k i)
            rcases ins_mem (a := a) (k := j) (p := k) (i := i) with ⟨z1, z2⟩ | ⟨z1, z2⟩ | ⟨z1, z2⟩
            · rw [z2]; exact E84k
            · rw [z2]; exact E84 i (by omega)
            · rw [z2]; exact E84 (i - 1) (by omega)
          · rw [ud_q q1, ud_q (by omega), hoth q (by omega), Eq q (by omega)]; exact k5 q q1 q2
        refine wp_down (R := fun j (D5 : DD) => Ev X (d + 3) 224 (36, [.ref 70, .int (nI b), .int (nI k), .int (nI j)], [], hS u D5 J))
          (fun j (D5 : DD) => j ≤ m ∧ posN (arrF ρ c) a (arrF ρ c k) m = posN (arrF ρ c) a (arrF ρ c k) j ∧ (∀ i, i < j → D5 83 i = nI (a i)) ∧ (∀ i, j < i → i ≤ m → D5 83 i = nI (a (i - 1))) ∧ ∀ q, q ≠ 83 → D5 q = E q) ?_ ?_ m E ⟨Nat.le_refl m, rfl, fun i hi => by rw [Eq 83 (by decide)]; exact k3 i hi, fun i h1 h2 => by omega, fun _ _ => rfl⟩
        · intro j D5 ⟨g1, g2, g3, g4, g5⟩ ihj
          have haj := (lm1 j (by omega)).1
          refine wp_eq (e224_36 _ _ _) ?_
          refine wp_f (nI_nle (by omega) (by omega)) ?_
          rw [nI_pred, nI_clamp (by omega), g3 j (by omega), nI_clamp (show j + 1 < 2 ^ 31 by omega)]
          refine oG (by omega) (by decide) (oG (by omega) (by decide) (oG (by omega) (by decide) ?_))
          rw [nI_clamp (by omega), nI_clamp (by omega), g5 84 (by decide), E84k, E84 j (by omega)]
          refine wp_if (fun h => ?_) (fun h => ?_)
          · refine oG (by omega) (by decide) ?_
            refine fin (j + 1) D5 g1 (by rw [g2, posN, if_neg (Int32.not_lt.mpr h)]) (g5 70 (by decide)) (g5 84 (by decide)) g3 g4 g5
          · refine oG (by omega) (by decide) (oG (by omega) (by decide) ?_)
            have e1 : nI (j + 1) + (-1) = nI j := by
              rw [nI_succ, Int32.add_assoc]
              have : (1 : Int32) + -1 = 0 := by decide
              rw [this, Int32.add_zero]
            rw [e1]
            refine ihj _ ⟨by omega, by rw [g2, posN, if_pos (Int32.not_le.mp h)], fun i hi => ?_, fun i h1 h2 => ?_, fun q hq => by rw [ud_q hq]; exact g5 q hq⟩
            · rw [ud_k (by omega)]; exact g3 i (by omega)
            · by_cases hij : i = j + 1
              · subst hij
                rw [ud_at, Nat.add_sub_cancel]
              · rw [ud_k hij]; exact g4 i (by omega) h2
        · intro D5 ⟨g1, g2, g3, g4, g5⟩
          refine wp_eq (e224_36 _ _ _) ?_
          refine wp_t (by rw [nI_0]; decide) ?_
          refine oG (by decide) (by decide) ?_
          rw [nI_clamp (by decide)]
          exact fin 0 D5 g1 (by rw [g2]; rfl) (g5 70 (by decide)) (g5 84 (by decide)) g3 g4 g5
      refine wp_eq (e224_19 _ _) ?_
      have ha := hC3.2.2.1
      cases hrr : ρ.2.2.1 with
      | none =>
        rw [hrr] at ha
        have ha : D3 70 3 = -1 := ha
        refine wp_f (fun z => z ha) ?_
        have ea : arrF ρ c k = nI k := by unfold arrF; rw [hrr]
        have := put D3 hI3
        rw [ea] at this
        exact this
      | some F =>
        rw [hrr] at ha
        obtain ⟨ha1, hg⟩ := ha
        refine wp_t ha1 ?_
        refine wp_cI (hg X (d + 1) u J D3 rfl) (fun y D4 h4 => ?_)
        obtain ⟨y4, f4⟩ := h4
        have ea : y = arrF ρ c k := by
          unfold arrF
          rw [hrr, y4]
          exact hR.2.1 F (Or.inl hrr) _ _ t3
        rw [ea]
        exact put D4 (hI3.mv (fun q _ a2 => f4 q a2))
  · intro D1 hI
    refine wp_eq (e224_5 _ _) ?_
    rw [(hC.fr (b := b) hI.fr).1]
    exact wp_t (nI_le (Nat.le_refl _) (by omega)) (wp_rV hI)
  · exact ⟨ud_at D 70 46 0, fun j hj => ud_k hj, fun i hi => absurd hi (Nat.not_lt_zero i), fun i hi => absurd hi (Nat.not_lt_zero i), fun q q1 _ => ud_q q1⟩
/-- at which place of the order one stands -/
theorem s_placeOf {p : Nat} {L : Nat × (Nat → Nat)} (hp : p < 12) (hm : L.1 ≤ 12) (hb12 : ∀ i, i < L.1 → L.2 i < 12) (h46 : D 70 46 = nI L.1) (hl : ∀ i, i < L.1 → D 83 i = nI (L.2 i)) : EvM X d 225 [.ref 70, .int (nI p)] (hS u D J) = some (.inl (some (.int (whoA (findN (fun i => decide (L.2 i = p)) L.1 0)))), hS u D J) := by
  refine wp_eqI ?_
  refine wp_eq (e225_0 _) ?_
  have main : ∀ (r k : Nat), k + r = L.1 → Wp (Ev X d 225 (2, [.ref 70, .int (nI p), .int (nI k)], [], hS u D J)) (RI u J (fun y D' => y = whoA (findN (fun i => decide (L.2 i = p)) r k) ∧ D' = D)) := by
    intro r
    induction r with
    | zero =>
      intro k hk
      refine wp_eq (e225_2 _ _) ?_
      rw [h46]
      exact wp_t (nI_le (by omega) (by omega)) (wp_rI ⟨rfl, rfl⟩)
    | succ r ih =>
      intro k hk
      refine wp_eq (e225_2 _ _) ?_
      rw [h46]
      refine wp_f (nI_ge (by omega) (by omega)) ?_
      refine oG (by omega) (by decide) ?_
      rw [nI_clamp (by omega), hl k (by omega)]
      have := hb12 k (by omega)
      refine wp_if (fun h => ?_) (fun h => ?_)
      · rw [findN, decide_eq_false (fun z => h (by rw [z])), nI_1]
        exact ih (k + 1) (by omega)
      · refine wp_rI ⟨?_, rfl⟩
        rw [findN, decide_eq_true (nI_inj (by omega) (by omega) (Classical.not_not.mp h))]; rfl
  exact main L.1 0 (by omega)
end REFC
