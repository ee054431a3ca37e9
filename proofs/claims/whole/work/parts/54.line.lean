/-! ===== the class: the line ===== -/
theorem line_le (ρ : Ru) (c : Cc) (rain : Bool) : ∀ k, (lineN ρ c rain k).1 ≤ k
  | 0 => Nat.le_refl 0
  | k + 1 => by
    have := line_le ρ c rain k
    rw [lineN]
    split
    · show (lineN ρ c rain k).1 + 1 ≤ k + 1; omega
    · omega
theorem pos_le (g : Nat → Int32) (a : Nat → Nat) (v : Int32) : ∀ m, posN g a v m ≤ m
  | 0 => Nat.le_refl 0
  | m + 1 => by
    have := pos_le g a v m
    rw [posN]
    split <;> omega
theorem ins_at (a : Nat → Nat) (k p : Nat) : insN a k p k = p := by
  unfold insN
  rw [if_neg (Nat.lt_irrefl k), if_pos rfl]
section LINE
variable {X : XS} {d u : Nat} {D : DD} {J : JJ} {P : Nat} {ρ : Ru} {c : Cc}
/-- one is put into the line -/
theorem s_queue {p m : Nat} {v : Int32} {g : Nat → Int32} {a : Nat → Nat} (hP : isP P) (hp : p < 12) (hm : m < 12) (h4 : D P 4 = nI m) (hl : ∀ i, i < m → D (P + 4) i = nI (a i)) (hv : ∀ i, i < m → D (P + 5) i = g (a i)) :
    Wp (EvM X d 46 [.ref P, .int (nI p), .int v] (hS u D J)) (RV u J (fun D' => D' P 4 = nI (m + 1) ∧ (∀ k, k ≠ 4 → D' P k = D P k) ∧ (∀ i, i < m + 1 → D' (P + 4) i = nI (insN a (posN g a v m) p i)) ∧ (∀ i, i < m + 1 → D' (P + 5) i = if i = posN g a v m then v else g (insN a (posN g a v m) p i)) ∧ ∀ q, q ≠ P → q ≠ P + 4 → q ≠ P + 5 → D' q = D q)) := by
  refine wp_eq (e46_0 hP _ _) ?_
  rw [h4]
  refine wp_down (R := fun j (D1 : DD) => Ev X d 46 (3, [.ref P, .int (nI p), .int v, .int (nI j)], [], hS u D1 J))
    (fun j (D1 : DD) => j ≤ m ∧ posN g a v m = posN g a v j ∧ D1 P = D P ∧ (∀ i, i < j → D1 (P + 4) i = nI (a i) ∧ D1 (P + 5) i = g (a i)) ∧ (∀ i, j < i → i ≤ m → D1 (P + 4) i = nI (a (i - 1)) ∧ D1 (P + 5) i = g (a (i - 1))) ∧ ∀ q, q ≠ P + 4 → q ≠ P + 5 → D1 q = D q) ?_ ?_ m D ⟨Nat.le_refl m, rfl, rfl, fun i hi => ⟨hl i hi, hv i hi⟩, fun i h1 h2 => by omega, fun _ _ _ => rfl⟩
  · intro j D1 ⟨h1, h2, h3, h5, h6, h7⟩ ih
    refine wp_eq (e46_3 hP _ _ _) ?_
    refine wp_f (nI_nle (by omega) (by omega)) ?_
    rw [nI_pred, nI_clamp (by omega), nI_clamp (by omega)]
    refine oG (by omega) (by decide) ?_
    rw [(h5 j (by omega)).2]
    refine wp_if (fun h => ?_) (fun h => ?_)
    · -- here it is put in
      refine oG (by omega) (by decide) (oG (by omega) (by decide) ?_)
      have hpos : posN g a v m = j + 1 := by
        rw [h2, posN, if_neg (Int32.not_lt.mpr h)]
      have hPP : ud (ud D1 (P + 5) (j + 1) v) (P + 4) (j + 1) (nI p) P 4 = nI m := by rw [ud_q (by omega), ud_q (by omega), h3, h4]
      rw [hPP, nI_1, hpos]
      refine wp_rV ⟨by rw [ud_at], fun k hk => ?_, fun i hi => ?_, fun i hi => ?_, fun q q1 q2 q3 => ?_⟩
      · rw [ud_k hk, ud_q (by omega), ud_q (by omega), h3]
      · rw [ud_q (by omega)]
        by_cases hi2 : i = j + 1
        · rw [hi2, ud_at]
          unfold insN
          rw [if_neg (by omega), if_pos rfl]
        · rw [ud_k hi2, ud_q (by omega)]
          unfold insN
          by_cases hi3 : i < j + 1
          · rw [if_pos hi3]; exact (h5 i (by omega)).1
          · rw [if_neg hi3, if_neg hi2]; exact (h6 i (by omega) (by omega)).1
      · rw [ud_q (by omega), ud_q (by omega)]
        by_cases hi2 : i = j + 1
        · rw [hi2, ud_at, if_pos rfl]
        · rw [ud_k hi2, if_neg hi2]
          unfold insN
          by_cases hi3 : i < j + 1
          · rw [if_pos hi3]; exact (h5 i (by omega)).2
          · rw [if_neg hi3, if_neg hi2]; exact (h6 i (by omega) (by omega)).2
      · rw [ud_q q1, ud_q q2, ud_q q3, h7 q q2 q3]
    · refine oG (by omega) (by decide) (oG (by omega) (by decide) (oG (by omega) (by decide) (oG (by omega) (by decide) ?_)))
      rw [ud_q (show P + 4 ≠ P + 5 by omega), (h5 j (by omega)).1]
      have e1 : nI (j + 1) + (-1) = nI j := by
        rw [nI_succ, Int32.add_assoc]
        have : (1 : Int32) + -1 = 0 := by decide
        rw [this, Int32.add_zero]
      rw [e1]
      refine ih _ ⟨by omega, ?_, ?_, fun i hi => ?_, fun i hi1 hi2 => ?_, fun q q1 q2 => ?_⟩
      · rw [h2, posN, if_pos (Int32.not_le.mp h)]
      · rw [ud_q (by omega), ud_q (by omega), h3]
      · rw [ud_k (by omega), ud_q (by omega), ud_q (by omega), ud_k (by omega)]
        exact h5 i (by omega)
      · by_cases hi3 : i = j + 1
        · subst hi3
          rw [ud_at, ud_q (by omega), ud_at, Nat.add_sub_cancel]
          exact ⟨rfl, rfl⟩
        · rw [ud_k hi3, ud_q (by omega), ud_q (by omega), ud_k hi3]
          exact h6 i (by omega) hi2
      · rw [ud_q q1, ud_q q2, h7 q q1 q2]
  · intro D1 ⟨h1, h2, h3, h5, h6, h7⟩
    refine wp_eq (e46_3 hP _ _ _) ?_
    refine wp_t (by rw [nI_0]; decide) ?_
    refine oG (by decide) (by decide) (oG (by decide) (by decide) ?_)
    rw [nI_clamp (by decide)]
    have hpos : posN g a v m = 0 := h2
    have hPP : ud (ud D1 (P + 5) 0 v) (P + 4) 0 (nI p) P 4 = nI m := by rw [ud_q (by omega), ud_q (by omega), h3, h4]
    rw [hPP, nI_1, hpos]
    refine wp_rV ⟨by rw [ud_at], fun k hk => ?_, fun i hi => ?_, fun i hi => ?_, fun q q1 q2 q3 => ?_⟩
    · rw [ud_k hk, ud_q (by omega), ud_q (by omega), h3]
    · rw [ud_q (by omega)]
      by_cases hi2 : i = 0
      · rw [hi2, ud_at]
        unfold insN
        rw [if_neg (by omega), if_pos rfl]
      · rw [ud_k hi2, ud_q (by omega)]
        unfold insN
        rw [if_neg (by omega), if_neg hi2]; exact (h6 i (by omega) (by omega)).1
    · rw [ud_q (by omega), ud_q (by omega)]
      by_cases hi2 : i = 0
      · rw [hi2, ud_at, if_pos rfl]
      · rw [ud_k hi2, if_neg hi2]
        unfold insN
        rw [if_neg (by omega), if_neg hi2]; exact (h6 i (by omega) (by omega)).2
    · rw [ud_q q1, ud_q q2, ud_q q3, h7 q q2 q3]
def bI32 (b : Bool) : Int32 := if b = true then 1 else 0
/-- how the line stands behind k people -/
def LineI (P : Nat) (ρ : Ru) (c : Cc) (rain : Bool) (D : DD) (k : Nat) (D1 : DD) : Prop :=
  D1 P 4 = nI (lineN ρ c rain k).1 ∧ (∀ j, j ≠ 4 → D1 P j = D P j) ∧ (∀ i, i < (lineN ρ c rain k).1 → D1 (P + 4) i = nI ((lineN ρ c rain k).2 i)) ∧ (∀ i, i < (lineN ρ c rain k).1 → D1 (P + 5) i = arrF ρ c ((lineN ρ c rain k).2 i)) ∧ (∀ q, q ≠ P → q ≠ P + 4 → q ≠ P + 5 → q ≠ 5 → D1 q = D q) ∧ ∀ i, 7 ≤ i → i < 357 → D1 5 i = D 5 i
theorem LineI.fr {k : Nat} {rain : Bool} {D1 : DD} (h : LineI P ρ c rain D k D1) : FrP P D D1 := ⟨fun q hq h5 => h.2.2.2.2.1 q (by omega) (by omega) (by omega) h5, h.2.2.2.2.2⟩
theorem LineI.f5 {k : Nat} {rain : Bool} {D1 D2 : DD} (hP : isP P) (h : LineI P ρ c rain D k D1) (hf : Fr5 D1 D2) : LineI P ρ c rain D k D2 := by
  have := isP_lo hP
  obtain ⟨a1, a2, a3, a4, a5, a6⟩ := h
  refine ⟨?_, fun j hj => ?_, fun i hi => ?_, fun i hi => ?_, fun q q1 q2 q3 q4 => ?_, fun i h1 h2 => ?_⟩
  · rw [hf.1 P (by omega)]; exact a1
  · rw [hf.1 P (by omega)]; exact a2 j hj
  · rw [hf.1 _ (by omega)]; exact a3 i hi
  · rw [hf.1 _ (by omega)]; exact a4 i hi
  · rw [hf.1 q q4]; exact a5 q q1 q2 q3 q4
  · rw [hf.2 i h1 h2]; exact a6 i h1 h2
theorem LineI.skip {k : Nat} {rain : Bool} {D1 : DD} (h : LineI P ρ c rain D k D1) (hc : comesF ρ c rain k = false) : LineI P ρ c rain D (k + 1) D1 := by
  have e : lineN ρ c rain (k + 1) = lineN ρ c rain k := by
    rw [lineN, hc]; rfl
  unfold LineI
  rw [e]; exact h
theorem s_line {rain : Bool} (hP : isP P) (hR : RuOk ρ) (hC : RulesC ρ D) (hc : D (P + 1) = c) : Wp (EvM X (d + 1) 45 [.ref P, .int (bI32 rain)] (hS u D J)) (RV u J (LineI P ρ c rain D ρ.1)) := by
  have hPl := isP_lo hP
  have hn := hR.1.1
  -- the loop
  have loop : ∀ (x2 : Int32), (x2 = 0 → ρ.2.2.1 = none ∧ ρ.2.2.2.1 = none) → Wp (Ev X (d + 1) 45 (19, [.ref P, .int (bI32 rain), .int x2, .int 0, .null, .null], [], hS u (ud D P 4 0) J)) (RV u J (LineI P ρ c rain D ρ.1)) := by
    intro x2 hx2
    refine wp_loop (R := fun k (D1 : DD) => Ev X (d + 1) 45 (19, [.ref P, .int (bI32 rain), .int x2, .int (nI k), .null, .null], [], hS u D1 J)) (LineI P ρ c rain D) ρ.1 ?_ ?_ 0 (ud D P 4 0) (Nat.zero_le _) ?_
    · intro k D1 hk hI ih
      have hC1 := hC.p hP hI.fr
      have hc1 : D1 (P + 1) = c := by rw [hI.2.2.2.2.1 (P + 1) (by omega) (by omega) (by omega) (by omega), hc]
      -- behind it: the next
      have next : ∀ (D2 : DD) (x4 x5 : Int32), LineI P ρ c rain D (k + 1) D2 → Wp (Ev X (d + 1) 45 (85, [.ref P, .int (bI32 rain), .int x2, .int (nI k), .int x4, .int x5], [], hS u D2 J)) (RV u J (LineI P ρ c rain D ρ.1)) := by
        intro D2 x4 x5 h2
        refine wp_eq (e45_85 hP _ _ _ _ _) ?_
        refine wp_weak (ls := [.ref P, .int (bI32 rain), .int x2, .int (nI k + 1), .null, .null]) (by simp [lle, lng]) ?_
        rw [nI_1]
        exact ih D2 h2
      -- the registers hold this one's values, if a rule asks
      have body : ∀ D2 : DD, LineI P ρ c rain D k D2 → (x2 ≠ 0 → ∀ i, i < 6 → D2 5 i = vA c k i) → Wp (Ev X (d + 1) 45 (32, [.ref P, .int (bI32 rain), .int x2, .int (nI k), .null, .null], [], hS u D2 J)) (RV u J (LineI P ρ c rain D ρ.1)) := by
        intro D2 hI2 hv
        have hF2 := hI2.fr
        have hc2 : ∀ D3 : DD, LineI P ρ c rain D k D3 → D3 (P + 1) = c := fun D3 h => by rw [h.2.2.2.2.1 (P + 1) (by omega) (by omega) (by omega) (by omega), hc]
        -- who doesn't sulk
        have tail : ∀ D3 : DD, LineI P ρ c rain D k D3 → (x2 ≠ 0 → ∀ i, i < 6 → D3 5 i = vA c k i) → sulksF ρ c k = false → Wp (Ev X (d + 1) 45 (36, [.ref P, .int (bI32 rain), .int x2, .int (nI k), .null, .null], [.int 0], hS u D3 J)) (RV u J (LineI P ρ c rain D ρ.1)) := by
          intro D3 hI3 hv3 hsu
          have ec := hc2 D3 hI3
          -- who isn't kept by the rain
          have dry : ∀ x5 : Int32, (rain && decide (15 ≤ c (12 + k))) = false → Wp (gd (ob (nI (60 + k)) 73) (br (decide (¬ D3 (P + 1) (60 + k) = 0)) (Ev X (d + 1) 45 (85, [.ref P, .int (bI32 rain), .int x2, .int (nI k), .int 0, .int x5], [], hS u D3 J)) (bI (EvM X d 86 [.ref 3, .int 0] (hS u D3 J)) (fun y h => Ev X (d + 1) 45 (77, [.ref P, .int (bI32 rain), .int x2, .int (nI k), .int 0, .int x5], [.int y, .int (nI k), .ref P], h)) (fun e h => some (.inr e, h))))) (RV u J (LineI P ρ c rain D ρ.1)) := by
            intro x5 hdry
            refine oG (by omega) (by decide) ?_
            rw [ec]
            have ecome : comesF ρ c rain k = decide (c (60 + k) = 0) := by
              unfold comesF
              rw [hsu, hdry]; rfl
            refine wp_if (fun h => ?_) (fun h => ?_)
            · exact next D3 0 x5 (hI3.skip (by rw [ecome]; exact decide_eq_false h))
            · have h0 : c (60 + k) = 0 := Classical.not_not.mp h
              have hcome : comesF ρ c rain k = true := by rw [ecome]; exact decide_eq_true h0
              have el : lineN ρ c rain (k + 1) = ((lineN ρ c rain k).1 + 1, insN (lineN ρ c rain k).2 (posN (arrF ρ c) (lineN ρ c rain k).2 (arrF ρ c k) (lineN ρ c rain k).1) k) := by
                rw [lineN, if_pos hcome]
              have hml := line_le ρ c rain k
              have put : ∀ D4 : DD, LineI P ρ c rain D k D4 → Wp (bV (EvM X d 46 [.ref P, .int (nI k), .int (arrF ρ c k)] (hS u D4 J)) (fun h => Ev X (d + 1) 45 (85, [.ref P, .int (bI32 rain), .int x2, .int (nI k), .int 0, .int x5], [], h)) (fun e h => some (.inr e, h))) (RV u J (LineI P ρ c rain D ρ.1)) := by
                intro D4 hI4
                refine wp_cV (s_queue (m := (lineN ρ c rain k).1) (g := arrF ρ c) (a := (lineN ρ c rain k).2) hP (by omega) (by omega) hI4.1 hI4.2.2.1 hI4.2.2.2.1) (fun D5 h5 => ?_)
                obtain ⟨b1, b2, b3, b4, b5⟩ := h5
                refine next D5 0 x5 ?_
                unfold LineI
                rw [el]
                refine ⟨b1, fun j hj => (b2 j hj).trans (hI4.2.1 j hj), b3, fun i hi => ?_, fun q q1 q2 q3 q4 => (b5 q q1 q2 q3).trans (hI4.2.2.2.2.1 q q1 q2 q3 q4), fun i g1 g2 => ?_⟩
                · rw [b4 i hi]
                  split
                  · next h => rw [h]; exact congrArg (arrF ρ c) (ins_at _ _ _).symm
                  · rfl
                · rw [b5 5 (by omega) (by omega) (by omega)]; exact hI4.2.2.2.2.2 i g1 g2
              have hC3 := hC.p hP hI3.fr
              refine wp_iE (s_has (k := 0) (Or.inl rfl) (by decide)) ?_
              refine wp_eq (e45_77 hP _ _ _ _ _ _ _) ?_
              have ha := hC3.2.2.1
              cases hr : ρ.2.2.1 with
              | none =>
                rw [hr] at ha
                have ha : D3 (3 + 8) 0 = -1 := ha
                rw [if_pos ha]
                refine wp_t rfl ?_
                have ea : arrF ρ c k = nI k := by unfold arrF; rw [hr]
                rw [← ea]
                have := put D3 hI3
                rw [ea] at this ⊢
                exact this
              | some F =>
                rw [hr] at ha
                obtain ⟨ha, hg⟩ := ha
                have ha : ¬ D3 (3 + 8) 0 = -1 := ha
                rw [if_neg ha]
                refine wp_f (by decide) ?_
                refine wp_cI (hg X d u J D3 (fun _ _ _ => rfl) (fun _ _ _ => rfl)) (fun y D4 h4 => ?_)
                obtain ⟨y4, f4, k4⟩ := h4
                have hne : x2 ≠ 0 := fun z => by rw [(hx2 z).1] at hr; cases hr
                have ey : y = arrF ρ c k := by
                  unfold arrF
                  rw [hr, y4]
                  exact hR.2.1 F (Or.inl hr) _ _ (hv3 hne)
                refine wp_eq (e45_82 hP _ _ _ _ _ _ _) ?_
                rw [ey]
                exact put D4 (hI3.f5 hP ⟨f4, fun i _ h => k4 i h⟩)
          refine wp_eq (e45_36 hP _ _ _ _) ?_
          refine wp_t rfl ?_
          rw [la, la, nI_clamp (by omega), nI_clamp (by omega)]
          refine wp_if (fun h => ?_) (fun h => ?_)
          · have hr : rain = false := by
              cases rain with
              | false => rfl
              | true => exact absurd h (by decide)
            exact dry 0 (by rw [hr]; rfl)
          · have hr : rain = true := by
              cases hrr : rain with
              | true => rfl
              | false => rw [hrr] at h; exact absurd rfl h
            refine oG (by omega) (by decide) ?_
            rw [ec]
            have dry := dry
            rw [ec] at dry
            refine wp_if (fun h2 => ?_) (fun h2 => ?_)
            · exact dry 0 (by rw [hr, decide_eq_false (Int32.not_le.mpr h2)]; rfl)
            · refine next D3 0 1 (hI3.skip ?_)
              unfold comesF
              rw [hr, decide_eq_true (Int32.not_lt.mp h2)]
              simp
        refine wp_eq (e45_32 hP _ _ _) ?_
        refine wp_iE (s_has (k := 1) (Or.inl rfl) (by decide)) ?_
        have hC2 := hC.p hP hF2
        have hs := hC2.2.2.2.1
        cases hr : ρ.2.2.2.1 with
        | none =>
          rw [hr] at hs
          have hs : D2 (3 + 8) 1 = -1 := hs
          rw [if_pos hs]
          exact tail D2 hI2 hv (by unfold sulksF; rw [hr])
        | some F =>
          rw [hr] at hs
          obtain ⟨hs, hg⟩ := hs
          have hs : ¬ D2 (3 + 8) 1 = -1 := hs
          rw [if_neg hs]
          refine wp_eq (e45_36 hP _ _ _ _) ?_
          refine wp_f (by decide) ?_
          refine wp_cI (hg X d u J D2 (fun _ _ _ => rfl) (fun _ _ _ => rfl)) (fun y D4 h4 => ?_)
          obtain ⟨y4, f4, k4⟩ := h4
          have hne : x2 ≠ 0 := fun z => by rw [(hx2 z).2] at hr; cases hr
          have esu : sulksF ρ c k = decide (0 < y) := by
            unfold sulksF
            rw [hr, y4]
            dsimp only
            rw [hR.2.1 F (Or.inr hr) _ _ (hv hne)]
          have hI4 := hI2.f5 hP ⟨f4, fun i _ h => k4 i h⟩
          have hv4 : x2 ≠ 0 → ∀ i, i < 6 → D4 5 i = vA c k i := fun z i hi => by rw [k4 i (by omega)]; exact hv z i hi
          refine wp_eq (e45_41 hP _ _ _ _) ?_
          refine wp_if (fun h => ?_) (fun h => ?_)
          · have t := tail D4 hI4 hv4 (by rw [esu]; exact decide_eq_false (Int32.not_lt.mpr h))
            rw [e45_36 hP, brT rfl] at t
            exact t
          · have hcn : comesF ρ c rain k = false := by
              unfold comesF
              rw [esu, decide_eq_true (Int32.not_le.mp h)]; rfl
            refine wp_if (fun _ => next D4 _ _ (hI4.skip hcn)) (fun _ => ?_)
            rw [la, nI_clamp (by omega)]
            refine oG (by omega) (by decide) ?_
            exact wp_if (fun _ => next D4 _ _ (hI4.skip hcn)) (fun _ => next D4 _ _ (hI4.skip hcn))
      refine wp_eq (e45_19 hP _ _ _) ?_
      rw [hC1.1]
      refine wp_f (nI_ge hk (by omega)) ?_
      refine wp_if (fun h => ?_) (fun h => ?_)
      · exact body D1 hI (fun z => absurd h z)
      · refine wp_cV (s_ask (p := k) (isP_H hP) (by omega)) (fun D2 h2 => ?_)
        obtain ⟨f2, g2, k2⟩ := h2
        exact body D2 (hI.f5 hP f2) (fun _ i hi => by rw [g2 i hi, hc1])
    · intro D1 hI
      refine wp_eq (e45_19 hP _ _ _) ?_
      rw [(hC.p hP hI.fr).1]
      exact wp_t (nI_le (Nat.le_refl _) (by omega)) (wp_rV hI)
    · exact ⟨ud_at D P 4 0, fun j hj => ud_k hj, fun i hi => absurd hi (Nat.not_lt_zero i), fun i hi => absurd hi (Nat.not_lt_zero i), fun q q1 _ _ _ => ud_q q1, fun i _ _ => by rw [ud_q (by omega)]⟩
  refine wp_eq (e45_0 hP _) ?_
  refine wp_iE (s_has (k := 1) (Or.inl rfl) (by decide)) ?_
  refine wp_eq (e45_4 hP _ _) ?_
  have hs := hC.2.2.2.1
  have ha := hC.2.2.1
  refine wp_if (fun h => ?_) (fun h => ?_)
  · exact loop 1 (fun z => absurd z (by decide))
  · have hs1 : D (3 + 8) 1 = -1 := by
      apply Classical.byContradiction
      intro z
      rw [if_neg z] at h
      exact h (by decide)
    have hsn : ρ.2.2.2.1 = none := by
      cases hr : ρ.2.2.2.1 with
      | none => rfl
      | some F => rw [hr] at hs; exact absurd hs1 hs.1
    refine wp_iE (s_has (k := 0) (Or.inl rfl) (by decide)) ?_
    refine wp_eq (e45_9 hP _ _) ?_
    refine wp_if (fun h2 => ?_) (fun h2 => ?_)
    · have ha1 : D (3 + 8) 0 = -1 := by
        apply Classical.byContradiction
        intro z
        rw [if_neg z] at h2
        exact absurd h2 (by decide)
      have han : ρ.2.2.1 = none := by
        cases hr : ρ.2.2.1 with
        | none => rfl
        | some F => rw [hr] at ha; exact absurd ha1 ha.1
      exact loop 0 (fun _ => ⟨han, hsn⟩)
    · exact loop 1 (fun z => absurd z (by decide))
end LINE
