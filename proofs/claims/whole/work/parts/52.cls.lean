/-! ===== the class: rules, who minds, one sits down ===== -/
theorem la (k p : Nat) : (OfNat.ofNat k : Int32) + nI p = nI ((OfNat.ofNat k : Nat) + p) := nI_add k p
theorem lm (k p : Nat) : nI p * (OfNat.ofNat k : Int32) = nI ((OfNat.ofNat k : Nat) * p) := by rw [Nat.mul_comm]; exact nI_mul p k
theorem lk (k p : Nat) : nI p + (OfNat.ofNat k : Int32) = nI (p + (OfNat.ofNat k : Nat)) := nI_add p k
theorem gd_t {b : Bool} {r : Option Rs} (h : b = true) : gd b r = r := by rw [h]; rfl
theorem brT {p : Prop} [Decidable p] {a b : Option Rs} (h : p) : br (decide p) a b = a := by rw [decide_eq_true h]; rfl
theorem brF {p : Prop} [Decidable p] {a b : Option Rs} (h : ¬ p) : br (decide p) a b = b := by rw [decide_eq_false h]; rfl
theorem wp_vE {r : Option Rs} {h : Hp} {k : Hp → Option Rs} {t : Nat → Hp → Option Rs} {Q : Rs → Prop} (e : r = some (.inl none, h)) (hk : Wp (k h) Q) : Wp (bV r k t) Q := by rw [e]; exact hk
theorem wp_iE {r : Option Rs} {x : Int32} {h : Hp} {k : Int32 → Hp → Option Rs} {t : Nat → Hp → Option Rs} {Q : Rs → Prop} (e : r = some (.inl (some (.int x)), h)) (hk : Wp (k x h) Q) : Wp (bI r k t) Q := by rw [e]; exact hk
theorem oG {i n : Nat} (h : i < n) (hn : n < 2 ^ 31) {r : Option Rs} {Q : Rs → Prop} (hr : Wp r Q) : Wp (gd (ob (nI i) n) r) Q := wp_gd (ob_n h hn) hr
def Fr5 (D D' : DD) : Prop := (∀ q, q ≠ 5 → D' q = D q) ∧ ∀ i, 7 ≤ i → i < 357 → D' 5 i = D 5 i
def FrP (P : Nat) (D D' : DD) : Prop := (∀ q, q < P ∨ P + 5 < q → q ≠ 5 → D' q = D q) ∧ ∀ i, 7 ≤ i → i < 357 → D' 5 i = D 5 i
theorem Fr5.rf (D : DD) : Fr5 D D := ⟨fun _ _ => rfl, fun _ _ _ => rfl⟩
theorem Fr5.tr {A B C : DD} (h1 : Fr5 A B) (h2 : Fr5 B C) : Fr5 A C := ⟨fun q hq => (h2.1 q hq).trans (h1.1 q hq), fun i a b => (h2.2 i a b).trans (h1.2 i a b)⟩
theorem FrP.rf (P : Nat) (D : DD) : FrP P D D := ⟨fun _ _ _ => rfl, fun _ _ _ => rfl⟩
theorem FrP.tr {P : Nat} {A B C : DD} (h1 : FrP P A B) (h2 : FrP P B C) : FrP P A C := ⟨fun q hq h5 => (h2.1 q hq h5).trans (h1.1 q hq h5), fun i a b => (h2.2 i a b).trans (h1.2 i a b)⟩
theorem Fr5.p {P : Nat} {D D' : DD} (h : Fr5 D D') : FrP P D D' := ⟨fun q _ h5 => h.1 q h5, h.2⟩
theorem isP_lo {P : Nat} (hP : isP P) : 25 ≤ P ∧ P ≤ 38 := by
  unfold isP at hP
  omega
theorem FrP.ud {P q k : Nat} {D : DD} {v : Int32} (hP : isP P) (h1 : P ≤ q) (h2 : q ≤ P + 5) : FrP P D (ud D q k v) := by
  have := isP_lo hP
  exact ⟨fun a ha _ => ud_q (by omega), fun i _ _ => by rw [ud_q (by omega)]⟩
/-- what rule k gives, whatever else stands in the registers -/
def GiveC (k : Nat) (F : RuF) (D : DD) : Prop := ∀ (X : XS) (d u : Nat) (J : JJ) (D1 : DD), (∀ q, 6 ≤ q → q ≤ 11 → D1 q = D q) → (∀ i, 7 ≤ i → i < 357 → D1 5 i = D 5 i) →
  Wp (EvM X d 93 [.ref 3, .int (nI k)] (hS u D1 J)) (RI u J (fun x D2 => x = F (D1 5) ∧ (∀ q, q ≠ 5 → D2 q = D1 q) ∧ ∀ i, i < 357 → D2 5 i = D1 5 i))
def rulC (k : Nat) (o : Option RuF) (D : DD) : Prop := match o with
  | none => D 11 k = -1
  | some F => D 11 k ≠ -1 ∧ GiveC k F D
def RulesC (ρ : Ru) (D : DD) : Prop := D 3 0 = nI ρ.1 ∧ D 3 1 = nI ρ.2.1 ∧ rulC 0 ρ.2.2.1 D ∧ rulC 1 ρ.2.2.2.1 D ∧ rulC 2 ρ.2.2.2.2 D
/-- on which values a rule may hang -/
def RuOk (ρ : Ru) : Prop := Ru0 ρ ∧ (∀ F, ρ.2.2.1 = some F ∨ ρ.2.2.2.1 = some F → ∀ v v' : Nat → Int32, (∀ i, i < 6 → v i = v' i) → F v = F v') ∧ ∀ F, ρ.2.2.2.2 = some F → ∀ v v' : Nat → Int32, (∀ i, i < 4 ∨ i = 6 → v i = v' i) → F v = F v'
theorem GiveC.mv {k : Nat} {F : RuF} {D D' : DD} (h : GiveC k F D) (h1 : ∀ q, 6 ≤ q → q ≤ 11 → D' q = D q) (h2 : ∀ i, 7 ≤ i → i < 357 → D' 5 i = D 5 i) : GiveC k F D' :=
  fun X d u J D1 g1 g2 => h X d u J D1 (fun q a b => (g1 q a b).trans (h1 q a b)) (fun i a b => (g2 i a b).trans (h2 i a b))
theorem RulesC.mv {ρ : Ru} {D D' : DD} (h : RulesC ρ D) (h0 : D' 3 = D 3) (h1 : ∀ q, 6 ≤ q → q ≤ 11 → D' q = D q) (h2 : ∀ i, 7 ≤ i → i < 357 → D' 5 i = D 5 i) : RulesC ρ D' := by
  obtain ⟨a1, a2, a3, a4, a5⟩ := h
  have e : D' 11 = D 11 := h1 11 (by omega) (by omega)
  have key : ∀ k o, rulC k o D → rulC k o D' := by
    intro k o hk
    cases o with
    | none => show D' 11 k = -1; rw [e]; exact hk
    | some F => exact ⟨by rw [e]; exact hk.1, hk.2.mv h1 h2⟩
  exact ⟨by rw [h0]; exact a1, by rw [h0]; exact a2, key _ _ a3, key _ _ a4, key _ _ a5⟩
theorem RulesC.p {ρ : Ru} {P : Nat} {D D' : DD} (h : RulesC ρ D) (hP : isP P) (hf : FrP P D D') : RulesC ρ D' := by
  have := isP_lo hP
  exact h.mv (hf.1 3 (by omega) (by omega)) (fun q a b => hf.1 q (by omega) (by omega)) hf.2
/-- pews by their rows -/
def Rep (ρ : Ru) (c : Cc) (row fil : Nat → Int32) : Prop := (∀ w, w < 12 → fil w = nI (sizeN ρ c w)) ∧ ∀ w x, w < 12 → x < sizeN ρ c w → row (12 * w + x) = nI (whoN ρ c (12 * w + x))
def PewsC (P : Nat) (ρ : Ru) (c : Cc) (D : DD) : Prop := D (P + 1) = c ∧ Rep ρ c (D (P + 2)) (D (P + 3))
theorem PewsC.mv {P : Nat} {ρ : Ru} {c : Cc} {D D' : DD} (h : PewsC P ρ c D) (h1 : D' (P + 1) = D (P + 1)) (h2 : D' (P + 2) = D (P + 2)) (h3 : D' (P + 3) = D (P + 3)) : PewsC P ρ c D' := by
  unfold PewsC
  rw [h1, h2, h3]; exact h
theorem PewsC.f5 {P : Nat} {ρ : Ru} {c : Cc} {D D' : DD} (hP : isP P) (h : PewsC P ρ c D) (hf : Fr5 D D') : PewsC P ρ c D' := by
  have := isP_lo hP
  exact h.mv (hf.1 _ (by omega)) (hf.1 _ (by omega)) (hf.1 _ (by omega))
theorem RulesC.f5 {ρ : Ru} {D D' : DD} (h : RulesC ρ D) (hf : Fr5 D D') : RulesC ρ D' := h.mv (hf.1 3 (by omega)) (fun q _ _ => hf.1 q (by omega)) hf.2
section CLS
variable {X : XS} {d u : Nat} {D : DD} {J : JJ} {P R H : Nat} {ρ : Ru} {c : Cc}
theorem s_has {k : Nat} (hR : isR R) (hk : k < 3) : EvM X d 86 [.ref R, .int (nI k)] (hS u D J) = some (.inl (some (.int (if D (R + 8) k = -1 then 0 else 1))), hS u D J) := by
  refine (e86_0 hR (nI k)).trans ?_
  rw [gd_t (ob_n hk (by decide)), nI_clamp (by omega)]
  by_cases h : D (R + 8) k = -1
  · rw [if_pos h, brT h]
  · rw [if_neg h, brF h]
theorem isP_H (hP : isP P) : isH (P + 1) := by
  unfold isP at hP
  unfold isH
  omega
/-- the values of one person are put into the registers -/
theorem s_ask {p : Nat} (hH : isH H) (hp : p < 12) : Wp (EvM X d 91 [.ref 3, .ref H, .int (nI p)] (hS u D J)) (RV u J (fun D' => Fr5 D D' ∧ (∀ i, i < 6 → D' 5 i = vA (D H) p i) ∧ ∀ i, 6 ≤ i → D' 5 i = D 5 i)) := by
  have h5 : H ≠ 5 := by unfold isH at hH; omega
  refine wp_eq (e91_0 hH (nI p)) ?_
  rw [la, la, nI_clamp (by omega), nI_clamp (by omega)]
  refine oG (by omega) (by decide) (oG (by omega) (by decide) ?_)
  rw [Nat.zero_add]
  have fin : ∀ (a1 a2 : Int32), a1 = pewV (D H p) → a2 = seatV (D H p) → Wp (Ev X d 91 (37, [.ref 3, .ref H, .int (nI p), .int (D H p)], [], hS u (ud (ud (ud D 5 0 (D H (12 + p))) 5 1 a1) 5 2 a2) J)) (RV u J (fun D' => Fr5 D D' ∧ (∀ i, i < 6 → D' 5 i = vA (D H) p i) ∧ ∀ i, 6 ≤ i → D' 5 i = D 5 i)) := by
    intro a1 a2 q1 q2
    refine wp_eq (e91_37 hH _ _) ?_
    rw [la, nI_clamp (by omega)]
    refine oG (by omega) (by decide) ?_
    refine wp_eq (e91_46 hH _ _) ?_
    rw [la, nI_clamp (by omega)]
    refine oG (by omega) (by decide) ?_
    refine wp_eq (e91_55 hH _ _) ?_
    refine wp_eq (e91_62 hH _ _) ?_
    refine wp_rV ⟨⟨fun q hq => ?_, fun i h1 h2 => ?_⟩, fun i hi => ?_, fun i hi => ?_⟩
    · rw [ud_q hq, ud_q hq, ud_q hq, ud_q hq, ud_q hq, ud_q hq]
    · rw [ud_k (by omega), ud_k (by omega), ud_k (by omega), ud_k (by omega), ud_k (by omega), ud_k (by omega)]
    · simp only [ud_q h5]
      subst q1 q2
      rcases (show i = 0 ∨ i = 1 ∨ i = 2 ∨ i = 3 ∨ i = 4 ∨ i = 5 by omega) with rfl | rfl | rfl | rfl | rfl | rfl <;> simp [ud, vA]
    · rw [ud_k (by omega), ud_k (by omega), ud_k (by omega), ud_k (by omega), ud_k (by omega), ud_k (by omega)]
  refine wp_eq (e91_15 hH _ _) ?_
  refine wp_if (fun h => ?_) (fun h => ?_)
  · have hn : ¬ D H p < 0 := Int32.not_lt.mpr h
    refine wp_eq (e91_26 hH _ _) ?_
    refine wp_t h ?_
    exact fin _ _ (by unfold pewV; rw [if_neg hn]) (by unfold seatV; rw [if_neg hn])
  · have hn : D H p < 0 := Int32.not_le.mp h
    refine wp_eq (e91_26 hH _ _) ?_
    refine wp_f h ?_
    exact fin _ _ (by unfold pewV; rw [if_pos hn]) (by unfold seatV; rw [if_pos hn])
theorem s_theirs (x : Int32) : EvM X d 92 [.ref 3, .int x] (hS u D J) = some (.inl none, hS u (ud D 5 6 x) J) := e92_0 x
theorem Fr5.six {x : Int32} : Fr5 D (ud D 5 6 x) := ⟨fun q hq => ud_q hq, fun i _ _ => ud_k (by omega)⟩
theorem s_place {p s : Nat} (hP : isP P) (hp : p < 12) (hs : s < 144) : EvM X d 39 [.ref P, .int (nI p), .int (nI s)] (hS u D J) = some (.inl none, hS u (ud (ud D (P + 1) p (nI s)) (P + 2) s (nI p)) J) := by
  refine (e39_0 hP (nI p) (nI s)).trans ?_
  rw [la, nI_clamp (by omega), nI_clamp (by omega), Nat.zero_add]
  rw [gd_t (ob_n (by omega) (by decide)), gd_t (ob_n hs (by decide))]
/-- the answer of mindingSpot -/
def spotA (w : Nat) (o : Option Nat) : Int32 := match o with | none => -1 | some x => nI (12 * w + x)
theorem s_mind {w : Nat} {th : Int32} (hP : isP P) (hR : RuOk ρ) (hC : RulesC ρ D) (hW : PewsC P ρ c D) (hO : Ok ρ c) (hw : w < 12) : Wp (EvM X (d + 1) 41 [.ref P, .int (nI w), .int th] (hS u D J)) (RI u J (fun y D' => y = spotA w (vicN ρ c w th (sizeN ρ c w) 0) ∧ Fr5 D D')) := by
  have hPl := isP_lo hP
  have hz := hO.2.2.2.1 w hw
  have hn := hR.1.1
  refine wp_eq (e41_0 hP _ _) ?_
  rw [nI_clamp (by omega), lm]
  refine oG hw (by decide) ?_
  refine wp_iE (s_has (k := 2) (Or.inl rfl) (by decide)) ?_
  refine wp_eq (e41_13 hP _ _ _ _) ?_
  refine wp_vE (s_theirs _) ?_
  refine wp_eq (e41_18 hP _ _ _ _) ?_
  rw [lm, hW.2.1 w hw, nI_add]
  have main : ∀ (r x : Nat) (D1 : DD), x + r = sizeN ρ c w → Fr5 D D1 → D1 5 6 = th → Wp (Ev X (d + 1) 41 (22, [.ref P, .int (nI w), .int th, .int (nI (12 * w + sizeN ρ c w)), .int (if D (3 + 8) 2 = -1 then 0 else 1), .int (nI (12 * w + x)), .null], [], hS u D1 J)) (RI u J (fun y D' => y = spotA w (vicN ρ c w th r x) ∧ Fr5 D D')) := by
    intro r
    induction r with
    | zero =>
      intro x D1 hx hf h6
      refine wp_eq (e41_22 hP _ _ _ _ _) ?_
      refine wp_t (nI_le (by omega) (by omega)) ?_
      exact wp_rI ⟨rfl, hf⟩
    | succ r ih =>
      intro x D1 hx hf h6
      have hC1 := hC.f5 hf
      have hW1 := hW.f5 hP hf
      obtain ⟨w1, w2⟩ := who_ex hO hw (show x < sizeN ρ c w by omega)
      have hrow := hW1.2.2 w x hw (by omega)
      refine wp_eq (e41_22 hP _ _ _ _ _) ?_
      refine wp_f (nI_ge (by omega) (by omega)) ?_
      refine oG (by omega) (by decide) ?_
      rw [nI_clamp (by omega), hrow]
      generalize whoN ρ c (12 * w + x) = o at w1 w2 ⊢
      have ev : vicN ρ c w th (r + 1) x = if mindsF ρ c (whoN ρ c (12 * w + x)) th = true then some x else vicN ρ c w th r (x + 1) := rfl
      have ewho : whoN ρ c (12 * w + x) = o := who_at hO w1 (by omega) w2
      rw [ewho] at ev
      have next : ∀ D2 : DD, mindsF ρ c o th = false → Fr5 D D2 → D2 5 6 = th → Wp (Ev X (d + 1) 41 (22, [.ref P, .int (nI w), .int th, .int (nI (12 * w + sizeN ρ c w)), .int (if D (3 + 8) 2 = -1 then 0 else 1), .int (nI (12 * w + x) + 1), .int (nI o)], [], hS u D2 J)) (RI u J (fun y D' => y = spotA w (vicN ρ c w th (r + 1) x) ∧ Fr5 D D')) := by
        intro D2 hm hf2 h62
        refine wp_weak (ls := [.ref P, .int (nI w), .int th, .int (nI (12 * w + sizeN ρ c w)), .int (if D (3 + 8) 2 = -1 then 0 else 1), .int (nI (12 * w + x) + 1), .null]) (by simp [lle, lng]) ?_
        rw [ev, hm, nI_1, Nat.add_assoc]
        exact ih (x + 1) D2 (by omega) hf2 h62
      have found : ∀ D2 : DD, mindsF ρ c o th = true → Fr5 D D2 → Wp (some (.inl (some (.int (nI (12 * w + x)))), hS u D2 J)) (RI u J (fun y D' => y = spotA w (vicN ρ c w th (r + 1) x) ∧ Fr5 D D')) := by
        intro D2 hm hf2
        refine wp_rI ⟨?_, hf2⟩
        rw [ev, hm]; rfl
      have hm2 := hC.2.2.2.2
      cases hm : ρ.2.2.2.2 with
      | none =>
        rw [hm] at hm2
        have hm2 : D (3 + 8) 2 = -1 := hm2
        rw [if_pos hm2] at next ⊢
        have em : mindsF ρ c o th = decide (th < c (12 + o)) := by unfold mindsF; rw [hm]
        refine wp_t rfl ?_
        refine wp_eq (e41_38 hP _ _ _ _ _ _) ?_
        refine wp_t rfl ?_
        rw [la, nI_clamp (by omega)]
        refine oG (by omega) (by decide) ?_
        rw [hW1.1]
        refine wp_if (fun h => ?_) (fun h => ?_)
        · exact next D1 (by rw [em]; exact decide_eq_false (Int32.not_lt.mpr h)) hf h6
        · exact found D1 (by rw [em]; exact decide_eq_true (Int32.not_le.mp h)) hf
      | some F =>
        rw [hm] at hm2
        obtain ⟨hm2, hg⟩ := hm2
        have hm2 : ¬ D (3 + 8) 2 = -1 := hm2
        rw [if_neg hm2] at next ⊢
        refine wp_f (by decide) ?_
        refine wp_cV (s_ask (p := o) (isP_H hP) (by omega)) (fun D2 h2 => ?_)
        obtain ⟨f2, g2, k2⟩ := h2
        have hf2 := hf.tr f2
        refine wp_eq (e41_38 hP _ _ _ _ _ _) ?_
        refine wp_f (by decide) ?_
        refine wp_cI (hg X d u J D2 (fun q a b => hf2.1 q (by omega)) hf2.2) (fun y D3 h3 => ?_)
        obtain ⟨y3, f3, k3⟩ := h3
        have hf3 : Fr5 D D3 := hf2.tr ⟨f3, fun i _ h => k3 i h⟩
        have em : mindsF ρ c o th = decide (0 < y) := by
          unfold mindsF
          rw [hm, y3]
          have : F (vM c o th) = F (D2 5) := hR.2.2 F hm _ _ (fun i hi => by
            rcases hi with hi | hi
            · rw [g2 i (by omega), hW1.1]
              rcases (show i = 0 ∨ i = 1 ∨ i = 2 ∨ i = 3 by omega) with rfl | rfl | rfl | rfl <;> simp [vM, vA]
            · rw [hi, k2 6 (by omega), h6]; simp [vM])
          dsimp only
          rw [this]
        refine wp_eq (e41_44 hP _ _ _ _ _ _ _) ?_
        refine wp_if (fun h => ?_) (fun h => ?_)
        · exact next D3 (by rw [em]; exact decide_eq_false (Int32.not_lt.mpr h)) hf3 (by rw [k3 6 (by omega), k2 6 (by omega)]; exact h6)
        · exact found D3 (by rw [em]; exact decide_eq_true (Int32.not_le.mp h)) hf3
  exact main (sizeN ρ c w) 0 (ud D 5 6 th) (by omega) Fr5.six (ud_at D 5 6 th)
end CLS
