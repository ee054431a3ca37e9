/-! ===== the class: sitDown ===== -/
section REP
variable {ρ : Ru} {c : Cc} {row fil : Nat → Int32}
theorem rep_out (hn : ρ.1 ≤ 12) (hO : Ok ρ c) (hr : Rep ρ c row fil) {p o s : Nat} (hp : p < ρ.1) (ho : o < ρ.1) (hpo : p ≠ o) (h1 : c p = -1) (hs : s < 144) (h2 : c o = nI s) : Rep ρ (outN c p o) (upd row s (nI p)) fil := by
  have hO' := ok_out hn hO hp ho hpo h1 hs h2
  have hz : ∀ w, w < 12 → sizeN ρ (outN c p o) w = sizeN ρ c w := fun w hw => size_out hn hp ho hpo h1 hs h2 w (by omega)
  refine ⟨fun w hw => by rw [hz w hw]; exact hr.1 w hw, fun w x hw hx => ?_⟩
  rw [hz w hw] at hx
  have hl := hO.lt hw hx
  obtain ⟨g1, g2⟩ := who_ex hO hw hx
  show (if 12 * w + x = s then nI p else row (12 * w + x)) = _
  by_cases hq : 12 * w + x = s
  · rw [if_pos hq, who_at hO' hp hl]
    rw [outN_spot (by omega) (by omega), if_neg hpo, if_pos rfl, h2, hq]
  · rw [if_neg hq, hr.2 w x hw hx]
    have hne : whoN ρ c (12 * w + x) ≠ o := by
      intro z
      rw [z, h2] at g2
      exact hq (nI_inj (by omega) (by omega) g2).symm
    have hnp : whoN ρ c (12 * w + x) ≠ p := by
      intro z
      rw [z, h1] at g2
      exact (n144 _ hl).2.2.2.1 g2.symm
    rw [who_at hO' g1 hl]
    rw [outN_spot (by omega) (by omega), if_neg hne, if_neg hnp, g2]
theorem rep_end (hn : ρ.1 ≤ 12) (hO : Ok ρ c) (hr : Rep ρ c row fil) {p w : Nat} (hp : p < ρ.1) (h1 : c p = -1) (hw : w < 12) (hz : sizeN ρ c w < 12) (hb : ∀ v, v < w → sizeN ρ c v ≠ 0) : Rep ρ (upd c p (nI (12 * w + sizeN ρ c w))) (upd row (12 * w + sizeN ρ c w) (nI p)) (upd fil w (nI (sizeN ρ c w + 1))) := by
  have hO' := ok_end hn hO hp h1 hw hz hb
  have hs : 12 * w + sizeN ρ c w < 144 := by omega
  have he : ∀ v, v < 12 → sizeN ρ (upd c p (nI (12 * w + sizeN ρ c w))) v = sizeN ρ c v + (if w = v then 1 else 0) := fun v hv => by
    rw [size_end hn hp h1 hs v (by omega)]
    rw [show (12 * w + sizeN ρ c w) / 12 = w by omega]
  refine ⟨fun v hv => ?_, fun v x hv hx => ?_⟩
  · rw [he v hv]
    show (if v = w then _ else fil v) = _
    by_cases h : v = w
    · subst h; rw [if_pos rfl, if_pos rfl]
    · rw [if_neg h, if_neg (fun z => h z.symm), Nat.add_zero]; exact hr.1 v hv
  · rw [he v hv] at hx
    show (if 12 * v + x = 12 * w + sizeN ρ c w then nI p else row (12 * v + x)) = _
    by_cases h : 12 * v + x = 12 * w + sizeN ρ c w
    · rw [if_pos h, h, who_at hO' hp hs]
      show (if p = p then _ else c p) = _
      rw [if_pos rfl]
    · have h4 := hO.2.2.2.1 v hv
      have hx2 : x < sizeN ρ c v := by
        by_cases hv2 : w = v
        · rw [if_pos hv2] at hx
          subst hv2
          omega
        · rw [if_neg hv2] at hx; omega
      obtain ⟨g1, g2⟩ := who_ex hO hv hx2
      have hl := hO.lt hv hx2
      rw [if_neg h, hr.2 v x hv hx2, who_at hO' g1 hl]
      show (if _ = p then _ else _) = _
      rw [if_neg, g2]
      intro z
      rw [z, h1] at g2
      exact (n144 _ hl).2.2.2.1 g2.symm
end REP
def bitN (o : Nat) : Int32 := (1 : Int32) <<< (nI o &&& 31)
def orB (l : List Nat) (b : Int32) : Int32 := l.foldl (fun b o => b ||| bitN o) b
def wcN (a b : Int32) : List (Nat × Nat) → Nat
  | [] => 0
  | e :: l => (if nI e.1 = a ∧ nI e.2 = b then 1 else 0) + wcN a b l
section SITD
variable {X : XS} {d u : Nat} {D : DD} {J : JJ} {P : Nat} {ρ : Ru} {c : Cc}
/-- who is put out is counted -/
theorem s_put {o p : Nat} (hP : isP P) (ho : o < 12) (hp : p < 12) : Wp (EvM X d 42 [.ref P, .int (nI o), .int (nI p)] (hS u D J)) (RV u J (fun D' => D' (P + 1) = upd (upd (upd (D (P + 1)) o (-1)) (24 + o) (D (P + 1) (24 + o) + 1)) (36 + o) (D (P + 1) (36 + o) + 1) ∧ D' P 5 = D P 5 ||| bitN o ∧ D' P 6 = D P 6 + nI (if nI o = D P 7 ∧ nI p = D P 8 then 1 else 0) ∧ D' P 4 = D P 4 ∧ D' P 7 = D P 7 ∧ D' P 8 = D P 8 ∧ ∀ q, q ≠ P → q ≠ P + 1 → D' q = D q)) := by
  refine wp_eq (e42_0 hP _ _) ?_
  rw [la, nI_clamp (by omega), Nat.zero_add]
  refine oG (by omega) (by decide) ?_
  refine wp_eq (e42_7 hP _ _) ?_
  rw [la, nI_clamp (by omega)]
  refine oG (by omega) (by decide) (oG (by omega) (by decide) ?_)
  refine wp_eq (e42_17 hP _ _) ?_
  rw [la, nI_clamp (by omega)]
  refine oG (by omega) (by decide) (oG (by omega) (by decide) ?_)
  refine wp_eq (e42_27 hP _ _) ?_
  generalize hE : ud (ud (ud D (P + 1) o (-1)) (P + 1) (24 + o) (ud D (P + 1) o (-1) (P + 1) (24 + o) + 1)) (P + 1) (36 + o) (ud (ud D (P + 1) o (-1)) (P + 1) (24 + o) (ud D (P + 1) o (-1) (P + 1) (24 + o) + 1) (P + 1) (36 + o) + 1) = E
  have e1 : E (P + 1) = upd (upd (upd (D (P + 1)) o (-1)) (24 + o) (D (P + 1) (24 + o) + 1)) (36 + o) (D (P + 1) (36 + o) + 1) := by
    rw [← hE, ud_row, ud_row, ud_row]
    have a1 : upd (D (P + 1)) o (-1) (24 + o) = D (P + 1) (24 + o) := by
      show (if 24 + o = o then _ else _) = _
      rw [if_neg (by omega)]
    have a2 : ∀ v, upd (upd (D (P + 1)) o (-1)) (24 + o) v (36 + o) = D (P + 1) (36 + o) := by
      intro v
      show (if 36 + o = 24 + o then _ else if 36 + o = o then _ else _) = _
      rw [if_neg (by omega), if_neg (by omega)]
    rw [a1, a2]
  have e2 : ∀ q, q ≠ P + 1 → E q = D q := by
    intro q hq
    rw [← hE, ud_q hq, ud_q hq, ud_q hq]
  have eP : E P = D P := e2 P (by omega)
  clear hE
  refine wp_eq (e42_35 hP _ _) ?_
  have r7 : ud E P 5 (E P 5 ||| (1 : Int32) <<< (nI o &&& 31)) P 7 = D P 7 := by rw [ud_k (by omega), eP]
  have r8 : ud E P 5 (E P 5 ||| (1 : Int32) <<< (nI o &&& 31)) P 8 = D P 8 := by rw [ud_k (by omega), eP]
  have r6 : ud E P 5 (E P 5 ||| (1 : Int32) <<< (nI o &&& 31)) P 6 = D P 6 := by rw [ud_k (by omega), eP]
  have e0 : ∀ z : Int32, z = z + nI 0 := fun z => by rw [nI_0, Int32.add_zero]
  have no : ¬ (nI o = D P 7 ∧ nI p = D P 8) → Wp (Ev X d 42 (49, [.ref P, .int (nI o), .int (nI p)], [], hS u (ud E P 5 (E P 5 ||| (1 : Int32) <<< (nI o &&& 31))) J)) (RV u J (fun D' => D' (P + 1) = upd (upd (upd (D (P + 1)) o (-1)) (24 + o) (D (P + 1) (24 + o) + 1)) (36 + o) (D (P + 1) (36 + o) + 1) ∧ D' P 5 = D P 5 ||| bitN o ∧ D' P 6 = D P 6 + nI (if nI o = D P 7 ∧ nI p = D P 8 then 1 else 0) ∧ D' P 4 = D P 4 ∧ D' P 7 = D P 7 ∧ D' P 8 = D P 8 ∧ ∀ q, q ≠ P → q ≠ P + 1 → D' q = D q)) := by
    intro hne
    refine wp_eq (e42_49 hP _ _) (wp_rV ⟨by rw [ud_q (by omega)]; exact e1, by rw [ud_at, eP]; rfl, ?_, by rw [ud_k (by omega), eP], r7, r8, fun q h1 h2 => by rw [ud_q h1, e2 q h2]⟩)
    rw [if_neg hne, r6]; exact e0 _
  rw [r7, r8]
  refine wp_if (fun h => no (fun z => h z.1)) (fun h => ?_)
  refine wp_if (fun h' => no (fun z => h' z.2)) (fun h' => ?_)
  refine wp_eq (e42_49 hP _ _) (wp_rV ⟨by rw [ud_q (by omega), ud_q (by omega)]; exact e1, by rw [ud_k (by omega), ud_at, eP]; rfl, ?_, by rw [ud_k (by omega), ud_k (by omega), eP], by rw [ud_k (by omega)]; exact r7, by rw [ud_k (by omega)]; exact r8, fun q h1 h2 => by rw [ud_q h1, ud_q h1, e2 q h2]⟩)
  rw [ud_at, r6, if_pos ⟨Classical.not_not.mp h, Classical.not_not.mp h'⟩]; rfl
def SitPost (P : Nat) (ρ : Ru) (D1 : DD) (r : Cc × List (Nat × Nat) × Nat) (y : Int32) (D' : DD) : Prop :=
  y = nI r.2.2 ∧ PewsC P ρ r.1 D' ∧ D' P 5 = orB (r.2.1.map fun e => e.1) (D1 P 5) ∧ D' P 6 = D1 P 6 + nI (wcN (D1 P 7) (D1 P 8) r.2.1) ∧ D' P 4 = D1 P 4 ∧ D' P 7 = D1 P 7 ∧ D' P 8 = D1 P 8 ∧ D' (P + 4) = D1 (P + 4) ∧ FrP P D1 D'
theorem SitPost.pre {D0 D1 : DD} {r : Cc × List (Nat × Nat) × Nat} {y : Int32} {D' : DD} (h : SitPost P ρ D1 r y D') (hP : D1 P = D0 P) (h4 : D1 (P + 4) = D0 (P + 4)) (hf : FrP P D0 D1) : SitPost P ρ D0 r y D' := by
  obtain ⟨a1, a2, a3, a4, a5, a6, a7, a8, a9⟩ := h
  rw [hP] at a3 a4 a5 a6 a7
  exact ⟨a1, a2, a3, a4, a5, a6, a7, a8.trans h4, hf.tr a9⟩
theorem s_sitW (hP : isP P) (hR : RuOk ρ) : ∀ (f : Nat) (cc : Cc) (q w : Nat) (x1 : Int32) (D1 : DD), f + w = 12 → Ok ρ cc → q < ρ.1 → cc q = -1 → (∃ v, w ≤ v ∧ v < 12 ∧ sizeN ρ cc v = 0) → (∀ v, v < w → sizeN ρ cc v ≠ 0) → RulesC ρ D1 → PewsC P ρ cc D1 →
    Wp (Ev X (d + 2) 40 (7, [.ref P, .int x1, .int (nI q), .int (nI w), .null, .null], [], hS u D1 J)) (RI u J (SitPost P ρ D1 (sitN ρ f cc q w))) := by
  have hPl := isP_lo hP
  obtain ⟨hn, hs1, hs2⟩ := hR.1
  intro f
  induction f with
  | zero => intro cc q w x1 D1 hf _ _ _ ⟨v, h1, h2, _⟩; omega
  | succ f ih =>
    intro cc q w x1 D1 hf hO hq h1 ⟨v, v1, v2, v3⟩ hb hC hW
    have hw : w < 12 := by omega
    refine wp_eq (e40_7 hP _ _ _) ?_
    refine wp_f (nI_ge (b := 12) hw (by decide)) ?_
    rw [la, nI_clamp (by omega)]
    refine oG (by omega) (by decide) ?_
    rw [hW.1]
    refine wp_cI (s_mind (d := d) hP hR hC hW hO hw) (fun y D2 hy => ?_)
    obtain ⟨hy, hf2⟩ := hy
    have hC2 := hC.f5 hf2
    have hW2 := hW.f5 hP hf2
    have p2 : D2 P = D1 P := hf2.1 P (by omega)
    have p24 : D2 (P + 4) = D1 (P + 4) := hf2.1 _ (by omega)
    refine wp_eq (e40_19 hP _ _ _ _) ?_
    rw [sitN]
    cases hv : vicN ρ cc w (cc (12 + q)) (sizeN ρ cc w) 0 with
    | none =>
      rw [hv] at hy
      have hy : y = -1 := hy
      subst hy
      dsimp only
      refine wp_t rfl ?_
      refine oG hw (by decide) ?_
      rw [nI_clamp (by omega), hC2.2.1, hW2.2.1 w hw]
      have hz := hO.2.2.2.1 w hw
      refine wp_if (fun h => ?_) (fun h => ?_)
      · have h : ρ.2.1 ≤ sizeN ρ cc w := (nI_leI (by omega) (by omega)).mp h
        rw [if_neg (by omega)]
        refine wp_weak (ls := [.ref P, .int x1, .int (nI q), .int (nI w + 1), .null, .null]) (by simp [lle, lng]) ?_
        rw [nI_1]
        have hne : v ≠ w := by
          intro z
          rw [z] at v3
          omega
        refine wp_mono (ih cc q (w + 1) x1 D2 (by omega) hO hq h1 ⟨v, by omega, v2, v3⟩ (fun t ht => ?_) hC2 hW2) (fun r hr => ?_)
        · by_cases ht2 : t = w
          · rw [ht2]; omega
          · exact hb t (by omega)
        · obtain ⟨a, D', e1, e2⟩ := hr
          exact ⟨a, D', e1, e2.pre p2 p24 hf2.p⟩
      · have h : sizeN ρ cc w < ρ.2.1 := by
          apply Nat.not_le.mp
          intro z
          exact h (nI_le z (by omega))
        rw [if_pos h]
        refine oG hw (by decide) ?_
        rw [lm, nI_add]
        refine wp_vE (s_place hP (by omega) (by omega)) ?_
        refine wp_eq (e40_58 hP _ _ _ _) ?_
        rw [nI_clamp (by omega)]
        refine oG hw (by decide) (oG hw (by decide) ?_)
        have r3 : ud (ud D2 (P + 1) q (nI (12 * w + sizeN ρ cc w))) (P + 2) (12 * w + sizeN ρ cc w) (nI q) (P + 3) w = nI (sizeN ρ cc w) := by
          rw [ud_q (by omega), ud_q (by omega)]; exact hW2.2.1 w hw
        rw [r3, nI_1]
        refine wp_rI ⟨rfl, ⟨?_, ?_⟩, ?_, ?_, ?_, ?_, ?_, ?_, ?_⟩
        · rw [ud_q (by omega), ud_q (by omega), ud_row, hW2.1]
        · have a1 : ud (ud (ud D2 (P + 1) q (nI (12 * w + sizeN ρ cc w))) (P + 2) (12 * w + sizeN ρ cc w) (nI q)) (P + 3) w (nI (sizeN ρ cc w + 1)) (P + 2) = upd (D2 (P + 2)) (12 * w + sizeN ρ cc w) (nI q) := by
            rw [ud_q (by omega), ud_row, ud_q (by omega)]
          have a2 : ud (ud (ud D2 (P + 1) q (nI (12 * w + sizeN ρ cc w))) (P + 2) (12 * w + sizeN ρ cc w) (nI q)) (P + 3) w (nI (sizeN ρ cc w + 1)) (P + 3) = upd (D2 (P + 3)) w (nI (sizeN ρ cc w + 1)) := by
            rw [ud_row, ud_q (by omega), ud_q (by omega)]
          rw [a1, a2]
          exact rep_end hn hO hW2.2 hq h1 hw (by omega) hb
        · rw [ud_q (by omega), ud_q (by omega), ud_q (by omega), p2]; rfl
        · rw [ud_q (by omega), ud_q (by omega), ud_q (by omega), p2]
          show _ = _ + nI 0
          rw [nI_0, Int32.add_zero]
        · rw [ud_q (by omega), ud_q (by omega), ud_q (by omega), p2]
        · rw [ud_q (by omega), ud_q (by omega), ud_q (by omega), p2]
        · rw [ud_q (by omega), ud_q (by omega), ud_q (by omega), p2]
        · rw [ud_q (by omega), ud_q (by omega), ud_q (by omega), p24]
        · exact hf2.p.tr ((FrP.ud hP (by omega) (by omega)).tr ((FrP.ud hP (by omega) (by omega)).tr (FrP.ud hP (by omega) (by omega))))
    | some x =>
      rw [hv] at hy
      have hy : y = nI (12 * w + x) := hy
      subst hy
      dsimp only
      have hx : x < sizeN ρ cc w := by have := vic_lt hv; omega
      have hl := hO.lt hw hx
      obtain ⟨o1, o2⟩ := who_ex hO hw hx
      have hrow := hW2.2.2 w x hw hx
      refine wp_f (n144 _ hl).2.2.2.1 ?_
      refine oG hl (by decide) ?_
      rw [nI_clamp (by omega), hrow]
      generalize whoN ρ cc (12 * w + x) = o at o1 o2 ⊢
      have hpo : q ≠ o := by
        intro z
        rw [← z, h1] at o2
        exact (n144 _ hl).2.2.2.1 o2.symm
      refine wp_vE (s_place hP (by omega) hl) ?_
      refine wp_eq (e40_32 hP _ _ _ _ _) ?_
      refine wp_cV (s_put hP (by omega) (by omega)) (fun D4 h4 => ?_)
      obtain ⟨b1, b2, b3, b4, b5, b6, b7⟩ := h4
      have c1 : ud (ud D2 (P + 1) q (nI (12 * w + x))) (P + 2) (12 * w + x) (nI q) P = D1 P := by rw [ud_q (by omega), ud_q (by omega), p2]
      have c2 : ud (ud D2 (P + 1) q (nI (12 * w + x))) (P + 2) (12 * w + x) (nI q) (P + 1) = upd cc q (cc o) := by rw [ud_q (by omega), ud_row, hW2.1, o2]
      rw [c1] at b2 b3 b4 b5 b6
      rw [c2] at b1
      refine wp_eq (e40_36 hP _ _ _ _ _) ?_
      refine wp_weak (ls := [.ref P, .int x1, .int (nI o), .int (nI w + 1), .null, .null]) (by simp [lle, lng]) ?_
      rw [nI_1]
      have e1 : D4 (P + 1) = outN cc q o := by
        rw [b1]
        have a1 : upd cc q (cc o) (24 + o) = cc (24 + o) := by
          show (if 24 + o = q then _ else _) = _
          rw [if_neg (by omega)]
        have a2 : upd cc q (cc o) (36 + o) = cc (36 + o) := by
          show (if 36 + o = q then _ else _) = _
          rw [if_neg (by omega)]
        rw [a1, a2]; rfl
      have hO' := ok_out hn hO hq o1 hpo h1 hl o2
      have hz : ∀ v, v < 12 → sizeN ρ (outN cc q o) v = sizeN ρ cc v := fun v hv => size_out hn hq o1 hpo h1 hl o2 v (by omega)
      have hfr : FrP P D1 D4 := hf2.p.tr ((FrP.ud hP (by omega) (by omega)).tr ((FrP.ud hP (by omega) (by omega)).tr ⟨fun a ha _ => b7 a (by omega) (by omega), fun i _ _ => by rw [b7 5 (by omega) (by omega)]⟩))
      have hW4 : PewsC P ρ (outN cc q o) D4 := by
        refine ⟨e1, ?_⟩
        rw [b7 (P + 2) (by omega) (by omega), b7 (P + 3) (by omega) (by omega), ud_row, ud_q (show P + 2 ≠ P + 1 by omega), ud_q (show P + 3 ≠ P + 2 by omega), ud_q (show P + 3 ≠ P + 1 by omega)]
        exact rep_out hn hO hW2.2 hq o1 hpo h1 hl o2
      have hne : v ≠ w := by
        intro z
        rw [z] at v3
        omega
      refine wp_mono (ih (outN cc q o) o (w + 1) x1 D4 (by omega) hO' o1 (by rw [outN_spot (by omega) (by omega), if_pos rfl]) ⟨v, by omega, v2, by rw [hz v v2]; exact v3⟩ (fun t ht => ?_) (hC.p hP hfr) hW4) (fun r hr => ?_)
      · rw [hz t (by omega)]
        by_cases ht2 : t = w
        · rw [ht2]; omega
        · exact hb t (by omega)
      · obtain ⟨a, D', e1, a1, a2, a3, a4, a5, a6, a7, a8, a9⟩ := hr
        refine ⟨a, D', e1, a1, a2, ?_, ?_, a5.trans b4, a6.trans b5, a7.trans b6, ?_, hfr.tr a9⟩
        · rw [a3, b2]; rfl
        · rw [a4, b5, b6, b3, Int32.add_assoc, nI_add]; rfl
        · rw [a8, b7 (P + 4) (by omega) (by omega), ud_q (by omega), ud_q (by omega), p24]
theorem s_sit {p : Nat} (hP : isP P) (hR : RuOk ρ) (hC : RulesC ρ D) (hW : PewsC P ρ c D) (hO : Ok ρ c) (hp : p < ρ.1) (h1 : c p = -1) : Wp (EvM X (d + 2) 40 [.ref P, .int (nI p)] (hS u D J)) (RI u J (SitPost P ρ (ud D P 5 0) (sitN ρ 12 c p 0))) := by
  have hPl := isP_lo hP
  obtain ⟨w, w1, w2⟩ := empty_pew hR.1.1 hp h1
  refine wp_eq (e40_0 hP _) ?_
  refine s_sitW hP hR 12 c p 0 (nI p) (ud D P 5 0) rfl hO hp h1 ⟨w, Nat.zero_le w, w1, w2⟩ (fun v hv => absurd hv (Nat.not_lt_zero v)) (hC.p hP (FrP.ud hP (by omega) (by omega))) ?_
  exact hW.mv (ud_q (by omega)) (ud_q (by omega)) (ud_q (by omega))
end SITD
