/-! ===== the reference's parser: its levels ===== -/
def Kn (X : XS) (d u : Nat) (t : Tx) (n top0 : Nat) (fv lv : Int32) (D0 : DD) (J0 : JJ) (L k : Nat) (E S : List Int32) (dp : Nat) (tf : Nat → Int32) (k' : Nat) (f : RuF) (Q : Rs → Prop) : Prop := ∀ (G Z : List Int32) (tf' : Nat → Int32) (D' : DD) (J' : JJ), k < k' → ES t n top0 fv lv D0 J0 k' (E ++ G) (Z ++ S) dp tf' D' J' → Bd t n top0 k' (E ++ G) (Z ++ S) → Cde (G ++ Z) f → (∀ z ∈ Z, z < 14 ∧ ¬ strN z < sL L) → Nop t n L k' dp tf' → (∀ i, i < dp → tf' i = tf i) → (3 ≤ L → tf' dp = tf dp) → Wp (HD X d u fv lv D' J') Q
def Rk (X : XS) (d u : Nat) (t : Tx) (n top0 : Nat) (fv lv : Int32) (D0 : DD) (J0 : JJ) (L k : Nat) (E S : List Int32) (dp : Nat) (tf : Nat → Int32) (r : Pr) (Q : Rs → Prop) : Prop := match r with
  | .inl (e, k') => FCn X d u t n top0 fv lv D0 J0 e k' Q
  | .inr (k', f) => Kn X d u t n top0 fv lv D0 J0 L k E S dp tf k' f Q
def SpM (X : XS) (d u : Nat) (t : Tx) (n top0 : Nat) (fv lv : Int32) (D0 : DD) (J0 : JJ) (dp L : Nat) (p : Nat → Pr) : Prop := ∀ (k : Nat) (E S : List Int32) (tf : Nat → Int32) (D : DD) (J : JJ) (Q : Rs → Prop), ES t n top0 fv lv D0 J0 k E S dp tf D J → Bd t n top0 k E S → wT (sL L) S → (L ≤ 2 → tf dp = 0) → Rk X d u t n top0 fv lv D0 J0 L k E S dp tf (p k) Q → En X d u fv lv L D J Q
theorem Cde.nots {G : List Int32} : ∀ (j : Nat) {f : RuF}, Cde G f → Cde (G ++ List.replicate j 3) (notF j f)
  | 0, f, h => by
    show Cde (G ++ []) f
    rw [List.append_nil]; exact h
  | j + 1, f, h => fun tl rest st => by
    have e : G ++ List.replicate (j + 1) 3 = (G ++ [3]) ++ List.replicate j 3 := by
      rw [List.append_assoc]; rfl
    rw [e]
    exact Cde.nots (G := G ++ [3]) j h.no tl rest st
theorem sL_le {L : Nat} (hL : L = 0 ∨ L = 1 ∨ L = 3 ∨ L = 4) : sL L < sL (L + 1) ∧ sL L ≤ sL (L + 1) := by
  rcases hL with rfl | rfl | rfl | rfl <;> decide
theorem wT_up {L : Nat} {S : List Int32} (hL : L = 0 ∨ L = 1 ∨ L = 3 ∨ L = 4) (h : wT (sL L) S) : wT (sL (L + 1)) S := fun x l e => (h x l e).imp id (fun z => Int32.lt_of_lt_of_le z (sL_le hL).2)
theorem tfL_f {L dp i : Nat} {tf : Nat → Int32} (hi : i ≠ dp) : tfL L dp tf i = tf i := by
  unfold tfL
  split
  · exact upd_ne hi
  · exact upd_ne hi
  · rfl
theorem tfL_0 {L dp : Nat} {tf : Nat → Int32} (hL : L = 0 ∨ L = 1 ∨ L = 3 ∨ L = 4) (h : L + 1 ≤ 2) : tfL L dp tf dp = 0 := by
  rcases hL with rfl | rfl | rfl | rfl
  · exact upd_at _ _ _
  · exact upd_at _ _ _
  · omega
  · omega
theorem tfL_3 {L dp : Nat} {tf : Nat → Int32} (hL : L = 0 ∨ L = 1 ∨ L = 3 ∨ L = 4) (h : 3 ≤ L) : tfL L dp tf dp = tf dp := by
  rcases hL with rfl | rfl | rfl | rfl
  · omega
  · omega
  · rfl
  · rfl
section LEVEL
variable {X : XS} {d u : Nat} {D D' : DD} {J J' : JJ} {t : Tx} {n top0 : Nat} {fv lv : Int32} {D0 : DD} {J0 : JJ} {k dp : Nat} {E S Z : List Int32} {tf : Nat → Int32} {Q : Rs → Prop}
theorem en_eq {L : Nat} (hL : L = 0 ∨ L = 1 ∨ L = 3 ∨ L = 4) : En X d u fv lv L D J Q = En X d u fv lv (L + 1) D J Q := by
  rcases hL with rfl | rfl | rfl | rfl <;> rfl
theorem op_st {L : Nat} (hL : L = 0 ∨ L = 1 ∨ L = 3 ∨ L = 4) (ho : opAt (kK t n) (vV t n) L k ≠ -1) : isOp (opAt (kK t n) (vV t n) L k) ∧ strN (cO (opAt (kK t n) (vV t n) L k)) = sL L := by
  rcases hL with rfl | rfl | rfl | rfl
  · by_cases q : wdAt (kK t n) (vV t n) 5 k = true
    · have eo : opAt (kK t n) (vV t n) 0 k = 0 := by unfold opAt; rw [if_pos rfl, if_pos q]
      rw [eo]; exact ⟨by unfold isOp; decide, by decide⟩
    · exact absurd (by unfold opAt; rw [if_pos rfl, if_neg q]) ho
  · by_cases q : wdAt (kK t n) (vV t n) 6 k = true
    · have eo : opAt (kK t n) (vV t n) 1 k = 1 := by unfold opAt; rw [if_neg (by decide), if_pos rfl, if_pos q]
      rw [eo]; exact ⟨by unfold isOp; decide, by decide⟩
    · exact absurd (by unfold opAt; rw [if_neg (by decide), if_pos rfl, if_neg q]) ho
  · by_cases q : sgAt (kK t n) (vV t n) 43 k = true
    · have eo : opAt (kK t n) (vV t n) 3 k = 5 := by unfold opAt; rw [if_neg (by decide), if_neg (by decide), if_pos rfl, if_pos q]
      rw [eo]; exact ⟨by unfold isOp; decide, by decide⟩
    · by_cases q1 : sgAt (kK t n) (vV t n) 45 k = true
      · have eo : opAt (kK t n) (vV t n) 3 k = 6 := by unfold opAt; rw [if_neg (by decide), if_neg (by decide), if_pos rfl, if_neg q, if_pos q1]
        rw [eo]; exact ⟨by unfold isOp; decide, by decide⟩
      · exact absurd (by unfold opAt; rw [if_neg (by decide), if_neg (by decide), if_pos rfl, if_neg q, if_neg q1]) ho
  · by_cases q : sgAt (kK t n) (vV t n) 42 k = true
    · have eo : opAt (kK t n) (vV t n) 4 k = 7 := by unfold opAt; rw [if_neg (by decide), if_neg (by decide), if_neg (by decide), if_pos q]
      rw [eo]; exact ⟨by unfold isOp; decide, by decide⟩
    · by_cases q1 : sgAt (kK t n) (vV t n) 47 k = true
      · have eo : opAt (kK t n) (vV t n) 4 k = 8 := by unfold opAt; rw [if_neg (by decide), if_neg (by decide), if_neg (by decide), if_neg q, if_pos q1]
        rw [eo]; exact ⟨by unfold isOp; decide, by decide⟩
      · exact absurd (by unfold opAt; rw [if_neg (by decide), if_neg (by decide), if_neg (by decide), if_neg q, if_neg q1]) ho
theorem op_end {L : Nat} (hL : L = 0 ∨ L = 1 ∨ L = 3 ∨ L = 4) (h : kK t n k = 0) : opAt (kK t n) (vV t n) L k = -1 := by
  have hw : ∀ w, wdAt (kK t n) (vV t n) w k = false := fun w => by
    unfold wdAt
    rw [h, decide_eq_false (by decide), Bool.false_and]
  have hs : ∀ w, sgAt (kK t n) (vV t n) w k = false := fun w => by
    unfold sgAt
    rw [h, decide_eq_false (by decide), Bool.false_and]
  exact (op_n1 hL).mpr ⟨fun _ => hw 5, fun _ => hw 6, fun _ => ⟨hs 43, hs 45⟩, fun _ => ⟨hs 42, hs 47⟩⟩
theorem Nop.up {L : Nat} (hL : L = 0 ∨ L = 1 ∨ L = 3 ∨ L = 4) (h : Nop t n (L + 1) k dp tf) (ho : opAt (kK t n) (vV t n) L k = -1) : Nop t n L k dp tf := by
  obtain ⟨a4, a3, ac, a1, a0⟩ := h
  rcases hL with rfl | rfl | rfl | rfl
  · exact ⟨fun _ => a4 (by decide), fun _ => a3 (by decide), fun _ => ac (by decide), fun _ => a1 (by decide), fun _ => ho⟩
  · exact ⟨fun _ => a4 (by decide), fun _ => a3 (by decide), fun _ => ac (by decide), fun _ => ho, fun z => absurd z (by decide)⟩
  · exact ⟨fun _ => a4 (by decide), fun _ => ho, fun z => absurd z (by decide), fun z => absurd z (by decide), fun z => absurd z (by decide)⟩
  · exact ⟨fun _ => ho, fun z => absurd z (by decide), fun z => absurd z (by decide), fun z => absurd z (by decide), fun z => absurd z (by decide)⟩
/-- the loop of a level -/
theorem m_loop {L k0 : Nat} {tf0 : Nat → Int32} {sub : Nat → Pr} (hL : L = 0 ∨ L = 1 ∨ L = 3 ∨ L = 4) (hn : n ≤ 700) (hby : byB t) (hd : dp ≤ 6) (hsub : SpM X d u t n top0 fv lv D0 J0 dp (L + 1) sub) (hw : wT (sL L) S) : ∀ (r k1 : Nat) (f : RuF) (G Z : List Int32) (tf' : Nat → Int32) (D' : DD) (J' : JJ), 701 ≤ r + k1 → k0 < k1 → ES t n top0 fv lv D0 J0 k1 (E ++ G) (Z ++ S) dp tf' D' J' → Bd t n top0 k1 (E ++ G) (Z ++ S) → Cde (G ++ Z) f → (∀ z ∈ Z, z < 14 ∧ ¬ strN z < sL L) → Nop t n (L + 1) k1 dp tf' → (∀ i, i < dp → tf' i = tf0 i) → (3 ≤ L → tf' dp = tf0 dp) → Rk X d u t n top0 fv lv D0 J0 L k0 E S dp tf0 (pLoop (kK t n) (vV t n) sub L r k1 f) Q → Wp (HD X d u fv lv D' J') Q
  | 0, k1, f, G, Z, tf', D', J', hr, hk, h, hb, hc, hz, hno, i1, i2, hR => by
    have hR : Kn X d u t n top0 fv lv D0 J0 L k0 E S dp tf0 k1 f Q := hR
    exact hR G Z tf' D' J' hk h hb hc hz (hno.up hL (op_end hL (kK_far hn (by omega)))) i1 i2
  | r + 1, k1, f, G, Z, tf', D', J', hr, hk, h, hb, hc, hz, hno, i1, i2, hR => by
    by_cases ho : opAt (kK t n) (vV t n) L k1 = -1
    · rw [pLoop, if_pos ho] at hR
      have hR : Kn X d u t n top0 fv lv D0 J0 L k0 E S dp tf0 k1 f Q := hR
      exact hR G Z tf' D' J' hk h hb hc hz (hno.up hL ho) i1 i2
    · rw [pLoop, if_neg ho] at hR
      obtain ⟨o1, o2⟩ := op_st hL ho
      have o3 := (cO_ne o1).2.2.2.2
      refine hdOp hL hn hby h hb hd hz hw ho (fun D2 J2 h2 hb2 => ?_)
      refine hsub (k1 + 1) (E ++ G ++ Z) _ (tfL L dp tf') D2 J2 Q h2 hb2 (fun x l e => ?_) (fun z => tfL_0 hL z) ?_
      · cases e
        exact Or.inr (by rw [o2]; exact (sL_le hL).1)
      · cases hs : sub (k1 + 1) with
        | inl e =>
          obtain ⟨e, k'⟩ := e
          rw [hs] at hR; exact hR
        | inr kf =>
          obtain ⟨k2, g⟩ := kf
          rw [hs] at hR
          intro G2 Z2 tf3 D3 J3 a1 a2 a3 a4 a5 a6 a7 a8
          have e1 : E ++ G ++ Z ++ G2 = E ++ (G ++ Z ++ G2) := by simp only [List.append_assoc]
          have e2 : ∀ c : Int32, Z2 ++ c :: S = (Z2 ++ [c]) ++ S := fun c => by rw [List.append_assoc]; rfl
          rw [e1, e2] at a2 a3
          refine m_loop hL hn hby hd hsub hw r k2 _ (G ++ Z ++ G2) _ tf3 D3 J3 (by omega) (by omega) a2 a3 ?_ ?_ a6 (fun i hi => (a7 i hi).trans ((tfL_f (by omega)).trans (i1 i hi))) (fun z => (a8 (by omega)).trans ((tfL_3 hL z).trans (i2 z))) hR
          · have := hc.op a4 o1
            have e3 : G ++ Z ++ G2 ++ (Z2 ++ [cO (opAt (kK t n) (vV t n) L k1)]) = G ++ Z ++ (G2 ++ Z2) ++ [cO (opAt (kK t n) (vV t n) L k1)] := by simp only [List.append_assoc]
            rw [e3]; exact this
          · intro z hz2
            rcases List.mem_append.mp hz2 with q | q
            · exact ⟨(a5 z q).1, fun c => (a5 z q).2 (Int32.lt_of_lt_of_le c (sL_le hL).2)⟩
            · rw [List.mem_singleton.mp q]
              exact ⟨o3, by rw [o2]; exact Int32.lt_irrefl⟩
/-- a level of two sides -/
theorem m_bin {L : Nat} {sub : Nat → Pr} (hL : L = 0 ∨ L = 1 ∨ L = 3 ∨ L = 4) (hn : n ≤ 700) (hby : byB t) (hd : dp ≤ 6) (hsub : SpM X d u t n top0 fv lv D0 J0 dp (L + 1) sub) : SpM X d u t n top0 fv lv D0 J0 dp L (pBin (kK t n) (vV t n) sub L) := by
  intro k E S tf D J Q h hb hw ht hR
  rw [en_eq hL]
  refine hsub k E S tf D J Q h hb (wT_up hL hw) (fun z => ht (by omega)) ?_
  unfold pBin at hR
  cases hs : sub k with
  | inl e =>
    obtain ⟨e, k'⟩ := e
    rw [hs] at hR; exact hR
  | inr kf =>
    obtain ⟨k1, f⟩ := kf
    rw [hs] at hR
    intro G Z tf' D' J' a1 a2 a3 a4 a5 a6 a7 a8
    exact m_loop hL hn hby hd hsub hw 700 k1 f G Z tf' D' J' (by omega) a1 a2 a3 a4 (fun z hz => ⟨(a5 z hz).1, fun c => (a5 z hz).2 (Int32.lt_of_lt_of_le c (sL_le hL).2)⟩) a6 a7 (fun z => a8 (by omega)) hR
theorem wT_rep {s : Int32} (hs : 3 < s) (hw : wT 3 S) : ∀ j, wT s (List.replicate j 3 ++ S)
  | 0 => fun x l e => (hw x l e).imp id (fun z => Int32.lt_trans z hs)
  | j + 1 => fun x l e => by
    have e : (3 : Int32) :: (List.replicate j 3 ++ S) = x :: l := e
    cases e
    exact Or.inr hs
/-- a sum, or two that are held against each other -/
theorem m_tail {sub : Nat → Pr} {k0 j : Nat} (hn : n ≤ 700) (hby : byB t) (hd : dp ≤ 6) (hsub : SpM X d u t n top0 fv lv D0 J0 dp 3 sub) (hk0 : k0 ≤ k) (h : ES t n top0 fv lv D0 J0 k E (List.replicate j 3 ++ S) dp tf D J) (hb : Bd t n top0 k E (List.replicate j 3 ++ S)) (hw : wT 3 S) (ht : tf dp = 0) (hR : Rk X d u t n top0 fv lv D0 J0 2 k0 E S dp tf (pTail (kK t n) (vV t n) sub k j) Q) : PT X d u fv lv D J Q := by
  refine hsub k E (List.replicate j 3 ++ S) tf D J Q h hb (wT_rep (by decide) hw j) (fun z => absurd z (by decide)) ?_
  unfold pTail at hR
  cases hs : sub k with
  | inl e =>
    obtain ⟨e, k'⟩ := e
    rw [hs] at hR; exact hR
  | inr kf =>
    obtain ⟨k1, f⟩ := kf
    rw [hs] at hR
    dsimp only at hR
    intro G Z tf1 D1 J1 a1 a2 a3 a4 a5 a6 a7 a8
    have t1 : tf1 dp = 0 := (a8 (by decide)).trans ht
    have rp : ∀ z ∈ List.replicate j (3 : Int32), z < 14 ∧ ¬ strN z < 3 := fun z hz => by
      rw [(List.mem_replicate.mp hz).2]
      exact ⟨by decide, by decide⟩
    have go : ∀ (o c : Int32), cO o = c → isOp o → c < 14 → ¬ strN c < 3 → strN c < 5 → ((sgAt (kK t n) (vV t n) 60 k1 = true ∧ c = 6) ∨ (sgAt (kK t n) (vV t n) 60 k1 = false ∧ sgAt (kK t n) (vV t n) 61 k1 = true ∧ c = 7)) → (∀ e k', sub (k1 + 1) = .inl (e, k') → FCn X d u t n top0 fv lv D0 J0 e k' Q) → (∀ k2 g, sub (k1 + 1) = .inr (k2, g) → Kn X d u t n top0 fv lv D0 J0 2 k0 E S dp tf k2 (notF j (fun v => opI o (f v) (g v))) Q) → Wp (HD X d u fv lv D1 J1) Q := by
      intro o c eo ho hc1 hc2 hc3 hcc hF hK
      obtain ⟨s, hsg⟩ : ∃ s, sgAt (kK t n) (vV t n) s k1 = true := by
        rcases hcc with ⟨q, -⟩ | ⟨-, q, -⟩
        · exact ⟨_, q⟩
        · exact ⟨_, q⟩
      have hk := sg_lt2 hsg
      refine hdCm hcc hn hby a2 a3 hd (sg_w 5 hsg) (sg_w 6 hsg) hk t1 (fun z hz => ⟨(a5 z hz).1, fun q => (a5 z hz).2 (Int32.lt_trans q (by decide))⟩) (wT_rep (by decide) hw j) (fun D2 J2 h2 => op0 h2.2.1 ?_)
      refine hsub (k1 + 1) (E ++ G ++ Z) (c :: (List.replicate j 3 ++ S)) (upd tf1 dp 1) D2 J2 Q h2 (a3.op hk) (fun x l e => ?_) (fun z => absurd z (by decide)) ?_
      · cases e
        exact Or.inr hc3
      · cases hs2 : sub (k1 + 1) with
        | inl e =>
          obtain ⟨e, k'⟩ := e
          exact hF e k' hs2
        | inr kg =>
          obtain ⟨k2, g⟩ := kg
          intro G2 Z2 tf3 D3 J3 b1 b2 b3 b4 b5 b6 b7 b8
          have e1 : E ++ G ++ Z ++ G2 = E ++ (G ++ Z ++ G2) := by simp only [List.append_assoc]
          have e2 : Z2 ++ c :: (List.replicate j 3 ++ S) = (Z2 ++ [c] ++ List.replicate j 3) ++ S := by simp only [List.append_assoc, List.cons_append, List.nil_append]
          rw [e1, e2] at b2 b3
          refine hK k2 g hs2 (G ++ Z ++ G2) (Z2 ++ [c] ++ List.replicate j 3) tf3 D3 J3 (by omega) b2 b3 ?_ (fun z hz => ?_) ⟨fun _ => b6.1 (by decide), fun _ => b6.2.1 (by decide), fun _ _ => ?_, fun z => absurd z (by decide), fun z => absurd z (by decide)⟩ (fun i hi => (b7 i hi).trans ((upd_ne (by omega)).trans (a7 i hi))) (fun z => absurd z (by decide))
          · have := (a4.op b4 ho).nots j
            have e3 : G ++ Z ++ G2 ++ (Z2 ++ [c] ++ List.replicate j 3) = G ++ Z ++ (G2 ++ Z2) ++ [cO o] ++ List.replicate j 3 := by rw [eo]; simp only [List.append_assoc]
            rw [e3]; exact this
          · rcases List.mem_append.mp hz with q | q
            · rcases List.mem_append.mp q with q | q
              · exact ⟨(b5 z q).1, fun y => (b5 z q).2 (Int32.lt_trans y (by decide))⟩
              · rw [List.mem_singleton.mp q]; exact ⟨hc1, hc2⟩
            · exact rp z q
          · rw [b8 (by decide), upd_at]; decide
    by_cases q : sgAt (kK t n) (vV t n) 60 k1 = true
    · rw [if_pos q] at hR
      exact go 3 6 rfl (by unfold isOp; decide) (by decide) (by decide) (by decide) (Or.inl ⟨q, rfl⟩) (fun e k' z => by rw [z] at hR; exact hR) (fun k2 g z => by rw [z] at hR; exact hR)
    · rw [if_neg q] at hR
      by_cases q1 : sgAt (kK t n) (vV t n) 61 k1 = true
      · rw [if_pos q1] at hR
        exact go 4 7 rfl (by unfold isOp; decide) (by decide) (by decide) (by decide) (Or.inr ⟨Bool.eq_false_iff.mpr q, q1, rfl⟩) (fun e k' z => by rw [z] at hR; exact hR) (fun k2 g z => by rw [z] at hR; exact hR)
      · rw [if_neg q1] at hR
        have hR : Kn X d u t n top0 fv lv D0 J0 2 k0 E S dp tf k1 (notF j f) Q := hR
        have e2 : Z ++ (List.replicate j 3 ++ S) = (Z ++ List.replicate j 3) ++ S := by rw [List.append_assoc]
        rw [e2] at a2 a3
        refine hR G (Z ++ List.replicate j 3) tf1 D1 J1 (by omega) a2 a3 (by rw [← List.append_assoc]; exact a4.nots j) (fun z hz => ?_) ⟨fun _ => a6.1 (by decide), fun _ => a6.2.1 (by decide), fun _ z => ?_, fun z => absurd z (by decide), fun z => absurd z (by decide)⟩ a7 (fun z => absurd z (by decide))
        · rcases List.mem_append.mp hz with y | y
          · exact ⟨(a5 z y).1, fun w => (a5 z y).2 (Int32.lt_trans w (by decide))⟩
          · exact rp z y
        · rcases z with z | z
          · exact absurd z q
          · exact absurd z q1
theorem m_nots {sub : Nat → Pr} {k0 : Nat} {x1 : Int32} (hn : n ≤ 700) (hby : byB t) (hd : dp ≤ 6) (hsub : SpM X d u t n top0 fv lv D0 J0 dp 3 sub) (hw : wT 3 S) (ht : tf dp = 0) : ∀ (r j k : Nat) (D : DD) (J : JJ), r + j = 6 → k0 ≤ k → ES t n top0 fv lv D0 J0 k E (List.replicate j 3 ++ S) dp tf D J → Bd t n top0 k E (List.replicate j 3 ++ S) → Rk X d u t n top0 fv lv D0 J0 2 k0 E S dp tf (pNots (kK t n) (vV t n) sub r k j) Q → Wp (Ev X (d + 4) 199 (11, [.ref 70, .int x1, .int 1, .int 1, .int (nI j)], [], hS u D J)) (RW u (fun D' J' => Wp (HD X d u fv lv D' J') Q))
  | 0, j, k, D, J, hj, hk, h, hb, hR => by
    refine wp_eq (e199_11 _ _ _ _) (wp_iE (m_good1 h.2.1) (wp_eq (e199_13 _ _ _ _ _) (wp_f (by decide) (wp_f (by decide) ?_))))
    refine wp_iE (m_known (d := d + 1) hn hby h.1) (wp_eq (e199_18 _ _ _ _ _) ?_)
    rw [pNots] at hR
    by_cases q : wdAt (kK t n) (vV t n) 7 k = true
    · rw [if_pos q] at hR
      have hR : FCn X d u t n top0 fv lv D0 J0 2 k Q := hR
      refine wp_f (fun z => z ((kn_wd 7 14 (Or.inr (Or.inr ⟨rfl, rfl⟩))).mpr q)) ?_
      refine wp_f (fun z => z (show nI j = 6 by rw [show j = 6 by omega]; rfl)) ?_
      have hF := h.wr hb hn (show (2 : Int32) ≠ 0 by decide)
      refine wp_vE (m_wrong h.1 h.2.1 2) (wp_eq (e199_26 _ _ _ _) ?_)
      refine wp_iE (m_good0 (by rw [hF.1]; decide)) (wp_eq (e199_29 _ _ _ _ _) (wp_f (fun z => z rfl) ?_))
      exact opF11 hF hR
    · rw [if_neg q] at hR
      refine wp_t (fun z => q ((kn_wd 7 14 (Or.inr (Or.inr ⟨rfl, rfl⟩))).mp z)) ?_
      exact m_tail hn hby hd hsub hk h hb hw ht hR _ _ _ _
  | r + 1, j, k, D, J, hj, hk, h, hb, hR => by
    refine wp_eq (e199_11 _ _ _ _) (wp_iE (m_good1 h.2.1) (wp_eq (e199_13 _ _ _ _ _) (wp_f (by decide) (wp_f (by decide) ?_))))
    refine wp_iE (m_known (d := d + 1) hn hby h.1) (wp_eq (e199_18 _ _ _ _ _) ?_)
    rw [pNots] at hR
    by_cases q : wdAt (kK t n) (vV t n) 7 k = true
    · rw [if_pos q] at hR
      have b := hb.bn hn
      refine wp_f (fun z => z ((kn_wd 7 14 (Or.inr (Or.inr ⟨rfl, rfl⟩))).mpr q)) ?_
      refine wp_t (fun z => absurd (nI_inj (b := 6) (by omega) (by decide) z) (by omega)) ?_
      refine wp_eq (e199_26 _ _ _ _) (wp_iE (m_good1 h.2.1) (wp_eq (e199_29 _ _ _ _ _) (wp_t (by decide) ?_)))
      refine es_wait h (by omega) (fun D1 h1 => ?_)
      refine wp_eq (e199_34 _ _ _ _) (es_goes (d := d + 2) hn h1 (wd_lt2 q) (fun D2 J2 h2 => ?_))
      refine wp_eq (e199_36 _ _ _ _) ?_
      rw [nI_1]
      exact m_nots hn hby hd hsub hw ht r (j + 1) (k + 1) D2 J2 (by omega) (by omega) h2 (hb.wt (wd_lt2 q)) hR
    · rw [if_neg q] at hR
      refine wp_t (fun z => q ((kn_wd 7 14 (Or.inr (Or.inr ⟨rfl, rfl⟩))).mp z)) ?_
      exact m_tail hn hby hd hsub hk h hb hw ht hR _ _ _ _
theorem m_not {sub : Nat → Pr} (hn : n ≤ 700) (hby : byB t) (hd : dp ≤ 6) (hsub : SpM X d u t n top0 fv lv D0 J0 dp 3 sub) : SpM X d u t n top0 fv lv D0 J0 dp 2 (fun k => pNots (kK t n) (vV t n) sub 6 k 0) := by
  intro k E S tf D J Q h hb hw ht hR
  show OPn X d u fv lv 1 D J Q
  intro x1
  refine wp_eq (e199_4 _ _ _) (wp_f (by decide) (wp_iE (m_good1 h.2.1) (wp_eq (e199_8 _ _ _ _) (wp_f (by decide) ?_))))
  exact m_nots hn hby hd hsub hw (ht (by decide)) 6 0 k D J rfl (Nat.le_refl _) h hb hR
end LEVEL
