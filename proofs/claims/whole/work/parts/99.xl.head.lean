/-! ===== the reference's parser: states, the head of its loop ===== -/
def FrE (top0 : Nat) (D0 : DD) (J0 : JJ) (D : DD) (J : JJ) : Prop := (∀ q, q ≠ 70 → q ≠ 75 → q ≠ 76 → q ≠ 77 → D q = D0 q) ∧ (∀ k, k < 9 ∨ k = 11 ∨ k = 12 ∨ (19 ≤ k ∧ k ≤ 24) ∨ 29 < k → D 70 k = D0 70 k) ∧ (∀ i, i < top0 → D 75 i = D0 75 i) ∧ ∀ q, q ≠ 70 → J q = J0 q
theorem FrE.k {top0 : Nat} {D0 D D' : DD} {J0 J J' : JJ} (h : FrE top0 D0 J0 D J) (h1 : FrK D J D' J') : FrE top0 D0 J0 D' J' := ⟨fun q a b c e => (h1.1 q a).trans (h.1 q a b c e), fun k a => (h1.2.1 k (by omega)).trans (h.2.1 k a), fun i a => by rw [h1.1 75 (by decide)]; exact h.2.2.1 i a, fun q a => (h1.2.2 q a).trans (h.2.2.2 q a)⟩
theorem FrE.q {top0 : Nat} {D0 D D' : DD} {J0 J : JJ} (h : FrE top0 D0 J0 D J) (h1 : FrQ top0 D D') : FrE top0 D0 J0 D' J := ⟨fun q a b c e => (h1.1 q a b c).trans (h.1 q a b c e), fun k a => (h1.2.1 k (by omega) (by omega)).trans (h.2.1 k a), fun i a => (h1.2.2 i a).trans (h.2.2.1 i a), h.2.2.2⟩
theorem FrE.u {top0 k : Nat} {v : Int32} {D0 D : DD} {J0 J : JJ} (h : FrE top0 D0 J0 D J) (hk : k = 9 ∨ k = 10 ∨ k = 28 ∨ k = 29) : FrE top0 D0 J0 (ud D 70 k v) J := ⟨fun q a b c e => by rw [ud_q a]; exact h.1 q a b c e, fun j a => by rw [ud_k (by omega)]; exact h.2.1 j a, fun i a => by rw [ud_q (by decide)]; exact h.2.2.1 i a, h.2.2.2⟩
theorem FrE.t {top0 k : Nat} {v : Int32} {D0 D : DD} {J0 J : JJ} (h : FrE top0 D0 J0 D J) : FrE top0 D0 J0 (ud D 77 k v) J := ⟨fun q a b c e => by rw [ud_q e]; exact h.1 q a b c e, fun j a => by rw [ud_q (by decide)]; exact h.2.1 j a, fun i a => by rw [ud_q (by decide)]; exact h.2.2.1 i a, h.2.2.2⟩
def ES (t : Tx) (n top0 : Nat) (fv lv : Int32) (D0 : DD) (J0 : JJ) (k : Nat) (E S : List Int32) (dp : Nat) (tf : Nat → Int32) (D : DD) (J : JJ) : Prop := TkM t n k D J ∧ D 70 9 = 0 ∧ Cs top0 E S D ∧ (D 70 29 = nI dp ∧ D 77 = tf ∧ D 70 26 = fv ∧ D 70 27 = lv ∧ D 70 10 = D0 70 10) ∧ FrE top0 D0 J0 D J
def ESF (t : Tx) (n top0 : Nat) (D0 : DD) (J0 : JJ) (e : Int32) (k' : Nat) (D : DD) (J : JJ) : Prop := D 70 9 = e ∧ e ≠ 0 ∧ D 70 10 = nI (tkN t n k') ∧ (∃ a b, D 70 25 = nI a ∧ D 70 28 = nI b ∧ top0 ≤ a ∧ a + b ≤ 1399 ∧ b ≤ 950) ∧ FrE top0 D0 J0 D J
def EF (t : Tx) (n top0 : Nat) (D0 : DD) (J0 : JJ) (m : Nat) (e : Int32) (k' : Nat) (D : DD) (J : JJ) : Prop := D 70 9 = e ∧ e ≠ 0 ∧ D 70 10 = nI (tkN t n k') ∧ (∃ a b, D 70 25 = nI a ∧ D 70 28 = nI b ∧ top0 ≤ a ∧ a + b + m ≤ 1399 ∧ b ≤ 950) ∧ FrE top0 D0 J0 D J
theorem EF.f {t : Tx} {n top0 : Nat} {D0 D : DD} {J0 J : JJ} {m : Nat} {e : Int32} {k' : Nat} (h : EF t n top0 D0 J0 m e k' D J) : ESF t n top0 D0 J0 e k' D J := by
  obtain ⟨a1, a2, a3, ⟨a, b, c1, c2, c3, c4, c5⟩, a5⟩ := h
  exact ⟨a1, a2, a3, ⟨a, b, c1, c2, c3, by omega, c5⟩, a5⟩
def Bd (t : Tx) (n top0 k : Nat) (E S : List Int32) : Prop := top0 + E.length + S.length + 8 ≤ 2 * tkN t n k ∧ S.length ≤ tkN t n k
section PAR
variable {X : XS} {d u : Nat} {D D' : DD} {J J' : JJ} {t : Tx} {n top0 : Nat} {fv lv : Int32} {D0 : DD} {J0 : JJ} {k dp : Nat} {E S : List Int32} {tf : Nat → Int32} {Q : Rs → Prop}
noncomputable def HD (X : XS) (d u : Nat) (fv lv : Int32) (D : DD) (J : JJ) : Option Rs := Ev X (d + 5) 202 (23, [.ref 70, .int fv, .int lv, .int 1, .null], [], hS u D J)
def OPn (X : XS) (d u : Nat) (fv lv nt : Int32) (D : DD) (J : JJ) (Q : Rs → Prop) : Prop := ∀ x1 : Int32, Wp (Ev X (d + 4) 199 (4, [.ref 70, .int x1, .int nt, .int 1, .null], [], hS u D J)) (RW u (fun D' J' => Wp (HD X d u fv lv D' J') Q))
def PT (X : XS) (d u : Nat) (fv lv : Int32) (D : DD) (J : JJ) (Q : Rs → Prop) : Prop := ∀ x1 x2 x3 x4 : Int32, Wp (bI (EvM X (d + 3) 188 [.ref 70] (hS u D J)) (fun y h => Ev X (d + 4) 199 (39, [.ref 70, .int x1, .int x2, .int x3, .int x4], [.int y], h)) (fun e h => some (.inr e, h))) (RW u (fun D' J' => Wp (HD X d u fv lv D' J') Q))
def FCn (X : XS) (d u : Nat) (t : Tx) (n top0 : Nat) (fv lv : Int32) (D0 : DD) (J0 : JJ) (e : Int32) (k' : Nat) (Q : Rs → Prop) : Prop := ∀ (x3 : Int32) (D' : DD) (J' : JJ), ESF t n top0 D0 J0 e k' D' J' → Wp (Ev X (d + 5) 202 (178, [.ref 70, .int fv, .int lv, .int x3, .null], [], hS u D' J')) Q
theorem ES.nx (h : ES t n top0 fv lv D0 J0 k E S dp tf D J) (hT : TkM t n (k + 1) D' J') (hF : FrK D J D' J') : ES t n top0 fv lv D0 J0 (k + 1) E S dp tf D' J' := by
  obtain ⟨a1, a2, ⟨⟨c1, c2⟩, c3, c4⟩, ⟨b1, b2, b3, b4, b5⟩, a5⟩ := h
  refine ⟨hT, (hF.2.1 9 (by decide)).trans a2, ⟨⟨(hF.2.1 25 (by decide)).trans c1, by rw [hF.1 75 (by decide)]; exact c2⟩, (hF.2.1 28 (by decide)).trans c3, by rw [hF.1 76 (by decide)]; exact c4⟩, ⟨(hF.2.1 29 (by decide)).trans b1, by rw [hF.1 77 (by decide)]; exact b2, (hF.2.1 26 (by decide)).trans b3, (hF.2.1 27 (by decide)).trans b4, (hF.2.1 10 (by decide)).trans b5⟩, a5.k hF⟩
theorem ES.cs {E' S' : List Int32} (h : ES t n top0 fv lv D0 J0 k E S dp tf D J) (hC : Cs top0 E' S' D') (hF : FrQ top0 D D') : ES t n top0 fv lv D0 J0 k E' S' dp tf D' J := by
  obtain ⟨a1, a2, a3, ⟨b1, b2, b3, b4, b5⟩, a5⟩ := h
  refine ⟨a1.fr (fun j j1 j2 => hF.2.1 j (by omega) (by omega)) (hF.1 72 (by decide) (by decide) (by decide)) rfl, (hF.2.1 9 (by decide) (by decide)).trans a2, hC, ⟨(hF.2.1 29 (by decide) (by decide)).trans b1, by rw [hF.1 77 (by decide) (by decide) (by decide)]; exact b2, (hF.2.1 26 (by decide) (by decide)).trans b3, (hF.2.1 27 (by decide) (by decide)).trans b4, (hF.2.1 10 (by decide) (by decide)).trans b5⟩, a5.q hF⟩
theorem ES.stf {v : Int32} {j : Nat} (h : ES t n top0 fv lv D0 J0 k E S dp tf D J) : ES t n top0 fv lv D0 J0 k E S dp (upd tf j v) (ud D 77 j v) J := by
  obtain ⟨a1, a2, ⟨⟨c1, c2⟩, c3, c4⟩, ⟨b1, b2, b3, b4, b5⟩, a5⟩ := h
  refine ⟨a1.fr (fun j _ _ => by rw [ud_q (by decide)]) (ud_q (by decide)) rfl, by rw [ud_q (by decide)]; exact a2, ⟨⟨by rw [ud_q (by decide)]; exact c1, by rw [ud_q (by decide)]; exact c2⟩, by rw [ud_q (by decide)]; exact c3, by rw [ud_q (by decide)]; exact c4⟩, ⟨by rw [ud_q (by decide)]; exact b1, by rw [ud_row, b2], by rw [ud_q (by decide)]; exact b3, by rw [ud_q (by decide)]; exact b4, by rw [ud_q (by decide)]; exact b5⟩, a5.t⟩
theorem ES.sdp {e : Nat} (h : ES t n top0 fv lv D0 J0 k E S dp tf D J) : ES t n top0 fv lv D0 J0 k E S e tf (ud D 70 29 (nI e)) J := by
  obtain ⟨a1, a2, ⟨⟨c1, c2⟩, c3, c4⟩, ⟨b1, b2, b3, b4, b5⟩, a5⟩ := h
  refine ⟨a1.fr (fun j _ _ => ud_k (by omega)) (ud_q (by decide)) rfl, by rw [ud_k (by decide)]; exact a2, ⟨⟨by rw [ud_k (by decide)]; exact c1, by rw [ud_q (by decide)]; exact c2⟩, by rw [ud_k (by decide)]; exact c3, by rw [ud_q (by decide)]; exact c4⟩, ⟨ud_at _ _ _ _, by rw [ud_q (by decide)]; exact b2, by rw [ud_k (by decide)]; exact b3, by rw [ud_k (by decide)]; exact b4, by rw [ud_k (by decide)]; exact b5⟩, a5.u (by decide)⟩
theorem Bd.bn (h : Bd t n top0 k E S) (hn : n ≤ 700) : top0 + E.length + S.length ≤ 1392 ∧ S.length ≤ 700 := by
  have := tk_le t n k
  unfold Bd at h
  omega
/-- a fault is set -/
theorem ES.wrS {e : Int32} (h : ES t n top0 fv lv D0 J0 k E S dp tf D J) (hb : Bd t n top0 k E S) (hn : n ≤ 700) (he : e ≠ 0) : EF t n top0 D0 J0 7 e k (ud (ud D 70 9 e) 70 10 (nI (tkN t n k))) J := by
  obtain ⟨a1, a2, ⟨⟨c1, c2⟩, c3, c4⟩, ⟨b1, b2, b3, b4, b5⟩, a5⟩ := h
  have := hb.bn hn
  exact ⟨by rw [ud_k (by decide), ud_at], he, ud_at _ _ _ _, ⟨_, _, by rw [ud_k (by decide), ud_k (by decide)]; exact c1, by rw [ud_k (by decide), ud_k (by decide)]; exact c3, by omega, by omega, by omega⟩, (a5.u (by decide)).u (by decide)⟩
theorem ES.wr {e : Int32} (h : ES t n top0 fv lv D0 J0 k E S dp tf D J) (hb : Bd t n top0 k E S) (hn : n ≤ 700) (he : e ≠ 0) : ESF t n top0 D0 J0 e k (ud (ud D 70 9 e) 70 10 (nI (tkN t n k))) J := (h.wrS hb hn he).f
theorem hdF {e : Int32} {k' : Nat} (h : ESF t n top0 D0 J0 e k' D J) (hF : FCn X d u t n top0 fv lv D0 J0 e k' Q) : Wp (HD X d u fv lv D J) Q := by
  have h9 : D 70 9 ≠ 0 := by rw [h.1]; exact h.2.1
  refine wp_eq (e202_23 _ _ _) (wp_f (by decide) ?_)
  refine wp_iE (m_good0 h9) ?_
  refine wp_eq (e202_27 _ _ _ _) (wp_t rfl ?_)
  refine wp_iE (m_good0 h9) ?_
  exact wp_eq (e202_170 _ _ _ _) (wp_t rfl (hF 1 D J h))
/-- the operand's loop, once there is a fault -/
theorem opF4 {e : Int32} {k' : Nat} {x1 x2 x3 : Int32} (h : ESF t n top0 D0 J0 e k' D J) (hF : FCn X d u t n top0 fv lv D0 J0 e k' Q) : Wp (Ev X (d + 4) 199 (4, [.ref 70, .int x1, .int x2, .int x3, .null], [], hS u D J)) (RW u (fun D' J' => Wp (HD X d u fv lv D' J') Q)) := by
  have h9 : D 70 9 ≠ 0 := by rw [h.1]; exact h.2.1
  have fin : Wp (bV (EvM X (d + 3) 197 [.ref 70] (hS u D J)) (fun h => Ev X (d + 4) 199 (62, [.ref 70, .int x1, .int x2, .int x3, .null], [], h)) (fun e h => some (.inr e, h))) (RW u (fun D' J' => Wp (HD X d u fv lv D' J') Q)) := by
    have e197 : EvM X (d + 3) 197 [.ref 70] (hS u D J) = some (.inl none, hS u D J) := by
      refine (e197_0).trans ?_
      rw [m_good0 h9, bI_e, e197_2, brF (show ¬ ¬ (0 : Int32) = 0 from fun z => z rfl)]
    refine wp_vE e197 ?_
    exact wp_eq (e199_62 _ _ _) (wp_rW (hdF h hF))
  refine wp_eq (e199_4 _ _ _) (wp_if (fun _ => fin) (fun _ => ?_))
  refine wp_iE (m_good0 h9) ?_
  exact wp_eq (e199_8 _ _ _ _) (wp_t rfl fin)
theorem opF39 {e : Int32} {k' : Nat} {x1 x2 x3 x4 : Int32} (h : ESF t n top0 D0 J0 e k' D J) (hF : FCn X d u t n top0 fv lv D0 J0 e k' Q) : Wp (bI (EvM X (d + 3) 188 [.ref 70] (hS u D J)) (fun y h => Ev X (d + 4) 199 (39, [.ref 70, .int x1, .int x2, .int x3, .int x4], [.int y], h)) (fun e h => some (.inr e, h))) (RW u (fun D' J' => Wp (HD X d u fv lv D' J') Q)) := by
  have h9 : D 70 9 ≠ 0 := by rw [h.1]; exact h.2.1
  refine wp_iE (m_good0 h9) ?_
  refine wp_eq (e199_39 _ _ _ _ _) (wp_t rfl ?_)
  refine wp_weak (ls := [.ref 70, .int x1, .int x2, .int 0, .null]) ⟨Or.inl rfl, Or.inl rfl, Or.inl rfl, Or.inl rfl, Or.inr ⟨rfl, rfl⟩, trivial⟩ ?_
  exact opF4 h hF
theorem opF11 {e : Int32} {k' : Nat} {x1 x2 x3 x4 : Int32} (h : ESF t n top0 D0 J0 e k' D J) (hF : FCn X d u t n top0 fv lv D0 J0 e k' Q) : Wp (Ev X (d + 4) 199 (11, [.ref 70, .int x1, .int x2, .int x3, .int x4], [], hS u D J)) (RW u (fun D' J' => Wp (HD X d u fv lv D' J') Q)) := by
  have h9 : D 70 9 ≠ 0 := by rw [h.1]; exact h.2.1
  refine wp_eq (e199_11 _ _ _ _) ?_
  refine wp_iE (m_good0 h9) ?_
  exact wp_eq (e199_13 _ _ _ _ _) (wp_t rfl (opF39 h hF))
/-- an operand without not -/
theorem op0 (h9 : D 70 9 = 0) (h : PT X d u fv lv D J Q) : OPn X d u fv lv 0 D J Q := fun x1 => by
  refine wp_eq (e199_4 _ _ _) (wp_f (by decide) ?_)
  refine wp_iE (m_good1 h9) ?_
  refine wp_eq (e199_8 _ _ _ _) (wp_f (by decide) ?_)
  refine wp_eq (e199_11 _ _ _ _) ?_
  refine wp_iE (m_good1 h9) ?_
  exact wp_eq (e199_13 _ _ _ _ _) (wp_f (by decide) (wp_t rfl (h _ _ _ _)))
/-- the head: its word -/
theorem hd30 (hn : n ≤ 700) (hby : byB t) (h : ES t n top0 fv lv D0 J0 k E S dp tf D J) (hk : Wp (Ev X (d + 5) 202 (30, [.ref 70, .int fv, .int lv, .int 1, .null], [.int (knW t n k)], hS u D J)) Q) : Wp (HD X d u fv lv D J) Q := by
  refine wp_eq (e202_23 _ _ _) (wp_f (by decide) ?_)
  refine wp_iE (m_good1 h.2.1) ?_
  refine wp_eq (e202_27 _ _ _ _) (wp_f (by decide) ?_)
  exact wp_iE (m_known hn hby h.1) hk
theorem km_all : ∀ j, j < 15 → (kmI (nI j) = 12 ↔ j = 6) ∧ (kmI (nI j) = 13 ↔ j = 5) ∧ (kmI (nI j) = 14 ↔ j = 7) := by decide +kernel
theorem kn_wd (w c : Int32) (hw : (w = 6 ∧ c = 12) ∨ (w = 5 ∧ c = 13) ∨ (w = 7 ∧ c = 14)) : (knW t n k = c) ↔ wdAt (kK t n) (vV t n) w k = true := by
  unfold knW wdAt
  by_cases q : kK t n k = 1
  · rw [if_pos q, decide_eq_true q, Bool.true_and, decide_eq_true_eq]
    rcases v_word15 q with e | ⟨j, hj, e⟩
    · rw [e]
      rcases hw with ⟨rfl, rfl⟩ | ⟨rfl, rfl⟩ | ⟨rfl, rfl⟩ <;> decide
    · rw [e]
      obtain ⟨a1, a2, a3⟩ := km_all j hj
      rcases hw with ⟨rfl, rfl⟩ | ⟨rfl, rfl⟩ | ⟨rfl, rfl⟩
      · rw [a1]; exact (nI_eq (b := 6) (by omega) (by decide)).symm
      · rw [a2]; exact (nI_eq (b := 5) (by omega) (by decide)).symm
      · rw [a3]; exact (nI_eq (b := 7) (by omega) (by decide)).symm
  · rw [if_neg q, decide_eq_false q, Bool.false_and]
    rcases hw with ⟨rfl, rfl⟩ | ⟨rfl, rfl⟩ | ⟨rfl, rfl⟩ <;> decide
theorem op_n1 {L : Nat} (hL : L = 0 ∨ L = 1 ∨ L = 3 ∨ L = 4) : opAt (kK t n) (vV t n) L k = -1 ↔ (L = 0 → wdAt (kK t n) (vV t n) 5 k = false) ∧ (L = 1 → wdAt (kK t n) (vV t n) 6 k = false) ∧ (L = 3 → sgAt (kK t n) (vV t n) 43 k = false ∧ sgAt (kK t n) (vV t n) 45 k = false) ∧ (L = 4 → sgAt (kK t n) (vV t n) 42 k = false ∧ sgAt (kK t n) (vV t n) 47 k = false) := by
  unfold opAt
  rcases hL with rfl | rfl | rfl | rfl
  · cases wdAt (kK t n) (vV t n) 5 k <;> simp
  · cases wdAt (kK t n) (vV t n) 6 k <;> simp
  · cases sgAt (kK t n) (vV t n) 43 k <;> cases sgAt (kK t n) (vV t n) 45 k <;> simp
  · cases sgAt (kK t n) (vV t n) 42 k <;> cases sgAt (kK t n) (vV t n) 47 k <;> simp
end PAR
