/-! ===== the reference's lines ===== -/
def RJ (u : Nat) (Q : Int32 → DD → JJ → Prop) : Rs → Prop := fun y => ∃ (x : Int32) (D' : DD) (J' : JJ), y = (.inl (some (.int x)), hS u D' J') ∧ Q x D' J'
theorem wp_rJ {u : Nat} {x : Int32} {D : DD} {J : JJ} {Q : Int32 → DD → JJ → Prop} (h : Q x D J) : Wp (some (.inl (some (.int x)), hS u D J)) (RJ u Q) := ⟨_, rfl, x, D, J, rfl, h⟩
theorem wp_cJ {r : Option Rs} {u : Nat} {P : Int32 → DD → JJ → Prop} {k : Int32 → Hp → Option Rs} {s : Nat → Hp → Option Rs} {Q : Rs → Prop} (h : Wp r (RJ u P)) (hk : ∀ x D' J', P x D' J' → Wp (k x (hS u D' J')) Q) : Wp (bI r k s) Q := by
  obtain ⟨y, h1, x, D', J', h2, h3⟩ := h
  rw [h1, h2]
  exact hk x D' J' h3
def FrN (D : DD) (J : JJ) (D' : DD) (J' : JJ) : Prop := (∀ q, q ≠ 70 → q < 74 ∨ 77 < q → D' q = D q) ∧ (∀ k, k < 9 ∨ k = 11 ∨ k = 12 ∨ 29 < k → D' 70 k = D 70 k) ∧ ∀ q, q ≠ 70 → J' q = J q
theorem FrN.rf (D : DD) (J : JJ) : FrN D J D J := ⟨fun _ _ _ => rfl, fun _ _ => rfl, fun _ _ => rfl⟩
theorem FrN.tr {A B C : DD} {J J1 J2 : JJ} (h : FrN A J B J1) (h1 : FrN B J1 C J2) : FrN A J C J2 := ⟨fun q a b => (h1.1 q a b).trans (h.1 q a b), fun k a => (h1.2.1 k a).trans (h.2.1 k a), fun q a => (h1.2.2 q a).trans (h.2.2 q a)⟩
theorem FrK.l {D D' : DD} {J J' : JJ} (h : FrK D J D' J') : FrN D J D' J' := ⟨fun q a _ => h.1 q a, fun k a => h.2.1 k (by omega), h.2.2⟩
theorem FrE.l {top0 : Nat} {D D' : DD} {J J' : JJ} (h : FrE top0 D J D' J') : FrN D J D' J' := ⟨fun q a b => h.1 q a (by omega) (by omega) (by omega), fun k a => h.2.1 k (by omega), h.2.2.2⟩
theorem FrN.u {D : DD} {J : JJ} {k : Nat} {v : Int32} (h1 : 9 ≤ k) (h2 : k ≤ 29) (h3 : k ≠ 11) (h4 : k ≠ 12) : FrN D J (ud D 70 k v) J := ⟨fun q a _ => ud_q a, fun j a => ud_k (by omega), fun _ _ => rfl⟩
theorem FrN.w {D : DD} {J : JJ} {e : Int32} {v : Int32} : FrN D J (ud (ud D 70 9 e) 70 10 v) J := (FrN.u (by decide) (by decide) (by decide) (by decide)).tr (FrN.u (by decide) (by decide) (by decide) (by decide))
def rlM (r : Nat) (o : Option RuF) (top : Nat) (D : DD) : Prop := match o with
  | none => D 70 (22 + r) = -1
  | some f => ∃ (a : Nat) (C : List Int32), D 70 (22 + r) = nI a ∧ Cde C f ∧ ArrL (D 75) a (C ++ [0]) ∧ a + C.length + 1 ≤ top
def seM (o : Option Nat) (D : DD) : Prop := match o with
  | none => D 70 21 = -1
  | some a => D 70 21 = nI a ∧ 1 ≤ a ∧ a ≤ 12
def rwM (s : Ln) (r : Nat → Int32) : Prop := (∀ i, i = 0 ∨ (37 ≤ i ∧ i < 85) → r i = 0) ∧ ∀ p, p < s.1 → r (1 + p) = s.2.1 p ∧ r (13 + p) = -1 ∧ r (25 + p) = -1
def LnS (t : Tx) (n : Nat) (s : Ln) (k : Nat) (D : DD) : Prop := D 70 9 = 0 ∧ D 70 10 = -1 ∧ D 70 20 = nI s.1 ∧ s.1 ≤ 12 ∧ rwM s (D 74) ∧ seM s.2.2.1 D ∧ ∃ top, D 70 25 = nI top ∧ top ≤ 2 * tkN t n k ∧ ∀ r, r < 3 → rlM r (s.2.2.2 r) top D
def LnM (t : Tx) (n : Nat) (s : Ln) (k : Nat) (D : DD) (J : JJ) : Prop := TkM t n k D J ∧ LnS t n s k D
theorem rlM.mv {r top top' : Nat} {o : Option RuF} {D D' : DD} (h : rlM r o top D) (h1 : D' 70 (22 + r) = D 70 (22 + r)) (h2 : ∀ i, i < top → D' 75 i = D 75 i) (h3 : top ≤ top') : rlM r o top' D' := by
  cases o with
  | none => exact h1.trans h
  | some f =>
    obtain ⟨a, C, a1, a2, a3, a4⟩ := h
    exact ⟨a, C, h1.trans a1, a2, a3.cg (fun i i1 i2 => h2 i (by rw [List.length_append, List.length_singleton] at i2; omega)), by omega⟩
theorem seM.mv {o : Option Nat} {D D' : DD} (h : seM o D) (h1 : D' 70 21 = D 70 21) : seM o D' := by
  cases o with
  | none => exact h1.trans h
  | some a => exact ⟨h1.trans h.1, h.2⟩
theorem LnS.fr {t : Tx} {n k k' : Nat} {s : Ln} {D D' : DD} {J J' : JJ} (h : LnS t n s k D) (hF : FrK D J D' J') (hk : tkN t n k ≤ tkN t n k') : LnS t n s k' D' := by
  obtain ⟨h9, h10, h20, hs, hrw, hst, top, h25, htop, hrl⟩ := h
  exact ⟨(hF.2.1 9 (by decide)).trans h9, (hF.2.1 10 (by decide)).trans h10, (hF.2.1 20 (by decide)).trans h20, hs, by rw [hF.1 74 (by decide)]; exact hrw, hst.mv (hF.2.1 21 (by decide)), top, (hF.2.1 25 (by decide)).trans h25, by omega, fun r hr => (hrl r hr).mv (hF.2.1 (22 + r) (by omega)) (fun i _ => by rw [hF.1 75 (by decide)]) (Nat.le_refl _)⟩
def LiM (t : Tx) (n : Nat) (D0 : DD) (J0 : JJ) (k : Nat) (r : (Int32 × Nat) ⊕ (Nat × Ln)) (D : DD) (J : JJ) : Prop := FrN D0 J0 D J ∧ match r with
  | .inl (e, k') => D 70 9 = e ∧ e ≠ 0 ∧ D 70 10 = nI (tkN t n k')
  | .inr (k', s') => LnM t n s' k' D J ∧ k < k'
theorem wd_incM {t : Tx} {n k j : Nat} (hj : j < 15) (q : wdAt (kK t n) (vV t n) (nI j) k = true) : tkN t n k + (WDS.getD j []).length ≤ tkN t n (k + 1) := by
  have hk := wd_lt2 q
  obtain ⟨q1, q2⟩ := wdk q
  rw [v_word q1] at q2
  have := ix_len q2 hj
  rw [ltL_len] at this
  have := tk_lt hk
  omega
theorem km_lines : ∀ j, j < 15 → (kmI (nI j) = 7 ↔ j = 0) ∧ (kmI (nI j) = 8 ↔ j = 1) ∧ (kmI (nI j) = 9 ↔ j = 2) ∧ (kmI (nI j) = 10 ↔ j = 3) ∧ (kmI (nI j) = 11 ↔ j = 4) := by decide +kernel
theorem kn_ln {t : Tx} {n k : Nat} (w c : Int32) (hw : (w = 0 ∧ c = 7) ∨ (w = 1 ∧ c = 8) ∨ (w = 2 ∧ c = 9) ∨ (w = 3 ∧ c = 10) ∨ (w = 4 ∧ c = 11)) : (knW t n k = c) ↔ wdAt (kK t n) (vV t n) w k = true := by
  unfold knW wdAt
  by_cases q : kK t n k = 1
  · rw [if_pos q, decide_eq_true q, Bool.true_and, decide_eq_true_eq]
    rcases v_word15 q with e | ⟨j, hj, e⟩
    · rw [e]
      rcases hw with ⟨rfl, rfl⟩ | ⟨rfl, rfl⟩ | ⟨rfl, rfl⟩ | ⟨rfl, rfl⟩ | ⟨rfl, rfl⟩ <;> decide
    · rw [e]
      obtain ⟨a0, a1, a2, a3, a4⟩ := km_lines j hj
      rcases hw with ⟨rfl, rfl⟩ | ⟨rfl, rfl⟩ | ⟨rfl, rfl⟩ | ⟨rfl, rfl⟩ | ⟨rfl, rfl⟩
      · rw [a0]; exact (nI_eq (b := 0) (by omega) (by decide)).symm
      · rw [a1]; exact (nI_eq (b := 1) (by omega) (by decide)).symm
      · rw [a2]; exact (nI_eq (b := 2) (by omega) (by decide)).symm
      · rw [a3]; exact (nI_eq (b := 3) (by omega) (by decide)).symm
      · rw [a4]; exact (nI_eq (b := 4) (by omega) (by decide)).symm
  · rw [if_neg q, decide_eq_false q, Bool.false_and]
    rcases hw with ⟨rfl, rfl⟩ | ⟨rfl, rfl⟩ | ⟨rfl, rfl⟩ | ⟨rfl, rfl⟩ | ⟨rfl, rfl⟩ <;> decide
section MLINE
variable {X : XS} {d u : Nat} {D D' D0 : DD} {J J' J0 : JJ} {t : Tx} {n k k0 : Nat} {s : Ln}
theorem m_nbr {lo hi : Int32} (hn : n ≤ 700) (hby : byB t) (hhi : ¬ 10000 ≤ hi) (hT : TkM t n k D J) (h9 : D 70 9 = 0) : Wp (EvM X (d + 2) 191 [.ref 70, .int lo, .int hi] (hS u D J)) (RJ u (fun x D' J' => (pNum (kK t n) (vV t n) lo hi k = 0 → x = vV t n k ∧ tkN t n k < n ∧ ¬ vV t n k < lo ∧ vV t n k ≤ hi ∧ TkM t n (k + 1) D' J' ∧ FrK D J D' J') ∧ (pNum (kK t n) (vV t n) lo hi k ≠ 0 → D' = ud (ud D 70 9 (pNum (kK t n) (vV t n) lo hi k)) 70 10 (nI (tkN t n k)) ∧ J' = J))) := by
  refine wp_eq (e191_0 _ _) (wp_iE (m_good1 h9) (wp_eq (e191_2 _ _ _) (wp_t (by decide) ?_)))
  have h14 : D 70 14 = nI (kK t n k) := hT.2.2.1
  rw [h14]
  generalize hp : pNum (kK t n) (vV t n) lo hi k = pn
  have fin28 : ∀ e : Int32, e ≠ 0 → pn = e → Wp (Ev X (d + 2) 191 (28, [.ref 70, .int lo, .int hi, .null], [], hS u (ud (ud D 70 9 e) 70 10 (nI (tkN t n k))) J)) (RJ u (fun x D' J' => (pn = 0 → x = vV t n k ∧ tkN t n k < n ∧ ¬ vV t n k < lo ∧ vV t n k ≤ hi ∧ TkM t n (k + 1) D' J' ∧ FrK D J D' J') ∧ (pn ≠ 0 → D' = ud (ud D 70 9 pn) 70 10 (nI (tkN t n k)) ∧ J' = J))) := fun e he hpe => by
    refine wp_eq (e191_28 _ _) (wp_iE (m_good0 (by rw [ud_k (by decide), ud_at]; exact he)) (wp_eq (e191_33 _ _ _ _) (wp_t rfl (wp_eq (e191_36 _ _ _) (wp_rJ ⟨fun z => absurd (hpe.symm.trans z) he, fun _ => ⟨by rw [hpe], rfl⟩⟩)))))
  unfold pNum at hp
  by_cases z2 : kK t n k = 2
  · rw [if_pos z2] at hp
    obtain ⟨w1, w2, w3⟩ := kd_2 z2
    obtain ⟨v1, v2, v3⟩ := v_num hby z2
    have hen := (en_b (t := t) w1).2
    have e16 : D 70 16 = nI (enN t n (tkN t n k) - tkN t n k) := by
      have := hT.2.2.2.2.1
      unfold neN at this
      rwa [if_pos w1] at this
    refine wp_t ((kI kK_lt (by decide : 2 < 5)).mpr z2) ?_
    rw [e16]
    by_cases h4 : enN t n (tkN t n k) - tkN t n k ≤ 4
    · obtain ⟨y, y1, y2, y3⟩ := v2 h4
      have e17 : D 70 17 = vV t n k := by
        have := hT.2.2.2.2.2.1 z2
        unfold neN at this
        rw [if_pos w1] at this
        exact ((this h4).trans y3).trans y2.symm
      refine wp_f (nI_nlt (a := 4) h4 (by decide)) ?_
      rw [e17]
      refine wp_if (fun z => ?_) (fun za => ?_)
      · rw [if_pos z] at hp
        exact wp_vE (m_wrong hT h9 2) (fin28 2 (by decide) hp.symm)
      · rw [if_neg za] at hp
        refine wp_if (fun zb => ?_) (fun zb => ?_)
        · rw [if_pos zb] at hp
          refine wp_eq (e191_28 _ _) (wp_iE (m_good1 h9) (wp_eq (e191_33 _ _ _ _) (wp_f (by decide) ?_)))
          refine wp_cW (m_nx (d := d) hn hT w1) (fun D2 J2 h2 => wp_eq (e191_36 _ _ _) (wp_rJ ⟨fun _ => ⟨e17, w1, za, zb, h2.1, h2.2⟩, fun z => absurd hp.symm z⟩))
        · rw [if_neg zb] at hp
          exact wp_vE (m_wrong hT h9 2) (fin28 2 (by decide) hp.symm)
    · rw [v3 h4, if_neg hhi, ite_self] at hp
      refine wp_t (nI_lt (a := 4) (by omega) (by omega)) ?_
      exact wp_vE (m_wrong hT h9 2) (fin28 2 (by decide) hp.symm)
  · rw [if_neg z2] at hp
    refine wp_f (fun y => z2 ((kI kK_lt (by decide : 2 < 5)).mp y)) ?_
    exact wp_vE (m_wrong hT h9 1) (wp_eq (e191_12 _ _) (fin28 1 (by decide) hp.symm))
theorem m_beg0 (hn : n ≤ 700) (hT : TkM t n k D J) (h9 : D 70 9 = 0) (hk : tkN t n k < n) : Wp (EvM X (d + 2) 203 [.ref 70, .int 0, .int 0] (hS u D J)) (RJ u (fun x D' J' => x = 1 ∧ TkM t n (k + 1) D' J' ∧ FrK D J D' J')) := by
  refine wp_eq (e203_0 _ _) (wp_t rfl (wp_eq (e203_5 _ _) (wp_t rfl (wp_eq (e203_10 _ _) (wp_iE (m_good1 h9) (wp_eq (e203_12 _ _ _) (wp_t (by decide) ?_)))))))
  exact wp_cW (m_nx (d := d) hn hT hk) (fun D2 J2 h2 => wp_eq (e203_17 _ _) (wp_rJ ⟨rfl, h2.1, h2.2⟩))
theorem m_begX {x1 x2 e : Int32} (h : (x1 = 1 ∧ x2 = 0 ∧ e = 2) ∨ (x1 = 0 ∧ x2 = 1 ∧ e = 5)) (hT : TkM t n k D J) (h9 : D 70 9 = 0) : EvM X (d + 2) 203 [.ref 70, .int x1, .int x2] (hS u D J) = some (.inl (some (.int 0)), hS u (ud (ud D 70 9 e) 70 10 (nI (tkN t n k))) J) := by
  refine (e203_0 _ _).trans ?_
  rcases h with ⟨rfl, rfl, rfl⟩ | ⟨rfl, rfl, rfl⟩
  · rw [brF (by decide), m_wrong hT h9 2, bV_e, e203_5, brT rfl, e203_10, m_good0 (by rw [ud_k (by decide), ud_at]; decide), bI_e, e203_12, brF (by decide)]
  · rw [brT rfl, e203_5, brF (by decide), m_wrong hT h9 5, bV_e, e203_10, m_good0 (by rw [ud_k (by decide), ud_at]; decide), bI_e, e203_12, brF (by decide)]
theorem m_sgA (c : Int32) : ∃ y : Int32, EvM X d 189 [.ref 70, .int c] (hS u D J) = some (.inl (some (.int y)), hS u D J) := by
  have e : EvM X d 189 [.ref 70, .int c] (hS u D J) = _ := e189_0 c
  rw [e]
  by_cases h : ¬ D 70 14 = 3
  · exact ⟨0, by rw [brT h]⟩
  · rw [brF h]
    by_cases h2 : ¬ D 70 18 = c
    · exact ⟨0, by rw [brT h2]⟩
    · exact ⟨1, by rw [brF h2]⟩
/-- a line ends, with a fault -/
theorem lnF {e x1 : Int32} {k' : Nat} (hF : FrN D0 J0 D J) (h9 : D 70 9 = e) (he : e ≠ 0) (h10 : D 70 10 = nI (tkN t n k')) : Wp (Ev X (d + 6) 205 (113, [.ref 70, .int x1], [], hS u D J)) (RW u (LiM t n D0 J0 k0 (.inl (e, k')))) := by
  obtain ⟨y, hy⟩ := m_sgA (X := X) (d := d + 5) (u := u) (D := D) (J := J) 59
  refine wp_eq (e205_113 _) (wp_iE hy (wp_eq (e205_117 _ _) ?_))
  have e190 : EvM X (d + 5) 190 [.ref 70, .int y] (hS u D J) = some (.inl none, hS u D J) := by
    refine (e190_0 _).trans ?_
    rw [m_good0 (by rw [h9]; exact he), bI_e, e190_2, brF (by decide)]
  have hP : LiM t n D0 J0 k0 (.inl (e, k')) D J := ⟨hF, h9, he, h10⟩
  exact wp_vE e190 (wp_eq (e205_118 _) (wp_rW hP))
/-- a line ends -/
theorem lnG {x1 : Int32} (hn : n ≤ 700) (hF : FrN D0 J0 D J) (hL : LnM t n s k D J) (hk : k0 < k) : Wp (Ev X (d + 6) 205 (113, [.ref 70, .int x1], [], hS u D J)) (RW u (LiM t n D0 J0 k0 (pSemi (kK t n) (vV t n) k s))) := by
  have h9 := hL.2.1
  refine wp_eq (e205_113 _) (wp_iE (m_sg hL.1 59) (wp_eq (e205_117 _ _) ?_))
  unfold pSemi
  by_cases q : sgAt (kK t n) (vV t n) 59 k = true
  · rw [q, if_pos rfl]
    have c190 : Wp (EvM X (d + 5) 190 [.ref 70, .int (bI32 true)] (hS u D J)) (RW u (fun D' J' => TkM t n (k + 1) D' J' ∧ FrK D J D' J')) := by
      refine wp_eq (e190_0 _) (wp_iE (m_good1 h9) (wp_eq (e190_2 _ _) (wp_t (by decide) (wp_f b1T ?_))))
      exact wp_cW (m_nx (d := d + 3) hn hL.1 (sg_lt2 q)) (fun D2 J2 h2 => wp_eq (e190_8 _) (wp_eq (e190_12 _) (wp_rW h2)))
    refine wp_cW c190 (fun D2 J2 h2 => wp_eq (e205_118 _) (wp_rW ?_))
    have := tk_up (sg_lt2 q)
    exact ⟨hF.tr h2.2.l, ⟨h2.1, hL.2.fr h2.2 (by omega)⟩, by omega⟩
  · rw [Bool.eq_false_iff.mpr q, if_neg Bool.false_ne_true]
    have e190 : EvM X (d + 5) 190 [.ref 70, .int (bI32 false)] (hS u D J) = some (.inl none, hS u (ud (ud D 70 9 1) 70 10 (nI (tkN t n k))) J) := by
      refine (e190_0 _).trans ?_
      rw [m_good1 h9, bI_e, e190_2, brT (by decide), brT b0F, m_wrong hL.1 h9 1, bV_e, e190_12]
    refine wp_vE e190 (wp_eq (e205_118 _) (wp_rW ?_))
    exact ⟨hF.tr FrN.w, by rw [ud_k (by decide), ud_at], by decide, ud_at _ _ _ _⟩
/-- a person is read -/
theorem m_204 {p : Nat} (hn : n ≤ 700) (hby : byB t) (hT : TkM t n k D J) (h9 : D 70 9 = 0) (h20 : D 70 20 = nI p) (hp : p < 12) : Wp (EvM X (d + 5) 204 [.ref 70] (hS u D J)) (RW u (fun D' J' => (pNum (kK t n) (vV t n) 0 29 k = 0 → tkN t n k < n ∧ TkM t n (k + 1) D' J' ∧ D' 70 20 = nI (p + 1) ∧ D' 74 = upd (upd (upd (D 74) (1 + p) (vV t n k)) (13 + p) (-1)) (25 + p) (-1) ∧ (∀ q, q ≠ 70 → q ≠ 74 → D' q = D q) ∧ (∀ i, i < 13 ∨ 18 < i → i ≠ 20 → D' 70 i = D 70 i) ∧ ∀ q, q ≠ 70 → J' q = J q) ∧ (pNum (kK t n) (vV t n) 0 29 k ≠ 0 → D' 70 9 = pNum (kK t n) (vV t n) 0 29 k ∧ D' 70 10 = nI (tkN t n k) ∧ FrN D J D' J'))) := by
  refine wp_eq (e204_0) ?_
  rw [h20, la]
  refine wp_cJ (m_nbr (d := d + 2) hn hby (by decide) hT h9) (fun v D1 J1 h1 => ?_)
  obtain ⟨g1, g2⟩ := h1
  have h20' : D1 70 20 = nI p := by
    by_cases z : pNum (kK t n) (vV t n) 0 29 k = 0
    · exact ((g1 z).2.2.2.2.2.2.1 20 (by decide)).trans h20
    · rw [(g2 z).1, ud_k (by decide), ud_k (by decide)]; exact h20
  refine wp_eq (e204_10 _ _) ?_
  simp only [ud_q (show (70 : Nat) ≠ 74 by decide)]
  rw [h20', la, la, nI_clamp (by omega), nI_clamp (by omega), nI_clamp (by omega)]
  refine oG (by omega) (by decide) (oG (by omega) (by decide) (oG (by omega) (by decide) ?_))
  generalize hD2 : ud (ud (ud D1 74 (1 + p) v) 74 (13 + p) (-1)) 74 (25 + p) (-1) = D2
  have r74 : D2 74 = upd (upd (upd (D1 74) (1 + p) v) (13 + p) (-1)) (25 + p) (-1) := by rw [← hD2, ud_row, ud_row, ud_row]
  have rq : ∀ q, q ≠ 74 → D2 q = D1 q := fun q hq => by rw [← hD2, ud_q hq, ud_q hq, ud_q hq]
  by_cases z : pNum (kK t n) (vV t n) 0 29 k = 0
  · obtain ⟨a1, a2, a3, a4, a5, a6⟩ := g1 z
    subst a1
    have y9 : D2 70 9 = 0 := by rw [rq 70 (by decide)]; exact (a6.2.1 9 (by decide)).trans h9
    refine wp_iE (m_good1 y9) (wp_eq (e204_29 _) (wp_f (by decide) (wp_rW ⟨fun _ => ?_, fun y => absurd z y⟩)))
    rw [rq 70 (by decide), h20', nI_1]
    refine ⟨a2, a5.fr (fun j j1 j2 => by rw [ud_k (by omega), rq 70 (by decide)]) (by rw [ud_q (by decide), rq 72 (by decide)]) rfl, ud_at _ _ _ _, ?_, fun q q1 q2 => by rw [ud_q q1, rq q q2]; exact a6.1 q q1, fun i i1 i2 => by rw [ud_k i2, rq 70 (by decide)]; exact a6.2.1 i i1, a6.2.2⟩
    rw [ud_q (by decide), r74, a6.1 74 (by decide)]
  · obtain ⟨a1, a2⟩ := g2 z
    subst a2
    have y9 : D2 70 9 = pNum (kK t n) (vV t n) 0 29 k := by rw [rq 70 (by decide), a1, ud_k (by decide), ud_at]
    refine wp_iE (m_good0 (by rw [y9]; exact z)) (wp_eq (e204_29 _) (wp_t rfl (wp_rW ⟨fun y => absurd y z, fun _ => ⟨y9, ?_, ?_⟩⟩)))
    · rw [rq 70 (by decide), a1, ud_at]
    · have f1 : FrN D J1 D1 J1 := by rw [a1]; exact FrN.w
      exact ⟨fun q q1 q2 => by rw [rq q (by omega)]; exact f1.1 q q1 q2, fun i hi => by rw [rq 70 (by decide)]; exact f1.2.1 i hi, fun _ _ => rfl⟩
/-- a rule's line -/
theorem m_rule {r l1 l2 l3 : Nat} {fv lv x1 : Int32} (hn : n ≤ 700) (hby : byB t) (hr : r < 3) (hv : viOk (decide (r = 2)) fv lv)
    (q1 : ∀ (D : DD) (J : JJ) (y0 : Int32), Ev X (d + 6) 205 (l1, [.ref 70, .int x1], [.int y0], hS u D J) = br (decide (y0 = 0)) (Ev X (d + 6) 205 (113, [.ref 70, .int x1], [], hS u D J)) (Ev X (d + 6) 205 (l2, [.ref 70, .int x1], [], hS u (ud D 70 (22 + r) (D 70 25)) J)))
    (q2 : ∀ (D : DD) (J : JJ), Ev X (d + 6) 205 (l2, [.ref 70, .int x1], [], hS u D J) = bV (EvM X (d + 5) 202 [.ref 70, .int fv, .int lv] (hS u D J)) (fun h => Ev X (d + 6) 205 (l3, [.ref 70, .int x1], [], h)) (fun e h => some (.inr e, h)))
    (q3 : ∀ (D : DD) (J : JJ), Ev X (d + 6) 205 (l3, [.ref 70, .int x1], [], hS u D J) = Ev X (d + 6) 205 (113, [.ref 70, .int x1], [], hS u D J))
    (w : wdAt (kK t n) (vV t n) (nI (2 + r)) k = true) (hL : LnM t n s k D J) : Wp (br (decide (D 70 (22 + r) = (-1))) (bI (EvM X (d + 5) 203 [.ref 70, .int 0, .int 0] (hS u D J)) (fun y h => Ev X (d + 6) 205 (l1, [.ref 70, .int x1], [.int y], h)) (fun e h => some (.inr e, h))) (bI (EvM X (d + 5) 203 [.ref 70, .int 0, .int 1] (hS u D J)) (fun y h => Ev X (d + 6) 205 (l1, [.ref 70, .int x1], [.int y], h)) (fun e h => some (.inr e, h)))) (RW u (LiM t n D J k (pRule (kK t n) (vV t n) r s k))) := by
  obtain ⟨hT, h9, h10, h20, hs, hrw, hst, top, h25, htop, hrl⟩ := id hL
  have hk := wd_lt2 w
  have inc : tkN t n k + 5 ≤ tkN t n (k + 1) := by
    have := wd_incM (j := 2 + r) (by omega) w
    have e : 5 ≤ (WDS.getD (2 + r) []).length := by
      have : ∀ r, r < 3 → 5 ≤ (WDS.getD (2 + r) []).length := by decide
      exact this r hr
    omega
  have ktop := tk_le t n k
  have ho := hrl r hr
  unfold pRule
  cases hs2 : s.2.2.2 r with
  | some f =>
    rw [hs2] at ho
    obtain ⟨a, C, o1, o2, o3, o4⟩ := ho
    refine wp_f (by rw [o1]; exact nI_ne1 (by omega)) ?_
    refine wp_iE (m_begX (d := d + 3) (Or.inr ⟨rfl, rfl, rfl⟩) hT h9) ?_
    refine wp_eq (q1 _ _ _) (wp_t rfl ?_)
    exact lnF (k' := k) FrN.w (by rw [ud_k (by decide), ud_at]) (by decide) (ud_at _ _ _ _)
  | none =>
    rw [hs2] at ho
    have ho : D 70 (22 + r) = -1 := ho
    refine wp_t ho ?_
    refine wp_cJ (m_beg0 (d := d + 3) hn hT h9 hk) (fun y D1 J1 h1 => ?_)
    obtain ⟨rfl, T1, F1⟩ := h1
    refine wp_eq (q1 _ _ _) (wp_f (by decide) (wp_eq (q2 _ _) ?_))
    have g25 : D1 70 25 = nI top := (F1.2.1 25 (by decide)).trans h25
    have g9 : D1 70 9 = 0 := (F1.2.1 9 (by decide)).trans h9
    rw [g25]
    generalize hD2 : ud D1 70 (22 + r) (nI top) = D2
    have k2 : ∀ i, i ≠ 22 + r → D2 70 i = D1 70 i := fun i hi => by rw [← hD2, ud_k hi]
    have e2 : ∀ q, q ≠ 70 → D2 q = D1 q := fun q hq => by rw [← hD2, ud_q hq]
    have T2 : TkM t n (k + 1) D2 J1 := T1.fr (fun j j1 j2 => k2 j (by omega)) (e2 72 (by decide)) rfl
    refine wp_cW (m_expr (d := d) (top0 := top) (mi := decide (r = 2)) hn hby hv T2 ((k2 9 (by omega)).trans g9) ((k2 25 (by omega)).trans g25) (by omega)) (fun D3 J3 h3 => wp_eq (q3 _ _) ?_)
    obtain ⟨F3, h3⟩ := h3
    have FL : FrN D J D3 J3 := (F1.l.tr (by rw [← hD2]; exact FrN.u (by omega) (by omega) (by omega) (by omega))).tr F3.l
    dsimp only
    cases hp : pE (kK t n) (vV t n) (decide (r = 2)) 5 (k + 1) with
    | inl e =>
      obtain ⟨e, k'⟩ := e
      rw [hp] at h3
      obtain ⟨c1, c2, c3⟩ := h3
      exact lnF FL c1 c2 c3
    | inr kf =>
      obtain ⟨k', f⟩ := kf
      rw [hp] at h3
      obtain ⟨T3, x9, x10, xk, C, c1, c2, c3, c4⟩ := h3
      have kk : ∀ i, 19 ≤ i → i ≤ 24 → i ≠ 22 + r → D3 70 i = D 70 i := fun i i1 i2 i3 => (F3.2.1 i (by omega)).trans ((k2 i i3).trans (F1.2.1 i (by omega)))
      have y22 : D3 70 (22 + r) = nI top := (F3.2.1 (22 + r) (by omega)).trans (by rw [← hD2, ud_at])
      refine lnG hn FL (s := (s.1, s.2.1, s.2.2.1, fun i => if i = r then some f else s.2.2.2 i)) ⟨T3, x9, x10.trans ((k2 10 (by omega)).trans ((F1.2.1 10 (by decide)).trans h10)), (kk 20 (by decide) (by decide) (by omega)).trans h20, hs, ?_, hst.mv (kk 21 (by decide) (by decide) (by omega)), top + C.length + 1, c2, by omega, fun i hi => ?_⟩ (by omega)
      · rw [F3.1 74 (by decide) (by decide) (by decide) (by decide), e2 74 (by decide), F1.1 74 (by decide)]; exact hrw
      · by_cases e : i = r
        · subst e
          show rlM i (if i = i then some f else s.2.2.2 i) (top + C.length + 1) D3
          rw [if_pos rfl]
          exact ⟨top, C, y22, c1, c3, Nat.le_refl _⟩
        · show rlM i (if i = r then some f else s.2.2.2 i) (top + C.length + 1) D3
          rw [if_neg e]
          exact (hrl i hi).mv (kk (22 + i) (by omega) (by omega) (by omega)) (fun j hj => by rw [F3.2.2.1 j hj, e2 75 (by decide), F1.1 75 (by decide)]) (by omega)
/-- one line -/
theorem m_line (hn : n ≤ 700) (hby : byB t) (hL : LnM t n s k D J) : Wp (EvM X (d + 6) 205 [.ref 70] (hS u D J)) (RW u (LiM t n D J k (pLine (kK t n) (vV t n) s k))) := by
  obtain ⟨hT, h9, h10, h20, hs, hrw, hst, top, h25, htop, hrl⟩ := id hL
  refine wp_eq (e205_0) (wp_iE (m_known (d := d + 3) hn hby hT) (wp_eq (e205_2 _) ?_))
  unfold pLine
  by_cases w0 : wdAt (kK t n) (vV t n) 0 k = true
  · rw [if_pos w0]
    have hk := wd_lt2 w0
    refine wp_f (fun z => z ((kn_ln 0 7 (Or.inl ⟨rfl, rfl⟩)).mpr w0)) ?_
    rw [h20]
    by_cases q : s.1 < 12
    · rw [if_pos q]
      refine wp_t (fun z => absurd (nI_inj (b := 12) (by omega) (by decide) z) (by omega)) ?_
      refine wp_cJ (m_beg0 (d := d + 3) hn hT h9 hk) (fun y D1 J1 h1 => ?_)
      obtain ⟨rfl, T1, F1⟩ := h1
      refine wp_eq (e205_16 _ _) (wp_f (by decide) ?_)
      refine wp_cW (m_204 (d := d) hn hby T1 ((F1.2.1 9 (by decide)).trans h9) ((F1.2.1 20 (by decide)).trans h20) q) (fun D2 J2 h2 => wp_eq (e205_19 _) ?_)
      obtain ⟨g1, g2⟩ := h2
      by_cases z : pNum (kK t n) (vV t n) 0 29 (k + 1) = 0
      · rw [if_pos z]
        obtain ⟨a1, a2, a3, a4, a5, a6, a7⟩ := g1 z
        have u1 := tk_up hk
        have u2 := tk_up a1
        have FL : FrN D1 J1 D2 J2 := ⟨fun q q1 q2 => a5 q q1 (by omega), fun i hi => a6 i (by omega) (by omega), a7⟩
        have kk : ∀ i, i < 13 ∨ 18 < i → i ≠ 20 → D2 70 i = D 70 i := fun i i1 i2 => (a6 i i1 i2).trans (F1.2.1 i i1)
        refine lnG hn (F1.l.tr FL) (s := (s.1 + 1, upd s.2.1 s.1 (vV t n (k + 1)), s.2.2)) ⟨a2, (kk 9 (by decide) (by decide)).trans h9, (kk 10 (by decide) (by decide)).trans h10, a3, by show s.1 + 1 ≤ 12; omega, ?_, hst.mv (kk 21 (by decide) (by decide)), top, (kk 25 (by decide) (by decide)).trans h25, by omega, fun r hr => (hrl r hr).mv (kk (22 + r) (by omega) (by omega)) (fun i _ => by rw [a5 75 (by decide) (by decide), F1.1 75 (by decide)]) (Nat.le_refl _)⟩ (by omega)
        rw [a4, F1.1 74 (by decide)]
        refine ⟨fun i hi => by rw [upd_ne (by omega), upd_ne (by omega), upd_ne (by omega)]; exact hrw.1 i hi, fun p hp => ?_⟩
        have hp : p < s.1 + 1 := hp
        dsimp only
        by_cases e : p = s.1
        · subst e
          exact ⟨by rw [upd_ne (by omega), upd_ne (by omega), upd_at, upd_at], by rw [upd_ne (by omega), upd_at], by rw [upd_at]⟩
        · obtain ⟨b1, b2, b3⟩ := hrw.2 p (by omega)
          exact ⟨by rw [upd_ne (by omega), upd_ne (by omega), upd_ne (by omega), upd_ne e]; exact b1, by rw [upd_ne (by omega), upd_ne (by omega), upd_ne (by omega)]; exact b2, by rw [upd_ne (by omega), upd_ne (by omega), upd_ne (by omega)]; exact b3⟩
      · rw [if_neg z]
        obtain ⟨a1, a2, a3⟩ := g2 z
        exact lnF (F1.l.tr a3) a1 z a2
    · rw [if_neg q]
      refine wp_f (fun z => z (show nI s.1 = 12 by rw [show s.1 = 12 by omega]; rfl)) ?_
      refine wp_iE (m_begX (d := d + 3) (Or.inl ⟨rfl, rfl, rfl⟩) hT h9) ?_
      refine wp_eq (e205_16 _ _) (wp_t rfl ?_)
      exact lnF (k' := k) FrN.w (by rw [ud_k (by decide), ud_at]) (by decide) (ud_at _ _ _ _)
  · rw [if_neg w0]
    refine wp_t (fun z => w0 ((kn_ln 0 7 (Or.inl ⟨rfl, rfl⟩)).mp z)) (wp_eq (e205_20 _) ?_)
    by_cases w1 : wdAt (kK t n) (vV t n) 1 k = true
    · rw [if_pos w1]
      have hk := wd_lt2 w1
      refine wp_f (fun z => z ((kn_ln 1 8 (Or.inr (Or.inl ⟨rfl, rfl⟩))).mpr w1)) ?_
      cases hs2 : s.2.2.1 with
      | some a =>
        rw [hs2] at hst
        obtain ⟨o1, o2, o3⟩ := hst
        dsimp only
        refine wp_f (by rw [o1]; exact nI_ne1 (by omega)) ?_
        refine wp_iE (m_begX (d := d + 3) (Or.inr ⟨rfl, rfl, rfl⟩) hT h9) ?_
        refine wp_eq (e205_33 _ _) (wp_t rfl ?_)
        exact lnF (k' := k) FrN.w (by rw [ud_k (by decide), ud_at]) (by decide) (ud_at _ _ _ _)
      | none =>
        rw [hs2] at hst
        have hst : D 70 21 = -1 := hst
        dsimp only
        refine wp_t hst ?_
        refine wp_cJ (m_beg0 (d := d + 3) hn hT h9 hk) (fun y D1 J1 h1 => ?_)
        obtain ⟨rfl, T1, F1⟩ := h1
        refine wp_eq (e205_33 _ _) (wp_f (by decide) ?_)
        refine wp_cJ (m_nbr (d := d + 3) hn hby (by decide) T1 ((F1.2.1 9 (by decide)).trans h9)) (fun v D2 J2 h2 => wp_eq (e205_39 _ _) (wp_eq (e205_40 _) ?_))
        obtain ⟨g1, g2⟩ := h2
        by_cases z : pNum (kK t n) (vV t n) 1 12 (k + 1) = 0
        · rw [if_pos z]
          obtain ⟨a1, a2, a3, a4, a5, a6⟩ := g1 z
          subst a1
          obtain ⟨a, b0, b1, b3, b2⟩ := nI_x (a := 1) (b := 12) (by decide) a3 (Int32.not_lt.mpr a4)
          have u1 := tk_up hk
          have u2 := tk_up a2
          rw [b2, nI_clamp b3]
          have kk : ∀ i, i < 13 ∨ 18 < i → i ≠ 21 → ud D2 70 21 (nI a) 70 i = D 70 i := fun i i1 i2 => by rw [ud_k i2]; exact (a6.2.1 i i1).trans (F1.2.1 i i1)
          have qq : ∀ q, q ≠ 70 → ud D2 70 21 (nI a) q = D q := fun q hq => by rw [ud_q hq, a6.1 q hq, F1.1 q hq]
          refine lnG hn ((F1.l.tr a6.l).tr (FrN.u (by decide) (by decide) (by decide) (by decide))) (s := (s.1, s.2.1, some a, s.2.2.2)) ⟨a5.fr (fun j j1 j2 => by rw [ud_k (by omega)]) (ud_q (by decide)) rfl, (kk 9 (by decide) (by decide)).trans h9, (kk 10 (by decide) (by decide)).trans h10, (kk 20 (by decide) (by decide)).trans h20, hs, by rw [qq 74 (by decide)]; exact hrw, ⟨ud_at _ _ _ _, b0, b1⟩, top, (kk 25 (by decide) (by decide)).trans h25, by omega, fun r hr => (hrl r hr).mv (kk (22 + r) (by omega) (by omega)) (fun i _ => by rw [qq 75 (by decide)]) (Nat.le_refl _)⟩ (by omega)
        · rw [if_neg z]
          obtain ⟨a1, a2⟩ := g2 z
          subst a2
          rw [a1]
          exact lnF ((F1.l.tr FrN.w).tr (FrN.u (by decide) (by decide) (by decide) (by decide))) (by rw [ud_k (by decide), ud_k (by decide), ud_at]) z (by rw [ud_k (by decide), ud_at])
    · rw [if_neg w1]
      refine wp_t (fun z => w1 ((kn_ln 1 8 (Or.inr (Or.inl ⟨rfl, rfl⟩))).mp z)) (wp_eq (e205_41 _) ?_)
      by_cases w2 : wdAt (kK t n) (vV t n) 2 k = true
      · rw [if_pos w2]
        refine wp_f (fun z => z ((kn_ln 2 9 (Or.inr (Or.inr (Or.inl ⟨rfl, rfl⟩)))).mpr w2)) ?_
        exact m_rule (r := 0) hn hby (by decide) (Or.inl ⟨rfl, rfl, rfl⟩) (fun D J y => e205_54 _ _) (fun D J => e205_59 _) (fun D J => e205_63 _) w2 hL
      · rw [if_neg w2]
        refine wp_t (fun z => w2 ((kn_ln 2 9 (Or.inr (Or.inr (Or.inl ⟨rfl, rfl⟩)))).mp z)) (wp_eq (e205_64 _) ?_)
        by_cases w3 : wdAt (kK t n) (vV t n) 3 k = true
        · rw [if_pos w3]
          refine wp_f (fun z => z ((kn_ln 3 10 (Or.inr (Or.inr (Or.inr (Or.inl ⟨rfl, rfl⟩))))).mpr w3)) ?_
          exact m_rule (r := 1) hn hby (by decide) (Or.inl ⟨rfl, rfl, rfl⟩) (fun D J y => e205_77 _ _) (fun D J => e205_82 _) (fun D J => e205_86 _) w3 hL
        · rw [if_neg w3]
          refine wp_t (fun z => w3 ((kn_ln 3 10 (Or.inr (Or.inr (Or.inr (Or.inl ⟨rfl, rfl⟩))))).mp z)) (wp_eq (e205_87 _) ?_)
          by_cases w4 : wdAt (kK t n) (vV t n) 4 k = true
          · rw [if_pos w4]
            refine wp_f (fun z => z ((kn_ln 4 11 (Or.inr (Or.inr (Or.inr (Or.inr ⟨rfl, rfl⟩))))).mpr w4)) ?_
            exact m_rule (r := 2) hn hby (by decide) (Or.inr ⟨rfl, rfl, rfl⟩) (fun D J y => e205_100 _ _) (fun D J => e205_105 _) (fun D J => e205_109 _) w4 hL
          · rw [if_neg w4]
            refine wp_t (fun z => w4 ((kn_ln 4 11 (Or.inr (Or.inr (Or.inr (Or.inr ⟨rfl, rfl⟩))))).mp z)) (wp_eq (e205_110 _) ?_)
            refine wp_vE (m_wrong hT h9 1) ?_
            exact lnF (k' := k) FrN.w (by rw [ud_k (by decide), ud_at]) (by decide) (ud_at _ _ _ _)
end MLINE
