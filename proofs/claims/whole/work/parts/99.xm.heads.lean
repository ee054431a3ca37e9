/-! ===== the reference's parser: the branches of its head ===== -/
theorem tk_up {t : Tx} {n k : Nat} (h : tkN t n k < n) : tkN t n k + 1 ≤ tkN t n (k + 1) := by
  have := tk_lt h
  omega
theorem tk_ge {t : Tx} {n : Nat} : ∀ k, tkN t n k < n → k ≤ tkN t n k
  | 0, _ => Nat.zero_le _
  | k + 1, h => by
    by_cases q : tkN t n k < n
    · have := tk_ge k q
      have := tk_up q
      omega
    · rw [tkN, if_neg q] at h; omega
theorem kK_far {t : Tx} {n k : Nat} (hn : n ≤ 700) (hk : 701 ≤ k) : kK t n k = 0 := by
  by_cases h : kK t n k = 0
  · exact h
  · have h1 := kz h
    have := tk_ge k h1
    omega
def sL : Nat → Int32
  | 0 => 1
  | 1 => 2
  | 2 => 3
  | 3 => 5
  | 4 => 6
  | _ => 7
def tfL : Nat → Nat → (Nat → Int32) → Nat → Int32
  | 0, dp, tf => upd tf dp 0
  | 1, dp, tf => upd tf dp 0
  | _, _, tf => tf
def En (X : XS) (d u : Nat) (fv lv : Int32) : Nat → DD → JJ → (Rs → Prop) → Prop
  | 0, D, J, Q => OPn X d u fv lv 1 D J Q
  | 1, D, J, Q => OPn X d u fv lv 1 D J Q
  | 2, D, J, Q => OPn X d u fv lv 1 D J Q
  | _, D, J, Q => PT X d u fv lv D J Q
def Nop (t : Tx) (n L k dp : Nat) (tf : Nat → Int32) : Prop := (L ≤ 4 → opAt (kK t n) (vV t n) 4 k = -1) ∧ (L ≤ 3 → opAt (kK t n) (vV t n) 3 k = -1) ∧ (L ≤ 2 → sgAt (kK t n) (vV t n) 60 k = true ∨ sgAt (kK t n) (vV t n) 61 k = true → tf dp ≠ 0) ∧ (L ≤ 1 → opAt (kK t n) (vV t n) 1 k = -1) ∧ (L = 0 → opAt (kK t n) (vV t n) 0 k = -1)
theorem wT_14 (s : Int32) (S : List Int32) : wT s (14 :: S) := fun x l e => Or.inl (by
  cases e
  decide)
section HEADS
variable {X : XS} {d u : Nat} {D D' : DD} {J J' : JJ} {t : Tx} {n top0 : Nat} {fv lv : Int32} {D0 : DD} {J0 : JJ} {k dp : Nat} {E S Z : List Int32} {tf : Nat → Int32} {Q : Rs → Prop} {K : Hp → Option Rs} {T : Nat → Hp → Option Rs}
theorem sg_x {c c' : Int32} (q : sgAt (kK t n) (vV t n) c k = true) (h : c ≠ c') : sgAt (kK t n) (vV t n) c' k = false := by
  obtain ⟨q1, q2⟩ := sgk q
  unfold sgAt
  rw [q2, decide_eq_false h, Bool.and_false]
theorem sg_w {c : Int32} (w : Int32) (q : sgAt (kK t n) (vV t n) c k = true) : wdAt (kK t n) (vV t n) w k = false := by
  obtain ⟨q1, q2⟩ := sgk q
  unfold wdAt
  rw [q1, decide_eq_false (by decide), Bool.false_and]
theorem sg_lt2 {c : Int32} (q : sgAt (kK t n) (vV t n) c k = true) : tkN t n k < n := kz (by rw [(sgk q).1]; decide)
theorem wd_lt2 {c : Int32} (q : wdAt (kK t n) (vV t n) c k = true) : tkN t n k < n := kz (by rw [(wdk q).1]; decide)
theorem Nop.all (h : Nop t n 0 k dp tf) : wdAt (kK t n) (vV t n) 5 k = false ∧ wdAt (kK t n) (vV t n) 6 k = false ∧ (sgAt (kK t n) (vV t n) 60 k = true ∨ sgAt (kK t n) (vV t n) 61 k = true → tf dp ≠ 0) ∧ (sgAt (kK t n) (vV t n) 43 k = false ∧ sgAt (kK t n) (vV t n) 45 k = false) ∧ sgAt (kK t n) (vV t n) 42 k = false ∧ sgAt (kK t n) (vV t n) 47 k = false := by
  obtain ⟨a4, a3, ac, a1, a0⟩ := h
  exact ⟨((op_n1 (by decide)).mp (a0 rfl)).1 rfl, ((op_n1 (by decide)).mp (a1 (by decide))).2.1 rfl, ac (by decide), ((op_n1 (by decide)).mp (a3 (by decide))).2.2.1 rfl, ((op_n1 (by decide)).mp (a4 (by decide))).2.2.2 rfl⟩
theorem Bd.op {c : Int32} (h : Bd t n top0 k E (Z ++ S)) (hk : tkN t n k < n) : Bd t n top0 (k + 1) (E ++ Z) (c :: S) := by
  have := tk_up hk
  unfold Bd at h ⊢
  simp only [List.length_append, List.length_cons] at h ⊢
  omega
theorem Bd.wt {c : Int32} (h : Bd t n top0 k E S) (hk : tkN t n k < n) : Bd t n top0 (k + 1) E (c :: S) := by
  have := tk_up hk
  unfold Bd at h ⊢
  simp only [List.length_cons] at h ⊢
  omega
theorem es_drops {s : Int32} (h : ES t n top0 fv lv D0 J0 k E (Z ++ S) dp tf D J) (hb : Bd t n top0 k E (Z ++ S)) (hn : n ≤ 700) (hz : ∀ z ∈ Z, z < 14 ∧ ¬ strN z < s) (hw : wT s S) (hk : ∀ D', ES t n top0 fv lv D0 J0 k (E ++ Z) S dp tf D' J → Wp (K (hS u D' J)) Q) : Wp (bV (EvM X (d + 1) 195 [.ref 70, .int s] (hS u D J)) K T) Q := by
  have b := hb.bn hn
  rw [List.length_append] at b
  exact wp_cV (m_drops Z E D h.2.2.1 hz hw (by omega) (by omega)) (fun D' h' => hk D' (h.cs h'.1 h'.2))
theorem es_wait {c : Int32} (h : ES t n top0 fv lv D0 J0 k E S dp tf D J) (hs : S.length < 950) (hk : ∀ D', ES t n top0 fv lv D0 J0 k E (c :: S) dp tf D' J → Wp (K (hS u D' J)) Q) : Wp (bV (EvM X d 196 [.ref 70, .int c] (hS u D J)) K T) Q :=
  wp_vE (m_wait h.2.2.1.2.1 hs c) (hk _ (h.cs (wait_cs h.2.2.1) wait_fr))
theorem es_puts {c : Int32} (h : ES t n top0 fv lv D0 J0 k E S dp tf D J) (hs : top0 + E.length < 1400) (hk : ∀ D', ES t n top0 fv lv D0 J0 k (E ++ [c]) S dp tf D' J → Wp (K (hS u D' J)) Q) : Wp (bV (EvM X d 192 [.ref 70, .int c] (hS u D J)) K T) Q :=
  wp_vE (m_puts h.2.2.1.1.1 hs c) (hk _ (h.cs (put_cs h.2.2.1) (put_fr (Nat.le_add_right _ _))))
theorem es_goes (hn : n ≤ 700) (h : ES t n top0 fv lv D0 J0 k E S dp tf D J) (hk : tkN t n k < n) (hK : ∀ D' J', ES t n top0 fv lv D0 J0 (k + 1) E S dp tf D' J' → Wp (K (hS u D' J')) Q) : Wp (bV (EvM X (d + 1) 183 [.ref 70] (hS u D J)) K T) Q :=
  wp_cW (m_nx hn h.1 hk) (fun D' J' h' => hK D' J' (h.nx h'.1 h'.2))
theorem op_call {nt x4 : Int32} {lab : Nat} (he : ∀ (D : DD) (J : JJ), Ev X (d + 5) 202 (lab, [.ref 70, .int fv, .int lv, .int 1, .int x4], [], hS u D J) = Ev X (d + 5) 202 (23, [.ref 70, .int fv, .int lv, .int 1, .int x4], [], hS u D J)) (h : OPn X d u fv lv nt D J Q) : Wp (bV (EvM X (d + 4) 199 [.ref 70, .int nt] (hS u D J)) (fun h => Ev X (d + 5) 202 (lab, [.ref 70, .int fv, .int lv, .int 1, .int x4], [], h)) T) Q := by
  have h1 : Wp (EvM X (d + 4) 199 [.ref 70, .int nt] (hS u D J)) (RW u (fun D' J' => Wp (HD X d u fv lv D' J') Q)) := wp_eq (e199_0 nt) (h nt)
  refine wp_cW h1 (fun D' J' h' => ?_)
  exact wp_eq (he D' J') (wp_weak (ls := [.ref 70, .int fv, .int lv, .int 1, .null]) ⟨Or.inl rfl, Or.inl rfl, Or.inl rfl, Or.inl rfl, Or.inr ⟨rfl, rfl⟩, trivial⟩ h')
/-- neither and nor or -/
theorem hd68 (hn : n ≤ 700) (hby : byB t) (h : ES t n top0 fv lv D0 J0 k E S dp tf D J) (h5 : wdAt (kK t n) (vV t n) 5 k = false) (h6 : wdAt (kK t n) (vV t n) 6 k = false) (hk : Wp (Ev X (d + 5) 202 (68, [.ref 70, .int fv, .int lv, .int 1, .int (knW t n k)], [.int (bI32 (sgAt (kK t n) (vV t n) 60 k))], hS u D J)) Q) : Wp (HD X d u fv lv D J) Q := by
  refine hd30 hn hby h ?_
  have n12 : ¬ knW t n k = 12 := fun z => by
    rw [(kn_wd 6 12 (Or.inl ⟨rfl, rfl⟩)).mp z] at h6; cases h6
  have n13 : ¬ knW t n k = 13 := fun z => by
    rw [(kn_wd 5 13 (Or.inr (Or.inl ⟨rfl, rfl⟩))).mp z] at h5; cases h5
  exact wp_eq (e202_30 _ _ _ _) (wp_f n12 (wp_t n13 (wp_iE (m_sg h.1 60) hk)))
theorem hd106 (hn : n ≤ 700) (hby : byB t) (h : ES t n top0 fv lv D0 J0 k E S dp tf D J) (hd : dp ≤ 6) (h5 : wdAt (kK t n) (vV t n) 5 k = false) (h6 : wdAt (kK t n) (vV t n) 6 k = false) (hc : sgAt (kK t n) (vV t n) 60 k = true ∨ sgAt (kK t n) (vV t n) 61 k = true → tf dp ≠ 0) (hk : Wp (Ev X (d + 5) 202 (106, [.ref 70, .int fv, .int lv, .int 1, .int (knW t n k)], [.int (bI32 (sgAt (kK t n) (vV t n) 43 k))], hS u D J)) Q) : Wp (HD X d u fv lv D J) Q := by
  obtain ⟨-, -, -, ⟨b1, b2, -, -, -⟩, -⟩ := id h
  refine hd68 hn hby h h5 h6 (wp_eq (e202_68 _ _ _ _ _) ?_)
  by_cases q : sgAt (kK t n) (vV t n) 60 k = true
  · rw [q]
    refine wp_t b1T ?_
    rw [b1, b2, nI_clamp (by omega)]
    exact oG (by omega) (by decide) (wp_t (hc (Or.inl q)) (wp_iE (m_sg h.1 43) hk))
  · rw [Bool.eq_false_iff.mpr q]
    refine wp_f (fun z => z b0F) (wp_iE (m_sg h.1 61) (wp_eq (e202_72 _ _ _ _ _) ?_))
    by_cases q1 : sgAt (kK t n) (vV t n) 61 k = true
    · rw [q1]
      refine wp_f b1T ?_
      rw [b1, b2, nI_clamp (by omega)]
      exact oG (by omega) (by decide) (wp_t (hc (Or.inr q1)) (wp_iE (m_sg h.1 43) hk))
    · rw [Bool.eq_false_iff.mpr q1]
      exact wp_t b0F (wp_iE (m_sg h.1 43) hk)
theorem hd132 (hn : n ≤ 700) (hby : byB t) (h : ES t n top0 fv lv D0 J0 k E S dp tf D J) (hd : dp ≤ 6) (h5 : wdAt (kK t n) (vV t n) 5 k = false) (h6 : wdAt (kK t n) (vV t n) 6 k = false) (hc : sgAt (kK t n) (vV t n) 60 k = true ∨ sgAt (kK t n) (vV t n) 61 k = true → tf dp ≠ 0) (h43 : sgAt (kK t n) (vV t n) 43 k = false) (h45 : sgAt (kK t n) (vV t n) 45 k = false) (hk : Wp (Ev X (d + 5) 202 (132, [.ref 70, .int fv, .int lv, .int 1, .int (knW t n k)], [.int (bI32 (sgAt (kK t n) (vV t n) 42 k))], hS u D J)) Q) : Wp (HD X d u fv lv D J) Q := by
  refine hd106 hn hby h hd h5 h6 hc ?_
  rw [h43]
  refine wp_eq (e202_106 _ _ _ _ _) (wp_f (fun z => z b0F) (wp_iE (m_sg h.1 45) ?_))
  rw [h45]
  exact wp_eq (e202_110 _ _ _ _ _) (wp_t b0F (wp_iE (m_sg h.1 42) hk))
theorem hd158 (hn : n ≤ 700) (hby : byB t) (h : ES t n top0 fv lv D0 J0 k E S dp tf D J) (hd : dp ≤ 6) (hno : Nop t n 0 k dp tf) (hk : Wp (Ev X (d + 5) 202 (158, [.ref 70, .int fv, .int lv, .int 1, .int (knW t n k)], [.int (bI32 (sgAt (kK t n) (vV t n) 41 k))], hS u D J)) Q) : Wp (HD X d u fv lv D J) Q := by
  obtain ⟨h5, h6, hc, ⟨h43, h45⟩, h42, h47⟩ := hno.all
  refine hd132 hn hby h hd h5 h6 hc h43 h45 ?_
  rw [h42]
  refine wp_eq (e202_132 _ _ _ _ _) (wp_f (fun z => z b0F) (wp_iE (m_sg h.1 47) ?_))
  rw [h47]
  exact wp_eq (e202_136 _ _ _ _ _) (wp_t b0F (wp_iE (m_sg h.1 41) hk))
/-- and, or -/
theorem hdAO {y s c : Int32} (hy : (y = 12 ∧ s = 2 ∧ c = 4) ∨ (y = 13 ∧ s = 1 ∧ c = 5)) (hn : n ≤ 700) (hby : byB t) (h : ES t n top0 fv lv D0 J0 k E (Z ++ S) dp tf D J) (hb : Bd t n top0 k E (Z ++ S)) (hd : dp ≤ 6) (hkn : knW t n k = y) (hk : tkN t n k < n) (hz : ∀ z ∈ Z, z < 14 ∧ ¬ strN z < s) (hw : wT s S) (hK : ∀ D' J', ES t n top0 fv lv D0 J0 (k + 1) (E ++ Z) (c :: S) dp (upd tf dp 0) D' J' → OPn X d u fv lv 1 D' J' Q) : Wp (HD X d u fv lv D J) Q := by
  have b := hb.bn hn
  rw [List.length_append] at b
  have tail : ∀ D1, ES t n top0 fv lv D0 J0 k (E ++ Z) (c :: S) dp tf D1 J → Wp (Ev X (d + 5) 202 (53, [.ref 70, .int fv, .int lv, .int 1, .int y], [], hS u D1 J)) Q := fun D1 h1 => by
    refine wp_eq (e202_53 _ _ _ _) ?_
    rw [h1.2.2.2.1.1, nI_clamp (by omega)]
    refine wp_gd (by rw [ob_n (show dp < 9 by omega) (by decide)]; decide) ?_
    refine es_goes (d := d + 3) hn h1.stf hk (fun D2 J2 h2 => ?_)
    exact wp_eq (e202_61 _ _ _ _) (op_call (fun D J => e202_64 _ _ _ _) (hK D2 J2 h2))
  refine hd30 hn hby h ?_
  rw [hkn]
  rcases hy with ⟨rfl, rfl, rfl⟩ | ⟨rfl, rfl, rfl⟩
  · refine wp_eq (e202_30 _ _ _ _) (wp_t rfl (wp_f (by decide) ?_))
    refine es_drops (d := d + 3) h hb hn hz hw (fun D1 h1 => ?_)
    refine wp_eq (e202_45 _ _ _ _) (wp_f (by decide) ?_)
    exact es_wait h1 (by omega) (fun D2 h2 => tail D2 h2)
  · refine wp_eq (e202_30 _ _ _ _) (wp_f (by decide) (wp_f (by decide) (wp_t (by decide) ?_)))
    refine es_drops (d := d + 3) h hb hn hz hw (fun D1 h1 => ?_)
    refine wp_eq (e202_45 _ _ _ _) (wp_t (by decide) ?_)
    exact es_wait h1 (by omega) (fun D2 h2 => tail D2 h2)
/-- plus, minus -/
theorem hdAd {c : Int32} (hc : (sgAt (kK t n) (vV t n) 43 k = true ∧ c = 8) ∨ (sgAt (kK t n) (vV t n) 43 k = false ∧ sgAt (kK t n) (vV t n) 45 k = true ∧ c = 9)) (hn : n ≤ 700) (hby : byB t) (h : ES t n top0 fv lv D0 J0 k E (Z ++ S) dp tf D J) (hb : Bd t n top0 k E (Z ++ S)) (hd : dp ≤ 6) (h5 : wdAt (kK t n) (vV t n) 5 k = false) (h6 : wdAt (kK t n) (vV t n) 6 k = false) (ht : sgAt (kK t n) (vV t n) 60 k = true ∨ sgAt (kK t n) (vV t n) 61 k = true → tf dp ≠ 0) (hk : tkN t n k < n) (hz : ∀ z ∈ Z, z < 14 ∧ ¬ strN z < 5) (hw : wT 5 S) (hK : ∀ D' J', ES t n top0 fv lv D0 J0 (k + 1) (E ++ Z) (c :: S) dp tf D' J' → OPn X d u fv lv 0 D' J' Q) : Wp (HD X d u fv lv D J) Q := by
  have b := hb.bn hn
  rw [List.length_append] at b
  have tail : ∀ D1, ES t n top0 fv lv D0 J0 k (E ++ Z) (c :: S) dp tf D1 J → Wp (Ev X (d + 5) 202 (123, [.ref 70, .int fv, .int lv, .int 1, .int (knW t n k)], [], hS u D1 J)) Q := fun D1 h1 => by
    refine wp_eq (e202_123 _ _ _ _) (es_goes (d := d + 3) hn h1 hk (fun D2 J2 h2 => ?_))
    exact wp_eq (e202_125 _ _ _ _) (op_call (fun D J => e202_128 _ _ _ _) (hK D2 J2 h2))
  have mid : ∀ D1, ES t n top0 fv lv D0 J0 k (E ++ Z) S dp tf D1 J → Wp (Ev X (d + 5) 202 (114, [.ref 70, .int fv, .int lv, .int 1, .int (knW t n k)], [], hS u D1 J)) Q := fun D1 h1 => by
    refine wp_eq (e202_114 _ _ _ _) (wp_iE (m_sg h1.1 43) (wp_eq (e202_118 _ _ _ _ _) ?_))
    rcases hc with ⟨q, rfl⟩ | ⟨q, -, rfl⟩
    · rw [q]; exact wp_f b1T (es_wait h1 (by omega) tail)
    · rw [q]; exact wp_t b0F (es_wait h1 (by omega) tail)
  refine hd106 hn hby h hd h5 h6 ht (wp_eq (e202_106 _ _ _ _ _) ?_)
  rcases hc with ⟨q, -⟩ | ⟨q, q2, -⟩
  · rw [q]; exact wp_t b1T (es_drops (d := d + 3) h hb hn hz hw mid)
  · rw [q]
    refine wp_f (fun z => z b0F) (wp_iE (m_sg h.1 45) (wp_eq (e202_110 _ _ _ _ _) ?_))
    rw [q2]; exact wp_f b1T (es_drops (d := d + 3) h hb hn hz hw mid)
/-- times, divided -/
theorem hdMu {c : Int32} (hc : (sgAt (kK t n) (vV t n) 42 k = true ∧ c = 10) ∨ (sgAt (kK t n) (vV t n) 42 k = false ∧ sgAt (kK t n) (vV t n) 47 k = true ∧ c = 11)) (hn : n ≤ 700) (hby : byB t) (h : ES t n top0 fv lv D0 J0 k E (Z ++ S) dp tf D J) (hb : Bd t n top0 k E (Z ++ S)) (hd : dp ≤ 6) (h5 : wdAt (kK t n) (vV t n) 5 k = false) (h6 : wdAt (kK t n) (vV t n) 6 k = false) (ht : sgAt (kK t n) (vV t n) 60 k = true ∨ sgAt (kK t n) (vV t n) 61 k = true → tf dp ≠ 0) (h43 : sgAt (kK t n) (vV t n) 43 k = false) (h45 : sgAt (kK t n) (vV t n) 45 k = false) (hk : tkN t n k < n) (hz : ∀ z ∈ Z, z < 14 ∧ ¬ strN z < 6) (hw : wT 6 S) (hK : ∀ D' J', ES t n top0 fv lv D0 J0 (k + 1) (E ++ Z) (c :: S) dp tf D' J' → OPn X d u fv lv 0 D' J' Q) : Wp (HD X d u fv lv D J) Q := by
  have b := hb.bn hn
  rw [List.length_append] at b
  have tail : ∀ D1, ES t n top0 fv lv D0 J0 k (E ++ Z) (c :: S) dp tf D1 J → Wp (Ev X (d + 5) 202 (149, [.ref 70, .int fv, .int lv, .int 1, .int (knW t n k)], [], hS u D1 J)) Q := fun D1 h1 => by
    refine wp_eq (e202_149 _ _ _ _) (es_goes (d := d + 3) hn h1 hk (fun D2 J2 h2 => ?_))
    exact wp_eq (e202_151 _ _ _ _) (op_call (fun D J => e202_154 _ _ _ _) (hK D2 J2 h2))
  have mid : ∀ D1, ES t n top0 fv lv D0 J0 k (E ++ Z) S dp tf D1 J → Wp (Ev X (d + 5) 202 (140, [.ref 70, .int fv, .int lv, .int 1, .int (knW t n k)], [], hS u D1 J)) Q := fun D1 h1 => by
    refine wp_eq (e202_140 _ _ _ _) (wp_iE (m_sg h1.1 42) (wp_eq (e202_144 _ _ _ _ _) ?_))
    rcases hc with ⟨q, rfl⟩ | ⟨q, -, rfl⟩
    · rw [q]; exact wp_f b1T (es_wait h1 (by omega) tail)
    · rw [q]; exact wp_t b0F (es_wait h1 (by omega) tail)
  refine hd132 hn hby h hd h5 h6 ht h43 h45 (wp_eq (e202_132 _ _ _ _ _) ?_)
  rcases hc with ⟨q, -⟩ | ⟨q, q2, -⟩
  · rw [q]; exact wp_t b1T (es_drops (d := d + 3) h hb hn hz hw mid)
  · rw [q]
    refine wp_f (fun z => z b0F) (wp_iE (m_sg h.1 47) (wp_eq (e202_136 _ _ _ _ _) ?_))
    rw [q2]; exact wp_f b1T (es_drops (d := d + 3) h hb hn hz hw mid)
/-- less, same -/
theorem hdCm {c : Int32} (hc : (sgAt (kK t n) (vV t n) 60 k = true ∧ c = 6) ∨ (sgAt (kK t n) (vV t n) 60 k = false ∧ sgAt (kK t n) (vV t n) 61 k = true ∧ c = 7)) (hn : n ≤ 700) (hby : byB t) (h : ES t n top0 fv lv D0 J0 k E (Z ++ S) dp tf D J) (hb : Bd t n top0 k E (Z ++ S)) (hd : dp ≤ 6) (h5 : wdAt (kK t n) (vV t n) 5 k = false) (h6 : wdAt (kK t n) (vV t n) 6 k = false) (hk : tkN t n k < n) (ht : tf dp = 0) (hz : ∀ z ∈ Z, z < 14 ∧ ¬ strN z < 4) (hw : wT 4 S) (hK : ∀ D' J', ES t n top0 fv lv D0 J0 (k + 1) (E ++ Z) (c :: S) dp (upd tf dp 1) D' J' → OPn X d u fv lv 0 D' J' Q) : Wp (HD X d u fv lv D J) Q := by
  have b := hb.bn hn
  rw [List.length_append] at b
  obtain ⟨-, -, -, ⟨b1, b2, -, -, -⟩, -⟩ := id h
  have tail : ∀ D1, ES t n top0 fv lv D0 J0 k (E ++ Z) (c :: S) dp tf D1 J → Wp (Ev X (d + 5) 202 (91, [.ref 70, .int fv, .int lv, .int 1, .int (knW t n k)], [], hS u D1 J)) Q := fun D1 h1 => by
    refine wp_eq (e202_91 _ _ _ _) ?_
    rw [h1.2.2.2.1.1, nI_clamp (by omega)]
    refine wp_gd (by rw [ob_n (show dp < 9 by omega) (by decide)]; decide) ?_
    refine es_goes (d := d + 3) hn h1.stf hk (fun D2 J2 h2 => ?_)
    exact wp_eq (e202_99 _ _ _ _) (op_call (fun D J => e202_102 _ _ _ _) (hK D2 J2 h2))
  have mid : ∀ D1, ES t n top0 fv lv D0 J0 k (E ++ Z) S dp tf D1 J → Wp (Ev X (d + 5) 202 (82, [.ref 70, .int fv, .int lv, .int 1, .int (knW t n k)], [], hS u D1 J)) Q := fun D1 h1 => by
    refine wp_eq (e202_82 _ _ _ _) (wp_iE (m_sg h1.1 60) (wp_eq (e202_86 _ _ _ _ _) ?_))
    rcases hc with ⟨q, rfl⟩ | ⟨q, -, rfl⟩
    · rw [q]; exact wp_f b1T (es_wait h1 (by omega) tail)
    · rw [q]; exact wp_t b0F (es_wait h1 (by omega) tail)
  refine hd68 hn hby h h5 h6 (wp_eq (e202_68 _ _ _ _ _) ?_)
  rcases hc with ⟨q, -⟩ | ⟨q, q2, -⟩
  · rw [q]
    refine wp_t b1T ?_
    rw [b1, b2, nI_clamp (by omega), ht]
    exact oG (by omega) (by decide) (wp_f (fun z => z rfl) (es_drops (d := d + 3) h hb hn hz hw mid))
  · rw [q]
    refine wp_f (fun z => z b0F) (wp_iE (m_sg h.1 61) (wp_eq (e202_72 _ _ _ _ _) ?_))
    rw [q2]
    refine wp_f b1T ?_
    rw [b1, b2, nI_clamp (by omega), ht]
    exact oG (by omega) (by decide) (wp_f (fun z => z rfl) (es_drops (d := d + 3) h hb hn hz hw mid))
theorem m_isO : ∀ S : List Int32, ArrL (D 76) 0 S.reverse → S.length ≤ 950 → Ev X (d + 1) 200 (5, [.ref 70, .int (nI S.length - 1)], [], hS u D J) = some (.inl (some (.int (bI32 (S.any (fun x => !(decide (x < 14))))))), hS u D J)
  | [], _, _ => by
    refine (e200_5 _).trans ?_
    have e : nI ([] : List Int32).length - 1 < 0 := by decide
    rw [brT e, brT e]; rfl
  | x :: l, h, hl => by
    refine (e200_5 _).trans ?_
    rw [List.length_cons] at hl ⊢
    rw [List.reverse_cons] at h
    have hx : D 76 l.length = x := by
      have := ArrL.mid (l2 := []) h
      rwa [Nat.zero_add, List.length_reverse] at this
    rw [nI_pred, brF (nI_pos (by omega)), gd_t (ob_n (by omega) (by decide)), nI_clamp (by omega), hx, m_193, bI_e, e200_12]
    by_cases q : x < 14
    · have e : nI l.length + (-1) = nI l.length - 1 := (Int32.sub_eq_add_neg _ _).symm
      rw [decide_eq_true q, brF (show ¬ ¬ bI32 (!true) = 0 from fun z => z rfl), e, m_isO l h.pre (by omega)]
      simp only [List.any_cons, decide_eq_true q, Bool.not_true, Bool.false_or]
    · rw [decide_eq_false q, brT (show ¬ bI32 (!false) = 0 from b1T), brF (nI_pos (by omega))]
      simp only [List.any_cons, decide_eq_false q, Bool.not_false, Bool.true_or]
      rfl
theorem m_200 (h : Cs top0 E S D) (hl : S.length ≤ 950) : EvM X (d + 1) 200 [.ref 70] (hS u D J) = some (.inl (some (.int (bI32 (S.any (fun x => !(decide (x < 14))))))), hS u D J) := by
  refine (e200_0).trans ?_
  rw [h.2.1]
  exact m_isO S h.2.2 hl
/-- a parenthesis is closed -/
theorem hdCl (hn : n ≤ 700) (hby : byB t) (h : ES t n top0 fv lv D0 J0 k E (Z ++ 14 :: S) (dp + 1) tf D J) (hb : Bd t n top0 k E (Z ++ 14 :: S)) (hd : dp + 1 ≤ 6) (hno : Nop t n 0 k (dp + 1) tf) (q : sgAt (kK t n) (vV t n) 41 k = true) (hz : ∀ z ∈ Z, z < 14) (hK : ∀ D' J', ES t n top0 fv lv D0 J0 (k + 1) (E ++ Z) S dp tf D' J' → Wp (HD X d u fv lv D' J') Q) : Wp (HD X d u fv lv D J) Q := by
  have b := hb.bn hn
  refine hd158 hn hby h hd hno ?_
  rw [q]
  refine wp_eq (e202_158 _ _ _ _ _) (wp_f b1T ?_)
  have ea : (Z ++ 14 :: S).any (fun x => !(decide (x < 14))) = true := List.any_eq_true.mpr ⟨14, by simp, by decide⟩
  refine wp_iE (m_200 (d := d + 3) h.2.2.1 (by omega)) ?_
  rw [ea]
  refine wp_eq (e202_161 _ _ _ _ _) (wp_f b1T ?_)
  have c201 : Wp (EvM X (d + 4) 201 [.ref 70] (hS u D J)) (RW u (fun D' J' => ES t n top0 fv lv D0 J0 (k + 1) (E ++ Z) S dp tf D' J')) := by
    refine wp_eq (e201_0) ?_
    refine es_drops (d := d + 2) h hb hn (fun z hz' => ⟨hz z hz', strN_0 z⟩) (wT_14 0 S) (fun D1 h1 => ?_)
    refine wp_eq (e201_3) ?_
    have p := pop_cs h1.2.2.1
    rw [h1.2.2.1.2.1, List.length_cons, nI_pred, ud_k (by decide), h1.2.2.2.1.1, nI_pred]
    have h2 := (h1.cs p.1 pop_fr).sdp (e := dp)
    exact es_goes (d := d + 2) hn h2 (sg_lt2 q) (fun D2 J2 h3 => wp_eq (e201_17) (wp_rW h3))
  refine wp_cW c201 (fun D2 J2 h2 => ?_)
  exact wp_eq (e202_164 _ _ _ _) (wp_weak (ls := [.ref 70, .int fv, .int lv, .int 1, .null]) ⟨Or.inl rfl, Or.inl rfl, Or.inl rfl, Or.inl rfl, Or.inr ⟨rfl, rfl⟩, trivial⟩ (hK D2 J2 h2))
/-- the expression's end -/
theorem hdEn (hn : n ≤ 700) (hby : byB t) (h : ES t n top0 fv lv D0 J0 k E S dp tf D J) (hb : Bd t n top0 k E S) (hd : dp ≤ 6) (hno : Nop t n 0 k dp tf) (hcl : sgAt (kK t n) (vV t n) 41 k = false ∨ ∀ z ∈ S, z < 14) (hK : Wp (bI (EvM X (d + 4) 188 [.ref 70] (hS u D J)) (fun y h => Ev X (d + 5) 202 (170, [.ref 70, .int fv, .int lv, .int 0, .null], [.int y], h)) (fun e h => some (.inr e, h))) Q) : Wp (HD X d u fv lv D J) Q := by
  have b := hb.bn hn
  have fin : Wp (Ev X (d + 5) 202 (23, [.ref 70, .int fv, .int lv, .int 0, .int (knW t n k)], [], hS u D J)) Q := wp_weak (ls := [.ref 70, .int fv, .int lv, .int 0, .null]) ⟨Or.inl rfl, Or.inl rfl, Or.inl rfl, Or.inl rfl, Or.inr ⟨rfl, rfl⟩, trivial⟩ (wp_eq (e202_23 _ _ _) (wp_t rfl hK))
  refine hd158 hn hby h hd hno (wp_eq (e202_158 _ _ _ _ _) ?_)
  by_cases q : sgAt (kK t n) (vV t n) 41 k = true
  · rw [q]
    refine wp_f b1T ?_
    have hS' : ∀ z ∈ S, z < 14 := by
      rcases hcl with z | z
      · rw [q] at z; cases z
      · exact z
    have ea : S.any (fun x => !(decide (x < 14))) = false := List.any_eq_false.mpr (fun x hx => by rw [decide_eq_true (hS' x hx)]; decide)
    refine wp_iE (m_200 (d := d + 3) h.2.2.1 (by omega)) ?_
    rw [ea]
    exact wp_eq (e202_161 _ _ _ _ _) (wp_t b0F fin)
  · rw [Bool.eq_false_iff.mpr q]; exact wp_t b0F fin
/-- a parenthesis is not closed -/
theorem hdX (hn : n ≤ 700) (hby : byB t) (h : ES t n top0 fv lv D0 J0 k E S dp tf D J) (hb : Bd t n top0 k E S) (hd : dp ≤ 6) (hd2 : 2 ≤ dp) (hno : Nop t n 0 k dp tf) (hcl : sgAt (kK t n) (vV t n) 41 k = false) (hF : FCn X d u t n top0 fv lv D0 J0 1 k Q) : Wp (HD X d u fv lv D J) Q := by
  refine hdEn hn hby h hb hd hno (Or.inl hcl) (wp_iE (m_good1 h.2.1) (wp_eq (e202_170 _ _ _ _) (wp_f (by decide) ?_)))
  rw [h.2.2.2.1.1]
  refine wp_f (nI_ge (a := 1) (by omega) (by omega)) ?_
  exact wp_vE (m_wrong h.1 h.2.1 1) (hF 0 _ _ (h.wr hb hn (by decide)))
/-- an operator of a level -/
theorem hdOp {L : Nat} (hL : L = 0 ∨ L = 1 ∨ L = 3 ∨ L = 4) (hn : n ≤ 700) (hby : byB t) (h : ES t n top0 fv lv D0 J0 k E (Z ++ S) dp tf D J) (hb : Bd t n top0 k E (Z ++ S)) (hd : dp ≤ 6) (hz : ∀ z ∈ Z, z < 14 ∧ ¬ strN z < sL L) (hw : wT (sL L) S) (ho : opAt (kK t n) (vV t n) L k ≠ -1) (hK : ∀ D' J', ES t n top0 fv lv D0 J0 (k + 1) (E ++ Z) (cO (opAt (kK t n) (vV t n) L k) :: S) dp (tfL L dp tf) D' J' → Bd t n top0 (k + 1) (E ++ Z) (cO (opAt (kK t n) (vV t n) L k) :: S) → En X d u fv lv (L + 1) D' J' Q) : Wp (HD X d u fv lv D J) Q := by
  rcases hL with rfl | rfl | rfl | rfl
  · by_cases q : wdAt (kK t n) (vV t n) 5 k = true
    · have eo : opAt (kK t n) (vV t n) 0 k = 0 := by unfold opAt; rw [if_pos rfl, if_pos q]
      rw [eo] at hK
      exact hdAO (Or.inr ⟨rfl, rfl, rfl⟩) hn hby h hb hd ((kn_wd 5 13 (Or.inr (Or.inl ⟨rfl, rfl⟩))).mpr q) (wd_lt2 q) hz hw (fun D' J' h' => hK D' J' h' (hb.op (wd_lt2 q)))
    · exact absurd (by unfold opAt; rw [if_pos rfl, if_neg q]) ho
  · by_cases q : wdAt (kK t n) (vV t n) 6 k = true
    · have eo : opAt (kK t n) (vV t n) 1 k = 1 := by unfold opAt; rw [if_neg (by decide), if_pos rfl, if_pos q]
      rw [eo] at hK
      exact hdAO (Or.inl ⟨rfl, rfl, rfl⟩) hn hby h hb hd ((kn_wd 6 12 (Or.inl ⟨rfl, rfl⟩)).mpr q) (wd_lt2 q) hz hw (fun D' J' h' => hK D' J' h' (hb.op (wd_lt2 q)))
    · exact absurd (by unfold opAt; rw [if_neg (by decide), if_pos rfl, if_neg q]) ho
  · by_cases q : sgAt (kK t n) (vV t n) 43 k = true
    · have eo : opAt (kK t n) (vV t n) 3 k = 5 := by unfold opAt; rw [if_neg (by decide), if_neg (by decide), if_pos rfl, if_pos q]
      rw [eo] at hK
      exact hdAd (Or.inl ⟨q, rfl⟩) hn hby h hb hd (sg_w 5 q) (sg_w 6 q) (fun z => by rw [sg_x q (by decide), sg_x q (by decide)] at z; rcases z with z | z <;> cases z) (sg_lt2 q) hz hw (fun D' J' h' => op0 h'.2.1 (hK D' J' h' (hb.op (sg_lt2 q))))
    · by_cases q1 : sgAt (kK t n) (vV t n) 45 k = true
      · have eo : opAt (kK t n) (vV t n) 3 k = 6 := by unfold opAt; rw [if_neg (by decide), if_neg (by decide), if_pos rfl, if_neg q, if_pos q1]
        rw [eo] at hK
        exact hdAd (Or.inr ⟨Bool.eq_false_iff.mpr q, q1, rfl⟩) hn hby h hb hd (sg_w 5 q1) (sg_w 6 q1) (fun z => by rw [sg_x q1 (by decide), sg_x q1 (by decide)] at z; rcases z with z | z <;> cases z) (sg_lt2 q1) hz hw (fun D' J' h' => op0 h'.2.1 (hK D' J' h' (hb.op (sg_lt2 q1))))
      · exact absurd (by unfold opAt; rw [if_neg (by decide), if_neg (by decide), if_pos rfl, if_neg q, if_neg q1]) ho
  · by_cases q : sgAt (kK t n) (vV t n) 42 k = true
    · have eo : opAt (kK t n) (vV t n) 4 k = 7 := by unfold opAt; rw [if_neg (by decide), if_neg (by decide), if_neg (by decide), if_pos q]
      rw [eo] at hK
      exact hdMu (Or.inl ⟨q, rfl⟩) hn hby h hb hd (sg_w 5 q) (sg_w 6 q) (fun z => by rw [sg_x q (by decide), sg_x q (by decide)] at z; rcases z with z | z <;> cases z) (sg_x q (by decide)) (sg_x q (by decide)) (sg_lt2 q) hz hw (fun D' J' h' => op0 h'.2.1 (hK D' J' h' (hb.op (sg_lt2 q))))
    · by_cases q1 : sgAt (kK t n) (vV t n) 47 k = true
      · have eo : opAt (kK t n) (vV t n) 4 k = 8 := by unfold opAt; rw [if_neg (by decide), if_neg (by decide), if_neg (by decide), if_neg q, if_pos q1]
        rw [eo] at hK
        exact hdMu (Or.inr ⟨Bool.eq_false_iff.mpr q, q1, rfl⟩) hn hby h hb hd (sg_w 5 q1) (sg_w 6 q1) (fun z => by rw [sg_x q1 (by decide), sg_x q1 (by decide)] at z; rcases z with z | z <;> cases z) (sg_x q1 (by decide)) (sg_x q1 (by decide)) (sg_lt2 q1) hz hw (fun D' J' h' => op0 h'.2.1 (hK D' J' h' (hb.op (sg_lt2 q1))))
      · exact absurd (by unfold opAt; rw [if_neg (by decide), if_neg (by decide), if_neg (by decide), if_neg q, if_neg q1]) ho
end HEADS
