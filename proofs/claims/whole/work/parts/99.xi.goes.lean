/-! ===== the reference goes to the next token ===== -/
def RW (u : Nat) (Q : DD → JJ → Prop) : Rs → Prop := fun y => ∃ (D' : DD) (J' : JJ), y = (.inl none, hS u D' J') ∧ Q D' J'
theorem wp_rW {u : Nat} {D : DD} {J : JJ} {Q : DD → JJ → Prop} (h : Q D J) : Wp (some (.inl none, hS u D J)) (RW u Q) := ⟨_, rfl, D, J, rfl, h⟩
theorem wp_cW {r : Option Rs} {u : Nat} {P : DD → JJ → Prop} {k : Hp → Option Rs} {s : Nat → Hp → Option Rs} {Q : Rs → Prop} (h : Wp r (RW u P)) (hk : ∀ D' J', P D' J' → Wp (k (hS u D' J')) Q) : Wp (bV r k s) Q := by
  obtain ⟨y, h1, D', J', h2, h3⟩ := h
  rw [h1, h2]
  exact hk D' J' h3
def neN (t : Tx) (n p : Nat) : Nat := if p < n then enN t n p else p
def byT (t : Tx) (n i : Nat) : Int32 := if i < n then t i else 0
def Bt (t : Tx) (n : Nat) (D : DD) : Prop := D 70 12 = nI n ∧ ∀ i, i < n → D 72 i = t i
def TkP (t : Tx) (n p : Nat) (D : DD) (J : JJ) : Prop := Bt t n D ∧ D 70 13 = nI (neN t n p) ∧ D 70 14 = nI (kdN t n p) ∧ D 70 15 = nI p ∧ D 70 16 = nI (neN t n p - p) ∧ (kdN t n p = 2 → neN t n p - p ≤ 4 → D 70 17 = dgT t (neN t n p - p) p 0) ∧ (kdN t n p = 3 → D 70 18 = t p) ∧ (kdN t n p = 1 → neN t n p - p ≤ 7 → J 70 19 = pkL (ltL t (neN t n p - p) p))
def FrK (D : DD) (J : JJ) (D' : DD) (J' : JJ) : Prop := (∀ q, q ≠ 70 → D' q = D q) ∧ (∀ k, k < 13 ∨ 18 < k → D' 70 k = D 70 k) ∧ ∀ q, q ≠ 70 → J' q = J q
theorem FrK.rf (D : DD) (J : JJ) : FrK D J D J := ⟨fun _ _ => rfl, fun _ _ => rfl, fun _ _ => rfl⟩
theorem FrK.tr {A B C : DD} {J J1 J2 : JJ} (h : FrK A J B J1) (h1 : FrK B J1 C J2) : FrK A J C J2 := ⟨fun q a => (h1.1 q a).trans (h.1 q a), fun k a => (h1.2.1 k a).trans (h.2.1 k a), fun q a => (h1.2.2 q a).trans (h.2.2 q a)⟩
theorem FrK.ud {D : DD} {J : JJ} {k : Nat} {v : Int32} (h1 : 13 ≤ k) (h2 : k ≤ 18) : FrK D J (ud D 70 k v) J := ⟨fun q a => ud_q a, fun j a => ud_k (by omega), fun _ _ => rfl⟩
theorem uj_q {J : JJ} {q k a : Nat} {v : Int64} (h : a ≠ q) : uj J q k v a = J a := by
  funext i
  unfold uj
  rw [if_neg (fun z => h z.1)]
theorem FrK.uj {D : DD} {J : JJ} {v : Int64} : FrK D J D (uj J 70 19 v) := ⟨fun _ _ => rfl, fun _ _ => rfl, fun q a => uj_q a⟩
theorem Bt.fr {t : Tx} {n : Nat} {D D' : DD} {J J' : JJ} (h : Bt t n D) (hf : FrK D J D' J') : Bt t n D' := ⟨(hf.2.1 12 (by decide)).trans h.1, fun i hi => by rw [hf.1 72 (by decide)]; exact h.2 i hi⟩
theorem ltL_s (t : Tx) : ∀ k p, ltL t (k + 1) p = ltL t k p ++ [t (p + k)]
  | 0, p => rfl
  | k + 1, p => by
    rw [ltL, ltL_s t k (p + 1), ltL]
    show t p :: (ltL t k (p + 1) ++ [t (p + 1 + k)]) = t p :: ltL t k (p + 1) ++ [t (p + (k + 1))]
    rw [show p + 1 + k = p + (k + 1) by omega]; rfl
theorem dgT_s (t : Tx) : ∀ k p x, dgT t (k + 1) p x = dgT t k p x * 10 + t (p + k) - 48
  | 0, p, x => rfl
  | k + 1, p, x => by
    rw [dgT, dgT_s t k (p + 1), dgT, show p + 1 + k = p + (k + 1) by omega]
theorem run_self {P : Int32 → Bool} {t : Tx} {n p : Nat} (h : p < n) (hP : P (t p) = true) : runT P t (n - p) p = runT P t (n - (p + 1)) (p + 1) := by
  obtain ⟨r, hr⟩ : ∃ r, n - p = r + 1 := ⟨n - p - 1, by omega⟩
  rw [hr, runT, if_pos hP, show n - (p + 1) = r by omega]
section GOES
variable {X : XS} {d u : Nat} {D D0 : DD} {J J0 : JJ} {t : Tx} {n p : Nat} {Q : Rs → Prop}
theorem m_180 {i : Nat} (hn : n ≤ 700) (hb : Bt t n D) (hi : i ≤ 700) : EvM X d 180 [.ref 70, .int (nI i)] (hS u D J) = some (.inl (some (.int (byT t n i))), hS u D J) := by
  refine (e180_0 _).trans ?_
  rw [hb.1]
  unfold byT
  by_cases h : i < n
  · rw [brF (nI_ge h (by omega)), gd_t (ob_n (by omega) (by decide)), nI_clamp (by omega), hb.2 i h, if_pos h]
  · rw [brT (nI_le (by omega) (by omega)), if_neg h]
theorem m_181 (x : Int32) : EvM X d 181 [.int x] (hS u D J) = some (.inl (some (.int (bI32 (isLe x)))), hS u D J) := by
  refine (e181_0 x).trans ?_
  by_cases h1 : x < 97
  · rw [brT h1]; unfold isLe; rw [decide_eq_true h1]; rfl
  · rw [brF h1]
    by_cases h2 : 122 < x
    · rw [brT h2]; unfold isLe; rw [decide_eq_true h2, decide_eq_false h1]; rfl
    · rw [brF h2]; unfold isLe; rw [decide_eq_false h2, decide_eq_false h1]; rfl
theorem m_182 (x : Int32) : EvM X d 182 [.int x] (hS u D J) = some (.inl (some (.int (bI32 (isDi x)))), hS u D J) := by
  refine (e182_0 x).trans ?_
  by_cases h1 : x < 48
  · rw [brT h1]; unfold isDi; rw [decide_eq_true h1]; rfl
  · rw [brF h1]
    by_cases h2 : 57 < x
    · rw [brT h2]; unfold isDi; rw [decide_eq_true h2, decide_eq_false h1]; rfl
    · rw [brF h2]; unfold isDi; rw [decide_eq_false h2, decide_eq_false h1]; rfl
theorem m_sk (hn : n ≤ 700) : ∀ (f i : Nat) (D : DD), i + f = n → Bt t n D → D 70 13 = nI i → FrK D0 J0 D J → (∀ D1 : DD, Bt t n D1 → D1 70 13 = nI (runT isBl t f i) → FrK D0 J0 D1 J → Wp (Ev X (d + 1) 183 (24, [.ref 70, .null], [], hS u D1 J)) Q) → Wp (Ev X (d + 1) 183 (0, [.ref 70, .null], [], hS u D J)) Q
  | 0, i, D, hi, hb, h13, hF, k => by
    refine wp_eq (e183_0) ?_
    rw [hb.1, h13]
    exact wp_t (nI_le (by omega) (by omega)) (k D hb h13 hF)
  | f + 1, i, D, hi, hb, h13, hF, k => by
    have hlt : i < n := by omega
    have eb : byT t n i = t i := if_pos hlt
    have more : isBl (t i) = true → Wp (Ev X (d + 1) 183 (17, [.ref 70, .null], [], hS u D J)) Q := fun z => by
      refine wp_eq (e183_17) (wp_eq (e183_23) ?_)
      rw [h13, nI_1]
      refine m_sk hn f (i + 1) _ (by omega) (hb.fr (J := J) (J' := J) (FrK.ud (by decide) (by decide))) (ud_at _ _ _ _) (hF.tr (FrK.ud (by decide) (by decide))) (fun D1 a1 a2 a3 => k D1 a1 ?_ a3)
      rw [a2, runT, if_pos z]
    refine wp_eq (e183_0) ?_
    rw [hb.1, h13]
    refine wp_f (nI_ge hlt (by omega)) ?_
    refine wp_iE (m_180 hn hb (by omega)) ?_
    rw [eb]
    refine wp_eq (e183_9 _) ?_
    rw [h13]
    refine wp_if (fun z => more (by unfold isBl; rw [decide_eq_true z]; rfl)) (fun z1 => ?_)
    refine wp_iE (m_180 hn hb (by omega)) ?_
    rw [eb]
    refine wp_eq (e183_15 _) ?_
    refine wp_if (fun z2 => ?_) (fun z2 => more (by unfold isBl; rw [decide_eq_true (Classical.not_not.mp z2), Bool.or_true]))
    refine k D hb ?_ hF
    have hk : isBl (t i) = false := by unfold isBl; rw [decide_eq_false z1, decide_eq_false z2]; rfl
    rw [runT, if_neg (by rw [hk]; exact Bool.false_ne_true)]; exact h13
def Gp (t : Tx) (n p j : Nat) (D0 : DD) (J0 : JJ) (D : DD) (J : JJ) : Prop := Bt t n D ∧ FrK D0 J0 D J ∧ D 70 15 = nI p ∧ D 70 13 = nI j
theorem Gp.nx {j : Nat} (h : Gp t n p j D0 J0 D J) : Gp t n p (j + 1) D0 J0 (ud D 70 13 (nI (j + 1))) J := ⟨h.1.fr (J := J) (J' := J) (FrK.ud (by decide) (by decide)), h.2.1.tr (FrK.ud (by decide) (by decide)), by rw [ud_k (by decide)]; exact h.2.2.1, ud_at _ _ _ _⟩
theorem Gp.ug {j k : Nat} {v : Int32} (h : Gp t n p j D0 J0 D J) (h1 : k = 14 ∨ k = 16 ∨ k = 17 ∨ k = 18) : Gp t n p j D0 J0 (ud D 70 k v) J := ⟨h.1.fr (J := J) (J' := J) (FrK.ud (by omega) (by omega)), h.2.1.tr (FrK.ud (by omega) (by omega)), by rw [ud_k (by omega)]; exact h.2.2.1, by rw [ud_k (by omega)]; exact h.2.2.2⟩
theorem Gp.jg {j : Nat} {v : Int64} (h : Gp t n p j D0 J0 D J) : Gp t n p j D0 J0 D (uj J 70 19 v) := ⟨h.1, h.2.1.tr FrK.uj, h.2.2⟩
theorem m_lets {x1 : Int32} (hn : n ≤ 700) : ∀ (f j : Nat) (D : DD) (J : JJ), j + f = n → p ≤ j → Gp t n p j D0 J0 D J → J 70 19 = pkL (ltL t (min (j - p) 7) p) → (∀ D1 J1, Gp t n p (runT isLe t f j) D0 J0 D1 J1 → J1 70 19 = pkL (ltL t (min (runT isLe t f j - p) 7) p) → Wp (Ev X (d + 1) 183 (88, [.ref 70, .int x1], [], hS u D1 J1)) Q) → Wp (Ev X (d + 1) 183 (54, [.ref 70, .int x1], [], hS u D J)) Q
  | 0, j, D, J, hj, hp, hG, h19, k => by
    refine wp_eq (e183_54 _) ?_
    rw [hG.2.2.2]
    refine wp_iE (m_180 hn hG.1 (by omega)) ?_
    refine wp_eq (e183_58 _ _) ?_
    refine wp_iE (m_181 _) ?_
    rw [show byT t n j = 0 from if_neg (by omega), show isLe 0 = false by decide]
    exact wp_eq (e183_59 _ _) (wp_t b0F (k D J hG h19))
  | f + 1, j, D, J, hj, hp, hG, h19, k => by
    have hlt : j < n := by omega
    have eb : byT t n j = t j := if_pos hlt
    refine wp_eq (e183_54 _) ?_
    rw [hG.2.2.2]
    refine wp_iE (m_180 hn hG.1 (by omega)) ?_
    rw [eb]
    refine wp_eq (e183_58 _ _) ?_
    refine wp_iE (m_181 _) ?_
    refine wp_eq (e183_59 _ _) ?_
    by_cases q : isLe (t j) = true
    · rw [q]
      refine wp_f b1T ?_
      rw [hG.2.2.2, hG.2.2.1, nI_sub hp]
      have rr : runT isLe t (f + 1) j = runT isLe t f (j + 1) := by rw [runT, if_pos q]
      rw [rr] at k
      have fin : ∀ J1 : JJ, Gp t n p j D0 J0 D J1 → J1 70 19 = pkL (ltL t (min (j + 1 - p) 7) p) → Wp (Ev X (d + 1) 183 (81, [.ref 70, .int x1], [], hS u D J1)) Q := fun J1 g1 g2 => by
        refine wp_eq (e183_81 _) (wp_eq (e183_87 _) ?_)
        rw [hG.2.2.2, nI_1]
        exact m_lets hn f (j + 1) _ J1 (by omega) (by omega) g1.nx g2 k
      by_cases z : j - p < 7
      · refine wp_f (nI_ge (b := 7) z (by decide)) ?_
        refine wp_iE (m_180 hn hG.1 (by omega)) ?_
        rw [eb]
        refine wp_eq (e183_76 _ _ _) ?_
        refine fin _ hG.jg ?_
        rw [uj_at, h19, show min (j - p) 7 = j - p by omega, show min (j + 1 - p) 7 = (j - p) + 1 by omega, ltL_s, pkL_s, show p + (j - p) = j by omega]
      · refine wp_t (nI_le (a := 7) (by omega) (by omega)) ?_
        refine fin J hG ?_
        rw [h19, show min (j - p) 7 = 7 by omega, show min (j + 1 - p) 7 = 7 by omega]
    · have hq := Bool.eq_false_iff.mpr q
      rw [hq]
      refine wp_t b0F (k D J ?_ ?_)
      · rw [runT, if_neg q]; exact hG
      · rw [runT, if_neg q]; exact h19
theorem m_digs {x1 : Int32} (hn : n ≤ 700) : ∀ (f j : Nat) (D : DD), j + f = n → p ≤ j → Gp t n p j D0 J0 D J → D 70 17 = dgT t (min (j - p) 4) p 0 → (∀ D1, Gp t n p (runT isDi t f j) D0 J0 D1 J → D1 70 17 = dgT t (min (runT isDi t f j - p) 4) p 0 → Wp (Ev X (d + 1) 183 (128, [.ref 70, .int x1], [], hS u D1 J)) Q) → Wp (Ev X (d + 1) 183 (95, [.ref 70, .int x1], [], hS u D J)) Q
  | 0, j, D, hj, hp, hG, h17, k => by
    refine wp_eq (e183_95 _) ?_
    rw [hG.2.2.2]
    refine wp_iE (m_180 hn hG.1 (by omega)) ?_
    refine wp_eq (e183_99 _ _) ?_
    refine wp_iE (m_182 _) ?_
    rw [show byT t n j = 0 from if_neg (by omega), show isDi 0 = false by decide]
    exact wp_eq (e183_100 _ _) (wp_t b0F (k D hG h17))
  | f + 1, j, D, hj, hp, hG, h17, k => by
    have hlt : j < n := by omega
    have eb : byT t n j = t j := if_pos hlt
    refine wp_eq (e183_95 _) ?_
    rw [hG.2.2.2]
    refine wp_iE (m_180 hn hG.1 (by omega)) ?_
    rw [eb]
    refine wp_eq (e183_99 _ _) ?_
    refine wp_iE (m_182 _) ?_
    refine wp_eq (e183_100 _ _) ?_
    by_cases q : isDi (t j) = true
    · rw [q]
      refine wp_f b1T ?_
      rw [hG.2.2.2, hG.2.2.1, nI_sub hp]
      have rr : runT isDi t (f + 1) j = runT isDi t f (j + 1) := by rw [runT, if_pos q]
      rw [rr] at k
      have fin : ∀ D1 : DD, Gp t n p j D0 J0 D1 J → D1 70 17 = dgT t (min (j + 1 - p) 4) p 0 → Wp (Ev X (d + 1) 183 (121, [.ref 70, .int x1], [], hS u D1 J)) Q := fun D1 g1 g2 => by
        refine wp_eq (e183_121 _) (wp_eq (e183_127 _) ?_)
        rw [g1.2.2.2, nI_1]
        exact m_digs hn f (j + 1) _ (by omega) (by omega) g1.nx (by rw [ud_k (by decide)]; exact g2) k
      by_cases z : j - p < 4
      · refine wp_f (nI_ge (b := 4) z (by decide)) ?_
        refine wp_iE (m_180 hn hG.1 (by omega)) ?_
        rw [eb]
        refine wp_eq (e183_117 _ _ _) ?_
        refine fin _ (hG.ug (by decide)) ?_
        rw [ud_at, h17, show min (j - p) 4 = j - p by omega, show min (j + 1 - p) 4 = (j - p) + 1 by omega, dgT_s, show p + (j - p) = j by omega, Int32.mul_comm]
      · refine wp_t (nI_le (a := 4) (by omega) (by omega)) ?_
        refine fin D hG ?_
        rw [h17, show min (j - p) 4 = 4 by omega, show min (j + 1 - p) 4 = 4 by omega]
    · have hq := Bool.eq_false_iff.mpr q
      rw [hq]
      refine wp_t b0F (k D ?_ ?_)
      · rw [runT, if_neg q]; exact hG
      · rw [runT, if_neg q]; exact h17
theorem m_170 {x1 : Int32} {e : Nat} (hG : Gp t n p e D0 J0 D J) (he : e = neN t n p) (hpe : p ≤ e) (h14 : D 70 14 = nI (kdN t n p)) (h17 : kdN t n p = 2 → e - p ≤ 4 → D 70 17 = dgT t (e - p) p 0) (h18 : kdN t n p = 3 → D 70 18 = t p) (h19 : kdN t n p = 1 → e - p ≤ 7 → J 70 19 = pkL (ltL t (e - p) p)) : Wp (Ev X d 183 (170, [.ref 70, .int x1], [], hS u D J)) (RW u (fun D' J' => TkP t n p D' J' ∧ FrK D0 J0 D' J')) := by
  refine wp_eq (e183_170 _) (wp_eq (e183_177 _) ?_)
  rw [hG.2.2.2, hG.2.2.1, nI_sub hpe]
  have G2 := hG.ug (k := 16) (v := nI (e - p)) (by decide)
  subst he
  refine wp_rW ⟨⟨G2.1, G2.2.2.2, by rw [ud_k (by decide)]; exact h14, G2.2.2.1, ud_at _ _ _ _, fun a b => by rw [ud_k (by decide)]; exact h17 a b, fun a => by rw [ud_k (by decide)]; exact h18 a, h19⟩, G2.2.1⟩
theorem m_tok {i : Nat} (hn : n ≤ 700) (hb : Bt t n D) (hi : i ≤ n) (h13 : D 70 13 = nI i) : Wp (EvM X (d + 1) 183 [.ref 70] (hS u D J)) (RW u (fun D' J' => TkP t n (skN t n i) D' J' ∧ FrK D J D' J')) := by
  refine m_sk (D0 := D) (J0 := J) hn (n - i) i D (by omega) hb h13 (FrK.rf D J) (fun D1 b1 g13 f1 => ?_)
  have es : runT isBl t (n - i) i = skN t n i := rfl
  rw [es] at g13
  have hp := (sk_b (t := t) hi).2
  generalize skN t n i = p at g13 hp ⊢
  refine wp_eq (e183_24) (wp_eq (e183_28) (wp_eq (e183_31) (wp_eq (e183_34) ?_)))
  rw [g13]
  have G1 : Gp t n p p D J (ud (ud D1 70 15 (nI p)) 70 17 0) (uj J 70 19 (Int64.ofNat 0)) := by
    refine ⟨(b1.fr (J := J) (J' := J) (FrK.ud (k := 15) (by decide) (by decide))).fr (J := J) (J' := J) (FrK.ud (by decide) (by decide)), ((f1.tr (FrK.ud (k := 15) (by decide) (by decide))).tr (FrK.ud (by decide) (by decide))).tr FrK.uj, by rw [ud_k (by decide), ud_at], by rw [ud_k (by decide), ud_k (by decide)]; exact g13⟩
  have z17 : ud (ud D1 70 15 (nI p)) 70 17 0 70 17 = 0 := ud_at _ _ _ _
  have z19 : uj J 70 19 (Int64.ofNat 0) 70 19 = Int64.ofNat 0 := uj_at _ _ _ _
  generalize ud (ud D1 70 15 (nI p)) 70 17 0 = D2 at G1 z17 ⊢
  generalize uj J 70 19 (Int64.ofNat 0) = J2 at G1 z19 ⊢
  rw [G1.2.2.2]
  refine wp_iE (m_180 hn G1.1 (by omega)) ?_
  refine wp_eq (e183_38 _) ?_
  have G2 := G1.ug (k := 18) (v := byT t n p) (by decide)
  have y17 : ud D2 70 18 (byT t n p) 70 17 = 0 := by rw [ud_k (by decide)]; exact z17
  have y18 : ud D2 70 18 (byT t n p) 70 18 = byT t n p := ud_at _ _ _ _
  generalize ud D2 70 18 (byT t n p) = D3 at G2 y17 y18 ⊢
  refine wp_eq (e183_42 _) ?_
  rw [G2.2.2.2, G2.1.1]
  by_cases hlt : p < n
  · refine wp_t (nI_lt hlt (by omega)) ?_
    have eb : byT t n p = t p := if_pos hlt
    have en : neN t n p = enN t n p := if_pos hlt
    rw [eb] at y18 ⊢
    refine wp_eq (e183_51 _) ?_
    refine wp_iE (m_181 _) ?_
    refine wp_eq (e183_53 _ _) ?_
    by_cases q1 : isLe (t p) = true
    · rw [q1]
      refine wp_f b1T ?_
      have ek : kdN t n p = 1 := by unfold kdN; rw [if_pos hlt, if_pos q1]
      have ee : runT isLe t (n - p) p = enN t n p := by rw [run_self hlt q1]; unfold enN; rw [if_pos q1]
      refine m_lets hn (n - p) p D3 J2 (by omega) (Nat.le_refl _) G2 (by rw [Nat.sub_self]; exact z19) (fun D4 J4 g4 g5 => ?_)
      rw [ee] at g4 g5
      have hpe := (en_b (t := t) hlt).1
      refine wp_eq (e183_88 _) (wp_eq (e183_91 _) ?_)
      refine m_170 (g4.ug (by decide)) en.symm (by omega) (by rw [ud_at, ek]; rfl) (fun a => by rw [ek] at a; cases a) (fun a => by rw [ek] at a; cases a) (fun _ h7 => ?_)
      rw [g5, show min (enN t n p - p) 7 = enN t n p - p by omega]
    · rw [Bool.eq_false_iff.mpr q1]
      refine wp_t b0F ?_
      refine wp_eq (e183_92 _) ?_
      refine wp_iE (m_182 _) ?_
      refine wp_eq (e183_94 _ _) ?_
      by_cases q2 : isDi (t p) = true
      · rw [q2]
        refine wp_f b1T ?_
        have ek : kdN t n p = 2 := by unfold kdN; rw [if_pos hlt, if_neg q1, if_pos q2]
        have ee : runT isDi t (n - p) p = enN t n p := by rw [run_self hlt q2]; unfold enN; rw [if_neg q1, if_pos q2]
        refine m_digs hn (n - p) p D3 (by omega) (Nat.le_refl _) G2 (by rw [Nat.sub_self]; exact y17) (fun D4 g4 g5 => ?_)
        rw [ee] at g4 g5
        have hpe := (en_b (t := t) hlt).1
        refine wp_eq (e183_128 _) (wp_eq (e183_131 _) ?_)
        refine m_170 (g4.ug (by decide)) en.symm (by omega) (by rw [ud_at, ek]; rfl) (fun _ h4 => ?_) (fun a => by rw [ek] at a; cases a) (fun a => by rw [ek] at a; cases a)
        rw [ud_k (by decide), g5, show min (enN t n p - p) 4 = enN t n p - p by omega]
      · rw [Bool.eq_false_iff.mpr q2]
        refine wp_t b0F ?_
        refine wp_eq (e183_132 _) ?_
        rw [G2.2.2.2, nI_1]
        have ee : p + 1 = neN t n p := by rw [en]; unfold enN; rw [if_neg q1, if_neg q2]
        have G3 := G2.nx
        have x18 : ud D3 70 13 (nI (p + 1)) 70 18 = t p := by rw [ud_k (by decide)]; exact y18
        generalize ud D3 70 13 (nI (p + 1)) = D4 at G3 x18 ⊢
        have fin : ∀ v, kdN t n p = v → v = 3 ∨ v = 4 → Wp (Ev X (d + 1) 183 (170, [.ref 70, .int (t p)], [], hS u (ud D4 70 14 (nI v)) J2)) (RW u (fun D' J' => TkP t n p D' J' ∧ FrK D J D' J')) := fun v ek hv => by
          refine m_170 (G3.ug (by decide)) ee (by omega) (by rw [ud_at, ek]) (fun a => ?_) (fun a => by rw [ud_k (by decide)]; exact x18) (fun a => ?_)
          · rw [ek] at a; omega
          · rw [ek] at a; omega
        have f3 : isS9 (t p) = true → Wp (Ev X (d + 1) 183 (170, [.ref 70, .int (t p)], [], hS u (ud D4 70 14 3) J2)) (RW u (fun D' J' => TkP t n p D' J' ∧ FrK D J D' J')) := fun z => fin 3 (by unfold kdN; rw [if_pos hlt, if_neg q1, if_neg q2, if_pos z]) (by decide)
        refine wp_eq (e183_138 _) ?_
        refine wp_if (fun z => f3 (by rw [z]; rfl)) (fun z1 => ?_)
        refine wp_if (fun z => f3 (by rw [z]; rfl)) (fun z2 => ?_)
        refine wp_if (fun z => f3 (by rw [z]; rfl)) (fun z3 => ?_)
        refine wp_if (fun z => f3 (by rw [z]; rfl)) (fun z4 => ?_)
        refine wp_if (fun z => f3 (by rw [z]; rfl)) (fun z5 => ?_)
        refine wp_if (fun z => f3 (by rw [z]; rfl)) (fun z6 => ?_)
        refine wp_if (fun z => f3 (by rw [z]; rfl)) (fun z7 => ?_)
        refine wp_if (fun z => f3 (by rw [z]; rfl)) (fun z8 => ?_)
        refine wp_if (fun z9 => ?_) (fun z => f3 (by rw [Classical.not_not.mp z]; rfl))
        have hs : isS9 (t p) = false := by unfold isS9; rw [decide_eq_false z1, decide_eq_false z2, decide_eq_false z3, decide_eq_false z4, decide_eq_false z5, decide_eq_false z6, decide_eq_false z7, decide_eq_false z8, decide_eq_false z9]; rfl
        exact fin 4 (by unfold kdN; rw [if_pos hlt, if_neg q1, if_neg q2, if_neg (by rw [hs]; exact Bool.false_ne_true)]) (by decide)
  · refine wp_f (nI_nlt (by omega) (by omega)) ?_
    have ek : kdN t n p = 0 := by unfold kdN; rw [if_neg hlt]
    refine wp_eq (e183_50 _) ?_
    exact m_170 (G2.ug (by decide)) (if_neg hlt).symm (Nat.le_refl _) (by rw [ud_at, ek]; rfl) (fun a => by rw [ek] at a; cases a) (fun a => by rw [ek] at a; cases a) (fun a => by rw [ek] at a; cases a)
end GOES
