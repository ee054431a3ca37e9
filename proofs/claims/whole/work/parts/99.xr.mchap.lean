/-! ===== the reference's chapel ===== -/
def LsK (X : XS) (d u : Nat) (t : Tx) (n : Nat) (D0 : DD) (J0 : JJ) (x1 x2 : Int32) (r : (Int32 × Nat) ⊕ Ln) (Q : Rs → Prop) : Prop := match r with
  | .inl (e, k') => ∀ (D' : DD) (J' : JJ), FrN D0 J0 D' J' → D' 70 9 = e → e ≠ 0 → D' 70 10 = nI (tkN t n k') → Wp (Ev X (d + 7) 206 (74, [.ref 70, .int x1, .int x2], [], hS u D' J')) Q
  | .inr s' => ∀ (D' : DD) (J' : JJ) (k' : Nat), FrN D0 J0 D' J' → LnM t n s' k' D' J' → Wp (Ev X (d + 7) 206 (74, [.ref 70, .int x1, .int x2], [], hS u D' J')) Q
section MCHAP
variable {X : XS} {d u : Nat} {D D' D0 : DD} {J J' J0 : JJ} {t : Tx} {n k : Nat} {s : Ln} {σ : Sg} {Q : Rs → Prop}
theorem m_lns {x1 x2 : Int32} (hn : n ≤ 700) (hby : byB t) : ∀ (r k : Nat) (s : Ln) (D : DD) (J : JJ), 701 ≤ r + k → FrN D0 J0 D J → LnM t n s k D J → LsK X d u t n D0 J0 x1 x2 (pLines (kK t n) (vV t n) r k s) Q → Wp (Ev X (d + 7) 206 (65, [.ref 70, .int x1, .int x2], [], hS u D J)) Q
  | 0, k, s, D, J, hr, hF, hL, hK => by
    have h14 : D 70 14 = nI (kK t n k) := hL.1.2.2.1
    have hK : ∀ (D' : DD) (J' : JJ) (k' : Nat), FrN D0 J0 D' J' → LnM t n s k' D' J' → Wp (Ev X (d + 7) 206 (74, [.ref 70, .int x1, .int x2], [], hS u D' J')) Q := hK
    refine wp_eq (e206_65 _ _) (wp_iE (m_good1 hL.2.1) (wp_eq (e206_67 _ _ _) (wp_f (by decide) ?_)))
    rw [h14, kK_far hn (by omega)]
    exact wp_t rfl (hK D J k hF hL)
  | r + 1, k, s, D, J, hr, hF, hL, hK => by
    have h14 : D 70 14 = nI (kK t n k) := hL.1.2.2.1
    refine wp_eq (e206_65 _ _) (wp_iE (m_good1 hL.2.1) (wp_eq (e206_67 _ _ _) (wp_f (by decide) ?_)))
    rw [h14]
    rw [pLines] at hK
    by_cases q : kK t n k = 0
    · rw [if_pos q] at hK
      have hK : ∀ (D' : DD) (J' : JJ) (k' : Nat), FrN D0 J0 D' J' → LnM t n s k' D' J' → Wp (Ev X (d + 7) 206 (74, [.ref 70, .int x1, .int x2], [], hS u D' J')) Q := hK
      rw [q]
      exact wp_t rfl (hK D J k hF hL)
    · rw [if_neg q] at hK
      refine wp_f (fun z => q ((kI kK_lt (by decide : 0 < 5)).mp z)) ?_
      refine wp_cW (m_line (d := d) hn hby hL) (fun D2 J2 h2 => wp_eq (e206_73 _ _) ?_)
      obtain ⟨f1, h2⟩ := h2
      cases hp : pLine (kK t n) (vV t n) s k with
      | inl e =>
        obtain ⟨e, k'⟩ := e
        rw [hp] at h2 hK
        obtain ⟨a1, a2, a3⟩ := h2
        have hK : ∀ (D' : DD) (J' : JJ), FrN D0 J0 D' J' → D' 70 9 = e → e ≠ 0 → D' 70 10 = nI (tkN t n k') → Wp (Ev X (d + 7) 206 (74, [.ref 70, .int x1, .int x2], [], hS u D' J')) Q := hK
        refine wp_eq (e206_65 _ _) (wp_iE (m_good0 (by rw [a1]; exact a2)) (wp_eq (e206_67 _ _ _) (wp_t rfl ?_)))
        exact hK D2 J2 (hF.tr f1) a1 a2 a3
      | inr ks =>
        obtain ⟨k', s'⟩ := ks
        rw [hp] at h2 hK
        obtain ⟨a1, a2⟩ := h2
        exact m_lns hn hby r k' s' D2 J2 (by omega) (hF.tr f1) a1 hK
theorem row_ln {r : Nat → Int32} (hs : s.1 ≤ 12) (h : rwM s r) : RowM 0 (ruN s) (cLn s) r := by
  have c0 : ∀ i, 12 + s.1 ≤ i → 12 ≤ i → cLn s i = 0 := fun i h1 h2 => by
    unfold cLn
    rw [if_neg (by omega), if_neg (by omega)]
  refine ⟨?_, fun p hp => ?_⟩
  · rw [h.1 0 (Or.inl rfl), c0 72 (by omega) (by decide)]
  · have hp : p < s.1 := hp
    obtain ⟨a1, a2, a3⟩ := h.2 p hp
    have cp : cLn s p = -1 := if_pos (by omega)
    refine ⟨?_, ?_, fun _ => ?_, ?_, ?_, ?_, ?_⟩
    · rw [Nat.zero_add, a1]
      unfold cLn
      rw [if_neg (by omega), if_pos (by omega), Nat.add_sub_cancel_left]
    · rw [Nat.zero_add, a2, cp]; rfl
    · rw [Nat.zero_add, a3, cp]; rfl
    · rw [Nat.zero_add, h.1 (37 + p) (by omega), c0 (24 + p) (by omega) (by omega)]
    · rw [Nat.zero_add, h.1 (49 + p) (by omega), c0 (36 + p) (by omega) (by omega)]
    · rw [Nat.zero_add, h.1 (61 + p) (by omega), c0 (48 + p) (by omega) (by omega)]
    · rw [Nat.zero_add, h.1 (73 + p) (by omega), c0 (60 + p) (by omega) (by omega)]
theorem rul_ln {r top : Nat} {o : Option RuF} {D2 : DD} (h : rlM r o top D) (ht : top ≤ 1400) (h1 : D2 70 (3 + r) = D 70 (22 + r)) (h2 : ∀ i, i < 1400 → D2 71 i = D 75 i) : rulM (3 + r) o D2 := by
  cases o with
  | none => exact h1.trans h
  | some f =>
    obtain ⟨a, C, a1, a2, a3, a4⟩ := h
    refine ⟨by rw [h1, a1]; exact nI_ne1 (by omega), giveM a2 (h1.trans a1) (a3.cg (fun i i1 i2 => h2 i ?_)) (by omega)⟩
    rw [List.length_append, List.length_singleton] at i2
    omega
/-- what it does before it reads -/
theorem m_start {x1 : Int32} (hn : n ≤ 700) (hx : x1 = nI n) (ht : ∀ i, i < n → D 72 i = t i) (hK : ∀ (D' : DD) (J' : JJ), (∀ q, q ≠ 70 → q ≠ 74 → D' q = D q) → (∀ k, (1 ≤ k ∧ k ≤ 7) ∨ 29 < k → D' 70 k = D 70 k) → D' 70 0 = 0 → D' 70 8 = 0 → (∀ q, q ≠ 70 → J' q = J q) → LnM t n s0L 0 D' J' → Wp (Ev X (d + 7) 206 (65, [.ref 70, .int x1, .int (nI 85)], [], hS u D' J')) Q) (h0 : D 70 0 = 0) : Wp (Ev X (d + 7) 206 (18, [.ref 70, .int x1, .null], [], hS u D J)) Q := by
  refine wp_eq (e206_18 _) (wp_eq (e206_21 _) (wp_eq (e206_24 _) (wp_eq (e206_27 _) (wp_eq (e206_30 _) (wp_eq (e206_33 _) (wp_eq (e206_36 _) (wp_eq (e206_39 _) (wp_eq (e206_42 _) (wp_eq (e206_45 _) (wp_eq (e206_48 _) ?_))))))))))
  generalize hA : ud (ud (ud (ud (ud (ud (ud (ud (ud (ud D 70 8 0) 70 10 (-1)) 70 9 0) 70 12 x1) 70 13 0) 70 20 0) 70 21 (-1)) 70 22 (-1)) 70 23 (-1)) 70 24 (-1) = A
  have aq : ∀ q, q ≠ 70 → A q = D q := fun q hq => by rw [← hA, ud_q hq, ud_q hq, ud_q hq, ud_q hq, ud_q hq, ud_q hq, ud_q hq, ud_q hq, ud_q hq, ud_q hq]
  have ak : ∀ k, k < 8 ∨ 29 < k → A 70 k = D 70 k := fun k hk => by rw [← hA, ud_k (by omega), ud_k (by omega), ud_k (by omega), ud_k (by omega), ud_k (by omega), ud_k (by omega), ud_k (by omega), ud_k (by omega), ud_k (by omega), ud_k (by omega)]
  have a24 : A 70 24 = -1 := by rw [← hA, ud_at]
  have a23 : A 70 23 = -1 := by rw [← hA, ud_k (by decide), ud_at]
  have a22 : A 70 22 = -1 := by rw [← hA, ud_k (by decide), ud_k (by decide), ud_at]
  have a21 : A 70 21 = -1 := by rw [← hA, ud_k (by decide), ud_k (by decide), ud_k (by decide), ud_at]
  have a20 : A 70 20 = 0 := by rw [← hA, ud_k (by decide), ud_k (by decide), ud_k (by decide), ud_k (by decide), ud_at]
  have a13 : A 70 13 = 0 := by rw [← hA, ud_k (by decide), ud_k (by decide), ud_k (by decide), ud_k (by decide), ud_k (by decide), ud_at]
  have a12 : A 70 12 = nI n := by rw [← hA, ud_k (by decide), ud_k (by decide), ud_k (by decide), ud_k (by decide), ud_k (by decide), ud_k (by decide), ud_at]; exact hx
  have a9 : A 70 9 = 0 := by rw [← hA, ud_k (by decide), ud_k (by decide), ud_k (by decide), ud_k (by decide), ud_k (by decide), ud_k (by decide), ud_k (by decide), ud_at]
  have a10 : A 70 10 = -1 := by rw [← hA, ud_k (by decide), ud_k (by decide), ud_k (by decide), ud_k (by decide), ud_k (by decide), ud_k (by decide), ud_k (by decide), ud_k (by decide), ud_at]
  have a8 : A 70 8 = 0 := by rw [← hA, ud_k (by decide), ud_k (by decide), ud_k (by decide), ud_k (by decide), ud_k (by decide), ud_k (by decide), ud_k (by decide), ud_k (by decide), ud_k (by decide), ud_at]
  clear hA
  refine wp_loop (R := fun i (D1 : DD) => Ev X (d + 7) 206 (50, [.ref 70, .int x1, .int (nI i)], [], hS u D1 J)) (fun i (D1 : DD) => (∀ j, j < i → D1 74 j = 0) ∧ ∀ q, q ≠ 74 → D1 q = A q) 85 ?_ ?_ 0 A (by decide) ⟨fun j hj => absurd hj (Nat.not_lt_zero j), fun _ _ => rfl⟩
  · intro i D1 hi ⟨i1, i2⟩ ih
    refine wp_eq (e206_50 _ _) ?_
    refine wp_f (nI_ge (b := 85) hi (by decide)) ?_
    refine oG hi (by decide) (wp_eq (e206_58 _ _) ?_)
    rw [nI_1, nI_clamp (by omega)]
    refine ih _ ⟨fun j hj => ?_, fun q hq => by rw [ud_q hq]; exact i2 q hq⟩
    by_cases hji : j = i
    · rw [hji, ud_at]
    · rw [ud_k hji]; exact i1 j (by omega)
  · intro D1 ⟨i1, i2⟩
    refine wp_eq (e206_50 _ _) (wp_t (nI_le (a := 85) (Nat.le_refl _) (by decide)) (wp_eq (e206_60 _ _) (wp_eq (e206_63 _ _) ?_)))
    generalize hB : ud D1 70 25 0 = B
    have bk : ∀ k, k ≠ 25 → B 70 k = A 70 k := fun k hk => by rw [← hB, ud_k hk, i2 70 (by decide)]
    have bq : ∀ q, q ≠ 70 → B q = D1 q := fun q hq => by rw [← hB, ud_q hq]
    have b25 : B 70 25 = 0 := by rw [← hB, ud_at]
    have bb : Bt t n B := ⟨(bk 12 (by decide)).trans a12, fun i hi => by rw [bq 72 (by decide), i2 72 (by decide), aq 72 (by decide)]; exact ht i hi⟩
    refine wp_cW (m_tok (d := d + 5) hn bb (Nat.zero_le _) ((bk 13 (by decide)).trans a13)) (fun D4 J4 h4 => ?_)
    obtain ⟨T4, F4⟩ := h4
    have k4 : ∀ k, k < 13 ∨ 18 < k → k ≠ 25 → D4 70 k = A 70 k := fun k k1 k2 => (F4.2.1 k k1).trans (bk k k2)
    refine hK D4 J4 (fun q q1 q2 => by rw [F4.1 q q1, bq q q1, i2 q q2, aq q q1]) (fun k hk => (k4 k (by omega) (by omega)).trans (ak k (by omega))) ((k4 0 (by decide) (by decide)).trans ((ak 0 (by decide)).trans h0)) ((k4 8 (by decide) (by decide)).trans a8) F4.2.2 ⟨T4, (k4 9 (by decide) (by decide)).trans a9, (k4 10 (by decide) (by decide)).trans a10, (k4 20 (by decide) (by decide)).trans a20, by decide, ⟨fun i hi => ?_, fun p hp => absurd hp (Nat.not_lt_zero p)⟩, (k4 21 (by decide) (by decide)).trans a21, 0, (F4.2.1 25 (by decide)).trans b25, Nat.zero_le _, fun r hr => ?_⟩
    · rw [F4.1 74 (by decide), bq 74 (by decide)]; exact i1 i (by omega)
    · show D4 70 (22 + r) = -1
      rw [k4 (22 + r) (by omega) (by omega)]
      match r, hr with
      | 0, _ => exact a22
      | 1, _ => exact a23
      | 2, _ => exact a24
theorem m_chap (hσ : SgOk σ) (hM : MI σ D) (hn : n ≤ σ.1.1) : Wp (EvM X (d + 7) 206 [.ref 70, .int (nI n)] (hS u D J)) (MR (chS σ n) D u J (chX σ n) 0) := by
  have h7 := hσ.1
  have hby : byB σ.1.2.1 := hσ.2.2.2.2.2.2
  obtain ⟨⟨t1, t2, t3, t4⟩, m2, m3, m4, m5, m6, m7⟩ := id hM
  refine wp_eq (e206_0 _) (wp_eq (e206_3 _) (wp_f (nI_pos (by omega)) ?_))
  rw [ud_k (show (8 : Nat) ≠ 0 by decide), t1]
  refine wp_f (nI_nlt hn (by omega)) ?_
  refine wp_iE ((m_right (X := X) (d := d + 6) (u := u) (J := J) (x := 1) (v := 1) (D := ud D 70 0 0) (ud_at D 70 0 0) (by decide)).1 (by decide)) ?_
  refine wp_eq (e206_15 _ _) (wp_t (by decide) ?_)
  have z0 : ud D 70 0 0 70 0 = 0 := ud_at _ _ _ _
  have zq : ∀ q, q ≠ 70 → ud D 70 0 0 q = D q := fun q hq => ud_q hq
  have zk : ∀ k, k ≠ 0 → ud D 70 0 0 70 k = D 70 k := fun k hk => ud_k hk
  generalize ud D 70 0 0 = A at z0 zq zk ⊢
  refine m_start (t := σ.1.2.1) (n := n) (by omega) rfl (fun i hi => by rw [zq 72 (by decide)]; exact t2 i (by omega)) (fun D1 J1 p1 p2 p3 p4 p5 p6 => ?_) z0
  refine m_lns (t := σ.1.2.1) (n := n) (by omega) hby 701 0 s0L D1 J1 (by omega) (FrN.rf D1 J1) p6 ?_
  have hr : pLines (kK σ.1.2.1 n) (vV σ.1.2.1 n) 701 0 s0L = chR σ n := rfl
  rw [hr]
  unfold chS chX
  cases hc : chR σ n with
  | inl e =>
    obtain ⟨e, k'⟩ := e
    intro D2 J2 hF a1 a2 a3
    refine wp_eq (e206_74 _ _) (wp_iE (m_good0 (by rw [a1]; exact a2)) (wp_eq (e206_76 _ _ _) (wp_f (fun z => z rfl) (wp_eq (e206_85 _ _) ?_))))
    have e9 : ud D2 73 0 (D2 73 0 + 1) 70 9 = e := by rw [ud_q (by decide)]; exact a1
    rw [e9]
    have q2 : ∀ q, q ≠ 70 → q < 74 ∨ 77 < q → D2 q = D q := fun q q1 q3 => by rw [hF.1 q q1 q3, p1 q q1 (by omega), zq q q1]
    have k2 : ∀ k, (1 ≤ k ∧ k ≤ 7) ∨ 29 < k → D2 70 k = D 70 k := fun k hk => by rw [hF.2.1 k (by omega), p2 k hk, zk k (by omega)]
    generalize hD3 : ud D2 73 0 (D2 73 0 + 1) = D3
    have q3 : ∀ q, q ≠ 73 → D3 q = D2 q := fun q hq => by rw [← hD3, ud_q hq]
    have k3 : ∀ k, D3 70 k = D2 70 k := fun k => by rw [q3 70 (by decide)]
    refine ⟨_, rfl, D3, J2, rfl, (hF.2.2 95 (by decide)).trans (p5 95 (by decide)), ⟨⟨?_, fun i hi => absurd hi (Nat.not_lt_zero i), ?_, fun j hj => ?_⟩, m2.mv (fun k k1 k4 => (k3 k).trans (k2 k (by omega))) (by rw [q3 71 (by decide), q2 71 (by decide) (by decide)]), ?_, ⟨by rw [k3, k2 36 (by decide)]; exact m4.1, by rw [q3 79 (by decide), q2 79 (by decide) (by decide)]; exact m4.2⟩, ⟨by rw [k3, k2 51 (by decide)]; exact m5.1, by rw [q3 89 (by decide), q2 89 (by decide) (by decide)]; exact m5.2⟩, m6.mv (fun k k1 k4 => (k3 k).trans (k2 k (by omega))) (fun q q1 q4 => by rw [q3 q (by omega), q2 q (by omega) (by omega)]), by rw [k3, k2 43 (by decide)]; exact m7⟩, ?_, fun q hq => ?_⟩
    · show D3 70 8 = 0
      rw [k3, hF.2.1 8 (by decide)]; exact p4
    · show D3 70 10 = nI (tkN σ.1.2.1 n k')
      rw [k3]; exact a3
    · show D3 73 j = upd σ.1.2.2.2 0 (σ.1.2.2.2 0 + 1) j
      have e73 : D2 73 = D 73 := q2 73 (by decide) (by decide)
      rw [← hD3]
      by_cases z : j = 0
      · rw [z, ud_at, upd_at, e73, t4 0 (by decide)]
      · rw [ud_k z, upd_ne z, e73]; exact t4 j hj
    · rw [q3 78 (by decide), q2 78 (by decide) (by decide)]; exact m3
    · rw [k3, hF.2.1 0 (by decide)]; exact p3
    · rw [q3 q (by omega), q2 q (by omega) (by omega)]
  | inr s =>
    intro D2 J2 k' hF hL
    obtain ⟨hT, h9, h10, h20, hs, hrw, hst, top, h25, htop, hrl⟩ := hL
    have ktop := tk_le σ.1.2.1 n k'
    refine wp_eq (e206_74 _ _) (wp_iE (m_good1 h9) (wp_eq (e206_76 _ _ _) (wp_t (by decide) (wp_eq (e206_88 _ _) (wp_eq (e206_92 _ _) ?_)))))
    rw [ud_k (show (21 : Nat) ≠ 1 by decide), h20]
    have main : ∀ v : Int32, v = nI (s.2.2.1.getD 12) → Wp (Ev X (d + 7) 206 (102, [.ref 70, .int (nI n), .int (nI 85)], [], hS u (ud (ud D2 70 1 (nI s.1)) 70 2 v) J2)) (MR ((0, σ.1.2.1, -1, σ.1.2.2.2), ruN s, cLn s, [], [], none) D u J 0 0) := fun v hv => by
      refine wp_eq (e206_102 _ _) (wp_eq (e206_106 _ _) (wp_eq (e206_110 _ _) (wp_eq (e206_114 _ _) ?_)))
      simp only [ud_k (show (22 : Nat) ≠ 1 by decide), ud_k (show (22 : Nat) ≠ 2 by decide), ud_k (show (23 : Nat) ≠ 1 by decide), ud_k (show (23 : Nat) ≠ 2 by decide), ud_k (show (23 : Nat) ≠ 3 by decide), ud_k (show (24 : Nat) ≠ 1 by decide), ud_k (show (24 : Nat) ≠ 2 by decide), ud_k (show (24 : Nat) ≠ 3 by decide), ud_k (show (24 : Nat) ≠ 4 by decide)]
      generalize hB : ud (ud (ud (ud (ud D2 70 1 (nI s.1)) 70 2 v) 70 3 (D2 70 22)) 70 4 (D2 70 23)) 70 5 (D2 70 24) = B
      have bq : ∀ q, q ≠ 70 → B q = D2 q := fun q hq => by rw [← hB, ud_q hq, ud_q hq, ud_q hq, ud_q hq, ud_q hq]
      have bk : ∀ k, k = 0 ∨ 5 < k → B 70 k = D2 70 k := fun k hk => by rw [← hB, ud_k (by omega), ud_k (by omega), ud_k (by omega), ud_k (by omega), ud_k (by omega)]
      have b1 : B 70 1 = nI s.1 := by rw [← hB, ud_k (by decide), ud_k (by decide), ud_k (by decide), ud_k (by decide), ud_at]
      have b2 : B 70 2 = v := by rw [← hB, ud_k (by decide), ud_k (by decide), ud_k (by decide), ud_at]
      have b3 : ∀ r, r < 3 → B 70 (3 + r) = D2 70 (22 + r) := fun r hr => by
        match r, hr with
        | 0, _ => rw [← hB, ud_k (by decide), ud_k (by decide)]; exact ud_at _ _ _ _
        | 1, _ => rw [← hB, ud_k (by decide)]; exact ud_at _ _ _ _
        | 2, _ => rw [← hB]; exact ud_at _ _ _ _
      clear hB
      refine wp_cV (m_copya) (fun D3 h3 => ?_)
      obtain ⟨c1, c2⟩ := h3
      refine wp_eq (e206_120 _ _) ?_
      refine wp_loop (R := fun i (D4 : DD) => Ev X (d + 7) 206 (122, [.ref 70, .int (nI n), .int (nI i)], [], hS u D4 J2)) (fun i (D4 : DD) => (∀ j, j < i → D4 78 j = D3 74 j) ∧ ∀ q, q ≠ 78 → D4 q = D3 q) 85 ?_ ?_ 0 D3 (by decide) ⟨fun j hj => absurd hj (Nat.not_lt_zero j), fun _ _ => rfl⟩
      · intro i D4 hi ⟨i1, i2⟩ ih
        refine wp_eq (e206_122 _ _) ?_
        refine wp_f (nI_ge (b := 85) hi (by decide)) ?_
        refine oG hi (by decide) (oG (by omega) (by decide) (wp_eq (e206_133 _ _) ?_))
        rw [nI_1, nI_clamp (by omega), i2 74 (by decide)]
        refine ih _ ⟨fun j hj => ?_, fun q hq => by rw [ud_q hq]; exact i2 q hq⟩
        by_cases hji : j = i
        · rw [hji, ud_at]
        · rw [ud_k hji]; exact i1 j (by omega)
      · intro D4 ⟨i1, i2⟩
        refine wp_eq (e206_122 _ _) (wp_t (nI_le (a := 85) (Nat.le_refl _) (by decide)) (wp_eq (e206_135 _ _) (wp_eq (e206_138 _ _) (wp_eq (e206_141 _ _) (wp_eq (e206_144 _ _) ?_)))))
        generalize hE : ud (ud (ud D4 70 36 0) 70 51 0) 70 56 0 = E
        have eq' : ∀ q, q ≠ 70 → E q = D4 q := fun q hq => by rw [← hE, ud_q hq, ud_q hq, ud_q hq]
        have e56 : E 70 56 = 0 := by rw [← hE, ud_at]
        have e51 : E 70 51 = 0 := by rw [← hE, ud_k (by decide), ud_at]
        have e36 : E 70 36 = 0 := by rw [← hE, ud_k (by decide), ud_k (by decide), ud_at]
        have ek : ∀ k, k ≠ 36 → k ≠ 51 → k ≠ 56 → E 70 k = B 70 k := fun k k1 k2 k3 => by rw [← hE, ud_k k3, ud_k k2, ud_k k1, i2 70 (by decide), c2 70 (by decide)]
        have q2 : ∀ q, q ≠ 70 → q ≠ 71 → q ≠ 78 → q < 74 ∨ 77 < q → E q = D q := fun q y1 y2 y3 y4 => by rw [eq' q y1, i2 q y3, c2 q y2, bq q y1, hF.1 q y1 y4, p1 q y1 (by omega), zq q y1]
        have e74 : ∀ i, i < 85 → E 78 i = D2 74 i := fun i hi => by rw [eq' 78 (by decide), i1 i hi, c2 74 (by decide), bq 74 (by decide)]
        have e71 : ∀ i, i < 1400 → E 71 i = D2 75 i := fun i hi => by rw [eq' 71 (by decide), i2 71 (by decide), c1 i hi, bq 75 (by decide)]
        have k2 : ∀ k, 29 < k → k ≠ 36 → k ≠ 51 → k ≠ 56 → E 70 k = D 70 k := fun k y1 y2 y3 y4 => by rw [ek k y2 y3 y4, bk k (by omega), hF.2.1 k (by omega), p2 k (by omega), zk k (by omega)]
        have ru : ∀ r, r < 3 → rulM (3 + r) (s.2.2.2 r) E := fun r hr => rul_ln (hrl r hr) (by omega) ((ek (3 + r) (by omega) (by omega) (by omega)).trans (b3 r hr)) e71
        refine ⟨_, rfl, E, J2, rfl, (hF.2.2 95 (by decide)).trans (p5 95 (by decide)), ⟨⟨?_, fun i hi => absurd hi (Nat.not_lt_zero i), ?_, fun j hj => ?_⟩, ⟨?_, ?_, ru 0 (by decide), ru 1 (by decide), ru 2 (by decide)⟩, ?_, ⟨e36, fun j hj => absurd hj (Nat.not_lt_zero j)⟩, ⟨e51, fun j hj => absurd hj (Nat.not_lt_zero j)⟩, e56, ?_⟩, ?_, fun q hq => ?_⟩
        · show E 70 8 = 0
          rw [ek 8 (by decide) (by decide) (by decide), bk 8 (by decide), hF.2.1 8 (by decide)]; exact p4
        · show E 70 10 = -1
          rw [ek 10 (by decide) (by decide) (by decide), bk 10 (by decide)]; exact h10
        · show E 73 j = σ.1.2.2.2 j
          rw [q2 73 (by decide) (by decide) (by decide) (by decide)]; exact t4 j hj
        · rw [ek 1 (by decide) (by decide) (by decide)]; exact b1
        · rw [ek 2 (by decide) (by decide) (by decide), b2]; exact hv
        · refine row_ln hs ⟨fun i hi => ?_, fun p hp => ?_⟩
          · rw [e74 i (by omega)]; exact hrw.1 i hi
          · rw [e74 (1 + p) (by omega), e74 (13 + p) (by omega), e74 (25 + p) (by omega)]; exact hrw.2 p hp
        · rw [k2 43 (by decide) (by decide) (by decide) (by decide)]; exact m7
        · rw [ek 0 (by decide) (by decide) (by decide), bk 0 (by decide), hF.2.1 0 (by decide)]; exact p3
        · exact q2 q (by omega) (by omega) (by omega) (by omega)
    cases hs2 : s.2.2.1 with
    | none =>
      rw [hs2] at hst
      have hst : D2 70 21 = -1 := hst
      rw [hst]
      exact wp_f (fun z => z rfl) (main 12 (by rw [hs2]; rfl))
    | some a =>
      rw [hs2] at hst
      obtain ⟨o1, o2, o3⟩ := hst
      rw [o1]
      exact wp_t (nI_ne1 (by omega)) (main (nI a) (by rw [hs2]; rfl))
/-- chapel -/
theorem p_chapel (X : XS) : ChP X := by
  intro σ d x hσ
  have h7 := hσ.1
  have hn := hσ.2.1.1.1
  by_cases hx : ¬ x < 0 ∧ x ≤ nI σ.1.1
  · obtain ⟨n, n1, rfl⟩ := nI_of hx.1
    have hn2 : n ≤ σ.1.1 := (nI_leI n1 (by omega)).mp hx.2
    exact ⟨.inl (chX σ n), chS σ n, ch_ok X hσ hn2, fun u J D hC => c_chap (d := d) hσ hC hn2, fun u J D hM => m_chap (d := d + 45) hσ hM hn2, trivial⟩
  · refine ⟨.inr 2, σ, hσ, fun u J D hC => ?_, fun u J D hM => ?_, rfl⟩
    · have e1 : D 0 1 = nI σ.1.1 := hC.1.1
      refine wp_eq (e102_0 _) ?_
      rw [e1]
      refine wp_if (fun _ => wp_ct hC (fun _ _ => rfl)) (fun z1 => ?_)
      exact wp_f (fun z2 => hx ⟨z1, z2⟩) (wp_ct hC (fun _ _ => rfl))
    · have e8 : D 70 8 = nI σ.1.1 := hM.1.1
      have hM2 : MI σ (ud (ud D 70 0 0) 70 0 1) := (hM.th (v := 0) hn).th (v := 1) hn
      have fin : Wp (bI (EvM X (d + 51) 172 [.ref 70, .int 0, .int 1] (hS u (ud D 70 0 0) J)) (fun y h => Ev X (d + 52) 206 (15, [.ref 70, .int x, .null], [.int y], h)) (fun e h => some (.inr e, h))) (MR σ D u J 0 1) := by
        refine wp_iE ((m_right (X := X) (d := d + 51) (u := u) (J := J) (x := 0) (v := 1) (D := ud D 70 0 0) (ud_at D 70 0 0) (by decide)).2 rfl) ?_
        refine wp_eq (e206_15 _ _) (wp_f (fun z => z rfl) ?_)
        exact wp_mr hM2 (ud_at _ _ _ _) (fun q hq => by rw [ud_q (by omega), ud_q (by omega)])
      refine wp_eq (e206_0 _) (wp_eq (e206_3 _) ?_)
      rw [ud_k (show (8 : Nat) ≠ 0 by decide), e8]
      refine wp_if (fun _ => fin) (fun z1 => ?_)
      exact wp_t (Int32.not_le.mp (fun z => hx ⟨z1, z⟩)) fin
end MCHAP
