/-! ===== the class's parser: tests, and all of an expression ===== -/
section CPAR3
variable {X : XS} {d u : Nat} {D D' D0 : DD} {J : JJ} {t : Tx} {n m b k k0 ns ss : Nat} {mi : Bool} {ru : Int32}
theorem c_notL {j k' : Nat} {x1 : Int32} (hn : n ≤ 700) (s0 : 2 * ss ≤ tkN t n k0) : ∀ (r i : Nat) (f : RuF) (x3 : Int32) (D : DD), i + r = j → j ≤ 6 → (FrD D0 D ∧ At t n m k' D ∧ D 12 6 = 0 ∧ k0 < k' ∧ ∃ ns' ss' r1, Cn b D ns' ss' ∧ ns ≤ ns' ∧ ss ≤ ss' ∧ ExD D0 ns ss D ∧ x3 = nI r1 ∧ Rg mi b D ns' ss' r1 f ∧ 2 * ns' + tkN t n k0 ≤ 2 * ns + tkN t n k' + 1 ∧ 2 * ss' + 2 * r + 1 + tkN t n k0 ≤ 2 * ss + tkN t n k' ∧ Vn D ss ss') →
    Wp (Ev X (d + 1) 80 (62, [.ref 12, .int x1, .int (nI j), .int x3, .int (nI i)], [], hS u D J)) (RI u J (PoC t n m b mi k0 D0 ns ss (.inr (k', notF r f))))
  | 0, i, f, x3, D, hi, hj, ⟨a1, a2, a3, a4, ns1, ss1, r1, c1, c2, c3, c4, c5, c6, c7, c8, c9⟩ => by
    refine wp_eq (e80_62 _ _ _ _) (wp_t (nI_le (by omega) (by omega)) ?_)
    have hS : PoS t n m b mi k0 D0 ns ss k' f x3 D := ⟨a1, a2, a3, a4, ns1, ss1, r1, c1, c2, c3, c4, c5, c6, c7, by omega, c9⟩
    exact wp_rI hS
  | r + 1, i, f, x3, D, hi, hj, ⟨a1, a2, a3, a4, ns1, ss1, r1, c1, c2, c3, c4, c5, c6, c7, c8, c9⟩ => by
    have hP : tkN t n k' ≤ n := tk_le t n k'
    have hs : ss1 < 350 := by omega
    have hr1 : r1 < 2 ^ 31 := by
      have := c1.2.2.1
      have := c1.2.2.2.1
      rcases c6.1 with h | h <;> omega
    refine wp_eq (e80_62 _ _ _ _) (wp_f (nI_ge (by omega) (by omega)) ?_)
    subst c5
    refine wp_iE (c_stepS c1 hs (nI_ne1 hr1) (nI_ne1 hr1)) ?_
    refine wp_eq (e80_71 _ _ _ _ _) ?_
    rw [nI_1]
    exact c_notL hn s0 r (i + 1) _ _ _ (by omega) hj ⟨a1.tr st_fr, ⟨a2.1.fr st_fr, a2.2.1, by rw [st_12]; exact a2.2.2⟩, by rw [st_12]; exact a3, a4, ns1, ss1 + 1, 357 + ss1, st_cn c1 hs, c2, by omega, c4.tr st_ex c2 c3, rfl, Rg.st c6 c6 st_ex c1.2.2.2.2 c1.2.2.1 hs st_at.1 st_at.2.1 st_at.2.2, c7, by omega, (c9.mv (fun i hi => (st_ex (ns := ns1).2 i hi).2)).tr (fun i i1 i2 => by
      have ei : i = ss1 := by omega
      subst ei
      rw [st_at.2.1, st_at.2.2]; exact ⟨c6.vl c1.2.2.1 c1.2.2.2.1, c6.vl c1.2.2.1 c1.2.2.2.1⟩)⟩
theorem c_notE {j k' : Nat} {x1 e : Int32} : ∀ (r i : Nat) (x3 : Int32) (D : DD), i + r = j → j ≤ 6 → PoF t n m b D0 e k' D → Wp (Ev X (d + 1) 80 (62, [.ref 12, .int x1, .int (nI j), .int x3, .int (nI i)], [], hS u D J)) (RI u J (PoC t n m b mi k0 D0 ns ss (.inl (e, k'))))
  | 0, i, x3, D, hi, hj, hF => wp_eq (e80_62 _ _ _ _) (wp_t (nI_le (by omega) (by omega)) (wp_rI hF))
  | r + 1, i, x3, D, hi, hj, hF => by
    obtain ⟨f1, f2, f3, f4, ns2, ss2, f5⟩ := hF
    refine wp_eq (e80_62 _ _ _ _) (wp_f (nI_ge (by omega) (by omega)) ?_)
    obtain ⟨z, D3, g1, g2, g3, ss3, g4⟩ := c_stepA (X := X) (d := d) (u := u) (J := J) (o := 2) (l := x3) (r := x3) f5
    refine wp_iE g1 ?_
    refine wp_eq (e80_71 _ _ _ _ _) ?_
    rw [nI_1]
    exact c_notE r (i + 1) z D3 (by omega) hj ⟨f1.tr g2, ⟨f2.1.fr g2, f2.2.1, by rw [g3]; exact f2.2.2⟩, by rw [g3]; exact f3, f4, ns2, ss3, g4⟩
theorem c_tail {w j : Nat} {sub : Nat → Pr} (hn : n ≤ 700) (hsub : SpC t n m b mi ru u J (fun D => EvM X d 78 [.ref 12, .int (nI 3), .int (nI w)] (hS u D J)) sub) (h0 : 2 * ns ≤ tkN t n k0) (s0 : 2 * ss ≤ tkN t n k0) (hF : FrD D0 D) (hA : At t n m k D) (h6 : D 12 6 = 0) (h7 : D 12 7 = ru) (hC : Cn b D ns ss) (hE : ExD D0 ns ss D) (hk : k0 ≤ k) (hj : j ≤ 6) (hp : tkN t n k0 + 3 * j ≤ tkN t n k) :
    Wp (bI (EvM X d 78 [.ref 12, .int 3, .int (nI w)] (hS u D J)) (fun y h => Ev X (d + 1) 80 (28, [.ref 12, .int (nI w), .int (nI j), .null, .null], [.int y], h)) (fun e h => some (.inr e, h))) (RI u J (PoC t n m b mi k0 D0 ns ss (pTail (kK t n) (vV t n) sub k j))) := by
  refine wp_cI (hsub k D ns ss hA h6 h7 hC (by omega) (by omega)) (fun y D2 h2 => ?_)
  refine wp_eq (e80_28 _ _ _) ?_
  unfold pTail
  have good : ∀ (k' : Nat) (f : RuF) (x : Int32) (D3 : DD), PoS t n m b mi k D ns ss k' f x D3 → Wp (Ev X (d + 1) 80 (62, [.ref 12, .int (nI w), .int (nI j), .int x, .int 0], [], hS u D3 J)) (RI u J (PoC t n m b mi k0 D0 ns ss (.inr (k', notF j f)))) := fun k' f x D3 hS => by
    obtain ⟨b1, b2, b3, b4, ns2, ss2, r2, e1, e2, e3, e4, e5, e6, e7, e8, e9⟩ := hS
    exact c_notL hn s0 j 0 f x D3 (by omega) hj ⟨hF.tr b1, b2, b3, by omega, ns2, ss2, r2, e1, e2, e3, hE.tr e4 (Nat.le_refl _) (Nat.le_refl _), e5, e6, by omega, by omega, e9⟩
  cases hp1 : sub k with
  | inl e =>
    obtain ⟨e, k'⟩ := e
    rw [hp1] at h2
    have h2 : PoF t n m b D e k' D2 := h2
    refine wp_t (by rw [h2.2.2.1]; exact h2.2.2.2.1) ?_
    exact c_notE j 0 y D2 (by omega) hj (h2.tr hF)
  | inr kg =>
    obtain ⟨k1, f⟩ := kg
    rw [hp1] at h2
    have h2 : PoS t n m b mi k D ns ss k1 f y D2 := h2
    obtain ⟨b1, b2, b3, b4, ns2, ss2, r2, e1, e2, e3, e4, e5, e6, e7, e8, e9⟩ := id h2
    refine wp_f (fun z => z b3) ?_
    refine wp_iE (c_sg b2 hn 60) ?_
    refine wp_eq (e80_35 _ _ _ _) ?_
    dsimp only
    have two : ∀ (o : Int32), k1 < m → Wp (Ev X (d + 1) 80 (50, [.ref 12, .int (nI w), .int (nI j), .int y, .int o], [], hS u (ud D2 12 5 (nI (k1 + 1))) J)) (RI u J (PoC t n m b mi k0 D0 ns ss (match sub (k1 + 1) with
        | .inl e => .inl e
        | .inr (k2, g) => .inr (k2, notF j (fun v => opI o (f v) (g v)))))) := fun o hk1 => by
      have hinc := b2.1.inc hk1
      refine wp_eq (e80_50 _ _ _ _) ?_
      refine wp_cI (hsub (k1 + 1) _ ns2 ss2 (b2.nx hk1) (by rw [ud_k (by decide)]; exact b3) (by rw [ud_k (by decide), b1.2.1 7 (by decide) (by decide)]; exact h7) (e1.mv (ud_q (by decide))) (by omega) (by omega)) (fun y2 D4 h4 => ?_)
      refine wp_eq (e80_58 _ _ _ _ _ _ _) ?_
      cases hp2 : sub (k1 + 1) with
      | inl e =>
        obtain ⟨e, k'⟩ := e
        rw [hp2] at h4
        obtain ⟨f1, f2, f3, f4, ns3, ss3, f5⟩ : PoF t n m b _ e k' D4 := h4
        obtain ⟨z, D5, g1, g2, g3, ss4, g4⟩ := c_stepA (X := X) (d := d) (u := u) (J := J) (o := o) (l := y) (r := y2) f5
        refine wp_iE g1 ?_
        refine wp_eq (e80_59 _ _ _ _ _) ?_
        exact c_notE j 0 z D5 (by omega) hj ⟨(((hF.tr b1).tr FrD.u5).tr f1).tr g2, ⟨f2.1.fr g2, f2.2.1, by rw [g3]; exact f2.2.2⟩, by rw [g3]; exact f3, f4, ns3, ss4, g4⟩
      | inr kg =>
        obtain ⟨k2, g⟩ := kg
        rw [hp2] at h4
        have h4 : PoS t n m b mi (k1 + 1) _ ns2 ss2 k2 g y2 D4 := h4
        obtain ⟨z, D5, g1, g2⟩ := PoS.st (X := X) (d := d) (u := u) (J := J) (o := o) (k0 := k) (k1 := k1) (D0 := D) (D1 := ud D2 12 5 (nI (k1 + 1))) hn (by omega) (by omega) (b1.tr FrD.u5) (by have := h4.2.2.2.1; omega) (e1.mv (ud_q (by decide))) e2 e3 (e4.tr ex5 e2 e3) e5 (e6.mv ex5 (Nat.le_refl _) (Nat.le_refl _) e1.2.2.1 e1.2.2.2.2) e7 e8 (e9.mv (fun i _ => ⟨by rw [ud_q (by decide)], by rw [ud_q (by decide)]⟩)) hinc h4
        refine wp_iE g1 ?_
        refine wp_eq (e80_59 _ _ _ _ _) ?_
        exact good k2 _ _ D5 g2
    by_cases z0 : sgAt (kK t n) (vV t n) 60 k1 = true
    · have hk1 := sg_lt b2 z0
      rw [if_pos z0, z0]
      refine wp_t b1T ?_
      refine wp_iE (c_sg b2 hn 60) ?_
      rw [z0]
      refine wp_eq (e80_43 _ _ _ _) (wp_f b1T ?_)
      refine wp_vE (c_nx b2 hn hk1) ?_
      exact two 3 hk1
    · rw [if_neg z0, Bool.eq_false_iff.mpr z0]
      refine wp_f (fun z => z b0F) ?_
      refine wp_iE (c_sg b2 hn 61) ?_
      refine wp_eq (e80_39 _ _ _ _) ?_
      by_cases z1 : sgAt (kK t n) (vV t n) 61 k1 = true
      · have hk1 := sg_lt b2 z1
        rw [if_pos z1, z1]
        refine wp_f b1T ?_
        refine wp_iE (c_sg b2 hn 60) ?_
        rw [Bool.eq_false_iff.mpr z0]
        refine wp_eq (e80_43 _ _ _ _) (wp_t b0F ?_)
        refine wp_vE (c_nx b2 hn hk1) ?_
        exact two 4 hk1
      · rw [if_neg z1, Bool.eq_false_iff.mpr z1]
        exact wp_t b0F (good k1 f y D2 h2)
theorem c_nots {w : Nat} {sub : Nat → Pr} (hn : n ≤ 700) (hsub : SpC t n m b mi ru u J (fun D => EvM X d 78 [.ref 12, .int (nI 3), .int (nI w)] (hS u D J)) sub) (h0 : 2 * ns ≤ tkN t n k0) (s0 : 2 * ss ≤ tkN t n k0) : ∀ (r k j : Nat) (D : DD), j + r = 6 → FrD D0 D → At t n m k D → D 12 6 = 0 → D 12 7 = ru → Cn b D ns ss → ExD D0 ns ss D → k0 ≤ k → tkN t n k0 + 3 * j ≤ tkN t n k →
    Wp (Ev X (d + 1) 80 (2, [.ref 12, .int (nI w), .int (nI j), .null, .null], [], hS u D J)) (RI u J (PoC t n m b mi k0 D0 ns ss (pNots (kK t n) (vV t n) sub r k j)))
  | 0, k, j, D, hj, hF, hA, h6, h7, hC, hE, hk, hp => by
    have ej : j = 6 := by omega
    subst ej
    refine wp_eq (e80_2 _ _) (wp_t (by decide) (wp_f (fun z => z rfl) ?_))
    refine wp_iE (c_wd hA hn 7) ?_
    refine wp_eq (e80_19 _ _ _) ?_
    rw [pNots]
    by_cases q : wdAt (kK t n) (vV t n) 7 k = true
    · rw [if_pos q, q]
      refine wp_f b1T ?_
      refine wp_iE (c_fail0 h6 _) ?_
      have hF2 : PoF t n m b D0 2 k (ud D 12 6 2) := ⟨hF.tr FrD.u6, hA.u6, ud_at _ _ _ _, by decide, ns, ss, hC.mv (ud_q (by decide))⟩
      exact wp_eq (e80_23 _ _ _) (wp_rI hF2)
    · rw [if_neg q, Bool.eq_false_iff.mpr q]
      exact wp_t b0F (c_tail hn hsub h0 s0 hF hA h6 h7 hC hE hk (by omega) hp)
  | r + 1, k, j, D, hj, hF, hA, h6, h7, hC, hE, hk, hp => by
    refine wp_eq (e80_2 _ _) (wp_f (nI_ge (b := 6) (by omega) (by decide)) ?_)
    refine wp_iE (c_wd hA hn 7) ?_
    refine wp_eq (e80_8 _ _ _) ?_
    rw [pNots]
    by_cases q : wdAt (kK t n) (vV t n) 7 k = true
    · rw [if_pos q, q]
      have hkm := wd_lt hA q
      have hinc := wd_inc hA (j := 7) (by decide) q
      have e3 : (WDS.getD 7 []).length = 3 := rfl
      refine wp_f b1T ?_
      refine wp_vE (c_nx hA hn hkm) ?_
      refine wp_eq (e80_11 _ _) ?_
      rw [nI_1]
      exact c_nots hn hsub h0 s0 r (k + 1) (j + 1) _ (by omega) (hF.tr FrD.u5) (hA.nx hkm) (by rw [ud_k (by decide)]; exact h6) (by rw [ud_k (by decide)]; exact h7) (hC.mv (ud_q (by decide))) (hE.tr ex5 (Nat.le_refl _) (Nat.le_refl _)) (by omega) (by omega)
    · rw [if_neg q, Bool.eq_false_iff.mpr q]
      refine wp_t b0F (wp_t (fun z => ?_) (c_tail hn hsub h0 s0 hF hA h6 h7 hC hE hk (by omega) hp))
      have := nI_inj (a := j) (b := 6) (by omega) (by decide) z
      omega
theorem c_test {w : Nat} {sub : Nat → Pr} (hn : n ≤ 700) (hsub : SpC t n m b mi ru u J (fun D => EvM X d 78 [.ref 12, .int (nI 3), .int (nI w)] (hS u D J)) sub) : SpC t n m b mi ru u J (fun D => EvM X (d + 1) 80 [.ref 12, .int (nI w)] (hS u D J)) (fun k => pNots (kK t n) (vV t n) sub 6 k 0) := by
  intro k D ns ss hA h6 h7 hC h0 s0
  refine wp_eq (e80_0 _) ?_
  exact c_nots hn hsub h0 s0 6 k 0 D rfl (FrD.rf D) hA h6 h7 hC (ExD.rf D ns ss) (Nat.le_refl _) (by omega)
theorem c_top {w : Nat} {inner : Option (Nat → Pr)} (hn : n ≤ 700) (hm : mi = decide (ru = 2)) (hi : (w = 5 ∧ inner = none) ∨ (w < 5 ∧ ∃ p, inner = some p ∧ SpC t n m b mi ru u J (fun D => EvM X d 78 [.ref 12, .int 0, .int (nI (w + 1))] (hS u D J)) p)) : SpC t n m b mi ru u J (fun D => EvM X (d + 8) 78 [.ref 12, .int 0, .int (nI w)] (hS u D J)) (pTop (kK t n) (vV t n) inner mi) := by
  have h4 := c_bin (d := d + 1) (L := 4) hn (by decide) (c_c5 (c_part hn hm hi))
  have h3 := c_bin (d := d + 2) (L := 3) hn (by decide) h4
  have h1 := c_bin (d := d + 5) (L := 1) hn (by decide) (c_c2 (c_test hn h3))
  exact c_bin (d := d + 6) (L := 0) hn (by decide) h1
theorem c_E (hn : n ≤ 700) (hm : mi = decide (ru = 2)) : ∀ (j w : Nat), w + j = 5 → SpC t n m b mi ru u J (fun D => EvM X (d + 8 * (j + 1)) 78 [.ref 12, .int 0, .int (nI w)] (hS u D J)) (pE (kK t n) (vV t n) mi j)
  | 0, w, h => c_top (d := d) hn hm (Or.inl ⟨by omega, rfl⟩)
  | j + 1, w, h => c_top (d := d + 8 * (j + 1)) hn hm (Or.inr ⟨by omega, _, rfl, c_E hn hm j (w + 1) (by omega)⟩)
end CPAR3
