/-! ===== the class's parser ===== -/
def Cn (b : Nat) (D : DD) (ns ss : Nat) : Prop := D 13 4 = nI ns ∧ D 13 8 = nI ss ∧ ns ≤ 350 ∧ ss ≤ 350 ∧ b ≤ ss
theorem Cn.mv {b ns ss : Nat} {D D' : DD} (h : Cn b D ns ss) (e : D' 13 = D 13) : Cn b D' ns ss := by
  unfold Cn
  rw [e]; exact h
def VlR (x : Int32) : Prop := ∃ l, l < 707 ∧ x = nI l
/-- the steps from s on take registers -/
def Vn (D : DD) (s s' : Nat) : Prop := ∀ i, s ≤ i → i < s' → VlR (D 17 i) ∧ VlR (D 18 i)
theorem Vn.mv {D D' : DD} {s s' : Nat} (h : Vn D s s') (h1 : ∀ i, i < s' → D' 17 i = D 17 i ∧ D' 18 i = D 18 i) : Vn D' s s' := fun i a b => by
  rw [(h1 i b).1, (h1 i b).2]; exact h i a b
theorem Vn.tr {D : DD} {s s1 s2 : Nat} (h : Vn D s s1) (h1 : Vn D s1 s2) : Vn D s s2 := fun i a b => by
  rcases Nat.lt_or_ge i s1 with z | z
  · exact h i a z
  · exact h1 i z b
theorem Vn.no (D : DD) (s : Nat) : Vn D s s := fun i a b => absurd a (by omega)
theorem Rg.vl {mi : Bool} {b : Nat} {D : DD} {ns ss r : Nat} {f : RuF} (h : Rg mi b D ns ss r f) (h1 : ns ≤ 350) (h2 : ss ≤ 350) : VlR (nI r) := ⟨r, by rcases h.1 with z | z <;> omega, rfl⟩
def PoS (t : Tx) (n m b : Nat) (mi : Bool) (k : Nat) (D : DD) (ns ss k' : Nat) (f : RuF) (x : Int32) (D' : DD) : Prop := FrD D D' ∧ At t n m k' D' ∧ D' 12 6 = 0 ∧ k < k' ∧ ∃ ns' ss' r, Cn b D' ns' ss' ∧ ns ≤ ns' ∧ ss ≤ ss' ∧ ExD D ns ss D' ∧ x = nI r ∧ Rg mi b D' ns' ss' r f ∧ 2 * ns' + tkN t n k ≤ 2 * ns + tkN t n k' + 1 ∧ 2 * ss' + 1 + tkN t n k ≤ 2 * ss + tkN t n k' ∧ Vn D' ss ss'
def PoF (t : Tx) (n m b : Nat) (D : DD) (e : Int32) (k' : Nat) (D' : DD) : Prop := FrD D D' ∧ At t n m k' D' ∧ D' 12 6 = e ∧ e ≠ 0 ∧ ∃ ns' ss', Cn b D' ns' ss'
def PoC (t : Tx) (n m b : Nat) (mi : Bool) (k : Nat) (D : DD) (ns ss : Nat) (r : Pr) (x : Int32) (D' : DD) : Prop := match r with
  | .inl (e, k') => PoF t n m b D e k' D'
  | .inr (k', f) => PoS t n m b mi k D ns ss k' f x D'
def SpC (t : Tx) (n m b : Nat) (mi : Bool) (ru : Int32) (u : Nat) (J : JJ) (call : DD → Option Rs) (p : Nat → Pr) : Prop := ∀ k D ns ss, At t n m k D → D 12 6 = 0 → D 12 7 = ru → Cn b D ns ss → 2 * ns ≤ tkN t n k → 2 * ss ≤ tkN t n k → Wp (call D) (RI u J (PoC t n m b mi k D ns ss (p k)))
section CPAR
variable {X : XS} {d u : Nat} {D D' : DD} {J : JJ} {t : Tx} {n m b k ns ss : Nat} {mi : Bool} {ru : Int32}
theorem PoF.tr {A : DD} {e : Int32} {k' : Nat} (h : PoF t n m b D e k' D') (hf : FrD A D) : PoF t n m b A e k' D' := ⟨hf.tr h.1, h.2⟩
theorem c_82 (h7 : D 12 7 = ru) (hm : mi = decide (ru = 2)) (x : Int32) : EvM X d 82 [.ref 12, .int x] (hS u D J) = some (.inl (some (.int (bI32 (vlOk mi x)))), hS u D J) := by
  refine (e82_0 x).trans ?_
  rw [h7]
  unfold vlOk
  by_cases h2 : ru = 2
  · rw [show mi = true by rw [hm, decide_eq_true h2]]
    by_cases h4 : x = 4
    · rw [brT h4, brT h2, if_pos h4]; rfl
    · rw [brF h4, if_neg h4]
      by_cases h5 : x = 5
      · rw [brF (show ¬ ¬ x = 5 from fun z => z h5), brT h2, if_pos h5]; rfl
      · rw [brT h5, if_neg h5]
        by_cases h6 : x = 6
        · rw [brF (show ¬ ¬ x = 6 from fun z => z h6), brF (show ¬ ¬ ru = 2 from fun z => z h2), if_pos h6]; rfl
        · rw [brT h6, if_neg h6]
          by_cases h0 : x < 0
          · rw [brT h0, decide_eq_true h0]; rfl
          · rw [brF h0, decide_eq_false h0]; rfl
  · rw [show mi = false by rw [hm, decide_eq_false h2]]
    by_cases h4 : x = 4
    · rw [brT h4, brF h2, if_pos h4]; rfl
    · rw [brF h4, if_neg h4]
      by_cases h5 : x = 5
      · rw [brF (show ¬ ¬ x = 5 from fun z => z h5), brF h2, if_pos h5]; rfl
      · rw [brT h5, if_neg h5]
        by_cases h6 : x = 6
        · rw [brF (show ¬ ¬ x = 6 from fun z => z h6), brT h2, if_pos h6]; rfl
        · rw [brT h6, if_neg h6]
          by_cases h0 : x < 0
          · rw [brT h0, decide_eq_true h0]; rfl
          · rw [brF h0, decide_eq_false h0]; rfl
def stD (D : DD) (ss : Nat) (o l r : Int32) : DD := ud (ud (ud (ud D 16 ss o) 17 ss l) 18 ss r) 13 8 (nI (ss + 1))
theorem c_stepS {o l r : Int32} (h : Cn b D ns ss) (hs : ss < 350) (hl : l ≠ -1) (hr : r ≠ -1) : EvM X d 90 [.ref 13, .int o, .int l, .int r] (hS u D J) = some (.inl (some (.int (nI (357 + ss)))), hS u (stD D ss o l r) J) := by
  obtain ⟨h1, h2, h3, h4, h5⟩ := h
  refine (e90_0 _ _ _).trans ?_
  have c1 : ∀ A : DD, A 13 8 = nI ss → ob (A 13 8) 350 = true ∧ (A 13 8).toNatClampNeg = ss := fun A hA => by
    rw [hA]; exact ⟨ob_n hs (by decide), nI_clamp (by omega)⟩
  have a1 : ud D 16 ss o 13 8 = nI ss := by rw [ud_q (by decide)]; exact h2
  have a2 : ud (ud D 16 ss o) 17 ss l 13 8 = nI ss := by rw [ud_q (by decide)]; exact a1
  have a3 : ud (ud (ud D 16 ss o) 17 ss l) 18 ss r 13 8 = nI ss := by rw [ud_q (by decide)]; exact a2
  rw [brF hl, brF hr, brT (show D 13 8 < 350 by rw [h2]; exact nI_lt (b := 350) hs (by decide)), e90_12, gd_t (c1 D h2).1, (c1 D h2).2, e90_18, gd_t (c1 _ a1).1, (c1 _ a1).2, e90_24, gd_t (c1 _ a2).1, (c1 _ a2).2, e90_30, a3, nI_1, e90_36, ud_at, la]
  show (some (.inl (some (.int (nI ((357 + ss) + 1) - 1))), _) : Option Rs) = _
  rw [nI_pred]; rfl
theorem st_fr {o l r : Int32} : FrD D (stD D ss o l r) := ⟨fun q a b c => by unfold stD; rw [ud_q b, ud_q (by omega), ud_q (by omega), ud_q (by omega)], fun k _ _ => by unfold stD; rw [ud_q (by decide), ud_q (by decide), ud_q (by decide), ud_q (by decide)], fun k _ a => by unfold stD; rw [ud_k a, ud_q (by decide), ud_q (by decide), ud_q (by decide)]⟩
theorem st_12 {o l r : Int32} : stD D ss o l r 12 = D 12 := by unfold stD; rw [ud_q (by decide), ud_q (by decide), ud_q (by decide), ud_q (by decide)]
theorem st_cn {o l r : Int32} (h : Cn b D ns ss) (hs : ss < 350) : Cn b (stD D ss o l r) ns (ss + 1) := by
  obtain ⟨h1, h2, h3, h4, h5⟩ := h
  refine ⟨?_, ?_, h3, hs, by omega⟩
  · unfold stD; rw [ud_k (by decide), ud_q (by decide), ud_q (by decide), ud_q (by decide)]; exact h1
  · unfold stD; rw [ud_at]
theorem st_ex {o l r : Int32} : ExD D ns ss (stD D ss o l r) := ⟨fun i _ _ => by unfold stD; rw [ud_q (by decide), ud_q (by decide), ud_q (by decide), ud_q (by decide)], fun i hi => by
  unfold stD
  refine ⟨?_, ?_, ?_⟩
  · rw [ud_q (by decide), ud_q (by decide), ud_q (by decide), ud_k (by omega)]
  · rw [ud_q (by decide), ud_q (by decide), ud_k (by omega), ud_q (by decide)]
  · rw [ud_q (by decide), ud_k (by omega), ud_q (by decide), ud_q (by decide)]⟩
theorem st_at {o l r : Int32} : stD D ss o l r 16 ss = o ∧ stD D ss o l r 17 ss = l ∧ stD D ss o l r 18 ss = r := by
  unfold stD
  refine ⟨?_, ?_, ?_⟩
  · rw [ud_q (by decide), ud_q (by decide), ud_q (by decide), ud_at]
  · rw [ud_q (by decide), ud_q (by decide), ud_at]
  · rw [ud_q (by decide), ud_at]
theorem c_stepA {o l r : Int32} (h : Cn b D ns ss) : ∃ x D1, EvM X d 90 [.ref 13, .int o, .int l, .int r] (hS u D J) = some (.inl (some (.int x)), hS u D1 J) ∧ FrD D D1 ∧ D1 12 = D 12 ∧ ∃ ss', Cn b D1 ns ss' := by
  by_cases q : l ≠ -1 ∧ r ≠ -1 ∧ ss < 350
  · exact ⟨_, _, c_stepS h q.2.2 q.1 q.2.1, st_fr, st_12, _, st_cn h q.2.2⟩
  · refine ⟨-1, D, ?_, FrD.rf D, rfl, ss, h⟩
    refine (e90_0 _ _ _).trans ?_
    by_cases h1 : l = -1
    · rw [brT h1, e90_10]
    · rw [brF h1]
      by_cases h2 : r = -1
      · rw [brT h2, e90_10]
      · have h4 := h.2.2.2.1
        have hz : ss = 350 := by
          rcases Nat.lt_or_ge ss 350 with z | z
          · exact absurd ⟨h1, h2, z⟩ q
          · omega
        have h5 : ¬ D 13 8 < 350 := by
          rw [h.2.1, hz]; decide
        rw [brF h2, brF h5, e90_10]
theorem PoS.st {k0 k1 k2 : Nat} {D0 D1 D2 : DD} {f g : RuF} {x y o : Int32} {ns0 ss0 ns1 ss1 r1 : Nat} (hn : n ≤ 700) (h0 : 2 * ns0 ≤ tkN t n k0) (s0 : 2 * ss0 ≤ tkN t n k0)
    (a1 : FrD D0 D1) (a4 : k0 < k2) (c1 : Cn b D1 ns1 ss1) (c2 : ns0 ≤ ns1) (c3 : ss0 ≤ ss1) (c4 : ExD D0 ns0 ss0 D1) (c5 : x = nI r1) (c6 : Rg mi b D1 ns1 ss1 r1 f) (c7 : 2 * ns1 + tkN t n k0 ≤ 2 * ns0 + tkN t n k1 + 1) (c8 : 2 * ss1 + 1 + tkN t n k0 ≤ 2 * ss0 + tkN t n k1) (c9 : Vn D1 ss0 ss1)
    (hp : tkN t n k1 + 1 ≤ tkN t n (k1 + 1)) (h2 : PoS t n m b mi (k1 + 1) D1 ns1 ss1 k2 g y D2) : ∃ (z : Nat) (D3 : DD), EvM X d 90 [.ref 13, .int o, .int x, .int y] (hS u D2 J) = some (.inl (some (.int (nI z))), hS u D3 J) ∧ PoS t n m b mi k0 D0 ns0 ss0 k2 (fun v => opI o (f v) (g v)) (nI z) D3 := by
  obtain ⟨b1, b2, b3, b4, ns2, ss2, r2, e1, e2, e3, e4, e5, e6, e7, e8, e9⟩ := h2
  have hP : tkN t n k2 ≤ n := tk_le t n k2
  have hs : ss2 < 350 := by omega
  have hr1 : r1 < 2 ^ 31 := by
    have := c1.2.2.1
    have := c1.2.2.2.1
    rcases c6.1 with h | h <;> omega
  have hr2 : r2 < 2 ^ 31 := by
    have := e1.2.2.1
    have := e1.2.2.2.1
    rcases e6.1 with h | h <;> omega
  subst c5 e5
  refine ⟨357 + ss2, _, c_stepS e1 hs (nI_ne1 hr1) (nI_ne1 hr2), (a1.tr b1).tr st_fr, ⟨b2.1.fr st_fr, b2.2.1, by rw [st_12]; exact b2.2.2⟩, by rw [st_12]; exact b3, a4, ns2, ss2 + 1, 357 + ss2, st_cn e1 hs, by omega, by omega, (c4.tr e4 c2 c3).tr st_ex (by omega) (by omega), rfl, ?_, by omega, by omega, ?_⟩
  rotate_left
  · exact (((c9.mv (fun i hi => (e4.2 i hi).2)).tr e9).mv (fun i hi => (st_ex (ns := ns2).2 i hi).2)).tr (fun i i1 i2 => by
      have ei : i = ss2 := by omega
      subst ei
      rw [st_at.2.1, st_at.2.2]; exact ⟨c6.vl c1.2.2.1 c1.2.2.2.1, e6.vl e1.2.2.1 e1.2.2.2.1⟩)
  exact Rg.st (c6.mv e4 e2 e3 c1.2.2.1 c1.2.2.2.2) e6 st_ex e1.2.2.2.2 e1.2.2.1 hs st_at.1 st_at.2.1 st_at.2.2
theorem c_loop {L w : Nat} {sub : Nat → Pr} {k0 ns0 ss0 : Nat} {D0 : DD} (hn : n ≤ 700) (hL : L = 0 ∨ L = 1 ∨ L = 3 ∨ L = 4) (hsub : SpC t n m b mi ru u J (fun D => EvM X (d + 1) 78 [.ref 12, .int (nI (L + 1)), .int (nI w)] (hS u D J)) sub) (h0 : 2 * ns0 ≤ tkN t n k0) (s0 : 2 * ss0 ≤ tkN t n k0) (h7 : D0 12 7 = ru) : ∀ (r i k : Nat) (f : RuF) (x3 : Int32) (D : DD), i + r = 700 → PoS t n m b mi k0 D0 ns0 ss0 k f x3 D →
    Wp (Ev X (d + 2) 78 (23, [.ref 12, .int (nI L), .int (nI w), .int x3, .int (nI i), .null], [], hS u D J)) (RI u J (PoC t n m b mi k0 D0 ns0 ss0 (pLoop (kK t n) (vV t n) sub L r k f)))
  | 0, i, k, f, x3, D, hi, hP => by
    refine wp_eq (e78_23 _ _ _ _) (wp_t (nI_le (a := 700) (by omega) (by omega)) ?_)
    exact wp_rI hP
  | r + 1, i, k, f, x3, D, hi, hP => by
    obtain ⟨a1, a2, a3, a4, ns1, ss1, r1, c1, c2, c3, c4, c5, c6, c7, c8, c9⟩ := id hP
    refine wp_eq (e78_23 _ _ _ _) (wp_f (nI_ge (b := 700) (by omega) (by omega)) (wp_f (fun z => z a3) ?_))
    refine wp_iE (c_op a2 hn hL) ?_
    refine wp_eq (e78_32 _ _ _ _ _) ?_
    rw [pLoop]
    by_cases q : opAt (kK t n) (vV t n) L k = -1
    · rw [if_pos q]
      refine wp_f (fun z => z q) ?_
      exact wp_rI hP
    · rw [if_neg q]
      have hk := op_lt a2 q
      have hinc := a2.1.inc hk
      refine wp_t q ?_
      refine wp_vE (c_nx a2 hn hk) ?_
      refine wp_eq (e78_39 _ _ _ _ _) ?_
      rw [nI_1]
      have A1 := a2.nx hk
      refine wp_cI (hsub (k + 1) _ ns1 ss1 A1 (by rw [ud_k (by decide)]; exact a3) (by rw [ud_k (by decide), a1.2.1 7 (by decide) (by decide)]; exact h7) (c1.mv (ud_q (by decide))) (by omega) (by omega)) (fun y D2 h2 => ?_)
      refine wp_eq (e78_49 _ _ _ _ _ _ _ _) ?_
      cases hp : sub (k + 1) with
      | inl e =>
        obtain ⟨e, k'⟩ := e
        rw [hp] at h2
        obtain ⟨f1, f2, f3, f4, ns2, ss2, f5⟩ : PoF t n m b _ e k' D2 := h2
        obtain ⟨z, D3, g1, g2, g3, ss3, g4⟩ := c_stepA (X := X) (d := d + 1) (u := u) (J := J) (o := opAt (kK t n) (vV t n) L k) (l := x3) (r := y) f5
        refine wp_iE g1 ?_
        refine wp_eq (e78_50 _ _ _ _ _ _) ?_
        rw [nI_1]
        refine wp_weak (ls := [.ref 12, .int (nI L), .int (nI w), .int z, .int (nI (i + 1)), .null]) ⟨Or.inl rfl, Or.inl rfl, Or.inl rfl, Or.inl rfl, Or.inl rfl, Or.inr ⟨rfl, rfl⟩, trivial⟩ ?_
        refine wp_eq (e78_23 _ _ _ _) ?_
        have hF : PoF t n m b D0 e k' D3 := ⟨((a1.tr FrD.u5).tr f1).tr g2, ⟨f2.1.fr g2, f2.2.1, by rw [g3]; exact f2.2.2⟩, by rw [g3]; exact f3, f4, ns2, ss3, g4⟩
        refine wp_if (fun _ => wp_rI hF) (fun _ => ?_)
        exact wp_t (by rw [hF.2.2.1]; exact f4) (wp_rI hF)
      | inr kg =>
        obtain ⟨k2, g⟩ := kg
        rw [hp] at h2
        have h2 : PoS t n m b mi (k + 1) _ ns1 ss1 k2 g y D2 := h2
        obtain ⟨z, D3, g1, g2⟩ := PoS.st (X := X) (d := d + 1) (u := u) (J := J) (o := opAt (kK t n) (vV t n) L k) (D1 := ud D 12 5 (nI (k + 1))) hn h0 s0 (a1.tr FrD.u5) (by have := h2.2.2.2.1; omega) (c1.mv (ud_q (by decide))) c2 c3 (c4.tr ⟨fun i _ _ => by rw [ud_q (by decide)], fun i _ => ⟨by rw [ud_q (by decide)], by rw [ud_q (by decide)], by rw [ud_q (by decide)]⟩⟩ c2 c3) c5 (c6.mv ⟨fun i _ _ => by rw [ud_q (by decide)], fun i _ => ⟨by rw [ud_q (by decide)], by rw [ud_q (by decide)], by rw [ud_q (by decide)]⟩⟩ (Nat.le_refl _) (Nat.le_refl _) c1.2.2.1 c1.2.2.2.2) c7 c8 (c9.mv (fun i _ => ⟨by rw [ud_q (by decide)], by rw [ud_q (by decide)]⟩)) hinc h2
        refine wp_iE g1 ?_
        refine wp_eq (e78_50 _ _ _ _ _ _) ?_
        rw [nI_1]
        refine wp_weak (ls := [.ref 12, .int (nI L), .int (nI w), .int (nI z), .int (nI (i + 1)), .null]) ⟨Or.inl rfl, Or.inl rfl, Or.inl rfl, Or.inl rfl, Or.inl rfl, Or.inr ⟨rfl, rfl⟩, trivial⟩ ?_
        exact c_loop hn hL hsub h0 s0 h7 r (i + 1) k2 _ (nI z) D3 (by omega) g2
theorem c_bin {L w : Nat} {sub : Nat → Pr} (hn : n ≤ 700) (hL : L = 0 ∨ L = 1 ∨ L = 3 ∨ L = 4) (hsub : SpC t n m b mi ru u J (fun D => EvM X (d + 1) 78 [.ref 12, .int (nI (L + 1)), .int (nI w)] (hS u D J)) sub) : SpC t n m b mi ru u J (fun D => EvM X (d + 2) 78 [.ref 12, .int (nI L), .int (nI w)] (hS u D J)) (pBin (kK t n) (vV t n) sub L) := by
  intro k D ns ss hA h6 h7 hC h0 s0
  refine wp_eq (e78_0 _ _) ?_
  refine wp_t (fun z => ?_) (wp_t (nI_le (b := 4) (by omega) (by decide)) ?_)
  · have := nI_inj (a := L) (b := 2) (by omega) (by decide) z
    omega
  rw [nI_1]
  refine wp_cI (hsub k D ns ss hA h6 h7 hC h0 s0) (fun y D2 h2 => ?_)
  refine wp_eq (e78_20 _ _ _) ?_
  unfold pBin
  cases hp : sub k with
  | inl e =>
    obtain ⟨e, k'⟩ := e
    rw [hp] at h2
    have h2 : PoF t n m b D e k' D2 := h2
    exact wp_eq (e78_23 _ _ _ _) (wp_f (by decide) (wp_t (by rw [h2.2.2.1]; exact h2.2.2.2.1) (wp_rI h2)))
  | inr kg =>
    obtain ⟨k1, f⟩ := kg
    rw [hp] at h2
    exact c_loop hn hL hsub h0 s0 h7 700 0 k1 f y D2 rfl h2
end CPAR
