/-! ===== a text's lines: purely, and the class ===== -/
abbrev Ln : Type := Nat × (Nat → Int32) × Option Nat × (Nat → Option RuF)
section PLINE
variable (K : Nat → Nat) (V : Nat → Int32)
def pNum (lo hi : Int32) (k : Nat) : Int32 := if K k = 2 then (if V k < lo then 2 else if V k ≤ hi then 0 else 2) else 1
def pSemi (k : Nat) (s : Ln) : (Int32 × Nat) ⊕ (Nat × Ln) := if sgAt K V 59 k = true then .inr (k + 1, s) else .inl (1, k)
def pRule (r : Nat) (s : Ln) (k : Nat) : (Int32 × Nat) ⊕ (Nat × Ln) := match s.2.2.2 r with
  | some _ => .inl (5, k)
  | none => match pE K V (decide (r = 2)) 5 (k + 1) with
    | .inl e => .inl e
    | .inr (k', f) => pSemi K V k' (s.1, s.2.1, s.2.2.1, fun i => if i = r then some f else s.2.2.2 i)
def pLine (s : Ln) (k : Nat) : (Int32 × Nat) ⊕ (Nat × Ln) :=
  if wdAt K V 0 k = true then (if s.1 < 12 then (if pNum K V 0 29 (k + 1) = 0 then pSemi K V (k + 1 + 1) (s.1 + 1, upd s.2.1 s.1 (V (k + 1)), s.2.2) else .inl (pNum K V 0 29 (k + 1), k + 1)) else .inl (2, k))
  else if wdAt K V 1 k = true then (match s.2.2.1 with
    | none => if pNum K V 1 12 (k + 1) = 0 then pSemi K V (k + 1 + 1) (s.1, s.2.1, some (V (k + 1)).toNatClampNeg, s.2.2.2) else .inl (pNum K V 1 12 (k + 1), k + 1)
    | some _ => .inl (5, k))
  else if wdAt K V 2 k = true then pRule K V 0 s k else if wdAt K V 3 k = true then pRule K V 1 s k else if wdAt K V 4 k = true then pRule K V 2 s k else .inl (1, k)
def pLines : Nat → Nat → Ln → (Int32 × Nat) ⊕ Ln
  | 0, _, s => .inr s
  | r + 1, k, s => if K k = 0 then .inr s else match pLine K V s k with
    | .inl e => .inl e
    | .inr (k', s') => pLines r k' s'
end PLINE
def rlC (mi : Bool) (r : Nat) (o : Option RuF) (ns ss : Nat) (D : DD) : Prop := match o with
  | none => D 21 r = -1
  | some f => ∃ b e root, D 21 r = nI root ∧ D 19 r = nI b ∧ D 20 r = nI e ∧ b ≤ e ∧ e ≤ ss ∧ Rg mi b D ns e root f ∧ Vn D b e
def stC (o : Option Nat) (D : DD) : Prop := match o with
  | none => D 12 8 = 0 ∧ D 13 1 = 12
  | some a => D 12 8 = 1 ∧ D 13 1 = nI a ∧ 1 ≤ a ∧ a ≤ 12
def LnR (t : Tx) (n k : Nat) (s : Ln) (D : DD) : Prop := ∃ ns ss, Cn 0 D ns ss ∧ 2 * ns ≤ tkN t n k ∧ 2 * ss ≤ tkN t n k ∧ ∀ r, r < 3 → rlC (decide (r = 2)) r (s.2.2.2 r) ns ss D
def LnC (t : Tx) (n m : Nat) (s : Ln) (k : Nat) (D : DD) : Prop := At t n m k D ∧ D 12 6 = 0 ∧ D 13 0 = nI s.1 ∧ s.1 ≤ 12 ∧ (∀ p, p < s.1 → D 14 p = s.2.1 p ∧ ∃ a, a ≤ 29 ∧ s.2.1 p = nI a) ∧ stC s.2.2.1 D ∧ LnR t n k s D
def FrT (D D' : DD) : Prop := ∀ q, q < 12 ∨ 24 < q → D' q = D q
theorem FrT.rf (D : DD) : FrT D D := fun _ _ => rfl
theorem FrT.tr {A B C : DD} (h : FrT A B) (h1 : FrT B C) : FrT A C := fun q a => (h1 q a).trans (h q a)
theorem FrD.l {D D' : DD} (h : FrD D D') : FrT D D' := fun q a => h.1 q (by omega) (by omega) (by omega)
theorem FrT.ud {D : DD} {q k : Nat} {v : Int32} (h1 : 12 ≤ q) (h2 : q ≤ 24) : FrT D (ud D q k v) := fun a ha => ud_q (by omega)
theorem ExD.le {D D' : DD} {ns ss e : Nat} (h : ExD D ns ss D') (he : e ≤ ss) : ExD D ns e D' := ⟨h.1, fun i hi => h.2 i (by omega)⟩
theorem rlC.mv {mi : Bool} {r ns ss ns' ss' : Nat} {o : Option RuF} {D D' : DD} (h : rlC mi r o ns ss D) (hE : ExD D ns ss D') (h1 : ns ≤ ns') (h2 : ss ≤ ss') (h3 : ns ≤ 350) (e1 : D' 19 r = D 19 r) (e2 : D' 20 r = D 20 r) (e3 : D' 21 r = D 21 r) : rlC mi r o ns' ss' D' := by
  cases o with
  | none => show D' 21 r = -1; rw [e3]; exact h
  | some f =>
    obtain ⟨b, e, root, a1, a2, a3, a4, a5, a6, a7⟩ := h
    exact ⟨b, e, root, e3.trans a1, e1.trans a2, e2.trans a3, a4, by omega, a6.mv (hE.le a5) h1 (Nat.le_refl _) h3 a4, a7.mv (fun i hi => ⟨(hE.2 i (by omega)).2.1, (hE.2 i (by omega)).2.2⟩)⟩
/-- what a line leaves -/
def LiP (t : Tx) (n m : Nat) (D : DD) (k : Nat) (r : (Int32 × Nat) ⊕ (Nat × Ln)) (D' : DD) : Prop := FrT D D' ∧ match r with
  | .inl (e, k') => At t n m k' D' ∧ D' 12 6 = e ∧ e ≠ 0
  | .inr (k', s') => LnC t n m s' k' D' ∧ k < k'
section CLINE
variable {X : XS} {d u : Nat} {D D' D0 : DD} {J : JJ} {t : Tx} {n m k k0 : Nat} {s : Ln}
theorem c_76 {lo hi : Int32} (hn : n ≤ 700) (hA : At t n m k D) (h6 : D 12 6 = 0) : (pNum (kK t n) (vV t n) lo hi k = 0 → k < m ∧ ¬ vV t n k < lo ∧ vV t n k ≤ hi ∧ EvM X (d + 1) 76 [.ref 12, .int lo, .int hi] (hS u D J) = some (.inl (some (.int (vV t n k))), hS u (ud D 12 5 (nI (k + 1))) J)) ∧ (pNum (kK t n) (vV t n) lo hi k ≠ 0 → EvM X (d + 1) 76 [.ref 12, .int lo, .int hi] (hS u D J) = some (.inl (some (.int (-1))), hS u (ud D 12 6 (pNum (kK t n) (vV t n) lo hi k)) J)) := by
  have e : EvM X (d + 1) 76 [.ref 12, .int lo, .int hi] (hS u D J) = _ := e76_0 lo hi
  rw [e, gd_t (hA.ob hn), hA.cl hn, hA.K]
  unfold pNum
  by_cases z2 : kK t n k = 2
  · have hk := hA.lt (by rw [z2]; decide)
    rw [brT (show nI (kK t n k) = 2 from (kI kK_lt (by decide : 2 < 5)).mpr z2), if_pos z2, gd_t (hA.ob hn), hA.V hk]
    by_cases a : vV t n k < lo
    · rw [if_pos a, brT a, c_fail0 h6, bI_e, e76_26]
      exact ⟨fun z => absurd z (by decide), fun _ => rfl⟩
    · rw [if_neg a, brF a]
      by_cases c : vV t n k ≤ hi
      · rw [if_pos c, brT c, c_nx hA hn hk, bV_e, e76_29]
        exact ⟨fun _ => ⟨hk, a, c, rfl⟩, fun z => absurd rfl z⟩
      · rw [if_neg c, brF c, c_fail0 h6, bI_e, e76_26]
        exact ⟨fun z => absurd z (by decide), fun _ => rfl⟩
  · rw [brF (show ¬ nI (kK t n k) = 2 from fun z => z2 ((kI kK_lt (by decide : 2 < 5)).mp z)), if_neg z2, c_fail0 h6, bI_e, e76_10]
    exact ⟨fun z => absurd z (by decide), fun _ => rfl⟩
/-- the sign behind a line -/
theorem c_semi {x1 : Int32} (hn : n ≤ 700) (hF : FrT D0 D) (hk : k0 < k) (hL : LnC t n m s k D) : Wp (bI (EvM X d 71 [.ref 12, .int 59] (hS u D J)) (fun y h => Ev X (d + 1) 73 (48, [.ref 12, .int x1], [.int y], h)) (fun e h => some (.inr e, h))) (RV u J (LiP t n m D0 k0 (pSemi (kK t n) (vV t n) k s))) := by
  obtain ⟨hA, h6, h0, h1, h2, h3, ns, ss, c1, c2, c3, c4⟩ := hL
  refine wp_iE (c_sg hA hn 59) ?_
  refine wp_eq (e73_48 _ _) ?_
  unfold pSemi
  by_cases q : sgAt (kK t n) (vV t n) 59 k = true
  · rw [if_pos q, q]
    have hkm := sg_lt hA q
    have hinc := hA.1.inc hkm
    refine wp_f b1T ?_
    refine wp_vE (c_nx hA hn hkm) ?_
    refine wp_eq (e73_51 _) ?_
    have hP : LiP t n m D0 k0 (.inr (k + 1, s)) (ud D 12 5 (nI (k + 1))) := by
      refine ⟨hF.tr (FrT.ud (by decide) (by decide)), ⟨hA.nx hkm, by rw [ud_k (by decide)]; exact h6, by rw [ud_q (by decide)]; exact h0, h1, fun p hp => by rw [ud_q (by decide)]; exact h2 p hp, ?_, ns, ss, c1.mv (ud_q (by decide)), by omega, by omega, fun r hr => (c4 r hr).mv ex5 (Nat.le_refl _) (Nat.le_refl _) c1.2.2.1 (by rw [ud_q (by decide)]) (by rw [ud_q (by decide)]) (by rw [ud_q (by decide)])⟩, by omega⟩
      unfold stC at h3 ⊢
      rw [ud_k (by decide), ud_q (by decide)]; exact h3
    exact wp_rV hP
  · rw [if_neg q, Bool.eq_false_iff.mpr q]
    refine wp_t b0F ?_
    refine wp_iE (c_fail0 h6 _) ?_
    refine wp_eq (e73_55 _ _) ?_
    have hP : LiP t n m D0 k0 (.inl (1, k)) (ud D 12 6 1) := ⟨hF.tr (FrT.ud (by decide) (by decide)), hA.u6, ud_at _ _ _ _, by decide⟩
    exact wp_rV hP
/-- what a line's own part leaves -/
def LpP (t : Tx) (n m : Nat) (D : DD) (k : Nat) (r : (Int32 × Nat) ⊕ (Nat × Ln)) (D' : DD) : Prop := FrT D D' ∧ match r with
  | .inl (e, k') => At t n m k' D' ∧ D' 12 6 = e ∧ e ≠ 0
  | .inr (k', s') => LnC t n m s' k' D' ∧ k < k'
theorem c_person (hn : n ≤ 700) (hL : LnC t n m s k D) (hk : k < m) : Wp (EvM X (d + 2) 74 [.ref 12] (hS u D J)) (RV u J (LpP t n m D k (if s.1 < 12 then (if pNum (kK t n) (vV t n) 0 29 (k + 1) = 0 then .inr (k + 1 + 1, (s.1 + 1, upd s.2.1 s.1 (vV t n (k + 1)), s.2.2)) else .inl (pNum (kK t n) (vV t n) 0 29 (k + 1), k + 1)) else .inl (2, k)))) := by
  obtain ⟨hA, h6, h0, h1, h2, h3, ns, ss, c1, c2, c3, c4⟩ := id hL
  have hinc := hA.1.inc hk
  refine wp_eq (e74_0) ?_
  rw [h0]
  by_cases q : s.1 < 12
  · rw [if_pos q]
    refine wp_t (nI_lt (b := 12) q (by decide)) ?_
    refine wp_vE (c_nx hA hn hk) ?_
    have A1 := hA.nx hk
    have z6 : ud D 12 5 (nI (k + 1)) 12 6 = 0 := by rw [ud_k (by decide)]; exact h6
    refine wp_eq (e74_12) ?_
    obtain ⟨p1, p2⟩ := c_76 (X := X) (d := d) (u := u) (J := J) (lo := 0) (hi := 29) hn A1 z6
    by_cases z : pNum (kK t n) (vV t n) 0 29 (k + 1) = 0
    · obtain ⟨k1, k2, k3, k4⟩ := p1 z
      rw [if_pos z]
      refine wp_iE k4 ?_
      obtain ⟨a, a1, a2⟩ := nI_of2 (n := 29) (M := 29) rfl k2 k3
      have A2 := A1.nx k1
      have hinc2 := A1.1.inc k1
      generalize hD2 : ud (ud D 12 5 (nI (k + 1))) 12 5 (nI (k + 1 + 1)) = D2 at A2 ⊢
      have g6 : D2 12 6 = 0 := by rw [← hD2, ud_k (by decide)]; exact z6
      have g8 : D2 12 8 = D 12 8 := by rw [← hD2, ud_k (by decide), ud_k (by decide)]
      have gq : ∀ q, q ≠ 12 → D2 q = D q := fun q hq => by rw [← hD2, ud_q hq, ud_q hq]
      refine wp_eq (e74_16 _) (wp_f (fun z => z g6) ?_)
      rw [gq 13 (by decide), h0, nI_clamp (by omega), ud_q (by decide), gq 13 (by decide), h0, nI_1]
      refine oG q (by decide) ?_
      generalize hD3 : ud (ud D2 14 s.1 (vV t n (k + 1))) 13 0 (nI (s.1 + 1)) = D3
      have r12 : D3 12 = D2 12 := by rw [← hD3, ud_q (by decide), ud_q (by decide)]
      have rq : ∀ q, q ≠ 13 → q ≠ 14 → D3 q = D2 q := fun q q1 q2 => by rw [← hD3, ud_q q1, ud_q q2]
      have r13 : ∀ i, i ≠ 0 → D3 13 i = D 13 i := fun i hi => by rw [← hD3, ud_k hi, ud_q (by decide), gq 13 (by decide)]
      have hE : ExD D ns ss D3 := ⟨fun i _ _ => by rw [rq 15 (by decide) (by decide), gq 15 (by decide)], fun i _ => ⟨by rw [rq 16 (by decide) (by decide), gq 16 (by decide)], by rw [rq 17 (by decide) (by decide), gq 17 (by decide)], by rw [rq 18 (by decide) (by decide), gq 18 (by decide)]⟩⟩
      have hP : LpP t n m D k (.inr (k + 1 + 1, (s.1 + 1, upd s.2.1 s.1 (vV t n (k + 1)), s.2.2))) D3 := by
        refine ⟨fun q hq => by rw [rq q (by omega) (by omega), gq q (by omega)], ⟨⟨A2.1.mv (rq 22 (by decide) (by decide)) (rq 23 (by decide) (by decide)) (rq 24 (by decide) (by decide)), A2.2.1, by rw [r12]; exact A2.2.2⟩, by rw [r12]; exact g6, by rw [← hD3, ud_at], by show s.1 + 1 ≤ 12; omega, fun p hp => ?_, ?_, ns, ss, ⟨(r13 4 (by decide)).trans c1.1, (r13 8 (by decide)).trans c1.2.1, c1.2.2⟩, by omega, by omega, fun r hr => (c4 r hr).mv hE (Nat.le_refl _) (Nat.le_refl _) c1.2.2.1 (by rw [rq 19 (by decide) (by decide), gq 19 (by decide)]) (by rw [rq 20 (by decide) (by decide), gq 20 (by decide)]) (by rw [rq 21 (by decide) (by decide), gq 21 (by decide)])⟩, by omega⟩
        · have hp : p < s.1 + 1 := hp
          dsimp only
          have e14 : D3 14 = upd (D 14) s.1 (vV t n (k + 1)) := by rw [← hD3, ud_q (by decide), ud_row, gq 14 (by decide)]
          rw [e14]
          by_cases e : p = s.1
          · rw [e, upd_at, upd_at]; exact ⟨rfl, a, a1, a2⟩
          · rw [upd_ne e, upd_ne e]; exact h2 p (by omega)
        · unfold stC at h3 ⊢
          rw [r12, g8, r13 1 (by decide)]; exact h3
      exact wp_rV hP
    · rw [if_neg z]
      refine wp_iE (p2 z) ?_
      refine wp_eq (e74_16 _) (wp_t (by rw [ud_at]; exact z) ?_)
      have hP : LpP t n m D k (.inl (pNum (kK t n) (vV t n) 0 29 (k + 1), k + 1)) (ud (ud D 12 5 (nI (k + 1))) 12 6 (pNum (kK t n) (vV t n) 0 29 (k + 1))) := ⟨(FrT.ud (by decide) (by decide)).tr (FrT.ud (by decide) (by decide)), A1.u6, ud_at _ _ _ _, z⟩
      exact wp_rV hP
  · rw [if_neg q]
    refine wp_f (nI_nlt (b := 12) (by omega) (by omega)) ?_
    refine wp_iE (c_fail0 h6 _) ?_
    refine wp_eq (e74_8 _) ?_
    have hP : LpP t n m D k (.inl (2, k)) (ud D 12 6 2) := ⟨FrT.ud (by decide) (by decide), hA.u6, ud_at _ _ _ _, by decide⟩
    exact wp_rV hP
theorem c_seats (hn : n ≤ 700) (hL : LnC t n m s k D) (hk : k < m) : Wp (EvM X (d + 2) 75 [.ref 12] (hS u D J)) (RV u J (LpP t n m D k (match s.2.2.1 with
    | none => if pNum (kK t n) (vV t n) 1 12 (k + 1) = 0 then .inr (k + 1 + 1, (s.1, s.2.1, some (vV t n (k + 1)).toNatClampNeg, s.2.2.2)) else .inl (pNum (kK t n) (vV t n) 1 12 (k + 1), k + 1)
    | some _ => .inl (5, k)))) := by
  obtain ⟨hA, h6, h0, h1, h2, h3, ns, ss, c1, c2, c3, c4⟩ := id hL
  have hinc := hA.1.inc hk
  refine wp_eq (e75_0) ?_
  cases hs : s.2.2.1 with
  | none =>
    rw [hs] at h3
    dsimp only
    refine wp_t h3.1 ?_
    have hAu : At t n m k (ud D 12 8 1) := ⟨hA.1.mv (ud_q (by decide)) (ud_q (by decide)) (ud_q (by decide)), hA.2.1, by rw [ud_k (by decide)]; exact hA.2.2⟩
    refine wp_vE (c_nx hAu hn hk) ?_
    have A1 := hAu.nx hk
    have z6 : ud (ud D 12 8 1) 12 5 (nI (k + 1)) 12 6 = 0 := by rw [ud_k (by decide), ud_k (by decide)]; exact h6
    refine wp_eq (e75_13) ?_
    obtain ⟨p1, p2⟩ := c_76 (X := X) (d := d) (u := u) (J := J) (lo := 1) (hi := 12) hn A1 z6
    by_cases z : pNum (kK t n) (vV t n) 1 12 (k + 1) = 0
    · obtain ⟨k1, k2, k3, k4⟩ := p1 z
      rw [if_pos z]
      refine wp_iE k4 ?_
      obtain ⟨a, a0, a1, a3, a2⟩ := nI_x (a := 1) (b := 12) (by decide) k2 (Int32.not_lt.mpr k3)
      have A2 := A1.nx k1
      have hinc2 := A1.1.inc k1
      generalize hD2 : ud (ud (ud D 12 8 1) 12 5 (nI (k + 1))) 12 5 (nI (k + 1 + 1)) = D2 at A2 ⊢
      have g6 : D2 12 6 = 0 := by rw [← hD2, ud_k (by decide)]; exact z6
      have g8 : D2 12 8 = 1 := by rw [← hD2, ud_k (by decide), ud_k (by decide), ud_at]
      have gq : ∀ q, q ≠ 12 → D2 q = D q := fun q hq => by rw [← hD2, ud_q hq, ud_q hq, ud_q hq]
      refine wp_eq (e75_17 _) (wp_f (fun z => z g6) ?_)
      rw [a2, nI_clamp a3]
      have rq : ∀ q, q ≠ 13 → ud D2 13 1 (nI a) q = D2 q := fun q q1 => ud_q q1
      have r13 : ∀ i, i ≠ 1 → ud D2 13 1 (nI a) 13 i = D 13 i := fun i hi => by rw [ud_k hi, gq 13 (by decide)]
      have hE : ExD D ns ss (ud D2 13 1 (nI a)) := ⟨fun i _ _ => by rw [rq 15 (by decide), gq 15 (by decide)], fun i _ => ⟨by rw [rq 16 (by decide), gq 16 (by decide)], by rw [rq 17 (by decide), gq 17 (by decide)], by rw [rq 18 (by decide), gq 18 (by decide)]⟩⟩
      have hP : LpP t n m D k (.inr (k + 1 + 1, (s.1, s.2.1, some a, s.2.2.2))) (ud D2 13 1 (nI a)) := by
        refine ⟨fun q hq => by rw [rq q (by omega), gq q (by omega)], ⟨⟨A2.1.mv (rq 22 (by decide)) (rq 23 (by decide)) (rq 24 (by decide)), A2.2.1, by rw [rq 12 (by decide)]; exact A2.2.2⟩, by rw [rq 12 (by decide)]; exact g6, (r13 0 (by decide)).trans h0, h1, fun p hp => by rw [rq 14 (by decide), gq 14 (by decide)]; exact h2 p hp, ⟨by rw [rq 12 (by decide)]; exact g8, ud_at _ _ _ _, a0, a1⟩, ns, ss, ⟨(r13 4 (by decide)).trans c1.1, (r13 8 (by decide)).trans c1.2.1, c1.2.2⟩, by omega, by omega, fun r hr => (c4 r hr).mv hE (Nat.le_refl _) (Nat.le_refl _) c1.2.2.1 (by rw [rq 19 (by decide), gq 19 (by decide)]) (by rw [rq 20 (by decide), gq 20 (by decide)]) (by rw [rq 21 (by decide), gq 21 (by decide)])⟩, by omega⟩
      exact wp_rV hP
    · rw [if_neg z]
      refine wp_iE (p2 z) ?_
      refine wp_eq (e75_17 _) (wp_t (by rw [ud_at]; exact z) ?_)
      have hP : LpP t n m D k (.inl (pNum (kK t n) (vV t n) 1 12 (k + 1), k + 1)) (ud (ud (ud D 12 8 1) 12 5 (nI (k + 1))) 12 6 (pNum (kK t n) (vV t n) 1 12 (k + 1))) := ⟨((FrT.ud (by decide) (by decide)).tr (FrT.ud (by decide) (by decide))).tr (FrT.ud (by decide) (by decide)), A1.u6, ud_at _ _ _ _, z⟩
      exact wp_rV hP
  | some a =>
    rw [hs] at h3
    dsimp only
    refine wp_f (by rw [h3.1]; decide) ?_
    refine wp_iE (c_fail0 h6 _) ?_
    refine wp_eq (e75_6 _) ?_
    have hP : LpP t n m D k (.inl (5, k)) (ud D 12 6 5) := ⟨FrT.ud (by decide) (by decide), hA.u6, ud_at _ _ _ _, by decide⟩
    exact wp_rV hP
end CLINE
