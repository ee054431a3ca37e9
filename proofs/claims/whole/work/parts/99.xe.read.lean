/-! ===== the class reads a text ===== -/
def pJn (K : Nat → Nat) (V : Nat → Int32) (r : (Int32 × Nat) ⊕ (Nat × Ln)) : (Int32 × Nat) ⊕ (Nat × Ln) := match r with
  | .inl e => .inl e
  | .inr (k', s') => pSemi K V k' s'
section CREAD
variable {X : XS} {d u : Nat} {D D' D0 : DD} {J : JJ} {t : Tx} {n m k k0 : Nat} {s : Ln}
theorem Cn.z {b ns ss : Nat} (h : Cn b D ns ss) : Cn ss D ns ss := ⟨h.1, h.2.1, h.2.2.1, h.2.2.2.1, Nat.le_refl _⟩
theorem c_rule {r : Nat} (hn : n ≤ 700) (hL : LnC t n m s k D) (hk : k < m) (hr : r < 3) : Wp (EvM X (d + 49) 77 [.ref 12, .int (nI r)] (hS u D J)) (RV u J (LpP t n m D k (match s.2.2.2 r with
    | some _ => .inl (5, k)
    | none => match pE (kK t n) (vV t n) (decide (r = 2)) 5 (k + 1) with
      | .inl e => .inl e
      | .inr (k', f) => .inr (k', (s.1, s.2.1, s.2.2.1, fun i => if i = r then some f else s.2.2.2 i))))) := by
  obtain ⟨hA, h6, h0, h1, h2, h3, ns, ss, c1, c2, c3, c4⟩ := id hL
  have hinc := hA.1.inc hk
  refine wp_eq (e77_0 _) ?_
  refine wp_iE (s_has (R := 13) (Or.inr rfl) hr) ?_
  refine wp_eq (e77_4 _ _) ?_
  have c4r := c4 r hr
  cases hs : s.2.2.2 r with
  | some f =>
    rw [hs] at c4r
    obtain ⟨b, e, root, a1, a2, a3, a4, a5, a6, a7⟩ := c4r
    have hne : ¬ D (13 + 8) r = -1 := by
      show ¬ D 21 r = -1
      have := c1.2.2.1
      have := c1.2.2.2.1
      rw [a1]; exact nI_ne1 (by rcases a6.1 with z | z <;> omega)
    rw [if_neg hne]
    refine wp_f (by decide) ?_
    refine wp_iE (c_fail0 h6 _) ?_
    refine wp_eq (e77_8 _ _) ?_
    have hP : LpP t n m D k (.inl (5, k)) (ud D 12 6 5) := ⟨FrT.ud (by decide) (by decide), hA.u6, ud_at _ _ _ _, by decide⟩
    exact wp_rV hP
  | none =>
    rw [hs] at c4r
    have hne : D (13 + 8) r = -1 := c4r
    rw [if_pos hne]
    refine wp_t rfl ?_
    refine wp_vE (c_nx hA hn hk) ?_
    have A1 := hA.nx hk
    refine wp_eq (e77_12 _) ?_
    have o3 : ob (nI r) 3 = true := ob_n hr (by decide)
    have e87 : EvM X (d + 48) 87 [.ref 13, .int (nI r)] (hS u (ud (ud D 12 5 (nI (k + 1))) 12 7 (nI r)) J) = some (.inl none, hS u (ud (ud (ud D 12 5 (nI (k + 1))) 12 7 (nI r)) 19 r (nI ss)) J) := by
      refine (e87_0 _).trans ?_
      rw [gd_t o3, nI_clamp (by omega), ud_q (by decide), ud_q (by decide), c1.2.1]
    refine wp_vE e87 ?_
    generalize hD1 : ud (ud (ud D 12 5 (nI (k + 1))) 12 7 (nI r)) 19 r (nI ss) = D1
    have gq : ∀ q, q ≠ 12 → q ≠ 19 → D1 q = D q := fun q q1 q2 => by rw [← hD1, ud_q q2, ud_q q1, ud_q q1]
    have g12 : ∀ i, i ≠ 5 → i ≠ 7 → D1 12 i = D 12 i := fun i i1 i2 => by rw [← hD1, ud_q (by decide), ud_k i2, ud_k i1]
    have g19 : ∀ i, i ≠ r → D1 19 i = D 19 i := fun i hi => by rw [← hD1, ud_k hi, ud_q (by decide), ud_q (by decide)]
    have B1 : At t n m (k + 1) D1 := ⟨hA.1.mv (gq 22 (by decide) (by decide)) (gq 23 (by decide) (by decide)) (gq 24 (by decide) (by decide)), hk, by rw [← hD1, ud_q (by decide), ud_k (by decide), ud_at]⟩
    have hC1 : Cn ss D1 ns ss := c1.z.mv (gq 13 (by decide) (by decide))
    have hE1 : ExD D ns ss D1 := ⟨fun i _ _ => by rw [gq 15 (by decide) (by decide)], fun i _ => ⟨by rw [gq 16 (by decide) (by decide)], by rw [gq 17 (by decide) (by decide)], by rw [gq 18 (by decide) (by decide)]⟩⟩
    have hmi : decide (r = 2) = decide (nI r = 2) := by
      by_cases z : r = 2
      · rw [decide_eq_true z, decide_eq_true (by rw [z]; rfl)]
      · rw [decide_eq_false z, decide_eq_false (show ¬ nI r = 2 from fun y => z (nI_inj (a := r) (b := 2) (by omega) (by decide) y))]
    refine wp_eq (e77_19 _) ?_
    refine wp_cI (c_E (X := X) (d := d) (u := u) (J := J) (b := ss) hn hmi 5 0 rfl (k + 1) D1 ns ss B1 (by rw [g12 6 (by decide) (by decide)]; exact h6) (by rw [← hD1, ud_q (by decide), ud_at]) hC1 (by omega) (by omega)) (fun y D2 hp => ?_)
    refine wp_eq (e77_23 _ _) ?_
    dsimp only
    have F1 : FrT D D1 := fun q hq => gq q (by omega) (by omega)
    cases hpe : pE (kK t n) (vV t n) (decide (r = 2)) 5 (k + 1) with
    | inl e =>
      obtain ⟨e, k'⟩ := e
      rw [hpe] at hp
      obtain ⟨f1, f2, f3, f4, f5⟩ : PoF t n m ss D1 e k' D2 := hp
      refine wp_t (by rw [f3]; exact f4) (wp_eq (e77_32 _ _) ?_)
      have hP : LpP t n m D k (.inl (e, k')) D2 := ⟨F1.tr f1.l, f2, f3, f4⟩
      exact wp_rV hP
    | inr kg =>
      obtain ⟨k', f⟩ := kg
      rw [hpe] at hp
      obtain ⟨b1, b2, b3, b4, ns2, ss2, r2, e1, e2, e3, e4, e5, e6, e7, e8, e9⟩ : PoS t n m ss _ (k + 1) D1 ns ss k' f y D2 := hp
      refine wp_f (fun z => z b3) ?_
      have e88 : EvM X (d + 48) 88 [.ref 13, .int (nI r), .int y] (hS u D2 J) = some (.inl none, hS u (ud (ud D2 20 r (nI ss2)) 21 r y) J) := by
        refine (e88_0 _ _).trans ?_
        rw [gd_t o3, gd_t o3, nI_clamp (by omega), e1.2.1]
      refine wp_vE e88 (wp_eq (e77_32 _ _) ?_)
      generalize hD3 : ud (ud D2 20 r (nI ss2)) 21 r y = D3
      have rq : ∀ q, q ≠ 20 → q ≠ 21 → D3 q = D2 q := fun q q1 q2 => by rw [← hD3, ud_q q2, ud_q q1]
      have r20 : ∀ i, i ≠ r → D3 20 i = D 20 i := fun i hi => by rw [← hD3, ud_q (by decide), ud_k hi, b1.1 20 (by decide) (by decide) (by decide), gq 20 (by decide) (by decide)]
      have r21 : ∀ i, i ≠ r → D3 21 i = D 21 i := fun i hi => by rw [← hD3, ud_k hi, ud_q (by decide), b1.1 21 (by decide) (by decide) (by decide), gq 21 (by decide) (by decide)]
      have r19 : D3 19 = D1 19 := by rw [rq 19 (by decide) (by decide), b1.1 19 (by decide) (by decide) (by decide)]
      have hE3 : ∀ a c, ExD D2 a c D3 := fun a c => ⟨fun i _ _ => by rw [rq 15 (by decide) (by decide)], fun i _ => ⟨by rw [rq 16 (by decide) (by decide)], by rw [rq 17 (by decide) (by decide)], by rw [rq 18 (by decide) (by decide)]⟩⟩
      have hE : ExD D ns ss D3 := (hE1.tr e4 (Nat.le_refl _) (Nat.le_refl _)).tr (hE3 ns ss) (Nat.le_refl _) (Nat.le_refl _)
      have hP : LpP t n m D k (.inr (k', (s.1, s.2.1, s.2.2.1, fun i => if i = r then some f else s.2.2.2 i))) D3 := by
        refine ⟨(F1.tr b1.l).tr (fun q hq => rq q (by omega) (by omega)), ⟨⟨b2.1.mv (rq 22 (by decide) (by decide)) (rq 23 (by decide) (by decide)) (rq 24 (by decide) (by decide)), b2.2.1, by rw [rq 12 (by decide) (by decide)]; exact b2.2.2⟩, by rw [rq 12 (by decide) (by decide)]; exact b3, ?_, h1, fun p hp => ?_, ?_, ns2, ss2, ?_, by omega, by omega, fun r' hr' => ?_⟩, by omega⟩
        · rw [rq 13 (by decide) (by decide), b1.2.2 0 (by decide) (by decide), gq 13 (by decide) (by decide)]; exact h0
        · rw [rq 14 (by decide) (by decide), b1.1 14 (by decide) (by decide) (by decide), gq 14 (by decide) (by decide)]; exact h2 p hp
        · show stC s.2.2.1 D3
          unfold stC at h3 ⊢
          rw [rq 12 (by decide) (by decide), b1.2.1 8 (by decide) (by decide), g12 8 (by decide) (by decide), rq 13 (by decide) (by decide), b1.2.2 1 (by decide) (by decide), gq 13 (by decide) (by decide)]; exact h3
        · obtain ⟨q1, q2, q3, q4, q5⟩ := e1
          exact ⟨by rw [rq 13 (by decide) (by decide)]; exact q1, by rw [rq 13 (by decide) (by decide)]; exact q2, q3, q4, Nat.zero_le _⟩
        · dsimp only
          by_cases z : r' = r
          · subst z
            rw [if_pos rfl]
            refine ⟨ss, ss2, r2, by rw [← hD3, ud_at]; exact e5, by rw [r19, ← hD1, ud_at], by rw [← hD3, ud_q (by decide), ud_at], e3, Nat.le_refl _, e6.mv (hE3 _ _) (Nat.le_refl _) (Nat.le_refl _) e1.2.2.1 e1.2.2.2.2, e9.mv (fun i _ => ⟨by rw [rq 17 (by decide) (by decide)], by rw [rq 18 (by decide) (by decide)]⟩)⟩
          · rw [if_neg z]
            exact (c4 r' hr').mv hE e2 e3 c1.2.2.1 (by rw [r19]; exact g19 r' z) (r20 r' z) (r21 r' z)
      exact wp_rV hP
theorem c_join {x1 : Int32} {r0 : (Int32 × Nat) ⊕ (Nat × Ln)} (hn : n ≤ 700) (h : LpP t n m D k r0 D') : Wp (br (decide (¬ (D' 12 6) = 0)) (some (.inl none, hS u D' J)) (bI (EvM X d 71 [.ref 12, .int 59] (hS u D' J)) (fun y h => Ev X (d + 1) 73 (48, [.ref 12, .int x1], [.int y], h)) (fun e h => some (.inr e, h)))) (RV u J (LiP t n m D k (pJn (kK t n) (vV t n) r0))) := by
  obtain ⟨h1, h2⟩ := h
  cases r0 with
  | inl e =>
    obtain ⟨e, k'⟩ := e
    obtain ⟨a1, a2, a3⟩ : At t n m k' D' ∧ D' 12 6 = e ∧ e ≠ 0 := h2
    have hP : LiP t n m D k (.inl (e, k')) D' := ⟨h1, a1, a2, a3⟩
    exact wp_t (by rw [a2]; exact a3) (wp_rV hP)
  | inr ks =>
    obtain ⟨k', s'⟩ := ks
    obtain ⟨a1, a2⟩ : LnC t n m s' k' D' ∧ k < k' := h2
    exact wp_f (fun z => z a1.2.1) (c_semi hn h1 a2 a1)
theorem wd_of {w : Nat} (h1 : kK t n k = 1) {j : Nat} (hj : j < 15) (hw : w < 15) (e : vV t n k = nI j) : wdAt (kK t n) (vV t n) (nI w) k = decide (j = w) := by
  unfold wdAt
  rw [decide_eq_true h1, e, Bool.true_and]
  by_cases z : j = w
  · rw [z, decide_eq_true rfl, decide_eq_true rfl]
  · rw [decide_eq_false z, decide_eq_false (fun y => z (nI_inj (by omega) (by omega) y))]
theorem c_line (hn : n ≤ 700) (hL : LnC t n m s k D) (hk : k < m) : Wp (EvM X (d + 50) 73 [.ref 12] (hS u D J)) (RV u J (LiP t n m D k (pLine (kK t n) (vV t n) s k))) := by
  obtain ⟨hA, h6, -⟩ := id hL
  refine wp_eq (e73_0) (wp_gd (hA.ob hn) ?_)
  rw [hA.cl hn, hA.K]
  have bad : ∀ x1 : Int32, Wp (bI (EvM X (d + 49) 62 [.ref 12, .int 1] (hS u D J)) (fun y h => Ev X (d + 50) 73 (41, [.ref 12, .int x1], [.int y], h)) (fun e h => some (.inr e, h))) (RV u J (LiP t n m D k (.inl (1, k)))) := fun x1 => by
    refine wp_iE (c_fail0 h6 _) ?_
    have hP : LiP t n m D k (.inl (1, k)) (ud D 12 6 1) := ⟨FrT.ud (by decide) (by decide), hA.u6, ud_at _ _ _ _, by decide⟩
    exact wp_eq (e73_41 _ _) (wp_t (by rw [ud_at]; decide) (wp_rV hP))
  by_cases z1 : kK t n k = 1
  · have z1' : nI (kK t n k) = 1 := by rw [z1]; rfl
    refine wp_f (fun z => z z1') (wp_gd (hA.ob hn) ?_)
    rw [hA.V hk]
    have W := fun w (hw : w < 15) {j : Nat} (hj : j < 15) (e : vV t n k = nI j) => wd_of (w := w) z1 hj hw e
    rcases v_word15 z1 with e | ⟨j, hj, e⟩
    · have N : ∀ c : Int32, c ≠ -1 → wdAt (kK t n) (vV t n) c k = false := fun c hc => by
        unfold wdAt
        rw [e, decide_eq_false (show ¬ (-1 : Int32) = c from fun y => hc y.symm), Bool.and_false]
      have ep : pLine (kK t n) (vV t n) s k = .inl (1, k) := by
        unfold pLine
        rw [N 0 (by decide), N 1 (by decide), N 2 (by decide), N 3 (by decide), N 4 (by decide)]; rfl
      rw [ep, e]
      exact wp_t (by decide) (wp_t (by decide) (wp_t (by decide) (bad _)))
    · unfold pLine
      rw [show (0 : Int32) = nI 0 from rfl, show (1 : Int32) = nI 1 from rfl, show (2 : Int32) = nI 2 from rfl, show (3 : Int32) = nI 3 from rfl, show (4 : Int32) = nI 4 from rfl, W 0 (by decide) hj e, W 1 (by decide) hj e, W 2 (by decide) hj e, W 3 (by decide) hj e, W 4 (by decide) hj e, e]
      by_cases j0 : j = 0
      · subst j0
        rw [if_pos (show decide (0 = 0) = true from rfl)]
        refine wp_f (fun z => z rfl) ?_
        refine wp_cV (c_person (d := d + 47) hn hL hk) (fun D2 hp => ?_)
        refine wp_eq (e73_19 _) ?_
        have h := c_join (X := X) (d := d + 49) (u := u) (J := J) (x1 := nI 0) hn hp
        have ej : pJn (kK t n) (vV t n) (if s.1 < 12 then (if pNum (kK t n) (vV t n) 0 29 (k + 1) = 0 then .inr (k + 1 + 1, (s.1 + 1, upd s.2.1 s.1 (vV t n (k + 1)), s.2.2)) else .inl (pNum (kK t n) (vV t n) 0 29 (k + 1), k + 1)) else .inl (2, k)) = (if s.1 < 12 then (if pNum (kK t n) (vV t n) 0 29 (k + 1) = 0 then pSemi (kK t n) (vV t n) (k + 1 + 1) (s.1 + 1, upd s.2.1 s.1 (vV t n (k + 1)), s.2.2) else .inl (pNum (kK t n) (vV t n) 0 29 (k + 1), k + 1)) else .inl (2, k)) := by
          split
          · split <;> rfl
          · rfl
        rw [ej] at h
        exact h
      · rw [if_neg (by rw [decide_eq_false j0]; exact Bool.false_ne_true)]
        refine wp_t (fun y => j0 (nI_inj (by omega) (by decide) y)) ?_
        by_cases j1 : j = 1
        · subst j1
          rw [if_pos (show decide (1 = 1) = true from rfl)]
          refine wp_f (fun z => z rfl) ?_
          refine wp_cV (c_seats (d := d + 47) hn hL hk) (fun D2 hp => ?_)
          refine wp_eq (e73_25 _) ?_
          have h := c_join (X := X) (d := d + 49) (u := u) (J := J) (x1 := nI 1) hn hp
          cases hs : s.2.2.1 with
          | none =>
            rw [hs] at h
            dsimp only at h ⊢
            by_cases z : pNum (kK t n) (vV t n) 1 12 (k + 1) = 0
            · rw [if_pos z] at h
              rw [if_pos (show pNum (kK t n) (vV t n) (nI 1) 12 (k + 1) = nI 0 from z)]; exact h
            · rw [if_neg z] at h
              rw [if_neg (show ¬ pNum (kK t n) (vV t n) (nI 1) 12 (k + 1) = nI 0 from z)]; exact h
          | some a =>
            rw [hs] at h
            exact h
        · rw [if_neg (by rw [decide_eq_false j1]; exact Bool.false_ne_true)]
          refine wp_t (fun y => j1 (nI_inj (by omega) (by decide) y)) ?_
          refine wp_f (nI_nlt (b := 2) (by omega) (by omega)) ?_
          have rl : ∀ r, r < 3 → j = r + 2 → Wp (br (decide ((4 : Int32) < nI j)) (bI (EvM X (d + 49) 62 [.ref 12, .int 1] (hS u D J)) (fun y h => Ev X (d + 50) 73 (41, [.ref 12, .int (nI j)], [.int y], h)) (fun e h => some (.inr e, h))) (bV (EvM X (d + 49) 77 [.ref 12, .int (nI j - 2)] (hS u D J)) (fun h => Ev X (d + 50) 73 (37, [.ref 12, .int (nI j)], [], h)) (fun e h => some (.inr e, h)))) (RV u J (LiP t n m D k (pRule (kK t n) (vV t n) r s k))) := fun r hr ej => by
            refine wp_f (nI_nlt (b := j) (a := 4) (by omega) (by decide)) ?_
            have e2 : nI j - 2 = nI r := by
              rw [show (2 : Int32) = nI 2 from rfl, nI_sub (by omega), ej, Nat.add_sub_cancel]
            rw [e2]
            refine wp_cV (c_rule (d := d) hn hL hk hr) (fun D2 hp => ?_)
            refine wp_eq (e73_37 _) ?_
            have h := c_join (X := X) (d := d + 49) (u := u) (J := J) (x1 := nI j) hn hp
            unfold pRule
            cases hs : s.2.2.2 r with
            | some f => rw [hs] at h; exact h
            | none =>
              rw [hs] at h
              dsimp only at h ⊢
              cases hpe : pE (kK t n) (vV t n) (decide (r = 2)) 5 (k + 1) with
              | inl e => rw [hpe] at h; exact h
              | inr kg => rw [hpe] at h; exact h
          by_cases j2 : j = 2
          · rw [if_pos (decide_eq_true j2)]; exact rl 0 (by decide) j2
          · rw [if_neg (by rw [decide_eq_false j2]; exact Bool.false_ne_true)]
            by_cases j3 : j = 3
            · rw [if_pos (decide_eq_true j3)]; exact rl 1 (by decide) j3
            · rw [if_neg (by rw [decide_eq_false j3]; exact Bool.false_ne_true)]
              by_cases j4 : j = 4
              · rw [if_pos (decide_eq_true j4)]; exact rl 2 (by decide) j4
              · rw [if_neg (by rw [decide_eq_false j4]; exact Bool.false_ne_true)]
                exact wp_t (nI_lt (a := 4) (by omega) (by omega)) (bad _)
  · have N : ∀ c : Int32, wdAt (kK t n) (vV t n) c k = false := fun c => by
      unfold wdAt
      rw [decide_eq_false z1, Bool.false_and]
    have ep : pLine (kK t n) (vV t n) s k = .inl (1, k) := by
      unfold pLine
      rw [N, N, N, N, N]; rfl
    rw [ep]
    exact wp_t (fun z => z1 ((kI kK_lt (by decide : 1 < 5)).mp z)) (bad _)
end CREAD
