/-! ===== longest: the pair ===== -/
section LONGP
variable {X : XS} {d u : Nat} {D D1 : DD} {J : JJ} {σ : Sg} {ρ : Ru} {c : Cc}
def agL (ρ : Ru) (c : Cc) : Nat → Int32 := fun i => c (12 + (lineN ρ c false ρ.1).2 i)
theorem line_12 (hn : ρ.1 ≤ 12) (c : Cc) : (lineN ρ c false ρ.1).1 ≤ 12 ∧ ∀ i, i < (lineN ρ c false ρ.1).1 → (lineN ρ c false ρ.1).2 i < 12 := by
  have h := line_D hn c false
  exact ⟨h.1, fun i hi => by have := h.2.1 i hi; omega⟩
theorem p_longest {x : Int32} (hσ : SgOk σ) : PairI σ (fun u J D => EvM X (d + 50) 132 [.ref 0, .int x] (hS u D J)) (fun u J D => EvM X (d + 50) 269 [.ref 70, .int x] (hS u D J)) nI xA := by
  have hn := hσ.2.1.1.1
  have hG := hσ.2.2.1
  have hD := line_D hn σ.2.2.1 false
  have hL := line_12 hn σ.2.2.1
  have hmx := mx_le (ag := agL σ.2.1 σ.2.2.1) (m := (lineN σ.2.1 σ.2.2.1 false σ.2.1.1).1) (lineN σ.2.1 σ.2.2.1 false σ.2.1.1).1
  -- what both find first
  have cc : ∀ (Q : Rs → Prop) u J D, CI σ D → (∀ D2, CI σ D2 → (∀ q, 70 ≤ q → D2 q = D q) → D2 66 0 = nI (mxN (agL σ.2.1 σ.2.2.1) (lineN σ.2.1 σ.2.2.1 false σ.2.1.1).1 (lineN σ.2.1 σ.2.2.1 false σ.2.1.1).1) → (∀ t, t < mxN (agL σ.2.1 σ.2.2.1) (lineN σ.2.1 σ.2.2.1 false σ.2.1.1).1 (lineN σ.2.1 σ.2.2.1 false σ.2.1.1).1 → ∃ y, y < (lineN σ.2.1 σ.2.2.1 false σ.2.1.1).1 ∧ chN (agL σ.2.1 σ.2.2.1) (lineN σ.2.1 σ.2.2.1 false σ.2.1.1).2 (lineN σ.2.1 σ.2.2.1 false σ.2.1.1).1 (t + 1) = some y ∧ D2 67 t = nI ((lineN σ.2.1 σ.2.2.1 false σ.2.1.1).2 y)) → Wp (Ev X (d + 50) 132 (9, [.ref 0, .int x], [], hS u D2 J)) Q) → Wp (EvM X (d + 50) 132 [.ref 0, .int x] (hS u D J)) Q := by
    intro Q u J D hC hk
    refine wp_eq (e132_0 _) ?_
    refine wp_cV (s_line (d := d + 48) (rain := false) (Or.inl rfl) hσ.2.1 hC.2.1 hC.2.2.1.1) (fun D1 h1 => ?_)
    have hC1 := h1.ci hC
    refine wp_eq (e132_4 _) ?_
    refine wp_cV (c_long (d := d + 47) (L := lineN σ.2.1 σ.2.2.1 false σ.2.1.1) (ag := agL σ.2.1 σ.2.2.1) hL ⟨h1.1, h1.2.2.1, fun i hi => by
      have e26 : D1 26 = σ.2.2.1 := hC1.2.2.1.1
      rw [e26]; rfl⟩) (fun D2 h2 => ?_)
    obtain ⟨a1, a2, a3⟩ := h2
    exact hk D2 (hC1.scr (fun q hq => a3 q (by omega) (by omega) (by omega)) (fun i _ _ => by rw [a3 5 (by decide) (by decide) (by decide)]) (by rw [a3 32 (by decide) (by decide) (by decide)]; exact hC1.2.2.2.2.2.2.2.2.1)) (fun q hq => by rw [a3 q (by omega) (by omega) (by omega)]; exact h1.2.2.2.2.1 q (by omega) (by omega) (by omega) (by omega)) a1 a2
  have mm : ∀ (Q : Rs → Prop) u J D, MI σ D → (∀ D2, MI σ D2 → (∀ q, q < 70 → D2 q = D q) → D2 70 0 = 0 → LaM (lineN σ.2.1 σ.2.2.1 false σ.2.1.1) (agL σ.2.1 σ.2.2.1) D2 → (∀ y, y < (lineN σ.2.1 σ.2.2.1 false σ.2.1.1).1 → D2 87 y = nI (lnN (agL σ.2.1 σ.2.2.1) (lineN σ.2.1 σ.2.2.1 false σ.2.1.1).1 (lineN σ.2.1 σ.2.2.1 false σ.2.1.1).1 y)) → Wp (Ev X (d + 50) 269 (5, [.ref 70, .int x, .null, .null, .null, .null, .null], [.int (nI (mxN (agL σ.2.1 σ.2.2.1) (lineN σ.2.1 σ.2.2.1 false σ.2.1.1).1 (lineN σ.2.1 σ.2.2.1 false σ.2.1.1).1))], hS u D2 J)) Q) → Wp (EvM X (d + 50) 269 [.ref 70, .int x] (hS u D J)) Q := by
    intro Q u J D hM hk
    have hM0 := hM.th (v := 0) hn
    refine wp_eq (e269_0 _) (wp_eq (e269_3 _) ?_)
    obtain ⟨Y, r, y, D2, rfl, hy, g2, g3, g4⟩ : Wp (EvM X (d + 49) 268 [.ref 70] (hS u (ud D 70 0 0) J)) (RI u J (fun y D' => y = nI (mxN (agL σ.2.1 σ.2.2.1) (lineN σ.2.1 σ.2.2.1 false σ.2.1.1).1 (lineN σ.2.1 σ.2.2.1 false σ.2.1.1).1) ∧ (∀ x, x < (lineN σ.2.1 σ.2.2.1 false σ.2.1.1).1 → D' 87 x = nI (lnN (agL σ.2.1 σ.2.2.1) (lineN σ.2.1 σ.2.2.1 false σ.2.1.1).1 (lineN σ.2.1 σ.2.2.1 false σ.2.1.1).1 x)) ∧ LaM (lineN σ.2.1 σ.2.2.1 false σ.2.1.1) (agL σ.2.1 σ.2.2.1) D' ∧ MI σ D' ∧ D' 70 0 = 0 ∧ ∀ q, q < 70 → D' q = D q)) := by
      refine wp_eq e268_0 ?_
      refine wp_cV (s_asks (d := d + 45) (b := 0) (rain := false) (Or.inl rfl) hσ.2.1 hM0.2.1 hM0.2.2.1 hG.1.v hG.bz hM0.2.2.2.2.2.2) (fun D1 h1 => ?_)
      have hM1 := h1.mi hM0 hn
      have la1 : LaM (lineN σ.2.1 σ.2.2.1 false σ.2.1.1) (agL σ.2.1 σ.2.2.1) D1 := ⟨h1.1, h1.2.2.1, fun i hi => by
        obtain ⟨t1, -⟩ := hM1.2.2.1.s hn (hD.2.1 i hi)
        rw [Nat.zero_add] at t1
        exact t1⟩
      refine wp_mono (m_long hL la1) (fun Y h2 => ?_)
      obtain ⟨y, D2, rfl, k1, k2, k3⟩ := h2
      refine ⟨y, D2, rfl, k1, k2, la1.fr k3, hM1.mv (fun k _ _ _ => by rw [k3 70 (by decide)]) (fun i _ => by rw [k3 78 (by decide)]) (fun q hq => k3 q (by omega)) hn, ?_, fun q hq => ?_⟩
      · rw [k3 70 (by decide), h1.2.1 0 (by decide), ud_at]
      · rw [k3 q (by omega), h1.2.2.2.2 q (by omega) (by omega), ud_q (by omega)]
    refine wp_iE r ?_
    rw [hy]
    exact hk D2 g4.1 g4.2.2 g4.2.1 g3 g2
  by_cases hx1 : x = -1
  · subst hx1
    refine ⟨.inl (nI (mxN (agL σ.2.1 σ.2.2.1) (lineN σ.2.1 σ.2.2.1 false σ.2.1.1).1 (lineN σ.2.1 σ.2.2.1 false σ.2.1.1).1)), σ, hσ, fun u J D hC => cc _ u J D hC (fun D2 hC2 hf g1 g2 => ?_), fun u J D hM => mm _ u J D hM (fun D2 hM2 hf g0 g1 g2 => ?_), by first | exact trivial | exact rfl | exact Or.inl rfl | exact Or.inr rfl⟩
    · refine wp_eq (e132_9 _) (wp_f (fun z => z rfl) ?_)
      rw [g1]
      exact wp_cr hC2 hf
    · refine wp_eq (e269_5 _ _) (wp_f (by decide) (wp_f (Int32.not_le.mpr (Int32.lt_of_lt_of_le (by decide) (nI_pos' (by omega)))) ?_))
      refine wp_iE ((m_right g0 (by decide)).1 (by decide)) ?_
      exact wp_eq (e269_18 _ _ _) (wp_t (by decide) (wp_eq (e269_21 _ _) (wp_f (fun z => z rfl) (wp_mr hM2 g0 hf))))
  · by_cases ix : isPe (mxN (agL σ.2.1 σ.2.2.1) (lineN σ.2.1 σ.2.2.1 false σ.2.1.1).1 (lineN σ.2.1 σ.2.2.1 false σ.2.1.1).1) x
    · obtain ⟨n, n1, rfl⟩ := ix
      obtain ⟨y, y1, y2, -⟩ := ch_ex (ag := agL σ.2.1 σ.2.2.1) (a := (lineN σ.2.1 σ.2.2.1 false σ.2.1.1).2) (m := (lineN σ.2.1 σ.2.2.1 false σ.2.1.1).1) n n1
      refine ⟨.inl (nI ((lineN σ.2.1 σ.2.2.1 false σ.2.1.1).2 y)), σ, hσ, fun u J D hC => cc _ u J D hC (fun D2 hC2 hf g1 g2 => ?_), fun u J D hM => mm _ u J D hM (fun D2 hM2 hf g0 g1 g2 => ?_), by first | exact trivial | exact rfl | exact Or.inl rfl | exact Or.inr rfl⟩
      · obtain ⟨z, z1, z2, z3⟩ := g2 n n1
        rw [y2] at z2
        cases z2
        refine wp_eq (e132_9 _) (wp_t hx1 (wp_f (nI_pos (by omega)) ?_))
        rw [g1, nI_clamp (by omega), z3]
        exact wp_t (nI_lt n1 (by omega)) (oG (by omega) (by decide) (wp_cr hC2 hf))
      · refine wp_eq (e269_5 _ _) (wp_f (fun z => nI_pos (n := n) (by omega) (Int32.lt_trans z (by decide))) (wp_f (nI_ge n1 (by omega)) ?_))
        refine wp_iE ((m_right g0 (by decide)).1 (by decide)) ?_
        refine wp_eq (e269_18 _ _ _) (wp_t (by decide) (wp_eq (e269_21 _ _) (wp_t hx1 ?_)))
        refine m_chain hL g1 g2 n1 (fun z z1 z2 => ?_)
        rw [y2] at z2
        cases z2
        exact wp_mr hM2 g0 hf
    · have hno : x < 0 ∨ nI (mxN (agL σ.2.1 σ.2.2.1) (lineN σ.2.1 σ.2.2.1 false σ.2.1.1).1 (lineN σ.2.1 σ.2.2.1 false σ.2.1.1).1) ≤ x := by
        by_cases h : x < 0
        · exact Or.inl h
        · exact Or.inr (Int32.not_lt.mp (fun z => ix ((isPe_iff (by omega) x).mpr ⟨h, z⟩)))
      refine ⟨.inr 1, σ, hσ, fun u J D hC => cc _ u J D hC (fun D2 hC2 hf g1 g2 => ?_), fun u J D hM => mm _ u J D hM (fun D2 hM2 hf g0 g1 g2 => ?_), by first | exact trivial | exact rfl | exact Or.inl rfl | exact Or.inr rfl⟩
      · refine wp_eq (e132_9 _) (wp_t hx1 (wp_if (fun _ => wp_ct hC2 hf) (fun h => ?_)))
        rw [g1]
        exact wp_f (Int32.not_lt.mpr (hno.resolve_left h)) (wp_ct hC2 hf)
      · have no : Wp (bI (EvM X (d + 49) 172 [.ref 70, .int 0, .int 1] (hS u D2 J)) (fun y h => Ev X (d + 50) 269 (18, [.ref 70, .int x, .int (nI (mxN (agL σ.2.1 σ.2.2.1) (lineN σ.2.1 σ.2.2.1 false σ.2.1.1).1 (lineN σ.2.1 σ.2.2.1 false σ.2.1.1).1)), .null, .null, .null, .null], [.int y], h)) (fun e h => some (.inr e, h))) (MR σ D u J 0 1) := by
          refine wp_iE ((m_right g0 (by decide)).2 rfl) ?_
          exact wp_eq (e269_18 _ _ _) (wp_f (fun z => z rfl) (wp_mr (hM2.th hn) (ud_at _ _ _ _) (fun q hq => by rw [ud_q (by omega)]; exact hf q hq)))
        refine wp_eq (e269_5 _ _) (wp_if (fun _ => no) (fun h => wp_if (fun _ => no) (fun h2 => ?_)))
        rcases hno with h3 | h3
        · exfalso
          apply hx1
          have a1 : (-1 : Int32) ≤ x := Int32.not_lt.mp h
          exact Int32.le_antisymm (Int32.le_iff_toInt_le.mpr (by
            have := Int32.lt_iff_toInt_lt.mp h3
            have e0 : (0 : Int32).toInt = 0 := rfl
            have e1 : (-1 : Int32).toInt = -1 := by decide
            omega)) a1
        · exact absurd h3 h2
end LONGP
