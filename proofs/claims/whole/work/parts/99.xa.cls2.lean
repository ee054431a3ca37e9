/-! ===== the class's parser: parts, tests, all of it ===== -/
section CPAR2
variable {X : XS} {d u : Nat} {D D' : DD} {J : JJ} {t : Tx} {n m b k ns ss : Nat} {mi : Bool} {ru : Int32}
theorem ex5 {v : Int32} : ExD D ns ss (ud D 12 5 v) := ⟨fun i _ _ => by rw [ud_q (by decide)], fun i _ => ⟨by rw [ud_q (by decide)], by rw [ud_q (by decide)], by rw [ud_q (by decide)]⟩⟩
theorem c_numS {x : Int32} (h : Cn b D ns ss) (hs : ns < 350) : EvM X d 89 [.ref 13, .int x] (hS u D J) = some (.inl (some (.int (nI (7 + ns)))), hS u (ud (ud D 15 (7 + ns) x) 13 4 (nI (ns + 1))) J) := by
  obtain ⟨h1, h2, h3, h4, h5⟩ := h
  refine (e89_0 _).trans ?_
  rw [brT (show D 13 4 < 350 by rw [h1]; exact nI_lt (b := 350) hs (by decide)), h1, la, gd_t (ob_n (by omega) (by decide)), nI_clamp (by omega), ud_at, ud_q (show (13 : Nat) ≠ 15 by decide), h1, nI_1, la]
  show (some (.inl (some (.int (nI ((7 + ns) + 1) - 1))), _) : Option Rs) = _
  rw [nI_pred]
theorem c_part {w : Nat} {inner : Option (Nat → Pr)} (hn : n ≤ 700) (hm : mi = decide (ru = 2)) (hi : (w = 5 ∧ inner = none) ∨ (w < 5 ∧ ∃ p, inner = some p ∧ SpC t n m b mi ru u J (fun D => EvM X d 78 [.ref 12, .int 0, .int (nI (w + 1))] (hS u D J)) p)) : SpC t n m b mi ru u J (fun D => EvM X (d + 1) 81 [.ref 12, .int (nI w)] (hS u D J)) (pPart (kK t n) (vV t n) inner mi) := by
  intro k D ns ss hA h6 h7 hC h0 s0
  refine wp_eq (e81_0 _) ?_
  refine wp_iE (c_sg hA hn 40) ?_
  refine wp_eq (e81_5 _ _ _) ?_
  unfold pPart
  have Fin : ∀ {e : Int32} {k' : Nat} {A : DD}, FrD D A → At t n m k' A → A 12 6 = 0 → A 13 = D 13 → e ≠ 0 → PoF t n m b D e k' (ud A 12 6 e) := fun a1 a2 a3 a4 a5 => ⟨a1.tr FrD.u6, a2.u6, ud_at _ _ _ _, a5, ns, ss, (hC.mv a4).mv (ud_q (by decide))⟩
  by_cases q : sgAt (kK t n) (vV t n) 40 k = true
  · rw [if_pos q, q]
    have hk := sg_lt hA q
    have hinc := hA.1.inc hk
    refine wp_f b1T ?_
    refine wp_vE (c_nx hA hn hk) ?_
    have A1 := hA.nx hk
    have z6 : ud D 12 5 (nI (k + 1)) 12 6 = 0 := by rw [ud_k (by decide)]; exact h6
    refine wp_eq (e81_8 _ _) ?_
    rw [nI_1]
    rcases hi with ⟨rfl, rfl⟩ | ⟨hw, p, rfl, hp⟩
    · refine wp_f (by decide) ?_
      refine wp_gd (A1.ob hn) ?_
      rw [A1.cl hn, A1.K]
      have fin : ∀ {e : Int32} (h : e ≠ 0) {y1 : Int32}, Wp (bI (EvM X d 62 [.ref 12, .int e] (hS u (ud D 12 5 (nI (k + 1))) J)) (fun y h => Ev X (d + 1) 81 (36, [.ref 12, .int (nI 5), .int y1], [.int y], h)) (fun e h => some (.inr e, h))) (RI u J (PoC t n m b mi k D ns ss (.inl (e, k + 1)))) := fun {e} he {y1} => by
        refine wp_iE (c_fail0 z6 _) ?_
        exact wp_eq (e81_36 _ _ _) (wp_rI (Fin FrD.u5 A1 z6 (ud_q (by decide)) he))
      by_cases z2 : kK t n (k + 1) = 2
      · show Wp _ (RI u J (PoC t n m b mi k D ns ss (.inl (if kK t n (k + 1) = 2 then 2 else if kK t n (k + 1) = 1 then 2 else if sgAt (kK t n) (vV t n) 40 (k + 1) = true then 2 else 1, k + 1))))
        rw [if_pos z2]
        exact wp_t ((kI kK_lt (by decide : 2 < 5)).mpr z2) (fin (by decide))
      · refine wp_f (fun z => z2 ((kI kK_lt (by decide : 2 < 5)).mp z)) ?_
        refine wp_gd (A1.ob hn) ?_
        show Wp _ (RI u J (PoC t n m b mi k D ns ss (.inl (if kK t n (k + 1) = 2 then 2 else if kK t n (k + 1) = 1 then 2 else if sgAt (kK t n) (vV t n) 40 (k + 1) = true then 2 else 1, k + 1))))
        rw [if_neg z2]
        by_cases z1 : kK t n (k + 1) = 1
        · rw [if_pos z1]
          exact wp_t ((kI kK_lt (by decide : 1 < 5)).mpr z1) (fin (by decide))
        · rw [if_neg z1]
          refine wp_f (fun z => z1 ((kI kK_lt (by decide : 1 < 5)).mp z)) ?_
          refine wp_iE (c_sg A1 hn 40) ?_
          refine wp_eq (e81_31 _ _ _) ?_
          by_cases z0 : sgAt (kK t n) (vV t n) 40 (k + 1) = true
          · rw [z0, if_pos rfl]
            exact wp_f b1T (fin (by decide))
          · rw [Bool.eq_false_iff.mpr z0, if_neg Bool.false_ne_true]
            exact wp_t b0F (fin (by decide))
    · refine wp_t (nI_lt (b := 6) (by omega) (by decide)) ?_
      refine wp_cI (hp (k + 1) _ ns ss A1 z6 (by rw [ud_k (by decide)]; exact h7) (hC.mv (ud_q (by decide))) (by omega) (by omega)) (fun y D2 h2 => ?_)
      refine wp_eq (e81_43 _ _ _) ?_
      dsimp only
      cases hpk : p (k + 1) with
      | inl e =>
        obtain ⟨e, k'⟩ := e
        rw [hpk] at h2
        obtain ⟨f1, f2, f3, f4, f5⟩ : PoF t n m b _ e k' D2 := h2
        have hF : PoF t n m b D e k' D2 := ⟨FrD.u5.tr f1, f2, f3, f4, f5⟩
        refine wp_iE (c_sg f2 hn 41) ?_
        refine wp_eq (e81_47 _ _ _) ?_
        have e6 : ¬ D2 12 6 = 0 := by rw [f3]; exact f4
        refine wp_if (fun _ => wp_t e6 (wp_eq (e81_120 _ _) (wp_rI hF))) (fun _ => ?_)
        refine wp_iE (c_fail1 e6 _) ?_
        exact wp_eq (e81_51 _ _ _) (wp_t e6 (wp_eq (e81_120 _ _) (wp_rI hF)))
      | inr kg =>
        obtain ⟨k2, g⟩ := kg
        rw [hpk] at h2
        obtain ⟨b1, b2, b3, b4, ns2, ss2, r2, e1, e2, e3, e4, e5, e6, e7, e8, e9⟩ : PoS t n m b mi (k + 1) _ ns ss k2 g y D2 := h2
        refine wp_iE (c_sg b2 hn 41) ?_
        refine wp_eq (e81_47 _ _ _) ?_
        show Wp _ (RI u J (PoC t n m b mi k D ns ss (if sgAt (kK t n) (vV t n) 41 k2 = true then .inr (k2 + 1, g) else .inl (1, k2))))
        by_cases z : sgAt (kK t n) (vV t n) 41 k2 = true
        · rw [if_pos z, z]
          have hk2 := sg_lt b2 z
          have hinc2 := b2.1.inc hk2
          refine wp_t b1T (wp_f (fun z => z b3) ?_)
          refine wp_vE (c_nx b2 hn hk2) ?_
          refine wp_eq (e81_120 _ _) ?_
          have hS : PoS t n m b mi k D ns ss (k2 + 1) g y (ud D2 12 5 (nI (k2 + 1))) := ⟨(FrD.u5.tr b1).tr FrD.u5, b2.nx hk2, by rw [ud_k (by decide)]; exact b3, by omega, ns2, ss2, r2, e1.mv (ud_q (by decide)), e2, e3, (ex5.tr e4 (Nat.le_refl _) (Nat.le_refl _)).tr ex5 e2 e3, e5, e6.mv ex5 (Nat.le_refl _) (Nat.le_refl _) e1.2.2.1 e1.2.2.2.2, by omega, by omega, e9.mv (fun i _ => ⟨by rw [ud_q (by decide)], by rw [ud_q (by decide)]⟩)⟩
          exact wp_rI hS
        · rw [if_neg z, Bool.eq_false_iff.mpr z]
          refine wp_f (fun z => z b0F) ?_
          refine wp_iE (c_fail0 b3 _) ?_
          refine wp_eq (e81_51 _ _ _) (wp_t (by rw [ud_at]; decide) (wp_eq (e81_120 _ _) ?_))
          have hF : PoF t n m b D 1 k2 (ud D2 12 6 1) := ⟨(FrD.u5.tr b1).tr FrD.u6, b2.u6, ud_at _ _ _ _, by decide, ns2, ss2, e1.mv (ud_q (by decide))⟩
          exact wp_rI hF
  · rw [if_neg q, Bool.eq_false_iff.mpr q]
    refine wp_t b0F ?_
    refine wp_gd (hA.ob hn) ?_
    rw [hA.cl hn, hA.K]
    by_cases z2 : kK t n k = 2
    · have hk := hA.lt (by rw [z2]; decide)
      have hinc := hA.1.inc hk
      have hlt := hA.1.lt hk
      rw [if_pos z2, z2, hA.V hk]
      refine wp_f (fun z => z rfl) ?_
      refine wp_gd (hA.ob hn) ?_
      by_cases z9 : vV t n k ≤ 9999
      · rw [if_pos z9]
        refine wp_t z9 (wp_gd (hA.ob hn) ?_)
        refine wp_iE (c_numS hC (by omega)) ?_
        generalize hD1 : ud (ud D 15 (7 + ns) (vV t n k)) 13 4 (nI (ns + 1)) = D1
        have f0 : FrD D D1 := by
          rw [← hD1]
          exact ⟨fun a a1 a2 a3 => by rw [ud_q a2, ud_q (by omega)], fun a _ _ => by rw [ud_q (by decide), ud_q (by decide)], fun a a1 _ => by rw [ud_k a1, ud_q (by decide)]⟩
        have g12 : D1 12 = D 12 := by rw [← hD1, ud_q (by decide), ud_q (by decide)]
        have A1 : At t n m k D1 := ⟨hA.1.fr f0, hA.2.1, by rw [g12]; exact hA.2.2⟩
        have z6 : D1 12 6 = 0 := by rw [g12]; exact h6
        refine wp_eq (e81_79 _ _ _) (wp_f (fun z => z z6) ?_)
        refine wp_vE (c_nx A1 hn hk) ?_
        refine wp_eq (e81_120 _ _) ?_
        have g15 : D1 15 (7 + ns) = vV t n k := by rw [← hD1, ud_q (by decide), ud_at]
        have hC1 : Cn b D1 (ns + 1) ss := by
          obtain ⟨q1, q2, q3, q4, q5⟩ := hC
          refine ⟨by rw [← hD1, ud_at], by rw [← hD1, ud_k (by decide), ud_q (by decide)]; exact q2, by omega, q4, q5⟩
        have hE1 : ExD D ns ss D1 := by
          rw [← hD1]
          exact ⟨fun i i1 i2 => by rw [ud_q (by decide), ud_k (by omega)], fun i _ => ⟨by rw [ud_q (by decide), ud_q (by decide)], by rw [ud_q (by decide), ud_q (by decide)], by rw [ud_q (by decide), ud_q (by decide)]⟩⟩
        have hR1 : Rg mi b D1 (ns + 1) ss (7 + ns) (fun _ => vV t n k) := ⟨Or.inl (by omega), fun _ _ _ => rfl, fun g hg => by
          rw [runR_lo0 (by have := hC1.2.2.1; omega), hg (7 + ns) (by omega) (by omega), g15]⟩
        have hS : PoS t n m b mi k D ns ss (k + 1) (fun _ => vV t n k) (nI (7 + ns)) (ud D1 12 5 (nI (k + 1))) := ⟨f0.tr FrD.u5, A1.nx hk, by rw [ud_k (by decide)]; exact z6, by omega, ns + 1, ss, 7 + ns, hC1.mv (ud_q (by decide)), by omega, Nat.le_refl _, hE1.tr ex5 (Nat.le_refl _) (Nat.le_refl _), rfl, hR1.mv ex5 (Nat.le_refl _) (Nat.le_refl _) hC1.2.2.1 hC1.2.2.2.2, by omega, by omega, Vn.no _ _⟩
        exact wp_rI hS
      · rw [if_neg z9]
        refine wp_f z9 ?_
        refine wp_iE (c_fail0 h6 _) ?_
        exact wp_eq (e81_70 _ _ _) (wp_eq (e81_79 _ _ _) (wp_t (by rw [ud_at]; decide) (wp_eq (e81_120 _ _) (wp_rI (Fin (FrD.rf D) hA h6 rfl (by decide))))))
    · rw [if_neg z2]
      refine wp_t (fun z => z2 ((kI kK_lt (by decide : 2 < 5)).mp z)) ?_
      refine wp_gd (hA.ob hn) ?_
      by_cases z1 : kK t n k = 1
      · have hk := hA.lt (by rw [z1]; decide)
        have hinc := hA.1.inc hk
        have z1' := z1
        rw [if_pos z1, z1, hA.V hk]
        refine wp_f (fun z => z rfl) ?_
        refine wp_gd (hA.ob hn) ?_
        refine wp_iE (c_82 h7 hm _) ?_
        refine wp_eq (e81_97 _ _ _) ?_
        by_cases zv : vlOk mi (vV t n k - 8) = true
        · rw [if_pos zv, zv]
          obtain ⟨r, r1, r2, r3⟩ := vl_ok z1' zv
          refine wp_f b1T (wp_gd (hA.ob hn) ?_)
          rw [hA.cl hn, hA.V hk, r2, nI_clamp (by omega)]
          refine wp_eq (e81_109 _ _ _) (wp_f (fun z => z h6) ?_)
          refine wp_vE (c_nx hA hn hk) ?_
          refine wp_eq (e81_120 _ _) ?_
          have hR1 : Rg mi b D ns ss r (fun v => v r) := ⟨Or.inl (by omega), fun v v' h => h r r3, fun g _ => runR_lo0 (by omega) _⟩
          have hS : PoS t n m b mi k D ns ss (k + 1) (fun v => v r) (nI r) (ud D 12 5 (nI (k + 1))) := ⟨FrD.u5, hA.nx hk, by rw [ud_k (by decide)]; exact h6, by omega, ns, ss, r, hC.mv (ud_q (by decide)), Nat.le_refl _, Nat.le_refl _, ex5, rfl, hR1.mv ex5 (Nat.le_refl _) (Nat.le_refl _) hC.2.2.1 hC.2.2.2.2, by omega, by omega, Vn.no _ _⟩
          exact wp_rI hS
        · rw [if_neg zv, Bool.eq_false_iff.mpr zv]
          refine wp_t b0F ?_
          refine wp_iE (c_fail0 h6 _) ?_
          exact wp_eq (e81_109 _ _ _) (wp_t (by rw [ud_at]; decide) (wp_eq (e81_120 _ _) (wp_rI (Fin (FrD.rf D) hA h6 rfl (by decide)))))
      · rw [if_neg z1]
        refine wp_t (fun z => z1 ((kI kK_lt (by decide : 1 < 5)).mp z)) ?_
        refine wp_iE (c_fail0 h6 _) ?_
        exact wp_eq (e81_114 _ _ _) (wp_t (by rw [ud_at]; decide) (wp_eq (e81_120 _ _) (wp_rI (Fin (FrD.rf D) hA h6 rfl (by decide)))))
theorem c_c5 {w : Nat} {p : Nat → Pr} (h : SpC t n m b mi ru u J (fun D => EvM X d 81 [.ref 12, .int (nI w)] (hS u D J)) p) : SpC t n m b mi ru u J (fun D => EvM X (d + 1) 78 [.ref 12, .int (nI 5), .int (nI w)] (hS u D J)) p := by
  intro k D ns ss hA h6 h7 hC h0 s0
  refine wp_eq (e78_0 _ _) (wp_t (by decide) (wp_f (by decide) ?_))
  refine wp_cI (h k D ns ss hA h6 h7 hC h0 s0) (fun y D2 h2 => ?_)
  exact wp_eq (e78_13 _ _ _) (wp_rI h2)
theorem c_c2 {w : Nat} {p : Nat → Pr} (h : SpC t n m b mi ru u J (fun D => EvM X d 80 [.ref 12, .int (nI w)] (hS u D J)) p) : SpC t n m b mi ru u J (fun D => EvM X (d + 1) 78 [.ref 12, .int (nI 2), .int (nI w)] (hS u D J)) p := by
  intro k D ns ss hA h6 h7 hC h0 s0
  refine wp_eq (e78_0 _ _) (wp_f (fun z => z rfl) ?_)
  refine wp_cI (h k D ns ss hA h6 h7 hC h0 s0) (fun y D2 h2 => ?_)
  exact wp_eq (e78_6 _ _ _) (wp_rI h2)
end CPAR2
