/-! ===== pew: the pair ===== -/
section PEWP
variable {X : XS} {d u : Nat} {D : DD} {J : JJ} {σ : Sg} {ρ : Ru} {c : Cc} {P : Nat}
theorem p_pew {x y : Int32} (hσ : SgOk σ) : PairI σ (fun u J D => EvM X (d + 50) 109 [.ref 0, .int x, .int y] (hS u D J)) (fun u J D => EvM X (d + 50) 238 [.ref 70, .int x, .int y] (hS u D J)) nI xA := by
  have hn := hσ.2.1.1.1
  have hO := hσ.2.2.1.1
  by_cases hh : ∃ w j, w < 12 ∧ sizeN σ.2.1 σ.2.2.1 w ≠ 0 ∧ j ≤ 4 ∧ x = nI w ∧ y = nI j
  · obtain ⟨w, j, hw, hz, hj, rfl, rfl⟩ := hh
    have h4 := hO.2.2.2.1 w hw
    refine ⟨.inl (pewA σ.2.1 σ.2.2.1 w j), σ, hσ, fun u J D hC => ?_, fun u J D hM => ?_, by first | exact trivial | exact rfl | exact Or.inl rfl | exact Or.inr rfl⟩
    · have hW := hC.2.2.1
      have e28 : D 28 w = nI (sizeN σ.2.1 σ.2.2.1 w) := hW.2.1 w hw
      refine wp_eq (e109_0 _ _) ?_
      rw [nI_clamp (show w < 2 ^ 31 by omega), e28]
      refine wp_f (nI_pos (by omega)) (wp_f (nI_ge (b := 12) hw (by decide)) (oG hw (by decide) (wp_t (fun z => hz (nI_inj (b := 0) (by omega) (by decide) z)) ?_)))
      rcases (show j = 0 ∨ j = 1 ∨ j = 2 ∨ j = 3 ∨ j = 4 by omega) with rfl | rfl | rfl | rfl | rfl
      · exact wp_t rfl (oG hw (by decide) (wp_cr hC (fun _ _ => rfl)))
      · refine wp_f (by decide) (wp_t rfl ?_)
        refine wp_iE (c_bitsOf (Or.inl rfl) hn hW hO hw) ?_
        exact wp_eq (e109_28 _ _ _) (wp_cr hC (fun _ _ => rfl))
      · refine wp_f (by decide) (wp_f (by decide) (wp_t rfl ?_))
        have e27 : D 27 (12 * w) = nI (whoN σ.2.1 σ.2.2.1 (12 * w + 0)) := hW.2.2 w 0 hw (by omega)
        rw [lm, nI_clamp (by omega), e27]
        exact oG (by omega) (by decide) (wp_cr hC (fun _ _ => rfl))
      · refine wp_f (by decide) (wp_f (by decide) (wp_f (by decide) (wp_t rfl ?_)))
        have e27 : D 27 (12 * w + (sizeN σ.2.1 σ.2.2.1 w - 1)) = nI (whoN σ.2.1 σ.2.2.1 (12 * w + (sizeN σ.2.1 σ.2.2.1 w - 1))) := hW.2.2 w _ hw (by omega)
        have ex : nI w * 12 + nI (sizeN σ.2.1 σ.2.2.1 w) - 1 = nI (12 * w + (sizeN σ.2.1 σ.2.2.1 w - 1)) := by
          rw [lw]
          exact (nI_sub (b := 1) (by omega)).trans (by congr 1; omega)
        rw [ex, nI_clamp (by omega), e27]
        exact oG hw (by decide) (oG (by omega) (by decide) (wp_cr hC (fun _ _ => rfl)))
      · refine wp_f (by decide) (wp_f (by decide) (wp_f (by decide) (wp_f (by decide) (wp_t rfl ?_))))
        refine wp_iE (c_ages (d := d + 48) (Or.inl rfl) hn hW hO hw) ?_
        exact wp_eq (e109_57 _ _ _) (wp_cr hC (fun _ _ => rfl))
    · have hM0 := hM.th (v := 0) hn
      have hr := hM0.2.2.1
      have h1 := hM0.2.1.1
      have h12 : (12 : Nat) < σ.2.1.1 → σ.2.2.1 12 = -1 := fun z => by omega
      refine wp_eq (e238_0 _ _) ?_
      refine wp_f (nI_pos (by omega)) ?_
      refine wp_iE (m_pews (d := d + 48) (b := 0) (Or.inl rfl) hn h1 hr) ?_
      refine wp_eq (e238_10 _ _ _ _) ?_
      have hpw := (pw_le σ.2.1 σ.2.2.1 12 0).1
      refine wp_f (nI_ge (Nat.not_le.mp (fun z => hz ((pw_iff hO hw).mp z))) (by omega)) ?_
      refine wp_iE ((m_right (ud_at D 70 0 0) (by decide)).1 (by decide)) ?_
      refine wp_eq (e238_16 _ _ _) (wp_f (by decide) ?_)
      refine wp_iE ((m_what (d := d + 48) (ud_at D 70 0 0)).1 ⟨nI_pos (by omega), Int32.not_lt.mpr (nI_le (b := 4) hj (by decide))⟩) ?_
      refine wp_eq (e238_21 _ _ _) (wp_t (by decide) ?_)
      refine wp_iE (s_inPew (b := 0) (Or.inl rfl) hn h1 hr hw) ?_
      refine wp_eq (e238_28 _ _ _) ?_
      have fin : ∀ r, r = pewA σ.2.1 σ.2.2.1 w j → Wp (some (.inl (some (.int r)), hS u (ud D 70 0 0) J)) (MR σ D u J (pewA σ.2.1 σ.2.2.1 w j) 0) := fun r z => by
        rw [z]; exact wp_mr hM0 (ud_at D 70 0 0) (fun q hq => ud_q (by omega))
      refine wp_loop (R := fun k (v : Int32) => Ev X (d + 50) 238 (33, [.ref 70, .int (nI w), .int (nI j), .int (orP (inW σ.2.2.1 w) σ.2.1.1), .int v, .int (nI k)], [], hS u (ud D 70 0 0) J)) (fun k v => v = fP (fun x y : Int32 => x + y) 0 (fun p => σ.2.2.1 (12 + p)) (inW σ.2.2.1 w) k) σ.2.1.1 ?_ ?_ 0 0 (Nat.zero_le _) rfl
      · intro k v hk hv ih
        refine wp_eq (e238_33 _ _ _ _ _) ?_
        rw [h1]
        refine wp_f (nI_ge hk (by omega)) ?_
        obtain ⟨t1, -⟩ := hr.s hn hk
        rw [Nat.zero_add] at t1
        rw [la, nI_clamp (by omega), t1]
        refine oG (by omega) (by decide) ?_
        have tb := tb_orP (inW σ.2.2.1 w) σ.2.1.1 (by omega) k (by omega)
        unfold tbN at tb
        rw [tb, nI_1]
        refine ih _ ?_
        rw [fP, ← hv]
        by_cases hi : inW σ.2.2.1 w k = true
        · rw [if_pos ⟨hk, hi⟩, if_pos hi, Int32.one_mul]
        · rw [if_neg (fun z => hi z.2), if_neg hi, Int32.zero_mul]
      · intro v hv
        refine wp_eq (e238_33 _ _ _ _ _) ?_
        rw [h1]
        refine wp_t (nI_le (Nat.le_refl _) (by omega)) ?_
        rcases (show j = 0 ∨ j = 1 ∨ j = 2 ∨ j = 3 ∨ j = 4 by omega) with rfl | rfl | rfl | rfl | rfl
        · refine wp_f (fun z => z rfl) ?_
          refine wp_iE (s_bitsP hn) ?_
          exact wp_eq (e238_58 _ _ _ _ _ _) (fin _ rfl)
        · exact wp_t (by decide) (wp_f (fun z => z rfl) (fin _ rfl))
        · refine wp_t (by decide) (wp_t (by decide) (wp_f (fun z => z rfl) ?_))
          refine wp_iE (s_who1 (b := 0) (x := 0) (Or.inl rfl) hn h1 hr h12 hO hw (by omega)) ?_
          exact wp_eq (e238_72 _ _ _ _ _ _) (fin _ rfl)
        · refine wp_t (by decide) (wp_t (by decide) (wp_t (by decide) (wp_f (fun z => z rfl) ?_)))
          refine wp_iE (s_bitsP hn) ?_
          refine wp_eq (e238_81 _ _ _ _ _ _ _ _) ?_
          have ex : nI (cntN (inW σ.2.2.1 w) σ.2.1.1) - 1 = nI (sizeN σ.2.1 σ.2.2.1 w - 1) := nI_sub (a := sizeN σ.2.1 σ.2.2.1 w) (b := 1) (by omega)
          rw [ex]
          refine wp_iE (s_who1 (b := 0) (Or.inl rfl) hn h1 hr h12 hO hw (by omega)) ?_
          exact wp_eq (e238_84 _ _ _ _ _ _) (fin _ rfl)
        · exact wp_t (by decide) (wp_t (by decide) (wp_t (by decide) (wp_t (by decide) (fin _ (by rw [hv]; rfl)))))
  · refine ⟨.inr 1, σ, hσ, fun u J D hC => ?_, fun u J D hM => ?_, by first | exact trivial | exact rfl | exact Or.inl rfl | exact Or.inr rfl⟩
    · have th : Wp (some (.inr 1, hS (u + 1) D J)) (CR σ D u J (.inr 1)) := wp_ct hC (fun _ _ => rfl)
      refine wp_eq (e109_0 _ _) ?_
      refine wp_if (fun _ => th) (fun h0 => wp_if (fun _ => th) (fun h12 => ?_))
      obtain ⟨w, w1, rfl⟩ := nI_of h0
      have hw : w < 12 := Nat.not_le.mp (fun z => h12 (nI_le (a := 12) z w1))
      have e28 : D 28 w = nI (sizeN σ.2.1 σ.2.2.1 w) := hC.2.2.1.2.1 w hw
      rw [nI_clamp w1, e28]
      refine oG hw (by decide) (wp_if (fun hz => ?_) (fun _ => th))
      have hz : sizeN σ.2.1 σ.2.2.1 w ≠ 0 := fun z => hz (by rw [z]; rfl)
      refine wp_if (fun h => absurd ⟨w, 0, hw, hz, by decide, rfl, h⟩ hh) (fun _ => wp_if (fun h => absurd ⟨w, 1, hw, hz, by decide, rfl, h⟩ hh) (fun _ => wp_if (fun h => absurd ⟨w, 2, hw, hz, by decide, rfl, h⟩ hh) (fun _ => wp_if (fun h => absurd ⟨w, 3, hw, hz, by decide, rfl, h⟩ hh) (fun _ => wp_if (fun h => absurd ⟨w, 4, hw, hz, by decide, rfl, h⟩ hh) (fun _ => th)))))
    · have hM0 := hM.th (v := 0) hn
      have hr := hM0.2.2.1
      have h1 := hM0.2.1.1
      have no : Wp (bI (EvM X (d + 49) 172 [.ref 70, .int 0, .int 1] (hS u (ud D 70 0 0) J)) (fun y' h => Ev X (d + 49 + 1) 238 (16, [.ref 70, .int x, .int y, .null, .null, .null], [.int y'], h)) (fun e h => some (.inr e, h))) (MR σ D u J 0 1) := by
        refine wp_iE ((m_right (ud_at D 70 0 0) (by decide)).2 rfl) ?_
        refine wp_eq (e238_16 _ _ _) (wp_t rfl ?_)
        exact wp_mr (hM0.th hn) (ud_at _ 70 0 1) (fun q hq => by rw [ud_q (by omega), ud_q (by omega)])
      refine wp_eq (e238_0 _ _) ?_
      refine wp_if (fun _ => no) (fun h0 => ?_)
      refine wp_iE (m_pews (d := d + 48) (b := 0) (Or.inl rfl) hn h1 hr) ?_
      refine wp_eq (e238_10 _ _ _ _) ?_
      refine wp_if (fun _ => no) (fun hp => ?_)
      have hpw := (pw_le σ.2.1 σ.2.2.1 12 0).1
      obtain ⟨w, w1, rfl⟩ := nI_of h0
      have hwp : w < pwN σ.2.1 σ.2.2.1 12 0 := Nat.not_le.mp (fun z => hp (nI_le z w1))
      have hw : w < 12 := by omega
      have hz : sizeN σ.2.1 σ.2.2.1 w ≠ 0 := fun z => by have := (pw_iff hO hw).mpr z; omega
      refine wp_iE ((m_right (ud_at D 70 0 0) (by decide)).1 (by decide)) ?_
      refine wp_eq (e238_16 _ _ _) (wp_f (by decide) ?_)
      refine wp_iE ((m_what (d := d + 48) (ud_at D 70 0 0)).2 (fun z => ?_)) ?_
      · obtain ⟨j, -, j2, -, rfl⟩ := nI_x (a := 0) (b := 4) (by decide) z.1 z.2
        exact hh ⟨w, j, hw, hz, j2, rfl, rfl⟩
      · refine wp_eq (e238_21 _ _ _) (wp_f (by decide) ?_)
        exact wp_mr (hM0.th hn) (ud_at _ 70 0 1) (fun q hq => by rw [ud_q (by omega), ud_q (by omega)])
end PEWP
