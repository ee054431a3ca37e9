/-! ===== count: the pair ===== -/
def cntA (σ : Sg) : Nat → Int32
  | 0 => nI σ.2.1.1
  | 1 => nI σ.2.1.2.1
  | 2 => σ.2.2.1 72
  | 3 => nI (pwN σ.2.1 σ.2.2.1 12 0)
  | 4 => orP (sitB σ.2.2.1) σ.2.1.1
  | 5 => cmN σ.2.1 σ.2.2.1
  | 6 => smN σ.2.2.1 24 σ.2.1.1
  | 7 => smN σ.2.2.1 36 σ.2.1.1
  | 8 => orP (ioB σ.2.1 σ.2.2.1) 12
  | 9 => nI σ.2.2.2.1.length
  | 10 => nI σ.2.2.2.2.1.length
  | 11 => nI σ.1.1
  | 12 => σ.1.2.2.2 0
  | 13 => σ.1.2.2.2 1
  | _ => σ.1.2.2.2 2
section COUNT
variable {X : XS} {d u : Nat} {D : DD} {J : JJ} {σ : Sg} {ρ : Ru} {c : Cc} {P : Nat}
theorem LineI.ci {c : Cc} {rain : Bool} {k : Nat} {D D' : DD} (hL : LineI 25 σ.2.1 c rain D k D') (h : CI σ D) : CI σ D' :=
  h.scr (fun q hq => hL.2.2.2.2.1 q (by omega) (by omega) (by omega) (by omega)) hL.2.2.2.2.2 (by rw [hL.2.2.2.2.1 32 (by decide) (by decide) (by decide) (by decide)]; exact h.2.2.2.2.2.2.2.2.1)
theorem AskI.mi {c : Cc} {rain : Bool} {k : Nat} {D D' : DD} (hL : AskI σ.2.1 c rain D k D') (h : MI σ D) (hn : σ.2.1.1 ≤ 12) : MI σ D' :=
  h.mv (fun k _ _ _ => hL.2.1 k (by omega)) (fun i _ => by rw [hL.2.2.2.2 78 (by decide) (by omega)]) (fun q hq => hL.2.2.2.2 q (by omega) (by omega)) hn
theorem p_count {x : Int32} (hσ : SgOk σ) : PairI σ (fun u J D => EvM X (d + 50) 105 [.ref 0, .int x] (hS u D J)) (fun u J D => EvM X (d + 50) 233 [.ref 70, .int x] (hS u D J)) nI xA := by
  have hn := hσ.2.1.1.1
  have hO := hσ.2.2.1.1
  by_cases hx : ¬ x < 0 ∧ ¬ 14 < x
  · obtain ⟨j, -, hj, j3, rfl⟩ := nI_x (a := 0) (b := 14) (by decide) hx.1 hx.2
    refine ⟨.inl (cntA σ j), σ, hσ, fun u J D hC => ?_, fun u J D hM => ?_, by first | exact trivial | exact rfl | exact Or.inl rfl | exact Or.inr rfl⟩
    · have hW := hC.2.2.1
      have fin : ∀ r, r = cntA σ j → Wp (some (.inl (some (.int r)), hS u D J)) (CR σ D u J (.inl (cntA σ j))) := fun r z => by
        rw [z]; exact wp_cr hC (fun _ _ => rfl)
      refine wp_eq (e105_0 _) ?_
      rcases (show j = 0 ∨ j = 1 ∨ j = 2 ∨ j = 3 ∨ j = 4 ∨ j = 5 ∨ j = 6 ∨ j = 7 ∨ j = 8 ∨ j = 9 ∨ j = 10 ∨ j = 11 ∨ j = 12 ∨ j = 13 ∨ j = 14 by omega) with rfl | rfl | rfl | rfl | rfl | rfl | rfl | rfl | rfl | rfl | rfl | rfl | rfl | rfl | rfl
      · exact wp_t rfl (fin _ hC.2.1.1)
      · exact wp_f (by decide) (wp_t rfl (fin _ hC.2.1.2.1))
      · exact wp_f (by decide) (wp_f (by decide) (wp_t rfl (fin _ (by rw [hC.2.2.1.1]; rfl))))
      · exact wp_f (by decide) (wp_f (by decide) (wp_f (by decide) (wp_t rfl (wp_iE (c_pewsN (Or.inl rfl) hW hO) (wp_eq (e105_19 _ _) (fin _ rfl))))))
      · exact wp_f (by decide) (wp_f (by decide) (wp_f (by decide) (wp_f (by decide) (wp_t rfl (wp_iE (c_sitB (Or.inl rfl) hn hC.2.1.1 hW.1) (wp_eq (e105_23 _ _) (fin _ rfl)))))))
      · refine wp_f (by decide) (wp_f (by decide) (wp_f (by decide) (wp_f (by decide) (wp_f (by decide) (wp_t rfl ?_)))))
        refine wp_cI (c_comers (d := d + 47) hσ.2.1 hC.2.1 hW.1) (fun y D1 h1 => ?_)
        obtain ⟨rfl, h1⟩ := h1
        exact wp_eq (e105_26 _ _) (wp_cr (h1.ci hC) (fun q hq => h1.2.2.2.2.1 q (by omega) (by omega) (by omega) (by omega)))
      · exact wp_f (by decide) (wp_f (by decide) (wp_f (by decide) (wp_f (by decide) (wp_f (by decide) (wp_f (by decide) (wp_t rfl (wp_iE (c_sum (k := 24) (Or.inl rfl) hn hC.2.1.1 hW.1 (by decide)) (wp_eq (e105_31 _ _) (fin _ rfl)))))))))
      · exact wp_f (by decide) (wp_f (by decide) (wp_f (by decide) (wp_f (by decide) (wp_f (by decide) (wp_f (by decide) (wp_f (by decide) (wp_t rfl (wp_iE (c_sum (k := 36) (Or.inl rfl) hn hC.2.1.1 hW.1 (by decide)) (wp_eq (e105_36 _ _) (fin _ rfl))))))))))
      · exact wp_f (by decide) (wp_f (by decide) (wp_f (by decide) (wp_f (by decide) (wp_f (by decide) (wp_f (by decide) (wp_f (by decide) (wp_f (by decide) (wp_t rfl (wp_iE (c_ino (d := d + 47) hn hW hO) (wp_eq (e105_39 _ _) (fin _ rfl)))))))))))
      · exact wp_f (by decide) (wp_f (by decide) (wp_f (by decide) (wp_f (by decide) (wp_f (by decide) (wp_f (by decide) (wp_f (by decide) (wp_f (by decide) (wp_f (by decide) (wp_t rfl (fin _ hC.2.2.2.2.1.1))))))))))
      · exact wp_f (by decide) (wp_f (by decide) (wp_f (by decide) (wp_f (by decide) (wp_f (by decide) (wp_f (by decide) (wp_f (by decide) (wp_f (by decide) (wp_f (by decide) (wp_f (by decide) (wp_t rfl (fin _ hC.2.2.2.2.2.1.1)))))))))))
      · exact wp_f (by decide) (wp_f (by decide) (wp_f (by decide) (wp_f (by decide) (wp_f (by decide) (wp_f (by decide) (wp_f (by decide) (wp_f (by decide) (wp_f (by decide) (wp_f (by decide) (wp_f (by decide) (wp_t rfl (fin _ hC.1.1))))))))))))
      · exact wp_f (by decide) (wp_f (by decide) (wp_f (by decide) (wp_f (by decide) (wp_f (by decide) (wp_f (by decide) (wp_f (by decide) (wp_f (by decide) (wp_f (by decide) (wp_f (by decide) (wp_f (by decide) (wp_f (by decide) (wp_t rfl (fin _ (hC.1.2.2.2 0 (by decide)))))))))))))))
      · exact wp_f (by decide) (wp_f (by decide) (wp_f (by decide) (wp_f (by decide) (wp_f (by decide) (wp_f (by decide) (wp_f (by decide) (wp_f (by decide) (wp_f (by decide) (wp_f (by decide) (wp_f (by decide) (wp_f (by decide) (wp_f (by decide) (wp_t rfl (fin _ (hC.1.2.2.2 1 (by decide))))))))))))))))
      · exact wp_f (by decide) (wp_f (by decide) (wp_f (by decide) (wp_f (by decide) (wp_f (by decide) (wp_f (by decide) (wp_f (by decide) (wp_f (by decide) (wp_f (by decide) (wp_f (by decide) (wp_f (by decide) (wp_f (by decide) (wp_f (by decide) (wp_f (by decide) (wp_t rfl (fin _ (hC.1.2.2.2 2 (by decide)))))))))))))))))
    · have hM0 := hM.th (v := 0) hn
      have hr := hM0.2.2.1
      have h1 := hM0.2.1.1
      have fin : ∀ r, r = cntA σ j → Wp (some (.inl (some (.int r)), hS u (ud D 70 0 0) J)) (MR σ D u J (cntA σ j) 0) := fun r z => by
        rw [z]; exact wp_mr hM0 (ud_at D 70 0 0) (fun q hq => ud_q (by omega))
      refine wp_eq (e233_0 _) ?_
      refine wp_eq (e233_3 _) ?_
      refine wp_iE m_within ?_
      rw [if_pos hx]
      refine wp_eq (e233_8 _ _) ?_
      refine wp_iE ((m_right (ud_at D 70 0 0) (by decide)).1 (by decide)) ?_
      refine wp_eq (e233_10 _ _) (wp_t (by decide) ?_)
      refine wp_eq (e233_13 _) ?_
      rcases (show j = 0 ∨ j = 1 ∨ j = 2 ∨ j = 3 ∨ j = 4 ∨ j = 5 ∨ j = 6 ∨ j = 7 ∨ j = 8 ∨ j = 9 ∨ j = 10 ∨ j = 11 ∨ j = 12 ∨ j = 13 ∨ j = 14 by omega) with rfl | rfl | rfl | rfl | rfl | rfl | rfl | rfl | rfl | rfl | rfl | rfl | rfl | rfl | rfl
      · exact wp_t rfl (fin _ h1)
      · exact wp_f (by decide) (wp_t rfl (fin _ hM0.2.1.2.1))
      · exact wp_f (by decide) (wp_f (by decide) (wp_t rfl (fin _ hr.1)))
      · exact wp_f (by decide) (wp_f (by decide) (wp_f (by decide) (wp_t rfl (wp_iE (m_pews (d := d + 48) (b := 0) (Or.inl rfl) hn h1 hr) (wp_eq (e233_29 _ _) (fin _ rfl))))))
      · exact wp_f (by decide) (wp_f (by decide) (wp_f (by decide) (wp_f (by decide) (wp_t rfl (wp_iE (m_sitB (b := 0) (Or.inl rfl) hn h1 hr hO.v) (wp_eq (e233_33 _ _) (fin _ rfl)))))))
      · refine wp_f (by decide) (wp_f (by decide) (wp_f (by decide) (wp_f (by decide) (wp_f (by decide) (wp_t rfl ?_)))))
        refine wp_cI (m_comers (d := d + 45) hσ.2.1 hM0.2.1 hr hO.v hσ.2.2.1.bz hM0.2.2.2.2.2.2) (fun y D1 h1 => ?_)
        obtain ⟨rfl, h1⟩ := h1
        exact wp_eq (e233_36 _ _) (wp_mr (h1.mi hM0 hn) (by rw [h1.2.1 0 (by decide)]; exact ud_at D 70 0 0) (fun q hq => by rw [h1.2.2.2.2 q (by omega) (by omega), ud_q (by omega)]))
      · exact wp_f (by decide) (wp_f (by decide) (wp_f (by decide) (wp_f (by decide) (wp_f (by decide) (wp_f (by decide) (wp_t rfl (wp_iE (m_sum (b := 0) (k := 24) (kk := 37) (Or.inl rfl) hn h1 (fun p hp => (hr.s hn hp).2.2.2.1) (by decide)) (wp_eq (e233_41 _ _) (fin _ rfl)))))))))
      · exact wp_f (by decide) (wp_f (by decide) (wp_f (by decide) (wp_f (by decide) (wp_f (by decide) (wp_f (by decide) (wp_f (by decide) (wp_t rfl (wp_iE (m_sum (b := 0) (k := 36) (kk := 49) (Or.inl rfl) hn h1 (fun p hp => (hr.s hn hp).2.2.2.2.1) (by decide)) (wp_eq (e233_46 _ _) (fin _ rfl))))))))))
      · exact wp_f (by decide) (wp_f (by decide) (wp_f (by decide) (wp_f (by decide) (wp_f (by decide) (wp_f (by decide) (wp_f (by decide) (wp_f (by decide) (wp_t rfl (wp_iE (m_ino (d := d + 47) hn h1 hr hO) (wp_eq (e233_49 _ _) (fin _ rfl)))))))))))
      · exact wp_f (by decide) (wp_f (by decide) (wp_f (by decide) (wp_f (by decide) (wp_f (by decide) (wp_f (by decide) (wp_f (by decide) (wp_f (by decide) (wp_f (by decide) (wp_t rfl (fin _ hM0.2.2.2.1.1))))))))))
      · exact wp_f (by decide) (wp_f (by decide) (wp_f (by decide) (wp_f (by decide) (wp_f (by decide) (wp_f (by decide) (wp_f (by decide) (wp_f (by decide) (wp_f (by decide) (wp_f (by decide) (wp_t rfl (fin _ hM0.2.2.2.2.1.1)))))))))))
      · exact wp_f (by decide) (wp_f (by decide) (wp_f (by decide) (wp_f (by decide) (wp_f (by decide) (wp_f (by decide) (wp_f (by decide) (wp_f (by decide) (wp_f (by decide) (wp_f (by decide) (wp_f (by decide) (wp_t rfl (fin _ hM0.1.1))))))))))))
      · refine wp_f (by decide) (wp_f (by decide) (wp_f (by decide) (wp_f (by decide) (wp_f (by decide) (wp_f (by decide) (wp_f (by decide) (wp_f (by decide) (wp_f (by decide) (wp_f (by decide) (wp_f (by decide) (wp_f (by decide) ?_)))))))))))
        rw [show nI 12 - 12 = nI 0 by decide, nI_clamp (by decide)]
        exact oG (by decide) (by decide) (fin _ (hM0.1.2.2.2 0 (by decide)))
      · refine wp_f (by decide) (wp_f (by decide) (wp_f (by decide) (wp_f (by decide) (wp_f (by decide) (wp_f (by decide) (wp_f (by decide) (wp_f (by decide) (wp_f (by decide) (wp_f (by decide) (wp_f (by decide) (wp_f (by decide) ?_)))))))))))
        rw [show nI 13 - 12 = nI 1 by decide, nI_clamp (by decide)]
        exact oG (by decide) (by decide) (fin _ (hM0.1.2.2.2 1 (by decide)))
      · refine wp_f (by decide) (wp_f (by decide) (wp_f (by decide) (wp_f (by decide) (wp_f (by decide) (wp_f (by decide) (wp_f (by decide) (wp_f (by decide) (wp_f (by decide) (wp_f (by decide) (wp_f (by decide) (wp_f (by decide) ?_)))))))))))
        rw [show nI 14 - 12 = nI 2 by decide, nI_clamp (by decide)]
        exact oG (by decide) (by decide) (fin _ (hM0.1.2.2.2 2 (by decide)))
  · refine ⟨.inr 1, σ, hσ, fun u J D hC => ?_, fun u J D hM => ?_, by first | exact trivial | exact rfl | exact Or.inl rfl | exact Or.inr rfl⟩
    · have th : Wp (some (.inr 1, hS (u + 1) D J)) (CR σ D u J (.inr 1)) := wp_ct hC (fun _ _ => rfl)
      have ne : ∀ k : Nat, k ≤ 14 → ¬ x = nI k := fun k hk z => hx (by rw [z]; exact ⟨nI_pos (by omega), Int32.not_lt.mpr (nI_le (b := 14) hk (by decide))⟩)
      refine wp_eq (e105_0 _) ?_
      exact wp_if (fun h => absurd h (ne 0 (by decide))) (fun _ => wp_if (fun h => absurd h (ne 1 (by decide))) (fun _ => wp_if (fun h => absurd h (ne 2 (by decide))) (fun _ => wp_if (fun h => absurd h (ne 3 (by decide))) (fun _ => wp_if (fun h => absurd h (ne 4 (by decide))) (fun _ => wp_if (fun h => absurd h (ne 5 (by decide))) (fun _ => wp_if (fun h => absurd h (ne 6 (by decide))) (fun _ => wp_if (fun h => absurd h (ne 7 (by decide))) (fun _ => wp_if (fun h => absurd h (ne 8 (by decide))) (fun _ => wp_if (fun h => absurd h (ne 9 (by decide))) (fun _ => wp_if (fun h => absurd h (ne 10 (by decide))) (fun _ => wp_if (fun h => absurd h (ne 11 (by decide))) (fun _ => wp_if (fun h => absurd h (ne 12 (by decide))) (fun _ => wp_if (fun h => absurd h (ne 13 (by decide))) (fun _ => wp_if (fun h => absurd h (ne 14 (by decide))) (fun _ => th)))))))))))))))
    · have hM0 := hM.th (v := 0) hn
      refine wp_eq (e233_0 _) ?_
      refine wp_eq (e233_3 _) ?_
      refine wp_iE m_within ?_
      rw [if_neg hx]
      refine wp_eq (e233_8 _ _) ?_
      refine wp_iE ((m_right (ud_at D 70 0 0) (by decide)).2 rfl) ?_
      refine wp_eq (e233_10 _ _) (wp_f (by decide) ?_)
      exact wp_mr (hM0.th hn) (ud_at _ 70 0 1) (fun q hq => by rw [ud_q (by omega), ud_q (by omega)])
end COUNT
