/-! ===== couples, person: the pairs ===== -/
section COUPP
variable {X : XS} {d u : Nat} {D D1 : DD} {J : JJ} {σ : Sg} {ρ : Ru} {c : Cc}
theorem mi_88 (hM : MI σ D) (hn : σ.2.1.1 ≤ 12) (h : ∀ q, q ≠ 88 → D1 q = D q) : MI σ D1 :=
  hM.mv (fun k _ _ _ => by rw [h 70 (by decide)]) (fun i _ => by rw [h 78 (by decide)]) (fun q hq => h q (by omega)) hn
theorem p_couples {x : Int32} (hσ : SgOk σ) : PairI σ (fun u J D => EvM X (d + 50) 136 [.ref 0, .int x] (hS u D J)) (fun u J D => EvM X (d + 50) 278 [.ref 70, .int x] (hS u D J)) nI xA := by
  have hn := hσ.2.1.1.1
  have hG := hσ.2.2.1
  have hb : ∀ w, w < 12 → BestJ σ.2.1 σ.2.2.1 w (bwN σ.2.1 σ.2.2.1 w) := fun w _ => bw_best σ.2.1 σ.2.2.1 w
  have hv := mo_val hG (fun w hw => (hb w hw).1)
  have hd := dif_le hG hn (fun w hw => (hb w hw).1)
  have ha := all_n hG.1
  have hB := mo_best hG hn hb
  by_cases ix : ¬ x < 0 ∧ ¬ 1 < x
  · refine ⟨.inl (if x = 0 then nI (sumN (fun w => sizeN σ.2.1 σ.2.2.1 w / 2) 12) else nI (difN σ.2.1 σ.2.2.1 (bwN σ.2.1 σ.2.2.1))), σ, hσ, fun u J D hC => ?_, fun u J D hM => ?_, by first | exact trivial | exact rfl | exact Or.inl rfl | exact Or.inr rfl⟩
    · refine wp_eq (e136_0 _) ?_
      rcases c_what (X := X) (d := d + 49) (u := u) (D := D) (J := J) (x := x) (k := 1) with ⟨_, g⟩ | ⟨g, _⟩
      · refine wp_vE g ?_
        refine wp_eq (e136_3 _) ?_
        refine wp_cV (c_5 (d := d + 46) hσ hC) (fun D1 h1 => ?_)
        obtain ⟨a1, a2, -, a4, a5⟩ := h1
        refine wp_eq (e136_8 _) ?_
        rw [a1, a2]
        refine wp_if (fun h => ?_) (fun h => ?_)
        · rw [if_neg h]; exact wp_cr a4 a5
        · rw [if_pos (Classical.not_not.mp h)]; exact wp_cr a4 a5
      · exact absurd ix g
    · have hM0 := hM.th (v := 0) hn
      have h0 := ud_at D 70 0 0
      refine wp_eq (e278_0 _) ?_
      refine wp_iE ((m_what (d := d + 48) h0).1 ix) ?_
      refine wp_eq (e278_7 _ _) (wp_t (by decide) ?_)
      refine wp_cV (m_277 (d := d + 46) hG hn hM0.2.1.1 hM0.2.2.1) (fun D1 h1 => ?_)
      obtain ⟨hT, hq⟩ := h1
      obtain ⟨v, v1, v2⟩ := hT 0 (Nat.le_refl _) (Nat.two_pow_pos _)
      rw [fs_0] at v1
      have ev : v = 1000 * aloN σ.2.1 σ.2.2.1 + difN σ.2.1 σ.2.2.1 (bwN σ.2.1 σ.2.2.1) := (min_uq v1 ⟨⟨_, hB.1, rfl⟩, hB.2.1⟩).trans hv
      have hM1 := mi_88 hM0 hn hq
      have fin : ∀ r, Wp (some (.inl (some (.int r)), hS u D1 J)) (MR σ D u J r 0) := fun r => wp_mr hM1 (by rw [hq 70 (by decide)]; exact h0) (fun q hh => by rw [hq q (by omega), ud_q (by omega)])
      refine wp_eq (e278_12 _) ?_
      have e1 : nI v / 1000 = nI (aloN σ.2.1 σ.2.2.1) := by
        rw [show nI v / 1000 = nI (v / 1000) from nI_div (b := 1000) (by omega) (by decide)]
        congr 1; omega
      have e2 : nI v - nI v / 1000 * 1000 = nI (difN σ.2.1 σ.2.2.1 (bwN σ.2.1 σ.2.2.1)) := by
        rw [show nI v - nI v / 1000 * 1000 = nI (v % 1000) from nI_mod (b := 1000) (by omega) (by decide)]
        congr 1; omega
      have e3 : (nI σ.2.1.1 - nI (aloN σ.2.1 σ.2.2.1)) / 2 = nI (sumN (fun w => sizeN σ.2.1 σ.2.2.1 w / 2) 12) := by
        rw [nI_sub (by omega), show nI (σ.2.1.1 - aloN σ.2.1 σ.2.2.1) / 2 = nI ((σ.2.1.1 - aloN σ.2.1 σ.2.2.1) / 2) from nI_div (b := 2) (by omega) (by decide)]
        congr 1; omega
      rw [v2, e2, e1, hM1.2.1.1, e3]
      refine wp_if (fun h => ?_) (fun h => ?_)
      · rw [if_neg h]; exact fin _
      · rw [if_pos (Classical.not_not.mp h)]; exact fin _
  · refine ⟨.inr 1, σ, hσ, fun u J D hC => ?_, fun u J D hM => ?_, by first | exact trivial | exact rfl | exact Or.inl rfl | exact Or.inr rfl⟩
    · refine wp_eq (e136_0 _) ?_
      rcases c_what (X := X) (d := d + 49) (u := u) (D := D) (J := J) (x := x) (k := 1) with ⟨g, _⟩ | ⟨_, g⟩
      · exact absurd g ix
      · exact wp_vT g (wp_ct hC (fun _ _ => rfl))
    · have hM0 := hM.th (v := 0) hn
      have h0 := ud_at D 70 0 0
      refine wp_eq (e278_0 _) ?_
      refine wp_iE ((m_what (d := d + 48) h0).2 ix) ?_
      refine wp_eq (e278_7 _ _) (wp_f (fun z => z rfl) ?_)
      exact wp_mr (hM0.th hn) (ud_at _ 70 0 1) (fun q hq => by rw [ud_q (by omega), ud_q (by omega)])
noncomputable def perA (ρ : Ru) (c : Cc) (p : Nat) : Nat → Int32
  | 0 => pewO (c p)
  | 1 => seatO (c p)
  | 2 => c (12 + p)
  | 3 => c (24 + p)
  | 4 => c (36 + p)
  | 5 => c (48 + p)
  | 6 => c (60 + p)
  | 7 => whoA (plO (lineN ρ c false ρ.1) (some p))
  | _ => ofN p (moN ρ c (bwN ρ c) p)
theorem p_person {x y : Int32} (hσ : SgOk σ) : PairI σ (fun u J D => EvM X (d + 50) 108 [.ref 0, .int x, .int y] (hS u D J)) (fun u J D => EvM X (d + 50) 237 [.ref 70, .int x, .int y] (hS u D J)) nI xA := by
  have hn := hσ.2.1.1.1
  have hG := hσ.2.2.1
  have h31 : σ.2.1.1 < 2 ^ 31 := by omega
  have hL := line_D hn σ.2.2.1 false
  by_cases ix : isPe σ.2.1.1 x
  · obtain ⟨p, p1, rfl⟩ := id ix
    by_cases iy : ¬ y < 0 ∧ ¬ 8 < y
    · obtain ⟨j, -, j2, j3, rfl⟩ := nI_x (a := 0) (b := 8) (by decide) iy.1 iy.2
      refine ⟨.inl (perA σ.2.1 σ.2.2.1 p j), σ, hσ, fun u J D hC => ?_, fun u J D hM => ?_, by first | exact trivial | exact rfl | exact Or.inl rfl | exact Or.inr rfl⟩
      · refine wp_eq (e108_0 _ _) ?_
        rcases c_pers (X := X) (d := d + 49) (u := u) (J := J) (x := nI p) h31 hC.2.1.1 with ⟨_, g⟩ | ⟨g, _⟩
        · refine wp_vE g ?_
          have e26 : D 26 = σ.2.2.1 := hC.2.2.1.1
          have fin : ∀ r, r = perA σ.2.1 σ.2.2.1 p j → Wp (some (.inl (some (.int r)), hS u D J)) (CR σ D u J (.inl (perA σ.2.1 σ.2.2.1 p j))) := fun r z => by
            rw [z]; exact wp_cr hC (fun _ _ => rfl)
          refine wp_eq (e108_3 _ _) ?_
          rw [la, la, la, la, la, la, nI_clamp (show 0 + p < 2 ^ 31 by omega), nI_clamp (show 12 + p < 2 ^ 31 by omega), nI_clamp (show 24 + p < 2 ^ 31 by omega), nI_clamp (show 36 + p < 2 ^ 31 by omega), nI_clamp (show 48 + p < 2 ^ 31 by omega), nI_clamp (show 60 + p < 2 ^ 31 by omega), Nat.zero_add, e26]
          rcases (show j = 0 ∨ j = 1 ∨ j = 2 ∨ j = 3 ∨ j = 4 ∨ j = 5 ∨ j = 6 ∨ j = 7 ∨ j = 8 by omega) with rfl | rfl | rfl | rfl | rfl | rfl | rfl | rfl | rfl
          · exact wp_t rfl (oG (by omega) (by decide) (wp_iE c_pewOf (wp_eq (e108_13 _ _ _) (fin _ rfl))))
          · exact wp_f (by decide) (wp_t rfl (oG (by omega) (by decide) (wp_iE c_seatOf (wp_eq (e108_22 _ _ _) (fin _ rfl)))))
          · exact wp_f (by decide) (wp_f (by decide) (wp_t rfl (oG (by omega) (by decide) (fin _ rfl))))
          · exact wp_f (by decide) (wp_f (by decide) (wp_f (by decide) (wp_t rfl (oG (by omega) (by decide) (fin _ rfl)))))
          · exact wp_f (by decide) (wp_f (by decide) (wp_f (by decide) (wp_f (by decide) (wp_t rfl (oG (by omega) (by decide) (fin _ rfl))))))
          · exact wp_f (by decide) (wp_f (by decide) (wp_f (by decide) (wp_f (by decide) (wp_f (by decide) (wp_t rfl (oG (by omega) (by decide) (fin _ rfl)))))))
          · exact wp_f (by decide) (wp_f (by decide) (wp_f (by decide) (wp_f (by decide) (wp_f (by decide) (wp_f (by decide) (wp_t rfl (oG (by omega) (by decide) (fin _ rfl))))))))
          · refine wp_f (by decide) (wp_f (by decide) (wp_f (by decide) (wp_f (by decide) (wp_f (by decide) (wp_f (by decide) (wp_f (by decide) (wp_t rfl ?_)))))))
            refine wp_cV (s_line (d := d + 48) (rain := false) (Or.inl rfl) hσ.2.1 hC.2.1 hC.2.2.1.1) (fun D1 h1 => ?_)
            refine wp_eq (e108_67 _ _) ?_
            refine wp_iE (c_place (q := some p) (Or.inl rfl) hL hn ⟨h1.1, h1.2.2.1⟩ (fun b hb => by cases hb; omega)) ?_
            exact wp_eq (e108_71 _ _ _) (wp_cr (h1.ci hC) (fun q hq => h1.2.2.2.2.1 q (by omega) (by omega) (by omega) (by omega)))
          · refine wp_f (by decide) (wp_f (by decide) (wp_f (by decide) (wp_f (by decide) (wp_f (by decide) (wp_f (by decide) (wp_f (by decide) (wp_f (by decide) (wp_t rfl ?_))))))))
            refine wp_cV (c_5 (d := d + 46) hσ hC) (fun D1 h1 => ?_)
            obtain ⟨-, -, a3, a4, a5⟩ := h1
            refine wp_eq (e108_77 _ _) ?_
            rw [nI_clamp (show p < 2 ^ 31 by omega), a3 p p1]
            exact oG (by omega) (by decide) (wp_cr a4 a5)
        · exact absurd ix g
      · have hM0 := hM.th (v := 0) hn
        have h0 := ud_at D 70 0 0
        refine wp_eq (e237_0 _ _) ?_
        refine wp_iE ((m_pers (X := X) (d := d + 48) (u := u) (J := J) (x := nI p) h31 hM0.2.1.1 h0).1 ix) ?_
        refine wp_eq (e237_6 _ _ _) (wp_f (by decide) ?_)
        refine wp_iE ((m_what (d := d + 48) h0).1 iy) ?_
        obtain ⟨t1, t2, t3, t4, t5, t6, t7⟩ := hM0.2.2.1.s hn p1
        rw [Nat.zero_add] at t1 t2 t3 t4 t5 t6 t7
        have fin : ∀ r, r = perA σ.2.1 σ.2.2.1 p j → Wp (some (.inl (some (.int r)), hS u (ud D 70 0 0) J)) (MR σ D u J (perA σ.2.1 σ.2.2.1 p j) 0) := fun r z => by
          rw [z]; exact wp_mr hM0 h0 (fun q hq => ud_q (by omega))
        refine wp_eq (e237_11 _ _ _) (wp_t (by decide) ?_)
        rw [la, la, la, la, la, la, la, nI_clamp (show 13 + p < 2 ^ 31 by omega), nI_clamp (show 25 + p < 2 ^ 31 by omega), nI_clamp (show 1 + p < 2 ^ 31 by omega), nI_clamp (show 37 + p < 2 ^ 31 by omega), nI_clamp (show 49 + p < 2 ^ 31 by omega), nI_clamp (show 61 + p < 2 ^ 31 by omega), nI_clamp (show 73 + p < 2 ^ 31 by omega), t1, t2, t3, t4, t5, t6, t7]
        rcases (show j = 0 ∨ j = 1 ∨ j = 2 ∨ j = 3 ∨ j = 4 ∨ j = 5 ∨ j = 6 ∨ j = 7 ∨ j = 8 by omega) with rfl | rfl | rfl | rfl | rfl | rfl | rfl | rfl | rfl
        · exact wp_t rfl (oG (by omega) (by decide) (fin _ rfl))
        · exact wp_f (by decide) (wp_t rfl (oG (by omega) (by decide) (fin _ rfl)))
        · exact wp_f (by decide) (wp_f (by decide) (wp_t rfl (oG (by omega) (by decide) (fin _ rfl))))
        · exact wp_f (by decide) (wp_f (by decide) (wp_f (by decide) (wp_t rfl (oG (by omega) (by decide) (fin _ rfl)))))
        · exact wp_f (by decide) (wp_f (by decide) (wp_f (by decide) (wp_f (by decide) (wp_t rfl (oG (by omega) (by decide) (fin _ rfl))))))
        · exact wp_f (by decide) (wp_f (by decide) (wp_f (by decide) (wp_f (by decide) (wp_f (by decide) (wp_t rfl (oG (by omega) (by decide) (fin _ rfl)))))))
        · exact wp_f (by decide) (wp_f (by decide) (wp_f (by decide) (wp_f (by decide) (wp_f (by decide) (wp_f (by decide) (wp_t rfl (oG (by omega) (by decide) (fin _ rfl))))))))
        · refine wp_f (by decide) (wp_f (by decide) (wp_f (by decide) (wp_f (by decide) (wp_f (by decide) (wp_f (by decide) (wp_f (by decide) (wp_t rfl ?_)))))))
          refine wp_cV (s_asks (d := d + 46) (b := 0) (rain := false) (Or.inl rfl) hσ.2.1 hM0.2.1 hM0.2.2.1 hG.1.v hG.bz hM0.2.2.2.2.2.2) (fun D1 h1 => ?_)
          refine wp_eq (e237_68 _ _) ?_
          refine wp_iE (s_placeOf (L := lineN σ.2.1 σ.2.2.1 false σ.2.1.1) (show p < 12 by omega) hL.1 (fun i hi => by have := hL.2.1 i hi; omega) h1.1 h1.2.2.1) ?_
          rw [← pl_eq]
          exact wp_eq (e237_71 _ _ _) ((h1.fr (b := 85)).fin hM0 hn)
        · refine wp_f (by decide) (wp_f (by decide) (wp_f (by decide) (wp_f (by decide) (wp_f (by decide) (wp_f (by decide) (wp_f (by decide) (wp_f (by decide) ?_)))))))
          obtain ⟨Y, r, y, D1, rfl, hy, hM1, hf1, hq1⟩ : Wp (EvM X (d + 49) 279 [.ref 70, .int (nI p)] (hS u (ud D 70 0 0) J)) (RI u J (fun y D' => y = ofN p (moN σ.2.1 σ.2.2.1 (bwN σ.2.1 σ.2.2.1) p) ∧ MI σ D' ∧ D' 70 0 = 0 ∧ ∀ q, q < 70 → D' q = D q)) := by
            refine wp_eq (e279_0 _) ?_
            refine wp_cV (m_277 (d := d + 45) hG hn hM0.2.1.1 hM0.2.2.1) (fun D1 h1 => ?_)
            obtain ⟨hT, hq⟩ := h1
            have hM1 := mi_88 hM0 hn hq
            have hB := mo_best hG hn (fun w _ => bw_best σ.2.1 σ.2.2.1 w)
            refine wp_eq (e279_2 _) ?_
            have e1 : ((1 : Int32) <<< (D1 70 1 &&& 31)) - 1 = nI (2 ^ σ.2.1.1 - 1) := by
              rw [hM1.2.1.1]
              show bitN σ.2.1.1 - 1 = _
              rw [bit_p _ (by omega)]
              exact nI_sub (b := 1) (Nat.two_pow_pos _)
            rw [e1]
            refine wp_mono (m_279g (d := d + 47) (x := p) (mo := moN σ.2.1 σ.2.2.1 (bwN σ.2.1 σ.2.2.1)) hG hn hM1.2.1.1 hM1.2.2.1 hT p1 (2 ^ σ.2.1.1) 0 (moN σ.2.1 σ.2.2.1 (bwN σ.2.1 σ.2.2.1)) (Nat.sub_le _ _) (Nat.two_pow_pos _) (by rw [fs_0]; exact hB) (fun _ _ => rfl) (by rw [fs_0]; exact decide_eq_true p1)) (fun Y h2 => ?_)
            obtain ⟨y, D2, rfl, rfl, rfl⟩ := h2
            exact ⟨_, D2, rfl, rfl, hM1, by rw [hq 70 (by decide)]; exact h0, fun q hh => by rw [hq q (by omega), ud_q (by omega)]⟩
          refine wp_iE r ?_
          rw [hy]
          exact wp_eq (e237_75 _ _ _) (wp_mr hM1 hf1 hq1)
    · refine ⟨.inr 1, σ, hσ, fun u J D hC => ?_, fun u J D hM => ?_, by first | exact trivial | exact rfl | exact Or.inl rfl | exact Or.inr rfl⟩
      · refine wp_eq (e108_0 _ _) ?_
        rcases c_pers (X := X) (d := d + 49) (u := u) (J := J) (x := nI p) h31 hC.2.1.1 with ⟨_, g⟩ | ⟨g, _⟩
        · refine wp_vE g ?_
          have ne : ∀ k : Int32, ¬ k < 0 → ¬ 8 < k → ¬ y = k := fun k a b z => iy (by rw [z]; exact ⟨a, b⟩)
          refine wp_eq (e108_3 _ _) ?_
          refine wp_f (ne 0 (by decide) (by decide)) (wp_f (ne 1 (by decide) (by decide)) (wp_f (ne 2 (by decide) (by decide)) (wp_f (ne 3 (by decide) (by decide)) (wp_f (ne 4 (by decide) (by decide)) (wp_f (ne 5 (by decide) (by decide)) (wp_f (ne 6 (by decide) (by decide)) (wp_f (ne 7 (by decide) (by decide)) (wp_f (ne 8 (by decide) (by decide)) ?_))))))))
          exact wp_ct hC (fun _ _ => rfl)
        · exact absurd ix g
      · have hM0 := hM.th (v := 0) hn
        have h0 := ud_at D 70 0 0
        refine wp_eq (e237_0 _ _) ?_
        refine wp_iE ((m_pers (X := X) (d := d + 48) (u := u) (J := J) (x := nI p) h31 hM0.2.1.1 h0).1 ix) ?_
        refine wp_eq (e237_6 _ _ _) (wp_f (by decide) ?_)
        refine wp_iE ((m_what (d := d + 48) h0).2 iy) ?_
        refine wp_eq (e237_11 _ _ _) (wp_f (fun z => z rfl) ?_)
        exact wp_mr (hM0.th hn) (ud_at _ 70 0 1) (fun q hq => by rw [ud_q (by omega), ud_q (by omega)])
  · refine ⟨.inr 1, σ, hσ, fun u J D hC => ?_, fun u J D hM => ?_, by first | exact trivial | exact rfl | exact Or.inl rfl | exact Or.inr rfl⟩
    · refine wp_eq (e108_0 _ _) ?_
      rcases c_pers (X := X) (d := d + 49) (u := u) (J := J) (x := x) h31 hC.2.1.1 with ⟨g, _⟩ | ⟨_, g⟩
      · exact absurd g ix
      · exact wp_vT g (wp_ct hC (fun _ _ => rfl))
    · have hM0 := hM.th (v := 0) hn
      refine wp_eq (e237_0 _ _) ?_
      refine wp_iE ((m_pers (X := X) (d := d + 48) (u := u) (J := J) (x := x) h31 hM0.2.1.1 (ud_at D 70 0 0)).2 ix) ?_
      refine wp_eq (e237_6 _ _ _) (wp_t rfl ?_)
      exact wp_mr (hM0.th hn) (ud_at _ 70 0 1) (fun q hq => by rw [ud_q (by omega), ud_q (by omega)])
end COUPP
