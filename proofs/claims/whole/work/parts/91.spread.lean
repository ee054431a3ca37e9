/-! ===== spread ===== -/
section SPREAD
variable {X : XS} {d u : Nat} {D D1 : DD} {J : JJ} {σ : Sg} {ρ : Ru} {c : Cc} {K : Nat}
theorem p_spread {x y : Int32} (hσ : SgOk σ) : PairI σ (fun u J D => EvM X (d + 50) 158 [.ref 0, .int x, .int y] (hS u D J)) (fun u J D => EvM X (d + 50) 260 [.ref 70, .int x, .int y] (hS u D J)) nI xC := by
  have hn := hσ.2.1.1.1
  have h31 : σ.2.1.1 < 2 ^ 31 := by omega
  by_cases ix : isPe σ.2.1.1 x
  · by_cases iy : ¬ y < 1 ∧ ¬ 100 < y
    · obtain ⟨p, p1, rfl⟩ := id ix
      obtain ⟨n, -, n2, n3, rfl⟩ := nI_x (a := 1) (b := 100) (by decide) iy.1 iy.2
      refine ⟨.inl (spN σ.2.1 σ.2.2.1 p n), σ, hσ, fun u J D hC => ?_, fun u J D hM => ?_, by first | exact trivial | exact rfl | exact Or.inl rfl | exact Or.inr rfl⟩
      · refine wp_eq (e158_0 _ _) ?_
        rcases c_pers (X := X) (d := d + 49) (u := u) (J := J) (x := nI p) h31 hC.2.1.1 with ⟨_, g⟩ | ⟨g, _⟩
        · refine wp_vE g ?_
          refine wp_eq (e158_3 _ _) ?_
          rcases c_within (X := X) (d := d + 49) (u := u) (D := D) (J := J) (x := nI n) (a := 1) (b := 100) with ⟨_, g⟩ | ⟨g, _⟩
          · refine wp_vE g ?_
            refine wp_eq (e158_7 _ _) ?_
            refine wp_cV (c_reach (d := d + 44) hσ hC (show n ≤ 200 by omega)) (fun D1 h1 => ?_)
            obtain ⟨hC1, ⟨K, hK, hF⟩, hf⟩ := h1
            refine wp_eq (e158_11 _ _) ?_
            refine wp_loop (R := fun k (_ : Unit) => Ev X (d + 50) 158 (15, [.ref 0, .int (nI p), .int (nI n), .int (spN σ.2.1 σ.2.2.1 p k), .int (nI (k + 1)), .null], [], hS u D1 J)) (fun _ _ => True) n ?_ ?_ 0 () (Nat.zero_le _) trivial
            · intro k _ hk _ ih
              have ih := ih () trivial
              rw [spN] at ih
              refine wp_eq (e158_15 _ _ _ _) (wp_f (Int32.not_lt.mpr (nI_le (by omega) (by omega))) ?_)
              refine wp_iE (c_pewAt (d := d + 48) hF (show k + 1 ≤ K by omega) (show p < 12 by omega)) ?_
              refine wp_eq (e158_23 _ _ _ _ _) ?_
              rw [nI_1]
              refine wp_if (fun h => ?_) (fun h => ?_)
              · rw [if_pos h] at ih
                exact wp_weak (ls := [.ref 0, .int (nI p), .int (nI n), .int (spN σ.2.1 σ.2.2.1 p k), .int (nI (k + 1 + 1)), .null]) (by simp [lle, lng]) ih
              · rw [if_neg h] at ih
                exact wp_weak (ls := [.ref 0, .int (nI p), .int (nI n), .int (spN σ.2.1 σ.2.2.1 p k ||| ((1 : Int32) <<< (pewO (sunK σ.2.1 σ.2.2.1 (k + 1) p) &&& 31))), .int (nI (k + 1 + 1)), .null]) (by simp [lle, lng]) ih
            · intro _ _
              exact wp_eq (e158_15 _ _ _ _) (wp_t (nI_lt (by omega) (by omega)) (wp_cr hC1 (fun q hq => hf.1 q (by omega) (by omega))))
          · exact absurd iy g
        · exact absurd ix g
      · have hM0 := hM.th (v := 0) hn
        have h0 := ud_at D 70 0 0
        refine wp_eq (e260_0 _ _) ?_
        refine wp_iE ((m_pers (X := X) (d := d + 48) (u := u) (J := J) (x := nI p) h31 hM0.2.1.1 h0).1 ix) ?_
        refine wp_eq (e260_6 _ _ _) (wp_f (by decide) ?_)
        refine wp_iE ((m_soon (d := d + 48) h0 (by decide)).1 iy) ?_
        refine wp_eq (e260_12 _ _ _) (wp_t (by decide) ?_)
        refine wp_cV (m_try0 hn hM0.2.2.1) (fun D1 h1 => ?_)
        refine wp_eq (e260_19 _ _ _) ?_
        refine wp_loop (R := fun k (D2 : DD) => Ev X (d + 50) 260 (21, [.ref 70, .int (nI p), .int (nI n), .int (spN σ.2.1 σ.2.2.1 p k), .int (nI k)], [], hS u D2 J)) (fun k (D2 : DD) => GoM σ.2.1 σ.2.2.1 k (ud D 70 0 0) D2) n ?_ ?_ 0 D1 (Nat.zero_le _) h1
        · intro k D2 hk h2 ih
          refine wp_eq (e260_21 _ _ _ _) (wp_f (nI_ge hk n3) ?_)
          refine wp_cV (m_step (d := d + 43) hσ.2.1 hσ.2.2.1 hM0.2.1 hM0.2.2.2.2.2.2 h2) (fun D3 h3 => ?_)
          have ih := ih D3 h3
          rw [spN] at ih
          refine wp_eq (e260_27 _ _ _ _) ?_
          obtain ⟨-, t2, -⟩ := h3.1.s hn p1
          have t2 : D3 78 (98 + p) = pewO (sunK σ.2.1 σ.2.2.1 (k + 1) p) := t2
          rw [la, nI_clamp (by omega), t2, nI_1]
          refine oG (by omega) (by decide) (wp_if (fun h => oG (by omega) (by decide) ?_) (fun h => ?_))
          · rw [if_neg h] at ih; exact ih
          · rw [if_pos (Classical.not_not.mp h)] at ih
            rw [Int32.or_zero]; exact ih
        · intro D2 h2
          exact wp_eq (e260_21 _ _ _ _) (wp_t (nI_le (Nat.le_refl _) n3) (h2.fin hM0 hn))
    · refine ⟨.inr 2, σ, hσ, fun u J D hC => ?_, fun u J D hM => ?_, by first | exact trivial | exact rfl | exact Or.inl rfl | exact Or.inr rfl⟩
      · refine wp_eq (e158_0 _ _) ?_
        rcases c_pers (X := X) (d := d + 49) (u := u) (J := J) (x := x) h31 hC.2.1.1 with ⟨_, g⟩ | ⟨g, _⟩
        · refine wp_vE g ?_
          refine wp_eq (e158_3 _ _) ?_
          rcases c_within (X := X) (d := d + 49) (u := u) (D := D) (J := J) (x := y) (a := 1) (b := 100) with ⟨g, _⟩ | ⟨_, g⟩
          · exact absurd g iy
          · exact wp_vT g (wp_ct hC (fun _ _ => rfl))
        · exact absurd ix g
      · have hM0 := hM.th (v := 0) hn
        have h0 := ud_at D 70 0 0
        refine wp_eq (e260_0 _ _) ?_
        refine wp_iE ((m_pers (X := X) (d := d + 48) (u := u) (J := J) (x := x) h31 hM0.2.1.1 h0).1 ix) ?_
        refine wp_eq (e260_6 _ _ _) (wp_f (by decide) ?_)
        refine wp_iE ((m_soon (d := d + 48) h0 (by decide)).2 iy) ?_
        refine wp_eq (e260_12 _ _ _) (wp_f (by decide) ?_)
        exact wp_mr (hM0.th hn) (ud_at _ 70 0 2) (fun q hq => by rw [ud_q (by omega), ud_q (by omega)])
  · refine ⟨.inr 1, σ, hσ, fun u J D hC => ?_, fun u J D hM => ?_, by first | exact trivial | exact rfl | exact Or.inl rfl | exact Or.inr rfl⟩
    · refine wp_eq (e158_0 _ _) ?_
      rcases c_pers (X := X) (d := d + 49) (u := u) (J := J) (x := x) h31 hC.2.1.1 with ⟨g, _⟩ | ⟨_, g⟩
      · exact absurd g ix
      · exact wp_vT g (wp_ct hC (fun _ _ => rfl))
    · have hM0 := hM.th (v := 0) hn
      refine wp_eq (e260_0 _ _) ?_
      refine wp_iE ((m_pers (X := X) (d := d + 48) (u := u) (J := J) (x := x) h31 hM0.2.1.1 (ud_at D 70 0 0)).2 ix) ?_
      refine wp_eq (e260_6 _ _ _) (wp_t rfl ?_)
      exact wp_mr (hM0.th hn) (ud_at _ 70 0 1) (fun q hq => by rw [ud_q (by omega), ud_q (by omega)])
end SPREAD
