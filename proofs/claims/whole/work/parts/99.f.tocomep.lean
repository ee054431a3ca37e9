/-! ===== toCome, whose, toBar: the pairs ===== -/
section TOCOMEP
variable {X : XS} {d u : Nat} {D D1 : DD} {J : JJ} {σ : Sg} {ρ : Ru} {c : Cc} {L : Nat × (Nat → Nat)} {p k j : Nat} {q : Option Nat}
theorem p_toCome {x y : Int32} (hσ : SgOk σ) : PairI σ (fun u J D => EvM X (d + 50) 133 [.ref 0, .int x, .int y] (hS u D J)) (fun u J D => EvM X (d + 50) 271 [.ref 70, .int x, .int y] (hS u D J)) nI xA := by
  have hn := hσ.2.1.1.1
  have hG := hσ.2.2.1
  have h31 : σ.2.1.1 < 2 ^ 31 := by omega
  have hL := line_D hn σ.2.2.1 false
  have h12 := hL.1
  by_cases ix : isPe σ.2.1.1 x
  · obtain ⟨p, p1, rfl⟩ := id ix
    by_cases iy : ¬ y < 0 ∧ ¬ 1 < y
    · have hp12 : ∀ b, some p = some b → b < 12 := fun b hb => by cases hb; omega
      -- both up to the line
      have cc : ∀ (Q : Rs → Prop) u J D, CI σ D → (∀ D2, CI σ D2 → isL 25 (lineN σ.2.1 σ.2.2.1 false σ.2.1.1) D2 → (∀ q, 70 ≤ q → D2 q = D q) → Wp (Ev X (d + 50) 133 (14, [.ref 0, .int (nI p), .int y, .null, .null, .null, .null], [.int (whoA (plO (lineN σ.2.1 σ.2.2.1 false σ.2.1.1) (some p)))], hS u D2 J)) Q) → Wp (EvM X (d + 50) 133 [.ref 0, .int (nI p), .int y] (hS u D J)) Q := by
        intro Q u J D hC hk
        refine wp_eq (e133_0 _ _) ?_
        rcases c_pers (X := X) (d := d + 49) (u := u) (J := J) (x := nI p) h31 hC.2.1.1 with ⟨_, g⟩ | ⟨g, _⟩
        · refine wp_vE g ?_
          refine wp_eq (e133_3 _ _) ?_
          rcases c_what (X := X) (d := d + 49) (u := u) (D := D) (J := J) (x := y) (k := 1) with ⟨_, g⟩ | ⟨g, _⟩
          · refine wp_vE g ?_
            refine wp_eq (e133_6 _ _) ?_
            refine wp_cV (s_line (d := d + 48) (rain := false) (Or.inl rfl) hσ.2.1 hC.2.1 hC.2.2.1.1) (fun D1 h1 => ?_)
            refine wp_eq (e133_10 _ _) ?_
            have hl : isL 25 (lineN σ.2.1 σ.2.2.1 false σ.2.1.1) D1 := ⟨h1.1, h1.2.2.1⟩
            refine wp_iE (c_place (q := some p) (Or.inl rfl) hL hn hl hp12) ?_
            exact hk D1 (h1.ci hC) hl (fun q hq => h1.2.2.2.2.1 q (by omega) (by omega) (by omega) (by omega))
          · exact absurd iy g
        · exact absurd ix g
      have mm : ∀ (Q : Rs → Prop) u J D, MI σ D → (∀ D2, FrM 85 (ud D 70 0 0) D2 → D2 70 46 = nI (lineN σ.2.1 σ.2.2.1 false σ.2.1.1).1 → Wp (Ev X (d + 50) 271 (20, [.ref 70, .int (nI p), .int y, .null, .null, .null, .null, .null], [.int (whoA (plO (lineN σ.2.1 σ.2.2.1 false σ.2.1.1) (some p)))], hS u D2 J)) Q) → Wp (EvM X (d + 50) 271 [.ref 70, .int (nI p), .int y] (hS u D J)) Q := by
        intro Q u J D hM hk
        have hM0 := hM.th (v := 0) hn
        have h0 := ud_at D 70 0 0
        refine wp_eq (e271_0 _ _) ?_
        refine wp_iE ((m_pers (X := X) (d := d + 48) (u := u) (J := J) (x := nI p) h31 hM0.2.1.1 h0).1 ix) ?_
        refine wp_eq (e271_6 _ _ _) (wp_f (by decide) ?_)
        refine wp_iE ((m_what (d := d + 48) h0).1 iy) ?_
        refine wp_eq (e271_11 _ _ _) (wp_t (by decide) ?_)
        refine wp_cV (s_asks (d := d + 46) (b := 0) (rain := false) (Or.inl rfl) hσ.2.1 hM0.2.1 hM0.2.2.1 hG.1.v hG.bz hM0.2.2.2.2.2.2) (fun D1 h1 => ?_)
        refine wp_eq (e271_17 _ _) ?_
        refine wp_iE (s_placeOf (L := lineN σ.2.1 σ.2.2.1 false σ.2.1.1) (show p < 12 by omega) h12 (fun i hi => by have := hL.2.1 i hi; omega) h1.1 h1.2.2.1) ?_
        rw [← pl_eq]
        exact hk D1 h1.fr h1.1
      cases hk : plO (lineN σ.2.1 σ.2.2.1 false σ.2.1.1) (some p) with
      | none =>
        rw [hk] at cc mm
        refine ⟨.inl (-1), σ, hσ, fun u J D hC => cc _ u J D hC (fun D2 g1 g2 g3 => ?_), fun u J D hM => mm _ u J D hM (fun D2 g1 g2 => ?_), by first | exact trivial | exact rfl | exact Or.inl rfl | exact Or.inr rfl⟩
        · exact wp_eq (e133_14 _ _ _) (wp_f (fun z => z rfl) (wp_cr g1 g3))
        · exact wp_eq (e271_20 _ _ _) (wp_f (fun z => z rfl) (g1.fin (hM.th hn) hn))
      | some k =>
        rw [hk] at cc mm
        have k1 := (pl_some hk).1
        have ek : ¬ whoA (some k) = -1 := nI_ne1 (show k < 2 ^ 31 by omega)
        -- where one sits then
        have hf : ∀ j, j < (lineN σ.2.1 σ.2.2.1 false σ.2.1.1).1 → ∃ s, s < 144 ∧ servN σ.2.1 σ.2.2.1 (atL (lineN σ.2.1 σ.2.2.1 false σ.2.1.1) p j) p = nI s ∧ pewO (servN σ.2.1 σ.2.2.1 (atL (lineN σ.2.1 σ.2.2.1 false σ.2.1.1) p j) p) = nI (s / 12) ∧ p12 (servN σ.2.1 σ.2.2.1 (atL (lineN σ.2.1 σ.2.2.1 false σ.2.1.1) p j) p) = nI (s / 12) := fun j hj => by
          obtain ⟨a1, a2⟩ := at_D hL hk hj
          exact serv_p hσ.2.1.1 hG a1 p1 ⟨j, by rw [at_1 hk]; exact hj, a2⟩
        have hsm : ∀ v : Int32, 12 ≤ v → ¬ v ≤ pewO (servN σ.2.1 σ.2.2.1 (atL (lineN σ.2.1 σ.2.2.1 false σ.2.1.1) p 0) p) := fun v hv z => by
          obtain ⟨s, s1, -, s3, -⟩ := hf 0 (by omega)
          rw [s3] at z
          exact absurd (Int32.le_trans hv z) (nI_ge (b := 12) (by omega) (by decide))
        refine ⟨.inl (if y = 0 then (mnS 12 (fun j => pewO (servN σ.2.1 σ.2.2.1 (atL (lineN σ.2.1 σ.2.2.1 false σ.2.1.1) p j) p)) (lineN σ.2.1 σ.2.2.1 false σ.2.1.1).1).1 else (mnS 12 (fun j => pewO (servN σ.2.1 σ.2.2.1 (atL (lineN σ.2.1 σ.2.2.1 false σ.2.1.1) p j) p)) (lineN σ.2.1 σ.2.2.1 false σ.2.1.1).1).2), σ, hσ, fun u J D hC => cc _ u J D hC (fun D2 g1 g2 g3 => ?_), fun u J D hM => mm _ u J D hM (fun D2 g1 g2 => ?_), by first | exact trivial | exact rfl | exact Or.inl rfl | exact Or.inr rfl⟩
        · refine wp_eq (e133_14 _ _ _) (wp_t ek ?_)
          refine wp_loop (R := fun j (D3 : DD) => Ev X (d + 50) 133 (24, [.ref 0, .int (nI p), .int y, .int (mnS 12 (fun j => pewO (servN σ.2.1 σ.2.2.1 (atL (lineN σ.2.1 σ.2.2.1 false σ.2.1.1) p j) p)) j).1, .int (mnS 12 (fun j => pewO (servN σ.2.1 σ.2.2.1 (atL (lineN σ.2.1 σ.2.2.1 false σ.2.1.1) p j) p)) j).2, .int (nI j), .null], [], hS u D3 J)) (fun j (D3 : DD) => CI σ D3 ∧ D3 25 = D2 25 ∧ ∀ q, 70 ≤ q → D3 q = D q) (lineN σ.2.1 σ.2.2.1 false σ.2.1.1).1 ?_ ?_ 0 D2 (Nat.zero_le _) ⟨g1, rfl, g3⟩
          · intro j D3 hj ⟨i1, i2, i3⟩ ih
            refine wp_eq (e133_24 _ _ _ _ _) ?_
            rw [i2, g2.1]
            refine wp_f (nI_ge hj (by omega)) ?_
            refine wp_cV (c_trial hσ i1) (fun D4 h4 => ?_)
            refine wp_eq (e133_34 _ _ _ _ _) ?_
            refine wp_cV (c_tline (d := d + 48) hσ i1 h4.1 h4.2) (fun D5 h5 => ?_)
            obtain ⟨a1, a2, a3, a4⟩ := h5
            refine wp_eq (e133_38 _ _ _ _ _) ?_
            refine wp_cV (c_standAt (d := d + 47) isP31 hL hn a1 (by omega) hk hj) (fun D6 h6 => ?_)
            refine wp_eq (e133_43 _ _ _ _ _) ?_
            refine wp_cV (c_tserv (d := d + 46) hσ i1 (at_D hL hk hj).1 h6.1 (by rw [h6.2 32 (by decide) (by decide)]; exact a2) (a4.a31 h6.2)) (fun D7 h7 => ?_)
            obtain ⟨b1, b2, b3⟩ := h7
            have ih := ih D7 ⟨b2, by rw [b3.1 25 (by omega) (by omega)]; exact i2, fun q hq => by rw [b3.1 q (by omega) (by omega)]; exact i3 q hq⟩
            rw [mnS] at ih
            refine wp_eq (e133_46 _ _ _ _ _) ?_
            rw [la, nI_clamp (by omega), Nat.zero_add, b1]
            refine oG (by omega) (by decide) ?_
            refine wp_iE c_pewOf ?_
            refine wp_eq (e133_54 _ _ _ _ _ _) ?_
            rw [nI_1]
            refine wp_if (fun h => ?_) (fun h => ?_)
            · rw [if_pos h] at ih
              exact wp_weak (by simp [lle, lng] <;> rfl) ih
            · rw [if_neg h] at ih
              exact wp_weak (by simp [lle, lng] <;> rfl) ih
          · intro D3 ⟨i1, i2, i3⟩
            refine wp_eq (e133_24 _ _ _ _ _) ?_
            rw [i2, g2.1]
            refine wp_t (nI_le (Nat.le_refl _) (by omega)) (wp_if (fun h => ?_) (fun h => ?_))
            · rw [if_neg h]; exact wp_cr i1 i3
            · rw [if_pos (Classical.not_not.mp h)]; exact wp_cr i1 i3
        · have hM0 := hM.th (v := 0) hn
          refine wp_eq (e271_20 _ _ _) (wp_t ek ?_)
          rw [g2]
          refine wp_loop (R := fun j (D3 : DD) => Ev X (d + 50) 271 (33, [.ref 70, .int (nI p), .int y, .int (nI (lineN σ.2.1 σ.2.2.1 false σ.2.1.1).1), .int (mnS 9999 (fun j => pewO (servN σ.2.1 σ.2.2.1 (atL (lineN σ.2.1 σ.2.2.1 false σ.2.1.1) p j) p)) j).1, .int (mnS 9999 (fun j => pewO (servN σ.2.1 σ.2.2.1 (atL (lineN σ.2.1 σ.2.2.1 false σ.2.1.1) p j) p)) j).2, .int (nI j), .null], [], hS u D3 J)) (fun j (D3 : DD) => FrM 85 (ud D 70 0 0) D3) (lineN σ.2.1 σ.2.2.1 false σ.2.1.1).1 ?_ ?_ 0 D2 (Nat.zero_le _) g1
          · intro j D3 hj i1 ih
            have hM3 := i1.mi hM0 hn
            refine wp_eq (e271_33 _ _ _ _ _ _) (wp_f (nI_ge hj (by omega)) ?_)
            refine wp_cI (m_270a (d := d + 43) hσ.2.1 hG hM3.2.1 hM3.2.2.1 hM3.2.2.2.2.2.2 p1 hk hj) (fun v D4 h4 => ?_)
            obtain ⟨rfl, h4⟩ := h4
            have ih := ih D4 (i1.tr h4)
            rw [mnS] at ih
            obtain ⟨s, s1, s2, s3, s4⟩ := hf j hj
            have e : p12 (servN σ.2.1 σ.2.2.1 (atL (lineN σ.2.1 σ.2.2.1 false σ.2.1.1) p j) p) = pewO (servN σ.2.1 σ.2.2.1 (atL (lineN σ.2.1 σ.2.2.1 false σ.2.1.1) p j) p) := s4.trans s3.symm
            refine wp_eq (e271_41 _ _ _ _ _ _ _) ?_
            rw [e, nI_1]
            refine wp_if (fun h => ?_) (fun h => ?_)
            · rw [if_neg (Int32.not_le.mpr h)] at ih
              exact wp_weak (by simp [lle, lng] <;> rfl) ih
            · rw [if_pos (Int32.not_lt.mp h)] at ih
              exact wp_weak (by simp [lle, lng] <;> rfl) ih
          · intro D3 i1
            have emn := mn_eq' (v := 9999) (w := 12) (f := fun j => pewO (servN σ.2.1 σ.2.2.1 (atL (lineN σ.2.1 σ.2.2.1 false σ.2.1.1) p j) p)) (show 0 < (lineN σ.2.1 σ.2.2.1 false σ.2.1.1).1 by omega) (hsm 9999 (by decide)) (hsm 12 (by decide))
            refine wp_eq (e271_33 _ _ _ _ _ _) (wp_t (nI_le (Nat.le_refl _) (by omega)) ?_)
            rw [emn]
            refine wp_if (fun h => ?_) (fun h => ?_)
            · rw [if_neg h]; exact i1.fin hM0 hn
            · rw [if_pos (Classical.not_not.mp h)]; exact i1.fin hM0 hn
    · refine ⟨.inr 1, σ, hσ, fun u J D hC => ?_, fun u J D hM => ?_, by first | exact trivial | exact rfl | exact Or.inl rfl | exact Or.inr rfl⟩
      · refine wp_eq (e133_0 _ _) ?_
        rcases c_pers (X := X) (d := d + 49) (u := u) (J := J) (x := nI p) h31 hC.2.1.1 with ⟨_, g⟩ | ⟨g, _⟩
        · refine wp_vE g ?_
          refine wp_eq (e133_3 _ _) ?_
          rcases c_what (X := X) (d := d + 49) (u := u) (D := D) (J := J) (x := y) (k := 1) with ⟨g, _⟩ | ⟨_, g⟩
          · exact absurd g iy
          · exact wp_vT g (wp_ct hC (fun _ _ => rfl))
        · exact absurd ix g
      · have hM0 := hM.th (v := 0) hn
        have h0 := ud_at D 70 0 0
        refine wp_eq (e271_0 _ _) ?_
        refine wp_iE ((m_pers (X := X) (d := d + 48) (u := u) (J := J) (x := nI p) h31 hM0.2.1.1 h0).1 ix) ?_
        refine wp_eq (e271_6 _ _ _) (wp_f (by decide) ?_)
        refine wp_iE ((m_what (d := d + 48) h0).2 iy) ?_
        refine wp_eq (e271_11 _ _ _) (wp_f (fun z => z rfl) ?_)
        exact wp_mr (hM0.th hn) (ud_at _ 70 0 1) (fun q hq => by rw [ud_q (by omega), ud_q (by omega)])
  · refine ⟨.inr 1, σ, hσ, fun u J D hC => ?_, fun u J D hM => ?_, by first | exact trivial | exact rfl | exact Or.inl rfl | exact Or.inr rfl⟩
    · refine wp_eq (e133_0 _ _) ?_
      rcases c_pers (X := X) (d := d + 49) (u := u) (J := J) (x := x) h31 hC.2.1.1 with ⟨g, _⟩ | ⟨_, g⟩
      · exact absurd g ix
      · exact wp_vT g (wp_ct hC (fun _ _ => rfl))
    · have hM0 := hM.th (v := 0) hn
      refine wp_eq (e271_0 _ _) ?_
      refine wp_iE ((m_pers (X := X) (d := d + 48) (u := u) (J := J) (x := x) h31 hM0.2.1.1 (ud_at D 70 0 0)).2 ix) ?_
      refine wp_eq (e271_6 _ _ _) (wp_t rfl ?_)
      exact wp_mr (hM0.th hn) (ud_at _ 70 0 1) (fun q hq => by rw [ud_q (by omega), ud_q (by omega)])
/-- whose staying away brings one forward -/
theorem p_whose {x : Int32} (hσ : SgOk σ) : PairI σ (fun u J D => EvM X (d + 50) 134 [.ref 0, .int x] (hS u D J)) (fun u J D => EvM X (d + 50) 272 [.ref 70, .int x] (hS u D J)) nI xA := by
  have hn := hσ.2.1.1.1
  have hG := hσ.2.2.1
  have h31 : σ.2.1.1 < 2 ^ 31 := by omega
  have hL := line_D hn σ.2.2.1 false
  by_cases ix : isPe σ.2.1.1 x
  · obtain ⟨p, p1, rfl⟩ := id ix
    have tbp : ∀ r, r < 12 → ((cmN σ.2.1 σ.2.2.1 >>> (nI r &&& 31)) &&& 1) = if (plO (lineN σ.2.1 σ.2.2.1 false σ.2.1.1) (some r)).isSome = true then 1 else 0 := fun r hr => tb_cm hn hr
    cases hk : plO (lineN σ.2.1 σ.2.2.1 false σ.2.1.1) (some p) with
    | none =>
      have hs : servN σ.2.1 σ.2.2.1 (lineN σ.2.1 σ.2.2.1 false σ.2.1.1) p = -1 := (serv_sits hσ.2.1.1 hL p1).mpr (fun i hi z => pl_none hk i hi (by rw [z]))
      refine ⟨.inl (-1), σ, hσ, fun u J D hC => ?_, fun u J D hM => ?_, by first | exact trivial | exact rfl | exact Or.inl rfl | exact Or.inr rfl⟩
      · refine wp_eq (e134_0 _) ?_
        rcases c_pers (X := X) (d := d + 49) (u := u) (J := J) (x := nI p) h31 hC.2.1.1 with ⟨_, g⟩ | ⟨g, _⟩
        · refine wp_vE g ?_
          refine wp_eq (e134_3 _) ?_
          refine wp_cI (c_hold (d := d + 45) (q := none) hσ hC (fun b hb => by cases hb)) (fun y D2 h2 => ?_)
          obtain ⟨-, g2, g3, g4⟩ := h2
          rw [out_n] at g2
          refine wp_eq (e134_6 _ _) ?_
          rw [la, nI_clamp (by omega), Nat.zero_add, g2, hs]
          refine oG (by omega) (by decide) (wp_iE c_pewOf ?_)
          exact wp_eq (e134_15 _ _) (wp_f (fun z => z pewO_1.1) (wp_cr g3 (fun q hq => g4.1 q (by omega) (by omega))))
        · exact absurd ix g
      · have hM0 := hM.th (v := 0) hn
        refine wp_eq (e272_0 _) ?_
        refine wp_iE ((m_pers (X := X) (d := d + 48) (u := u) (J := J) (x := nI p) h31 hM0.2.1.1 (ud_at D 70 0 0)).1 ix) ?_
        refine wp_eq (e272_6 _ _) (wp_t (by decide) ?_)
        refine wp_cI (m_comers (d := d + 45) hσ.2.1 hM0.2.1 hM0.2.2.1 hG.1.v hG.bz hM0.2.2.2.2.2.2) (fun v D2 h2 => ?_)
        obtain ⟨rfl, h2⟩ := h2
        refine wp_eq (e272_11 _ _) ?_
        rw [tbp p (by omega), hk]
        exact wp_f (fun z => z rfl) ((h2.fr (b := 85)).fin hM0 hn)
    | some k =>
      obtain ⟨k1, k2⟩ := pl_some hk
      have k2 : (lineN σ.2.1 σ.2.2.1 false σ.2.1.1).2 k = p := by injection k2
      have hf : ∀ q, ¬ some p = q → ∃ s, s < 144 ∧ servN σ.2.1 σ.2.2.1 (outO (lineN σ.2.1 σ.2.2.1 false σ.2.1.1) q) p = nI s ∧ pewO (servN σ.2.1 σ.2.2.1 (outO (lineN σ.2.1 σ.2.2.1 false σ.2.1.1) q) p) = nI (s / 12) ∧ p12 (servN σ.2.1 σ.2.2.1 (outO (lineN σ.2.1 σ.2.2.1 false σ.2.1.1) q) p) = nI (s / 12) := fun q hq => serv_p hσ.2.1.1 hG (out_D hL) p1 (out_mem hL hq ⟨k, k1, k2⟩)
      obtain ⟨s0, s01, s02, s03, s04⟩ := hf none (fun z => by cases z)
      let A : Nat → Bool := fun r => decide (r ≠ p) && (plO (lineN σ.2.1 σ.2.2.1 false σ.2.1.1) (some r)).isSome
      let f : Nat → Int32 := fun r => pewO (servN σ.2.1 σ.2.2.1 (outO (lineN σ.2.1 σ.2.2.1 false σ.2.1.1) (some r)) p)
      refine ⟨.inl (woN A f (nI (s0 / 12)) σ.2.1.1).2, σ, hσ, fun u J D hC => ?_, fun u J D hM => ?_, by first | exact trivial | exact rfl | exact Or.inl rfl | exact Or.inr rfl⟩
      · refine wp_eq (e134_0 _) ?_
        rcases c_pers (X := X) (d := d + 49) (u := u) (J := J) (x := nI p) h31 hC.2.1.1 with ⟨_, g⟩ | ⟨g, _⟩
        · refine wp_vE g ?_
          refine wp_eq (e134_3 _) ?_
          refine wp_cI (c_hold (d := d + 45) (q := none) hσ hC (fun b hb => by cases hb)) (fun y D2 h2 => ?_)
          obtain ⟨-, g2, g3, g4⟩ := h2
          refine wp_eq (e134_6 _ _) ?_
          rw [la, nI_clamp (by omega), Nat.zero_add, g2]
          refine oG (by omega) (by decide) (wp_iE c_pewOf ?_)
          rw [s03]
          refine wp_eq (e134_15 _ _) (wp_t (nI_ne1 (by omega)) ?_)
          refine wp_loop (R := fun r (D3 : DD) => Ev X (d + 50) 134 (25, [.ref 0, .int (nI p), .int (woN A f (nI (s0 / 12)) r).1, .int (woN A f (nI (s0 / 12)) r).2, .int (nI r), .null], [], hS u D3 J)) (fun r (D3 : DD) => CI σ D3 ∧ ∀ q, 70 ≤ q → D3 q = D q) σ.2.1.1 ?_ ?_ 0 D2 (Nat.zero_le _) ⟨g3, fun q hq => g4.1 q (by omega) (by omega)⟩
          · intro r D3 hr ⟨i1, i2⟩ ih
            refine wp_eq (e134_25 _ _ _ _) ?_
            rw [i1.2.1.1, nI_1]
            refine wp_f (nI_ge hr (by omega)) (wp_if (fun h => ?_) (fun h => ?_))
            · have hA : A r = false := by
                show (decide (r ≠ p) && _) = false
                rw [decide_eq_false (fun z => z (nI_inj (by omega) (by omega) h))]; rfl
              have ih := ih D3 ⟨i1, i2⟩
              rw [woN, hA, if_neg (fun z => by cases z.1)] at ih
              exact ih
            · have hrp : r ≠ p := fun z => h (by rw [z])
              refine wp_cI (c_hold (d := d + 45) (q := some r) hσ i1 (fun b hb => by cases hb; omega)) (fun y D4 h4 => ?_)
              obtain ⟨rfl, a2, a3, a4⟩ := h4
              have ih := ih D4 ⟨a3, fun q hq => by rw [a4.1 q (by omega) (by omega)]; exact i2 q hq⟩
              rw [woN] at ih
              refine wp_eq (e134_36 _ _ _ _ _) ?_
              rw [nI_1]
              by_cases hs : (plO (lineN σ.2.1 σ.2.2.1 false σ.2.1.1) (some r)).isSome = true
              · have hA : A r = true := by
                  show (decide (r ≠ p) && _) = true
                  rw [decide_eq_true hrp, hs]; rfl
                rw [if_pos hs]
                refine wp_f (by decide) ?_
                rw [la, nI_clamp (by omega), Nat.zero_add, a2]
                refine oG (by omega) (by decide) (wp_iE c_pewOf ?_)
                refine wp_eq (e134_45 _ _ _ _ _) ?_
                rw [nI_1]
                refine wp_if (fun h2 => ?_) (fun h2 => ?_)
                · rw [if_neg (fun z => z.2 h2)] at ih
                  exact wp_weak (by simp [lle, lng] <;> rfl) ih
                · rw [if_pos ⟨hA, h2⟩] at ih
                  exact wp_weak (by simp [lle, lng] <;> rfl) ih
              · have hA : ¬ A r = true := fun z => by
                  have z : (decide (r ≠ p) && (plO (lineN σ.2.1 σ.2.2.1 false σ.2.1.1) (some r)).isSome) = true := z
                  rw [Bool.and_eq_true] at z
                  exact hs z.2
                rw [if_neg hs]
                rw [if_neg (fun z => hA z.1)] at ih
                exact wp_t rfl ih
          · intro D3 ⟨i1, i2⟩
            refine wp_eq (e134_25 _ _ _ _) ?_
            rw [i1.2.1.1]
            exact wp_t (nI_le (Nat.le_refl _) (by omega)) (wp_cr i1 i2)
        · exact absurd ix g
      · have hM0 := hM.th (v := 0) hn
        refine wp_eq (e272_0 _) ?_
        refine wp_iE ((m_pers (X := X) (d := d + 48) (u := u) (J := J) (x := nI p) h31 hM0.2.1.1 (ud_at D 70 0 0)).1 ix) ?_
        refine wp_eq (e272_6 _ _) (wp_t (by decide) ?_)
        refine wp_cI (m_comers (d := d + 45) hσ.2.1 hM0.2.1 hM0.2.2.1 hG.1.v hG.bz hM0.2.2.2.2.2.2) (fun v D2 h2 => ?_)
        obtain ⟨rfl, h2⟩ := h2
        have f2 : FrM 85 (ud D 70 0 0) D2 := h2.fr
        have hM2 := f2.mi hM0 hn
        refine wp_eq (e272_11 _ _) ?_
        rw [tbp p (by omega), hk]
        refine wp_t (show ¬ (1 : Int32) = 0 by decide) ?_
        refine wp_cI (m_270o (d := d + 43) (q := none) hσ.2.1 hG hM2.2.1 hM2.2.2.1 hM2.2.2.2.2.2.2 p1 (fun b hb => by cases hb) (fun b hb => by cases hb)) (fun v D3 h3 => ?_)
        obtain ⟨rfl, h3⟩ := h3
        rw [s04]
        refine wp_eq (e272_27 _ _ _ _) ?_
        refine wp_loop (R := fun r (D4 : DD) => Ev X (d + 50) 272 (30, [.ref 70, .int (nI p), .int (cmN σ.2.1 σ.2.2.1), .int (woN A f (nI (s0 / 12)) r).2, .int (woN A f (nI (s0 / 12)) r).1, .int (nI r), .null], [], hS u D4 J)) (fun r (D4 : DD) => FrM 85 (ud D 70 0 0) D4) σ.2.1.1 ?_ ?_ 0 D3 (Nat.zero_le _) (f2.tr h3)
        · intro r D4 hr i1 ih
          have hM4 := i1.mi hM0 hn
          refine wp_eq (e272_30 _ _ _ _ _) ?_
          rw [hM4.2.1.1, nI_1]
          refine wp_f (nI_ge hr (by omega)) (wp_if (fun h => ?_) (fun h => ?_))
          · have hA : A r = false := by
              show (decide (r ≠ p) && _) = false
              rw [decide_eq_false (fun z => z (nI_inj (by omega) (by omega) h))]; rfl
            have ih := ih D4 i1
            rw [woN, hA, if_neg (fun z => by cases z.1)] at ih
            exact ih
          · have hrp : r ≠ p := fun z => h (by rw [z])
            rw [tbp r (by omega)]
            by_cases hs : (plO (lineN σ.2.1 σ.2.2.1 false σ.2.1.1) (some r)).isSome = true
            · have hA : A r = true := by
                show (decide (r ≠ p) && _) = true
                rw [decide_eq_true hrp, hs]; rfl
              rw [if_pos hs]
              refine wp_t (by decide) ?_
              refine wp_cI (m_270o (d := d + 43) (q := some r) hσ.2.1 hG hM4.2.1 hM4.2.2.1 hM4.2.2.2.2.2.2 p1 (fun b hb => by cases hb; omega) (fun b hb => by cases hb; exact hs)) (fun v D5 h5 => ?_)
              obtain ⟨rfl, h5⟩ := h5
              have ih := ih D5 (i1.tr h5)
              rw [woN] at ih
              obtain ⟨s, s1, s2, s3, s4⟩ := hf (some r) (fun z => hrp (by injection z with z; exact z.symm))
              have e : p12 (servN σ.2.1 σ.2.2.1 (outO (lineN σ.2.1 σ.2.2.1 false σ.2.1.1) (some r)) p) = f r := s4.trans s3.symm
              refine wp_eq (e272_49 _ _ _ _ _ _) ?_
              rw [e, nI_1]
              refine wp_if (fun h2 => ?_) (fun h2 => ?_)
              · rw [if_pos ⟨hA, Int32.not_le.mpr h2⟩] at ih
                exact wp_weak (by simp [lle, lng] <;> rfl) ih
              · rw [if_neg (fun z => z.2 (Int32.not_lt.mp h2))] at ih
                exact wp_weak (by simp [lle, lng] <;> rfl) ih
            · have hA : ¬ A r = true := fun z => by
                have z : (decide (r ≠ p) && (plO (lineN σ.2.1 σ.2.2.1 false σ.2.1.1) (some r)).isSome) = true := z
                rw [Bool.and_eq_true] at z
                exact hs z.2
              rw [if_neg hs]
              have ih := ih D4 i1
              rw [woN, if_neg (fun z => hA z.1)] at ih
              exact wp_f (fun z => z rfl) ih
        · intro D4 i1
          have hM4 := i1.mi hM0 hn
          refine wp_eq (e272_30 _ _ _ _ _) ?_
          rw [hM4.2.1.1]
          exact wp_t (nI_le (Nat.le_refl _) (by omega)) (i1.fin hM0 hn)
  · refine ⟨.inr 1, σ, hσ, fun u J D hC => ?_, fun u J D hM => ?_, by first | exact trivial | exact rfl | exact Or.inl rfl | exact Or.inr rfl⟩
    · refine wp_eq (e134_0 _) ?_
      rcases c_pers (X := X) (d := d + 49) (u := u) (J := J) (x := x) h31 hC.2.1.1 with ⟨g, _⟩ | ⟨_, g⟩
      · exact absurd g ix
      · exact wp_vT g (wp_ct hC (fun _ _ => rfl))
    · have hM0 := hM.th (v := 0) hn
      refine wp_eq (e272_0 _) ?_
      refine wp_iE ((m_pers (X := X) (d := d + 48) (u := u) (J := J) (x := x) h31 hM0.2.1.1 (ud_at D 70 0 0)).2 ix) ?_
      refine wp_eq (e272_6 _ _) (wp_f (fun z => z rfl) ?_)
      exact wp_mr (hM0.th hn) (ud_at _ 70 0 1) (fun q hq => by rw [ud_q (by omega), ud_q (by omega)])
/-- whom to bar -/
theorem p_toBar (hσ : SgOk σ) : PairI σ (fun u J D => EvM X (d + 50) 161 [.ref 0] (hS u D J)) (fun u J D => EvM X (d + 50) 274 [.ref 70] (hS u D J)) nI xN := by
  have hn := hσ.2.1.1.1
  have hG := hσ.2.2.1
  have hL := line_D hn σ.2.2.1 false
  have tbp : ∀ r, r < 12 → ((cmN σ.2.1 σ.2.2.1 >>> (nI r &&& 31)) &&& 1) = if (plO (lineN σ.2.1 σ.2.2.1 false σ.2.1.1) (some r)).isSome = true then 1 else 0 := fun r hr => tb_cm hn hr
  let A : Nat → Bool := fun r => (plO (lineN σ.2.1 σ.2.2.1 false σ.2.1.1) (some r)).isSome
  let f : Nat → Int32 := fun r => smN (servN σ.2.1 σ.2.2.1 (outO (lineN σ.2.1 σ.2.2.1 false σ.2.1.1) (some r))) 24 σ.2.1.1
  let b0 : Int32 := smN (servN σ.2.1 σ.2.2.1 (outO (lineN σ.2.1 σ.2.2.1 false σ.2.1.1) none)) 24 σ.2.1.1
  refine ⟨.inl (woN A f b0 σ.2.1.1).2, σ, hσ, fun u J D hC => ?_, fun u J D hM => ?_, by first | exact trivial | exact rfl | exact Or.inl rfl | exact Or.inr rfl⟩
  · refine wp_eq e161_0 ?_
    refine wp_cI (c_hold (d := d + 45) (q := none) hσ hC (fun b hb => by cases hb)) (fun y D2 h2 => ?_)
    obtain ⟨-, g2, g3, g4⟩ := h2
    refine wp_eq (e161_3 _) ?_
    refine wp_iE (c_sum (k := 24) isP31 hn g3.2.1.1 g2 (by decide)) ?_
    refine wp_eq (e161_8 _) ?_
    refine wp_loop (R := fun r (D3 : DD) => Ev X (d + 50) 161 (13, [.ref 0, .int (woN A f b0 r).1, .int (woN A f b0 r).2, .int (nI r)], [], hS u D3 J)) (fun r (D3 : DD) => CI σ D3 ∧ ∀ q, 70 ≤ q → D3 q = D q) σ.2.1.1 ?_ ?_ 0 D2 (Nat.zero_le _) ⟨g3, fun q hq => g4.1 q (by omega) (by omega)⟩
    · intro r D3 hr ⟨i1, i2⟩ ih
      refine wp_eq (e161_13 _ _ _) ?_
      rw [i1.2.1.1]
      refine wp_f (nI_ge hr (by omega)) ?_
      refine wp_cI (c_hold (d := d + 45) (q := some r) hσ i1 (fun b hb => by cases hb; omega)) (fun y D4 h4 => ?_)
      obtain ⟨rfl, a2, a3, a4⟩ := h4
      have ih := ih D4 ⟨a3, fun q hq => by rw [a4.1 q (by omega) (by omega)]; exact i2 q hq⟩
      rw [woN] at ih
      refine wp_eq (e161_21 _ _ _ _) ?_
      rw [nI_1]
      by_cases hs : (plO (lineN σ.2.1 σ.2.2.1 false σ.2.1.1) (some r)).isSome = true
      · rw [if_pos hs]
        refine wp_f (by decide) ?_
        refine wp_iE (c_sum (k := 24) isP31 hn a3.2.1.1 a2 (by decide)) ?_
        refine wp_eq (e161_26 _ _ _ _) ?_
        rw [nI_1]
        refine wp_if (fun h2 => ?_) (fun h2 => ?_)
        · rw [if_neg (fun z => z.2 h2)] at ih
          exact ih
        · rw [if_pos ⟨hs, h2⟩] at ih
          refine wp_iE (c_sum (k := 24) isP31 hn a3.2.1.1 a2 (by decide)) ?_
          refine wp_eq (e161_32 _ _ _ _) ?_
          rw [nI_1]
          exact ih
      · rw [if_neg hs]
        rw [if_neg (fun z => hs z.1)] at ih
        exact wp_t rfl ih
    · intro D3 ⟨i1, i2⟩
      refine wp_eq (e161_13 _ _ _) ?_
      rw [i1.2.1.1]
      exact wp_t (nI_le (Nat.le_refl _) (by omega)) (wp_cr i1 i2)
  · have hM0 := hM.th (v := 0) hn
    refine wp_eq e274_0 ?_
    refine wp_cI (m_comers (d := d + 45) hσ.2.1 hM0.2.1 hM0.2.2.1 hG.1.v hG.bz hM0.2.2.2.2.2.2) (fun v D2 h2 => ?_)
    obtain ⟨rfl, h2⟩ := h2
    have f2 : FrM 85 (ud D 70 0 0) D2 := h2.fr
    have hM2 := f2.mi hM0 hn
    refine wp_eq (e274_5 _) ?_
    refine wp_cI (m_273 (d := d + 43) (q := none) hσ.2.1 hG hM2.2.1 hM2.2.2.1 hM2.2.2.2.2.2.2 (fun b hb => by cases hb) (fun b hb => by cases hb)) (fun v D3 h3 => ?_)
    obtain ⟨rfl, h3⟩ := h3
    refine wp_eq (e274_11 _ _ _) ?_
    refine wp_loop (R := fun r (D4 : DD) => Ev X (d + 50) 274 (14, [.ref 70, .int (cmN σ.2.1 σ.2.2.1), .int (woN A f b0 r).2, .int (woN A f b0 r).1, .int (nI r), .null], [], hS u D4 J)) (fun r (D4 : DD) => FrM 85 (ud D 70 0 0) D4) σ.2.1.1 ?_ ?_ 0 D3 (Nat.zero_le _) (f2.tr h3)
    · intro r D4 hr i1 ih
      have hM4 := i1.mi hM0 hn
      refine wp_eq (e274_14 _ _ _ _) ?_
      rw [hM4.2.1.1, tbp r (by omega), nI_1]
      refine wp_f (nI_ge hr (by omega)) ?_
      by_cases hs : (plO (lineN σ.2.1 σ.2.2.1 false σ.2.1.1) (some r)).isSome = true
      · rw [if_pos hs]
        refine wp_t (by decide) ?_
        refine wp_cI (m_273 (d := d + 43) (q := some r) hσ.2.1 hG hM4.2.1 hM4.2.2.1 hM4.2.2.2.2.2.2 (fun b hb => by cases hb; omega) (fun b hb => by cases hb; exact hs)) (fun v D5 h5 => ?_)
        obtain ⟨rfl, h5⟩ := h5
        have ih := ih D5 (i1.tr h5)
        rw [woN] at ih
        refine wp_eq (e274_28 _ _ _ _ _) ?_
        rw [nI_1]
        refine wp_if (fun h2 => ?_) (fun h2 => ?_)
        · rw [if_pos ⟨hs, Int32.not_le.mpr h2⟩] at ih
          exact wp_weak (by simp [lle, lng] <;> rfl) ih
        · rw [if_neg (fun z => z.2 (Int32.not_lt.mp h2))] at ih
          exact wp_weak (by simp [lle, lng] <;> rfl) ih
      · rw [if_neg hs]
        have ih := ih D4 i1
        rw [woN, if_neg (fun z => hs z.1)] at ih
        exact wp_f (fun z => z rfl) ih
    · intro D4 i1
      have hM4 := i1.mi hM0 hn
      refine wp_eq (e274_14 _ _ _ _) ?_
      rw [hM4.2.1.1]
      exact wp_t (nI_le (Nat.le_refl _) (by omega)) (i1.fin hM0 hn)
end TOCOMEP
