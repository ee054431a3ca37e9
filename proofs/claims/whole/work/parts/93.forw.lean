/-! ===== forward ===== -/
def p12 (s : Int32) : Int32 := if 0 ≤ s then s / 12 else 12
section FORW
variable {X : XS} {d u : Nat} {D D1 : DD} {J : JJ} {σ : Sg} {ρ : Ru} {c : Cc} {K : Nat}
theorem c_p12 {s : Int32} : EvM X d 169 [.int s] (hS u D J) = some (.inl (some (.int (p12 s))), hS u D J) := by
  refine (e169_0 s).trans ?_
  unfold p12
  by_cases h : 0 ≤ s
  · rw [brT h, if_pos h]
  · rw [brF h, if_neg h]
theorem m_p12 {b p : Nat} (hb : isB b) (hn : ρ.1 ≤ 12) (hr : RowM b ρ c (D 78)) (hp : p < ρ.1) (hv : c p = -1 ∨ ∃ s, s < 144 ∧ c p = nI s) : EvM X d 263 [.ref 70, .int (nI b), .int (nI p)] (hS u D J) = some (.inl (some (.int (p12 (c p)))), hS u D J) := by
  have hbl := isB_le hb
  refine (e263_0 (nI b) (nI p)).trans ?_
  rw [ix3, nI_clamp (by omega), (hr.2 p hp).2.1, gd_t (ob_n (by omega) (by decide)), gd_t (ob_n (by omega) (by decide))]
  rcases hv with h | ⟨s, s1, h⟩
  · rw [h, pewO_1.1, brF (by decide)]; rfl
  · rw [h, (pewO_s s1).1, brT (nI_ne1 (by omega))]
    unfold p12
    rw [if_pos (n144 s s1).2.2.1, (n144 s s1).1]
theorem row_age {b p : Nat} {r : Nat → Int32} {v : Int32} (hn : ρ.1 ≤ 12) (h : RowM b ρ c r) (hp : p < ρ.1) : RowM b ρ (upd c (12 + p) v) (upd r (b + 1 + p) v) := by
  refine ⟨by rw [upd_ne (by omega), upd_ne (by omega)]; exact h.1, fun q hq => ?_⟩
  obtain ⟨t1, t2, t3, t4, t5, t6, t7⟩ := h.2 q hq
  refine ⟨?_, by rw [upd_ne (by omega), upd_ne (by omega)]; exact t2, fun z => by rw [upd_ne (by omega), upd_ne (by omega)]; exact t3 z, by rw [upd_ne (by omega), upd_ne (by omega)]; exact t4, by rw [upd_ne (by omega), upd_ne (by omega)]; exact t5, by rw [upd_ne (by omega), upd_ne (by omega)]; exact t6, by rw [upd_ne (by omega), upd_ne (by omega)]; exact t7⟩
  by_cases hh : q = p
  · rw [hh, upd_at, upd_at]
  · rw [upd_ne (by omega), upd_ne (by omega)]; exact t1
/-- the reference's second row with another age -/
theorem GoM.age {p : Nat} {v : Int32} (hn : ρ.1 ≤ 12) (h : GoM ρ c 0 D D1) (hp : p < ρ.1) : GoM ρ (upd c (12 + p) v) 0 D (ud D1 78 (86 + p) v) := by
  obtain ⟨h1, h2, h3⟩ := h
  refine ⟨?_, fun o q ho hq => by rw [ud_q (by decide)]; exact h2 o q ho hq, h3.tr (FrM.ud8 (by omega) (by omega))⟩
  rw [ud_row]
  exact row_age hn h1 hp
/-- the class's trial with another age -/
theorem trial_age {p : Nat} {v : Int32} (hn : ρ.1 ≤ 12) (h : PewsC 31 ρ c D) (hp : p < ρ.1) : PewsC 31 ρ (upd c (12 + p) v) (ud D 32 (12 + p) v) := by
  refine ⟨?_, ?_⟩
  · show ud D 32 (12 + p) v 32 = _
    rw [ud_row]
    exact congrArg (fun f => upd f (12 + p) v) h.1
  · rw [ud_q (by decide), ud_q (by decide)]
    exact h.2.congr (fun q hq => (upd_ne (by omega)).symm)
theorem p_forward {x y z : Int32} (hσ : SgOk σ) : PairI σ (fun u J D => EvM X (d + 50) 157 [.ref 0, .int x, .int y, .int z] (hS u D J)) (fun u J D => EvM X (d + 50) 264 [.ref 70, .int x, .int y, .int z] (hS u D J)) nI xC := by
  have hn := hσ.2.1.1.1
  have h31 : σ.2.1.1 < 2 ^ 31 := by omega
  have hg := Good.sunK hσ.2.1.1 hσ.2.2.1
  have isP31 : isP 31 := Or.inr (Or.inl rfl)
  by_cases ix : isPe σ.2.1.1 x
  · by_cases hh : (¬ y < 0 ∧ ¬ 29 < y) ∧ ¬ z < 0 ∧ ¬ 100 < z
    · obtain ⟨iy, iz⟩ := hh
      obtain ⟨p, p1, rfl⟩ := id ix
      obtain ⟨n, -, n2, n3, rfl⟩ := nI_x (a := 0) (b := 100) (by decide) iz.1 iz.2
      have hG2 : Good σ.2.1 (upd σ.2.2.1 (12 + p) y) := hσ.2.2.1.set hn p1 (Or.inl ⟨rfl, rfl⟩) iy.1 iy.2
      have hg2 := Good.sunK hσ.2.1.1 hG2
      refine ⟨.inl (p12 (sunK σ.2.1 σ.2.2.1 n p) - p12 (sunK σ.2.1 (upd σ.2.2.1 (12 + p) y) n p)), σ, hσ, fun u J D hC => ?_, fun u J D hM => ?_, by first | exact trivial | exact rfl | exact Or.inl rfl | exact Or.inr rfl⟩
      · refine wp_eq (e157_0 _ _ _) ?_
        rcases c_pers (X := X) (d := d + 49) (u := u) (J := J) (x := nI p) h31 hC.2.1.1 with ⟨_, g⟩ | ⟨g, _⟩
        · refine wp_vE g ?_
          refine wp_eq (e157_3 _ _ _) ?_
          rcases c_within (X := X) (d := d + 49) (u := u) (D := D) (J := J) (x := y) (a := 0) (b := 29) with ⟨_, g⟩ | ⟨g, _⟩
          · refine wp_vE g ?_
            refine wp_eq (e157_7 _ _ _) ?_
            rcases c_within (X := X) (d := d + 49) (u := u) (D := D) (J := J) (x := nI n) (a := 0) (b := 100) with ⟨_, g⟩ | ⟨g, _⟩
            · refine wp_vE g ?_
              refine wp_eq (e157_11 _ _ _) ?_
              refine wp_cV (c_reach (d := d + 44) hσ hC (show n ≤ 200 by omega)) (fun D1 h1 => ?_)
              obtain ⟨hC1, ⟨K, hK, hF⟩, hf⟩ := h1
              have hK2 := hF.1
              refine wp_eq (e157_15 _ _ _) ?_
              refine wp_cV (c_trial hσ hC1) (fun D2 h2 => ?_)
              obtain ⟨k1, k3⟩ := h2
              refine wp_eq (e157_20 _ _ _) ?_
              rw [la, nI_clamp (by omega)]
              refine oG (by omega) (by decide) ?_
              refine wp_loop (R := fun k (D3 : DD) => Ev X (d + 50) 157 (30, [.ref 0, .int (nI p), .int y, .int (nI n), .int (nI k)], [], hS u D3 J)) (fun k (D3 : DD) => PewsC 31 σ.2.1 (sunK σ.2.1 (upd σ.2.2.1 (12 + p) y) k) D3 ∧ FrP 31 D1 D3) n ?_ ?_ 0 _ (Nat.zero_le _) ⟨trial_age hn k1 p1, k3.tr (FrP.ud isP31 (by omega) (by omega))⟩
              · intro k D3 hk ⟨i1, i5⟩ ih
                refine wp_eq (e157_30 _ _ _ _) (wp_f (nI_ge hk n3) ?_)
                refine wp_cV (s_goBy (d := d + 45) (rain := false) isP31 hσ.2.1 (hC1.2.1.p isP31 i5) i1.1) (fun D4 h4 => ?_)
                obtain ⟨m1, -, -, -, m5⟩ := h4
                refine wp_eq (e157_37 _ _ _ _) ?_
                rw [nI_1]
                exact ih D4 ⟨m1, i5.tr m5⟩
              · intro D3 ⟨i1, i5⟩
                refine wp_eq (e157_30 _ _ _ _) (wp_t (nI_le (Nat.le_refl _) n3) ?_)
                rw [lw, nI_clamp (by omega), i5.1 44 (by omega) (by omega), (hF.2.2.1 n hK p (by omega)).1]
                refine oG (by omega) (by decide) ?_
                refine wp_iE c_p12 ?_
                refine wp_eq (e157_49 _ _ _ _ _) ?_
                have e32 : D3 32 = sunK σ.2.1 (upd σ.2.2.1 (12 + p) y) n := i1.1
                rw [la, nI_clamp (by omega), Nat.zero_add, e32]
                refine oG (by omega) (by decide) ?_
                refine wp_iE c_p12 ?_
                refine wp_eq (e157_57 _ _ _ _ _ _) (wp_cr (hC1.p31 i5 ?_) (fun q hq => by rw [i5.1 q (by omega) (by omega)]; exact hf.1 q (by omega) (by omega)))
                rw [e32]; exact (hg2 n).2.1
            · exact absurd iz g
          · exact absurd iy g
        · exact absurd ix g
      · have hM0 := hM.th (v := 0) hn
        have h0 := ud_at D 70 0 0
        refine wp_eq (e264_0 _ _ _) ?_
        refine wp_iE ((m_pers (X := X) (d := d + 48) (u := u) (J := J) (x := nI p) h31 hM0.2.1.1 h0).1 ix) ?_
        refine wp_eq (e264_6 _ _ _ _) (wp_f (by decide) ?_)
        refine wp_iE m_within ?_
        rw [if_pos iy]
        refine wp_eq (e264_12 _ _ _ _) (wp_f (by decide) ?_)
        refine wp_iE m_within ?_
        rw [if_pos iz]
        refine wp_eq (e264_17 _ _ _ _) (wp_f (by decide) ?_)
        refine wp_iE ((m_right h0 (by decide)).1 (by decide)) ?_
        refine wp_eq (e264_23 _ _ _ _) (wp_t (by decide) ?_)
        refine wp_cV (m_goes (d := d + 42) hσ.2.1 hσ.2.2.1 hM0.2.1 hM0.2.2.1 hM0.2.2.2.2.2.2 n3) (fun D1 h1 => ?_)
        have hM1 := h1.mi hM0 hn
        refine wp_eq (e264_29 _ _ _) ?_
        refine wp_iE (m_p12 (b := 85) (Or.inr rfl) hn h1.1 p1 ((hg n).1.v p p1)) ?_
        refine wp_eq (e264_33 _ _ _ _) ?_
        refine wp_cV (m_try0 hn hM1.2.2.1) (fun D2 h2 => ?_)
        refine wp_eq (e264_36 _ _ _ _) ?_
        rw [la, nI_clamp (by omega)]
        refine oG (by omega) (by decide) ?_
        refine wp_loop (R := fun k (D3 : DD) => Ev X (d + 50) 264 (45, [.ref 70, .int (nI p), .int y, .int (nI n), .int (p12 (sunK σ.2.1 σ.2.2.1 n p)), .int (nI k)], [], hS u D3 J)) (fun k (D3 : DD) => GoM σ.2.1 (upd σ.2.2.1 (12 + p) y) k D1 D3) n ?_ ?_ 0 _ (Nat.zero_le _) (h2.age hn p1)
        · intro k D3 hk i3 ih
          refine wp_eq (e264_45 _ _ _ _ _) (wp_f (nI_ge hk n3) ?_)
          refine wp_cV (m_step (d := d + 43) hσ.2.1 hG2 hM1.2.1 hM1.2.2.2.2.2.2 i3) (fun D4 h4 => ?_)
          refine wp_eq (e264_51 _ _ _ _ _) ?_
          rw [nI_1]
          exact ih D4 h4
        · intro D3 i3
          refine wp_eq (e264_45 _ _ _ _ _) (wp_t (nI_le (Nat.le_refl _) n3) ?_)
          refine wp_iE (m_p12 (b := 85) (Or.inr rfl) hn i3.1 p1 ((hg2 n).1.v p p1)) ?_
          exact wp_eq (e264_58 _ _ _ _ _ _ _) ((h1.2.2.tr i3.2.2).fin hM0 hn)
    · refine ⟨.inr 2, σ, hσ, fun u J D hC => ?_, fun u J D hM => ?_, by first | exact trivial | exact rfl | exact Or.inl rfl | exact Or.inr rfl⟩
      · refine wp_eq (e157_0 _ _ _) ?_
        rcases c_pers (X := X) (d := d + 49) (u := u) (J := J) (x := x) h31 hC.2.1.1 with ⟨_, g⟩ | ⟨g, _⟩
        · refine wp_vE g ?_
          refine wp_eq (e157_3 _ _ _) ?_
          rcases c_within (X := X) (d := d + 49) (u := u) (D := D) (J := J) (x := y) (a := 0) (b := 29) with ⟨g1, g⟩ | ⟨_, g⟩
          · refine wp_vE g ?_
            refine wp_eq (e157_7 _ _ _) ?_
            rcases c_within (X := X) (d := d + 49) (u := u) (D := D) (J := J) (x := z) (a := 0) (b := 100) with ⟨g2, _⟩ | ⟨_, g⟩
            · exact absurd ⟨g1, g2⟩ hh
            · exact wp_vT g (wp_ct hC (fun _ _ => rfl))
          · exact wp_vT g (wp_ct hC (fun _ _ => rfl))
        · exact absurd ix g
      · have hM0 := hM.th (v := 0) hn
        have h0 := ud_at D 70 0 0
        have no : Wp (bI (EvM X (d + 49) 172 [.ref 70, .int 0, .int 2] (hS u (ud D 70 0 0) J)) (fun y' h => Ev X (d + 49 + 1) 264 (23, [.ref 70, .int x, .int y, .int z, .null, .null], [.int y'], h)) (fun e h => some (.inr e, h))) (MR σ D u J 0 2) := by
          refine wp_iE ((m_right h0 (by decide)).2 rfl) ?_
          refine wp_eq (e264_23 _ _ _ _) (wp_f (by decide) ?_)
          exact wp_mr (hM0.th hn) (ud_at _ 70 0 2) (fun q hq => by rw [ud_q (by omega), ud_q (by omega)])
        refine wp_eq (e264_0 _ _ _) ?_
        refine wp_iE ((m_pers (X := X) (d := d + 48) (u := u) (J := J) (x := x) h31 hM0.2.1.1 h0).1 ix) ?_
        refine wp_eq (e264_6 _ _ _ _) (wp_f (by decide) ?_)
        refine wp_iE m_within ?_
        refine wp_eq (e264_12 _ _ _ _) ?_
        by_cases iy : ¬ y < 0 ∧ ¬ 29 < y
        · rw [if_pos iy]
          refine wp_f (by decide) ?_
          refine wp_iE m_within ?_
          rw [if_neg (fun iz => hh ⟨iy, iz⟩)]
          exact wp_eq (e264_17 _ _ _ _) (wp_t rfl no)
        · rw [if_neg iy]
          exact wp_t rfl no
  · refine ⟨.inr 1, σ, hσ, fun u J D hC => ?_, fun u J D hM => ?_, by first | exact trivial | exact rfl | exact Or.inl rfl | exact Or.inr rfl⟩
    · refine wp_eq (e157_0 _ _ _) ?_
      rcases c_pers (X := X) (d := d + 49) (u := u) (J := J) (x := x) h31 hC.2.1.1 with ⟨g, _⟩ | ⟨_, g⟩
      · exact absurd g ix
      · exact wp_vT g (wp_ct hC (fun _ _ => rfl))
    · have hM0 := hM.th (v := 0) hn
      refine wp_eq (e264_0 _ _ _) ?_
      refine wp_iE ((m_pers (X := X) (d := d + 48) (u := u) (J := J) (x := x) h31 hM0.2.1.1 (ud_at D 70 0 0)).2 ix) ?_
      refine wp_eq (e264_6 _ _ _ _) (wp_t rfl ?_)
      exact wp_mr (hM0.th hn) (ud_at _ 70 0 1) (fun q hq => by rw [ud_q (by omega), ud_q (by omega)])
end FORW
