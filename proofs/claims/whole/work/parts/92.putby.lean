/-! ===== putBy ===== -/
theorem wc_pc {o p : Nat} (ho : o < 12) (hp : p < 12) : ∀ {l : List (Nat × Nat)}, (∀ e ∈ l, e.1 < 12 ∧ e.2 < 12) → wcN (nI o) (nI p) l = pcN o p l
  | [], _ => rfl
  | e :: l, h => by
    obtain ⟨h1, h2⟩ := h e List.mem_cons_self
    rw [wcN, pcN, wc_pc ho hp (fun e' he => h e' (List.mem_cons_of_mem _ he))]
    have : (nI e.1 = nI o ∧ nI e.2 = nI p) ↔ (e.1 = o ∧ e.2 = p) := ⟨fun z => ⟨nI_inj (by omega) (by omega) z.1, nI_inj (by omega) (by omega) z.2⟩, fun z => ⟨by rw [z.1], by rw [z.2]⟩⟩
    by_cases hz : e.1 = o ∧ e.2 = p
    · rw [if_pos hz, if_pos (this.mpr hz)]
    · rw [if_neg hz, if_neg (fun z => hz (this.mp z))]
section PUTBY
variable {X : XS} {d u : Nat} {D D1 : DD} {J : JJ} {σ : Sg} {ρ : Ru} {c : Cc} {K : Nat}
theorem CI.p31 (hC : CI σ D) (fr : FrP 31 D D1) (h32 : Tl (D1 32)) : CI σ D1 := hC.scr (fun q hq => fr.1 q (by omega) (by omega)) fr.2 h32
theorem c_trial (hσ : SgOk σ) (hC : CI σ D) : Wp (EvM X d 36 [.ref 31, .ref 25] (hS u D J)) (RV u J (fun D' => PewsC 31 σ.2.1 σ.2.2.1 D' ∧ FrP 31 D D')) := by
  obtain ⟨y, h1, D2, rfl, k1, -, k3⟩ := s_copy (X := X) (d := d) (u := u) (J := J) (P := 31) (Or.inr (Or.inl rfl)) (by decide) hC.2.2.1 hσ.2.2.1.1.2.2.2.1 (by rw [hC.2.2.1.1]; exact hσ.2.2.1.2.1) hC.2.2.2.2.2.2.2.2.1
  exact ⟨_, h1, D2, rfl, k1, k3⟩
theorem p_putBy {x y z : Int32} (hσ : SgOk σ) : PairI σ (fun u J D => EvM X (d + 50) 156 [.ref 0, .int x, .int y, .int z] (hS u D J)) (fun u J D => EvM X (d + 50) 259 [.ref 70, .int x, .int y, .int z] (hS u D J)) nI xC := by
  have hn := hσ.2.1.1.1
  have h31 : σ.2.1.1 < 2 ^ 31 := by omega
  have hg := Good.sunK hσ.2.1.1 hσ.2.2.1
  have isP31 : isP 31 := Or.inr (Or.inl rfl)
  by_cases hx : isPe σ.2.1.1 x ∧ isPe σ.2.1.1 y
  · obtain ⟨ix, iy⟩ := hx
    by_cases iz : ¬ z < 0 ∧ ¬ 100 < z
    · obtain ⟨p, p1, rfl⟩ := id ix
      obtain ⟨q, q1, rfl⟩ := id iy
      obtain ⟨n, -, n2, n3, rfl⟩ := nI_x (a := 0) (b := 100) (by decide) iz.1 iz.2
      refine ⟨.inl (nI (pkN p q σ.2.1 σ.2.2.1 n)), σ, hσ, fun u J D hC => ?_, fun u J D hM => ?_, by first | exact trivial | exact rfl | exact Or.inl rfl | exact Or.inr rfl⟩
      · refine wp_eq (e156_0 _ _ _) ?_
        rcases c_pers (X := X) (d := d + 49) (u := u) (J := J) (x := nI p) h31 hC.2.1.1 with ⟨_, g⟩ | ⟨g, _⟩
        · refine wp_vE g ?_
          refine wp_eq (e156_3 _ _ _) ?_
          rcases c_pers (X := X) (d := d + 49) (u := u) (J := J) (x := nI q) h31 hC.2.1.1 with ⟨_, g⟩ | ⟨g, _⟩
          · refine wp_vE g ?_
            refine wp_eq (e156_6 _ _ _) ?_
            rcases c_within (X := X) (d := d + 49) (u := u) (D := D) (J := J) (x := nI n) (a := 0) (b := 100) with ⟨_, g⟩ | ⟨g, _⟩
            · refine wp_vE g ?_
              refine wp_eq (e156_10 _ _ _) ?_
              refine wp_cV (c_trial hσ hC) (fun D1 h1 => ?_)
              obtain ⟨k1, k3⟩ := h1
              refine wp_eq (e156_15 _ _ _) ?_
              refine wp_vE (h := hS u (ud (ud (ud D1 31 7 (nI p)) 31 8 (nI q)) 31 6 0) J) (e38_0 isP31 _ _) ?_
              refine wp_eq (e156_20 _ _ _) ?_
              have fr0 : FrP 31 D (ud (ud (ud D1 31 7 (nI p)) 31 8 (nI q)) 31 6 0) := k3.tr ((FrP.ud isP31 (by omega) (by omega)).tr ((FrP.ud isP31 (by omega) (by omega)).tr (FrP.ud isP31 (by omega) (by omega))))
              refine wp_loop (R := fun k (D2 : DD) => Ev X (d + 50) 156 (22, [.ref 0, .int (nI p), .int (nI q), .int (nI n), .int (nI k)], [], hS u D2 J)) (fun k (D2 : DD) => PewsC 31 σ.2.1 (sunK σ.2.1 σ.2.2.1 k) D2 ∧ D2 31 6 = nI (pkN p q σ.2.1 σ.2.2.1 k) ∧ D2 31 7 = nI p ∧ D2 31 8 = nI q ∧ FrP 31 D D2) n ?_ ?_ 0 _ (Nat.zero_le _) ⟨k1.mv (by rw [ud_q (by decide), ud_q (by decide), ud_q (by decide)]) (by rw [ud_q (by decide), ud_q (by decide), ud_q (by decide)]) (by rw [ud_q (by decide), ud_q (by decide), ud_q (by decide)]), ud_at _ _ _ _, by rw [ud_k (by decide), ud_k (by decide), ud_at], by rw [ud_k (by decide), ud_at], fr0⟩
              · intro k D2 hk ⟨i1, i2, i3, i4, i5⟩ ih
                refine wp_eq (e156_22 _ _ _ _) (wp_f (nI_ge hk n3) ?_)
                refine wp_cV (s_goBy (d := d + 45) (rain := false) isP31 hσ.2.1 (hC.2.1.p isP31 i5) i1.1) (fun D3 h3 => ?_)
                obtain ⟨m1, m2, m3, m4, m5⟩ := h3
                refine wp_eq (e156_29 _ _ _ _) ?_
                rw [nI_1]
                refine ih D3 ⟨m1, ?_, m3.trans i3, m4.trans i4, i5.tr m5⟩
                have hLD := line_D hn (sunK σ.2.1 σ.2.2.1 k) false
                rw [m2, i2, i3, i4, wc_pc (by omega) (by omega) (fun e he => ?_), nI_add]
                · rfl
                · have := log_lt hσ.2.1.1 hLD _ (Nat.le_refl _) e he
                  omega
              · intro D2 ⟨i1, i2, i3, i4, i5⟩
                refine wp_eq (e156_22 _ _ _ _) (wp_t (nI_le (Nat.le_refl _) n3) ?_)
                rw [i2]
                refine wp_vE (h := hS u (ud (ud (ud D2 31 7 (-1)) 31 8 (-1)) 31 6 0) J) (e38_0 isP31 _ _) ?_
                have fr1 : FrP 31 D (ud (ud (ud D2 31 7 (-1)) 31 8 (-1)) 31 6 0) := i5.tr ((FrP.ud isP31 (by omega) (by omega)).tr ((FrP.ud isP31 (by omega) (by omega)).tr (FrP.ud isP31 (by omega) (by omega))))
                refine wp_eq (e156_40 _ _ _ _) (wp_cr (hC.p31 fr1 ?_) (fun q hq => fr1.1 q (by omega) (by omega)))
                rw [ud_q (by decide), ud_q (by decide), ud_q (by decide)]
                have e : D2 32 = sunK σ.2.1 σ.2.2.1 n := i1.1
                rw [e]; exact (hg n).2.1
            · exact absurd iz g
          · exact absurd iy g
        · exact absurd ix g
      · have hM0 := hM.th (v := 0) hn
        have h0 := ud_at D 70 0 0
        refine wp_eq (e259_0 _ _ _) ?_
        refine wp_iE ((m_pers (X := X) (d := d + 48) (u := u) (J := J) (x := nI p) h31 hM0.2.1.1 h0).1 ix) ?_
        refine wp_eq (e259_6 _ _ _ _) (wp_f (by decide) ?_)
        refine wp_iE ((m_pers (X := X) (d := d + 48) (u := u) (J := J) (x := nI q) h31 hM0.2.1.1 h0).1 iy) ?_
        refine wp_eq (e259_10 _ _ _ _) (wp_f (by decide) ?_)
        refine wp_iE ((m_soon (d := d + 48) h0 (by decide)).1 iz) ?_
        refine wp_eq (e259_16 _ _ _ _) (wp_t (by decide) ?_)
        refine wp_cV (m_goes (d := d + 42) hσ.2.1 hσ.2.2.1 hM0.2.1 hM0.2.2.1 hM0.2.2.2.2.2.2 n3) (fun D1 h1 => ?_)
        refine wp_eq (e259_22 _ _ _) ?_
        have ei : (12 : Int32) * nI p + nI q = nI (12 * p + q) := by rw [show (12 : Int32) = nI 12 from rfl, nI_mul, nI_add]
        rw [ei, nI_clamp (by omega), h1.2.1 p q (by omega) (by omega)]
        exact oG (by omega) (by decide) (h1.fin hM0 hn)
    · refine ⟨.inr 2, σ, hσ, fun u J D hC => ?_, fun u J D hM => ?_, by first | exact trivial | exact rfl | exact Or.inl rfl | exact Or.inr rfl⟩
      · refine wp_eq (e156_0 _ _ _) ?_
        rcases c_pers (X := X) (d := d + 49) (u := u) (J := J) (x := x) h31 hC.2.1.1 with ⟨_, g⟩ | ⟨g, _⟩
        · refine wp_vE g ?_
          refine wp_eq (e156_3 _ _ _) ?_
          rcases c_pers (X := X) (d := d + 49) (u := u) (J := J) (x := y) h31 hC.2.1.1 with ⟨_, g⟩ | ⟨g, _⟩
          · refine wp_vE g ?_
            refine wp_eq (e156_6 _ _ _) ?_
            rcases c_within (X := X) (d := d + 49) (u := u) (D := D) (J := J) (x := z) (a := 0) (b := 100) with ⟨g, _⟩ | ⟨_, g⟩
            · exact absurd g iz
            · exact wp_vT g (wp_ct hC (fun _ _ => rfl))
          · exact absurd iy g
        · exact absurd ix g
      · have hM0 := hM.th (v := 0) hn
        have h0 := ud_at D 70 0 0
        refine wp_eq (e259_0 _ _ _) ?_
        refine wp_iE ((m_pers (X := X) (d := d + 48) (u := u) (J := J) (x := x) h31 hM0.2.1.1 h0).1 ix) ?_
        refine wp_eq (e259_6 _ _ _ _) (wp_f (by decide) ?_)
        refine wp_iE ((m_pers (X := X) (d := d + 48) (u := u) (J := J) (x := y) h31 hM0.2.1.1 h0).1 iy) ?_
        refine wp_eq (e259_10 _ _ _ _) (wp_f (by decide) ?_)
        refine wp_iE ((m_soon (d := d + 48) h0 (by decide)).2 iz) ?_
        refine wp_eq (e259_16 _ _ _ _) (wp_f (by decide) ?_)
        exact wp_mr (hM0.th hn) (ud_at _ 70 0 2) (fun q hq => by rw [ud_q (by omega), ud_q (by omega)])
  · refine ⟨.inr 1, σ, hσ, fun u J D hC => ?_, fun u J D hM => ?_, by first | exact trivial | exact rfl | exact Or.inl rfl | exact Or.inr rfl⟩
    · refine wp_eq (e156_0 _ _ _) ?_
      rcases c_pers (X := X) (d := d + 49) (u := u) (J := J) (x := x) h31 hC.2.1.1 with ⟨h1, g2⟩ | ⟨_, g2⟩
      · refine wp_vE g2 ?_
        refine wp_eq (e156_3 _ _ _) ?_
        rcases c_pers (X := X) (d := d + 49) (u := u) (J := J) (x := y) h31 hC.2.1.1 with ⟨h2, _⟩ | ⟨_, g2⟩
        · exact absurd ⟨h1, h2⟩ hx
        · exact wp_vT g2 (wp_ct hC (fun _ _ => rfl))
      · exact wp_vT g2 (wp_ct hC (fun _ _ => rfl))
    · have hM0 := hM.th (v := 0) hn
      have h0 := ud_at D 70 0 0
      refine wp_eq (e259_0 _ _ _) ?_
      by_cases ix : isPe σ.2.1.1 x
      · refine wp_iE ((m_pers (X := X) (d := d + 48) (u := u) (J := J) (x := x) h31 hM0.2.1.1 h0).1 ix) ?_
        refine wp_eq (e259_6 _ _ _ _) (wp_f (by decide) ?_)
        refine wp_iE ((m_pers (X := X) (d := d + 48) (u := u) (J := J) (x := y) h31 hM0.2.1.1 h0).2 (fun z => hx ⟨ix, z⟩)) ?_
        refine wp_eq (e259_10 _ _ _ _) (wp_t rfl ?_)
        exact wp_mr (hM0.th hn) (ud_at _ 70 0 1) (fun q hq => by rw [ud_q (by omega), ud_q (by omega)])
      · refine wp_iE ((m_pers (X := X) (d := d + 48) (u := u) (J := J) (x := x) h31 hM0.2.1.1 h0).2 ix) ?_
        refine wp_eq (e259_6 _ _ _ _) (wp_t rfl ?_)
        exact wp_mr (hM0.th hn) (ud_at _ 70 0 1) (fun q hq => by rw [ud_q (by omega), ud_q (by omega)])
end PUTBY
