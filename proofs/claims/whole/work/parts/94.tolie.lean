/-! ===== toLie ===== -/
def tlN (f : Nat → Int32) : Nat → Int32 × Int32
  | 0 => (-1, -1)
  | k + 1 => if (tlN f k).2 < f k then (nI k, f k) else tlN f k
theorem tl_stop {f : Nat → Int32} {v : Int32} {k : Nat} (hf : ∀ j, f j ≤ v) (h : v ≤ (tlN f k).2) : ∀ r, tlN f (k + r) = tlN f k
  | 0 => rfl
  | r + 1 => by
    have ih := tl_stop hf h r
    show (if (tlN f (k + r)).2 < f (k + r) then _ else tlN f (k + r)) = _
    rw [ih, if_neg (Int32.not_lt.mpr (Int32.le_trans (hf _) h))]
theorem frN_le (ρ : Ru) (c : Cc) (p n : Nat) : frN ρ c p n ≤ n := cnt_le _ n
section TOLIE
variable {X : XS} {d u : Nat} {D D1 : DD} {J : JJ} {σ : Sg} {ρ : Ru} {c : Cc} {K : Nat}
theorem c_fronts {p n a : Nat} (hσ : SgOk σ) (hC : CI σ D) (hp : p < σ.2.1.1) (ha : a ≤ 29) (n3 : n < 2 ^ 31) : Wp (EvM X (d + 5) 160 [.ref 0, .int (nI p), .int (nI a), .int (nI n)] (hS u D J)) (RI u J (fun v D' => v = nI (frN σ.2.1 (upd σ.2.2.1 (12 + p) (nI a)) p n) ∧ CI σ D' ∧ FrP 31 D D')) := by
  have hn := hσ.2.1.1.1
  have isP31 : isP 31 := Or.inr (Or.inl rfl)
  have hG2 : Good σ.2.1 (upd σ.2.2.1 (12 + p) (nI a)) := hσ.2.2.1.set hn hp (Or.inl ⟨rfl, rfl⟩) (nI_pos (by omega)) (Int32.not_lt.mpr (nI_le ha (by decide)))
  have hg2 := Good.sunK hσ.2.1.1 hG2
  refine wp_eq (e160_0 _ _ _) ?_
  refine wp_cV (c_trial hσ hC) (fun D2 h2 => ?_)
  obtain ⟨k1, k3⟩ := h2
  refine wp_eq (e160_5 _ _ _) ?_
  rw [la, nI_clamp (by omega)]
  refine oG (by omega) (by decide) ?_
  refine wp_loop (R := fun k (D3 : DD) => Ev X (d + 5) 160 (17, [.ref 0, .int (nI p), .int (nI a), .int (nI n), .int (nI (frN σ.2.1 (upd σ.2.2.1 (12 + p) (nI a)) p k)), .int (nI k)], [], hS u D3 J)) (fun k (D3 : DD) => PewsC 31 σ.2.1 (sunK σ.2.1 (upd σ.2.2.1 (12 + p) (nI a)) k) D3 ∧ FrP 31 D D3) n ?_ ?_ 0 _ (Nat.zero_le _) ⟨trial_age hn k1 hp, k3.tr (FrP.ud isP31 (by omega) (by omega))⟩
  · intro k D3 hk ⟨i1, i5⟩ ih
    refine wp_eq (e160_17 _ _ _ _ _) (wp_f (nI_ge hk n3) ?_)
    refine wp_cV (s_goBy (d := d) (rain := false) isP31 hσ.2.1 (hC.2.1.p isP31 i5) i1.1) (fun D4 h4 => ?_)
    obtain ⟨m1, -, -, -, m5⟩ := h4
    have ih := ih D4 ⟨m1, i5.tr m5⟩
    rw [frN_s] at ih
    refine wp_eq (e160_24 _ _ _ _ _) ?_
    have e32 : D4 32 = sunK σ.2.1 (upd σ.2.2.1 (12 + p) (nI a)) (k + 1) := m1.1
    rw [la, nI_clamp (by omega), Nat.zero_add, e32]
    refine oG (by omega) (by decide) ?_
    refine wp_iE c_pewOf ?_
    refine wp_eq (e160_32 _ _ _ _ _ _) ?_
    rw [nI_1]
    refine wp_if (fun h => ?_) (fun h => ?_)
    · rw [if_neg (by unfold fr0; simp [h])] at ih
      exact ih
    · rw [if_pos (by unfold fr0; simp [Classical.not_not.mp h])] at ih
      rw [nI_1]; exact ih
  · intro D3 ⟨i1, i5⟩
    refine wp_eq (e160_17 _ _ _ _ _) (wp_t (nI_le (Nat.le_refl _) n3) (wp_rI ⟨rfl, hC.p31 i5 ?_, i5⟩))
    have e32 : D3 32 = sunK σ.2.1 (upd σ.2.2.1 (12 + p) (nI a)) n := i1.1
    rw [e32]; exact (hg2 n).2.1
theorem p_toLie {x y z : Int32} (hσ : SgOk σ) : PairI σ (fun u J D => EvM X (d + 50) 159 [.ref 0, .int x, .int y, .int z] (hS u D J)) (fun u J D => EvM X (d + 50) 265 [.ref 70, .int x, .int y, .int z] (hS u D J)) nI xC := by
  have hn := hσ.2.1.1.1
  have h31 : σ.2.1.1 < 2 ^ 31 := by omega
  by_cases ix : isPe σ.2.1.1 x
  · by_cases iz : ¬ z < 0 ∧ ¬ 1 < z
    · by_cases iy : ¬ y < 1 ∧ ¬ 100 < y
      · obtain ⟨p, p1, rfl⟩ := id ix
        obtain ⟨n, -, n2, n3, rfl⟩ := nI_x (a := 1) (b := 100) (by decide) iy.1 iy.2
        generalize hfd : (fun a => nI (frN σ.2.1 (upd σ.2.2.1 (12 + p) (nI a)) p n)) = f
        have hf : ∀ a, f a = nI (frN σ.2.1 (upd σ.2.2.1 (12 + p) (nI a)) p n) := fun a => by rw [← hfd]
        have hle : ∀ a, f a ≤ nI n := fun a => by rw [hf]; exact nI_le (frN_le _ _ _ _) n3
        refine ⟨.inl (if z = 0 then (tlN f 30).1 else (tlN f 30).2), σ, hσ, fun u J D hC => ?_, fun u J D hM => ?_, by first | exact trivial | exact rfl | exact Or.inl rfl | exact Or.inr rfl⟩
        · refine wp_eq (e159_0 _ _ _) ?_
          rcases c_pers (X := X) (d := d + 49) (u := u) (J := J) (x := nI p) h31 hC.2.1.1 with ⟨_, g⟩ | ⟨g, _⟩
          · refine wp_vE g ?_
            refine wp_eq (e159_3 _ _ _) ?_
            rcases c_what (X := X) (d := d + 49) (u := u) (D := D) (J := J) (x := z) (k := 1) with ⟨_, g⟩ | ⟨g, _⟩
            · refine wp_vE g ?_
              refine wp_eq (e159_6 _ _ _) ?_
              rcases c_within (X := X) (d := d + 49) (u := u) (D := D) (J := J) (x := nI n) (a := 1) (b := 100) with ⟨_, g⟩ | ⟨g, _⟩
              · refine wp_vE g ?_
                refine wp_eq (e159_10 _ _ _) ?_
                have out : ∀ (D2 : DD) (t : Int32 × Int32), t = tlN f 30 → CI σ D2 → FrP 31 D D2 → Wp (br (decide (¬ z = 0)) (some (.inl (some (.int t.2)), hS u D2 J)) (some (.inl (some (.int t.1)), hS u D2 J))) (CR σ D u J (.inl (if z = 0 then (tlN f 30).1 else (tlN f 30).2))) := by
                  intro D2 t ht hC2 fr
                  rw [ht]
                  refine wp_if (fun h => ?_) (fun h => ?_)
                  · rw [if_neg h]; exact wp_cr hC2 (fun q hq => fr.1 q (by omega) (by omega))
                  · rw [if_pos (Classical.not_not.mp h)]; exact wp_cr hC2 (fun q hq => fr.1 q (by omega) (by omega))
                refine wp_loop (R := fun k (D2 : DD) => Ev X (d + 50) 159 (16, [.ref 0, .int (nI p), .int (nI n), .int z, .int (tlN f k).1, .int (tlN f k).2, .int (nI k), .null], [], hS u D2 J)) (fun k (D2 : DD) => CI σ D2 ∧ FrP 31 D D2) 30 ?_ ?_ 0 D (by decide) ⟨hC, FrP.rf 31 D⟩
                · intro k D2 hk ⟨i1, i2⟩ ih
                  refine wp_eq (e159_16 _ _ _ _ _ _) (wp_f (Int32.not_lt.mpr (nI_le (b := 29) (by omega) (by decide))) (wp_if (fun h => ?_) (fun h => ?_)))
                  · refine out D2 (tlN f k) ?_ i1 i2
                    have := tl_stop hle h (30 - k)
                    rw [show k + (30 - k) = 30 by omega] at this
                    exact this.symm
                  · refine wp_cI (c_fronts (d := d + 44) hσ i1 p1 (show k ≤ 29 by omega) n3) (fun v D3 h3 => ?_)
                    obtain ⟨rfl, j1, j2⟩ := h3
                    have ih := ih D3 ⟨j1, i2.tr j2⟩
                    rw [tlN] at ih
                    refine wp_eq (e159_27 _ _ _ _ _ _ _) ?_
                    rw [← hf, nI_1]
                    refine wp_if (fun h2 => ?_) (fun h2 => ?_)
                    · rw [if_neg (Int32.not_lt.mpr h2)] at ih
                      exact wp_weak (ls := [.ref 0, .int (nI p), .int (nI n), .int z, .int (tlN f k).1, .int (tlN f k).2, .int (nI (k + 1)), .null]) (by simp [lle, lng]) ih
                    · rw [if_pos (Int32.not_le.mp h2)] at ih
                      exact wp_weak (ls := [.ref 0, .int (nI p), .int (nI n), .int z, .int (nI k), .int (f k), .int (nI (k + 1)), .null]) (by simp [lle, lng]) ih
                · intro D2 ⟨i1, i2⟩
                  exact wp_eq (e159_16 _ _ _ _ _ _) (wp_t (nI_lt (a := 29) (b := 30) (by decide) (by decide)) (out D2 _ rfl i1 i2))
              · exact absurd iy g
            · exact absurd iz g
          · exact absurd ix g
        · have hM0 := hM.th (v := 0) hn
          have h0 := ud_at D 70 0 0
          refine wp_eq (e265_0 _ _ _) ?_
          refine wp_iE ((m_pers (X := X) (d := d + 48) (u := u) (J := J) (x := nI p) h31 hM0.2.1.1 h0).1 ix) ?_
          refine wp_eq (e265_6 _ _ _ _) (wp_f (by decide) ?_)
          refine wp_iE ((m_what (d := d + 48) h0).1 iz) ?_
          refine wp_eq (e265_11 _ _ _ _) (wp_f (by decide) ?_)
          refine wp_iE ((m_soon (d := d + 48) h0 (by decide)).1 iy) ?_
          refine wp_eq (e265_17 _ _ _ _) (wp_t (by decide) ?_)
          refine wp_loop (R := fun k (D2 : DD) => Ev X (d + 50) 265 (26, [.ref 70, .int (nI p), .int (nI n), .int z, .int (tlN f k).1, .int (tlN f k).2, .int (nI k), .null], [], hS u D2 J)) (fun k (D2 : DD) => FrM 85 (ud D 70 0 0) D2) 30 ?_ ?_ 0 _ (by decide) (FrM.rf 85 _)
          · intro k D2 hk i2 ih
            have hM2 := i2.mi hM0 hn
            refine wp_eq (e265_26 _ _ _ _ _ _) (wp_f (nI_ge (b := 30) hk (by decide)) ?_)
            refine wp_cV (m_try0 hn hM2.2.2.1) (fun D3 h3 => ?_)
            refine wp_eq (e265_31 _ _ _ _ _ _) ?_
            rw [la, nI_clamp (by omega)]
            refine oG (by omega) (by decide) ?_
            have hG2 : Good σ.2.1 (upd σ.2.2.1 (12 + p) (nI k)) := hσ.2.2.1.set hn p1 (Or.inl ⟨rfl, rfl⟩) (nI_pos (by omega)) (Int32.not_lt.mpr (nI_le (b := 29) (by omega) (by decide)))
            refine wp_cI (m_frontBy (d := d + 42) hσ.2.1 hG2 hM2.2.1 hM2.2.2.2.2.2.2 (h3.age hn p1) p1 n3) (fun v D4 h4 => ?_)
            obtain ⟨rfl, j2⟩ := h4
            have ih := ih D4 (i2.tr j2.2.2)
            rw [tlN] at ih
            refine wp_eq (e265_42 _ _ _ _ _ _ _) ?_
            rw [← hf, nI_1]
            refine wp_if (fun h2 => ?_) (fun h2 => ?_)
            · rw [if_pos h2] at ih
              exact wp_weak (ls := [.ref 70, .int (nI p), .int (nI n), .int z, .int (nI k), .int (f k), .int (nI (k + 1)), .null]) (by simp [lle, lng]) ih
            · rw [if_neg h2] at ih
              exact wp_weak (ls := [.ref 70, .int (nI p), .int (nI n), .int z, .int (tlN f k).1, .int (tlN f k).2, .int (nI (k + 1)), .null]) (by simp [lle, lng]) ih
          · intro D2 i2
            refine wp_eq (e265_26 _ _ _ _ _ _) (wp_t (nI_le (a := 30) (b := 30) (Nat.le_refl _) (by decide)) (wp_if (fun h => ?_) (fun h => ?_)))
            · have e : reA (.inl (if z = 0 then (tlN f 30).1 else (tlN f 30).2)) = (tlN f 30).2 := if_neg h
              rw [e]; exact i2.fin hM0 hn
            · have e : reA (.inl (if z = 0 then (tlN f 30).1 else (tlN f 30).2)) = (tlN f 30).1 := if_pos (Classical.not_not.mp h)
              rw [e]; exact i2.fin hM0 hn
      · refine ⟨.inr 2, σ, hσ, fun u J D hC => ?_, fun u J D hM => ?_, by first | exact trivial | exact rfl | exact Or.inl rfl | exact Or.inr rfl⟩
        · refine wp_eq (e159_0 _ _ _) ?_
          rcases c_pers (X := X) (d := d + 49) (u := u) (J := J) (x := x) h31 hC.2.1.1 with ⟨_, g⟩ | ⟨g, _⟩
          · refine wp_vE g ?_
            refine wp_eq (e159_3 _ _ _) ?_
            rcases c_what (X := X) (d := d + 49) (u := u) (D := D) (J := J) (x := z) (k := 1) with ⟨_, g⟩ | ⟨g, _⟩
            · refine wp_vE g ?_
              refine wp_eq (e159_6 _ _ _) ?_
              rcases c_within (X := X) (d := d + 49) (u := u) (D := D) (J := J) (x := y) (a := 1) (b := 100) with ⟨g, _⟩ | ⟨_, g⟩
              · exact absurd g iy
              · exact wp_vT g (wp_ct hC (fun _ _ => rfl))
            · exact absurd iz g
          · exact absurd ix g
        · have hM0 := hM.th (v := 0) hn
          have h0 := ud_at D 70 0 0
          refine wp_eq (e265_0 _ _ _) ?_
          refine wp_iE ((m_pers (X := X) (d := d + 48) (u := u) (J := J) (x := x) h31 hM0.2.1.1 h0).1 ix) ?_
          refine wp_eq (e265_6 _ _ _ _) (wp_f (by decide) ?_)
          refine wp_iE ((m_what (d := d + 48) h0).1 iz) ?_
          refine wp_eq (e265_11 _ _ _ _) (wp_f (by decide) ?_)
          refine wp_iE ((m_soon (d := d + 48) h0 (by decide)).2 iy) ?_
          refine wp_eq (e265_17 _ _ _ _) (wp_f (by decide) ?_)
          exact wp_mr (hM0.th hn) (ud_at _ 70 0 2) (fun q hq => by rw [ud_q (by omega), ud_q (by omega)])
    · refine ⟨.inr 1, σ, hσ, fun u J D hC => ?_, fun u J D hM => ?_, by first | exact trivial | exact rfl | exact Or.inl rfl | exact Or.inr rfl⟩
      · refine wp_eq (e159_0 _ _ _) ?_
        rcases c_pers (X := X) (d := d + 49) (u := u) (J := J) (x := x) h31 hC.2.1.1 with ⟨_, g⟩ | ⟨g, _⟩
        · refine wp_vE g ?_
          refine wp_eq (e159_3 _ _ _) ?_
          rcases c_what (X := X) (d := d + 49) (u := u) (D := D) (J := J) (x := z) (k := 1) with ⟨g, _⟩ | ⟨_, g⟩
          · exact absurd g iz
          · exact wp_vT g (wp_ct hC (fun _ _ => rfl))
        · exact absurd ix g
      · have hM0 := hM.th (v := 0) hn
        have h0 := ud_at D 70 0 0
        refine wp_eq (e265_0 _ _ _) ?_
        refine wp_iE ((m_pers (X := X) (d := d + 48) (u := u) (J := J) (x := x) h31 hM0.2.1.1 h0).1 ix) ?_
        refine wp_eq (e265_6 _ _ _ _) (wp_f (by decide) ?_)
        refine wp_iE ((m_what (d := d + 48) h0).2 iz) ?_
        refine wp_eq (e265_11 _ _ _ _) (wp_t rfl ?_)
        exact wp_mr (hM0.th hn) (ud_at _ 70 0 1) (fun q hq => by rw [ud_q (by omega), ud_q (by omega)])
  · refine ⟨.inr 1, σ, hσ, fun u J D hC => ?_, fun u J D hM => ?_, by first | exact trivial | exact rfl | exact Or.inl rfl | exact Or.inr rfl⟩
    · refine wp_eq (e159_0 _ _ _) ?_
      rcases c_pers (X := X) (d := d + 49) (u := u) (J := J) (x := x) h31 hC.2.1.1 with ⟨g, _⟩ | ⟨_, g⟩
      · exact absurd g ix
      · exact wp_vT g (wp_ct hC (fun _ _ => rfl))
    · have hM0 := hM.th (v := 0) hn
      refine wp_eq (e265_0 _ _ _) ?_
      refine wp_iE ((m_pers (X := X) (d := d + 48) (u := u) (J := J) (x := x) h31 hM0.2.1.1 (ud_at D 70 0 0)).2 ix) ?_
      refine wp_eq (e265_6 _ _ _ _) (wp_t rfl ?_)
      exact wp_mr (hM0.th hn) (ud_at _ 70 0 1) (fun q hq => by rw [ud_q (by omega), ud_q (by omega)])
end TOLIE
