/-! ===== then, who, size ===== -/
def thenA (ρ : Ru) (c : Cc) (p n : Nat) : Nat → Int32
  | 0 => pewO (sunK ρ c n p)
  | 1 => seatO (sunK ρ c n p)
  | 2 => sunK ρ c n (24 + p)
  | _ => sunK ρ c n (36 + p)
section THEN
variable {X : XS} {d u : Nat} {D : DD} {J : JJ} {σ : Sg} {ρ : Ru} {c : Cc} {K : Nat}
theorem c_moves {p n : Nat} (hR : Ru0 ρ) (hF : FutK ρ c K D) (hn : n ≤ K) (hp : p < 12) : Wp (EvM X d 13 [.ref 37, .int (nI p), .int (nI n)] (hS u D J)) (RI u J (fun y D' => c (36 + p) + y = sunK ρ c n (36 + p) ∧ D' = D)) := by
  have hK := hF.1
  refine wp_eq (e13_0 _ _) ?_
  refine wp_loop (R := fun k (v : Int32) => Ev X d 13 (4, [.ref 37, .int (nI p), .int (nI n), .int v, .int (nI (k + 1))], [], hS u D J)) (fun k v => c (36 + p) + v = sunK ρ c k (36 + p)) n ?_ ?_ 0 0 (Nat.zero_le _) (Int32.add_zero _)
  · intro k v hk hv ih
    refine wp_eq (e13_4 _ _ _ _) (wp_f (Int32.not_lt.mpr (nI_le (by omega) (by omega))) ?_)
    rw [lw, nI_clamp (by omega), (hF.2.2.1 (k + 1) (by omega) p hp).2, nI_1]
    refine oG (by omega) (by decide) (ih _ ?_)
    rw [← Int32.add_assoc, hv]
    exact (sun_mv hR (sunK ρ c k) hp).symm
  · intro v hv
    exact wp_eq (e13_4 _ _ _ _) (wp_t (nI_lt (by omega) (by omega)) (wp_rI ⟨hv, rfl⟩))
theorem p_then {x y z : Int32} (hσ : SgOk σ) : PairI σ (fun u J D => EvM X (d + 50) 120 [.ref 0, .int x, .int y, .int z] (hS u D J)) (fun u J D => EvM X (d + 50) 246 [.ref 70, .int x, .int y, .int z] (hS u D J)) nI xC := by
  have hn := hσ.2.1.1.1
  have h31 : σ.2.1.1 < 2 ^ 31 := by omega
  by_cases ix : isPe σ.2.1.1 x
  · by_cases iz : ¬ z < 0 ∧ ¬ 3 < z
    · by_cases iy : ¬ y < 0 ∧ ¬ 100 < y
      · obtain ⟨p, p1, rfl⟩ := id ix
        obtain ⟨n, -, n2, n3, rfl⟩ := nI_x (a := 0) (b := 100) (by decide) iy.1 iy.2
        obtain ⟨j, -, j2, j3, rfl⟩ := nI_x (a := 0) (b := 3) (by decide) iz.1 iz.2
        refine ⟨.inl (thenA σ.2.1 σ.2.2.1 p n j), σ, hσ, fun u J D hC => ?_, fun u J D hM => ?_, by first | exact trivial | exact rfl | exact Or.inl rfl | exact Or.inr rfl⟩
        · refine wp_eq (e120_0 _ _ _) ?_
          rcases c_pers (X := X) (d := d + 49) (u := u) (J := J) (x := nI p) h31 hC.2.1.1 with ⟨_, g⟩ | ⟨g, _⟩
          · refine wp_vE g ?_
            refine wp_eq (e120_3 _ _ _) ?_
            rcases c_what (X := X) (d := d + 49) (u := u) (D := D) (J := J) (x := nI j) (k := 3) with ⟨_, g⟩ | ⟨g, _⟩
            · refine wp_vE g ?_
              refine wp_eq (e120_6 _ _ _) ?_
              rcases c_within (X := X) (d := d + 49) (u := u) (D := D) (J := J) (x := nI n) (a := 0) (b := 100) with ⟨_, g⟩ | ⟨g, _⟩
              · refine wp_vE g ?_
                refine wp_eq (e120_10 _ _ _) ?_
                refine wp_cV (c_reach (d := d + 44) hσ hC (show n ≤ 200 by omega)) (fun D1 h1 => ?_)
                obtain ⟨hC1, ⟨K, hK, hF⟩, hf⟩ := h1
                have hK2 := hF.1
                obtain ⟨e44, e45⟩ := hF.2.2.1 n hK p (by omega)
                have fin : ∀ r, r = thenA σ.2.1 σ.2.2.1 p n j → Wp (some (.inl (some (.int r)), hS u D1 J)) (CR σ D u J (.inl (thenA σ.2.1 σ.2.2.1 p n j))) := fun r z => by
                  rw [z]; exact wp_cr hC1 (fun q hq => hf.1 q (by omega) (by omega))
                refine wp_eq (e120_14 _ _ _) ?_
                rw [lw, nI_clamp (by omega), e44, e45]
                rcases (show j = 0 ∨ j = 1 ∨ j = 2 ∨ j = 3 by omega) with rfl | rfl | rfl | rfl
                · exact wp_t rfl (oG (by omega) (by decide) (wp_iE c_pewOf (wp_eq (e120_26 _ _ _ _) (fin _ rfl))))
                · exact wp_f (by decide) (wp_t rfl (oG (by omega) (by decide) (wp_iE c_seatOf (wp_eq (e120_37 _ _ _ _) (fin _ rfl)))))
                · exact wp_f (by decide) (wp_f (by decide) (wp_t rfl (oG (by omega) (by decide) (fin _ rfl))))
                · refine wp_f (by decide) (wp_f (by decide) (wp_f (by decide) ?_))
                  rw [la, nI_clamp (by omega), hC1.2.2.1.1]
                  refine oG (by omega) (by decide) ?_
                  refine wp_cI (c_moves hσ.2.1.1 hF hK (show p < 12 by omega)) (fun v D2 h2 => ?_)
                  obtain ⟨h21, rfl⟩ := h2
                  exact wp_eq (e120_60 _ _ _ _ _) (fin _ h21)
              · exact absurd iy g
            · exact absurd iz g
          · exact absurd ix g
        · have hM0 := hM.th (v := 0) hn
          have h0 := ud_at D 70 0 0
          refine wp_eq (e246_0 _ _ _) ?_
          refine wp_iE ((m_pers (X := X) (d := d + 48) (u := u) (J := J) (x := nI p) h31 hM0.2.1.1 h0).1 ix) ?_
          refine wp_eq (e246_6 _ _ _ _) (wp_f (by decide) ?_)
          refine wp_iE ((m_what (d := d + 48) h0).1 iz) ?_
          refine wp_eq (e246_11 _ _ _ _) (wp_f (by decide) ?_)
          refine wp_iE ((m_soon (d := d + 48) h0 (by decide)).1 iy) ?_
          refine wp_eq (e246_17 _ _ _ _) (wp_t (by decide) ?_)
          refine wp_cV (m_goes (d := d + 42) hσ.2.1 hσ.2.2.1 hM0.2.1 hM0.2.2.1 hM0.2.2.2.2.2.2 n3) (fun D1 h1 => ?_)
          have fin : ∀ r, r = thenA σ.2.1 σ.2.2.1 p n j → Wp (some (.inl (some (.int r)), hS u D1 J)) (MR σ D u J (thenA σ.2.1 σ.2.2.1 p n j) 0) := fun r z => by
            rw [z]; exact wp_mr (h1.mi hM0 hn) (by rw [h1.2.2.2.2 0 (by decide) (by decide) (by decide) (by decide)]; exact h0) (fun q hq => by rw [h1.2.2.1 q (by omega) (by omega) (by omega), ud_q (by omega)])
          obtain ⟨t1, t2, t3, t4, t5, -⟩ := h1.1.s hn p1
          refine wp_eq (e246_23 _ _ _) ?_
          rw [show (85 : Int32) + 49 = 134 by decide, show (85 : Int32) + 37 = 122 by decide, show (85 : Int32) + 25 = 110 by decide, show (85 : Int32) + 13 = 98 by decide, la, la, la, la, nI_clamp (by omega), nI_clamp (by omega), nI_clamp (by omega), nI_clamp (by omega)]
          rcases (show j = 0 ∨ j = 1 ∨ j = 2 ∨ j = 3 by omega) with rfl | rfl | rfl | rfl
          · exact wp_f (fun z => z rfl) (oG (by omega) (by decide) (fin _ t2))
          · exact wp_t (by decide) (wp_f (fun z => z rfl) (oG (by omega) (by decide) (fin _ t3)))
          · exact wp_t (by decide) (wp_t (by decide) (wp_f (fun z => z rfl) (oG (by omega) (by decide) (fin _ t4))))
          · exact wp_t (by decide) (wp_t (by decide) (wp_t (by decide) (oG (by omega) (by decide) (fin _ t5))))
      · refine ⟨.inr 2, σ, hσ, fun u J D hC => ?_, fun u J D hM => ?_, by first | exact trivial | exact rfl | exact Or.inl rfl | exact Or.inr rfl⟩
        · refine wp_eq (e120_0 _ _ _) ?_
          rcases c_pers (X := X) (d := d + 49) (u := u) (J := J) (x := x) h31 hC.2.1.1 with ⟨_, g⟩ | ⟨g, _⟩
          · refine wp_vE g ?_
            refine wp_eq (e120_3 _ _ _) ?_
            rcases c_what (X := X) (d := d + 49) (u := u) (D := D) (J := J) (x := z) (k := 3) with ⟨_, g⟩ | ⟨g, _⟩
            · refine wp_vE g ?_
              refine wp_eq (e120_6 _ _ _) ?_
              rcases c_within (X := X) (d := d + 49) (u := u) (D := D) (J := J) (x := y) (a := 0) (b := 100) with ⟨g, _⟩ | ⟨_, g⟩
              · exact absurd g iy
              · exact wp_vT g (wp_ct hC (fun _ _ => rfl))
            · exact absurd iz g
          · exact absurd ix g
        · have hM0 := hM.th (v := 0) hn
          have h0 := ud_at D 70 0 0
          refine wp_eq (e246_0 _ _ _) ?_
          refine wp_iE ((m_pers (X := X) (d := d + 48) (u := u) (J := J) (x := x) h31 hM0.2.1.1 h0).1 ix) ?_
          refine wp_eq (e246_6 _ _ _ _) (wp_f (by decide) ?_)
          refine wp_iE ((m_what (d := d + 48) h0).1 iz) ?_
          refine wp_eq (e246_11 _ _ _ _) (wp_f (by decide) ?_)
          refine wp_iE ((m_soon (d := d + 48) h0 (by decide)).2 iy) ?_
          refine wp_eq (e246_17 _ _ _ _) (wp_f (by decide) ?_)
          exact wp_mr (hM0.th hn) (ud_at _ 70 0 2) (fun q hq => by rw [ud_q (by omega), ud_q (by omega)])
    · refine ⟨.inr 1, σ, hσ, fun u J D hC => ?_, fun u J D hM => ?_, by first | exact trivial | exact rfl | exact Or.inl rfl | exact Or.inr rfl⟩
      · refine wp_eq (e120_0 _ _ _) ?_
        rcases c_pers (X := X) (d := d + 49) (u := u) (J := J) (x := x) h31 hC.2.1.1 with ⟨_, g⟩ | ⟨g, _⟩
        · refine wp_vE g ?_
          refine wp_eq (e120_3 _ _ _) ?_
          rcases c_what (X := X) (d := d + 49) (u := u) (D := D) (J := J) (x := z) (k := 3) with ⟨g, _⟩ | ⟨_, g⟩
          · exact absurd g iz
          · exact wp_vT g (wp_ct hC (fun _ _ => rfl))
        · exact absurd ix g
      · have hM0 := hM.th (v := 0) hn
        have h0 := ud_at D 70 0 0
        refine wp_eq (e246_0 _ _ _) ?_
        refine wp_iE ((m_pers (X := X) (d := d + 48) (u := u) (J := J) (x := x) h31 hM0.2.1.1 h0).1 ix) ?_
        refine wp_eq (e246_6 _ _ _ _) (wp_f (by decide) ?_)
        refine wp_iE ((m_what (d := d + 48) h0).2 iz) ?_
        refine wp_eq (e246_11 _ _ _ _) (wp_t rfl ?_)
        exact wp_mr (hM0.th hn) (ud_at _ 70 0 1) (fun q hq => by rw [ud_q (by omega), ud_q (by omega)])
  · refine ⟨.inr 1, σ, hσ, fun u J D hC => ?_, fun u J D hM => ?_, by first | exact trivial | exact rfl | exact Or.inl rfl | exact Or.inr rfl⟩
    · refine wp_eq (e120_0 _ _ _) ?_
      rcases c_pers (X := X) (d := d + 49) (u := u) (J := J) (x := x) h31 hC.2.1.1 with ⟨g, _⟩ | ⟨_, g⟩
      · exact absurd g ix
      · exact wp_vT g (wp_ct hC (fun _ _ => rfl))
    · have hM0 := hM.th (v := 0) hn
      refine wp_eq (e246_0 _ _ _) ?_
      refine wp_iE ((m_pers (X := X) (d := d + 48) (u := u) (J := J) (x := x) h31 hM0.2.1.1 (ud_at D 70 0 0)).2 ix) ?_
      refine wp_eq (e246_6 _ _ _ _) (wp_t rfl ?_)
      exact wp_mr (hM0.th hn) (ud_at _ 70 0 1) (fun q hq => by rw [ud_q (by omega), ud_q (by omega)])
theorem c_pewAt {p n : Nat} (hF : FutK ρ c K D) (hn : n ≤ K) (hp : p < 12) : EvM X (d + 1) 12 [.ref 37, .int (nI n), .int (nI p)] (hS u D J) = some (.inl (some (.int (pewO (sunK ρ c n p)))), hS u D J) := by
  have hK := hF.1
  refine (e12_0 (nI n) (nI p)).trans ?_
  rw [lw, nI_clamp (by omega), gd_t (ob_n (by omega) (by decide)), (hF.2.2.1 n hn p hp).1, c_pewOf]
  exact e12_9 _ _ _
theorem p_size {x y : Int32} (hσ : SgOk σ) : PairI σ (fun u J D => EvM X (d + 50) 123 [.ref 0, .int x, .int y] (hS u D J)) (fun u J D => EvM X (d + 50) 248 [.ref 70, .int x, .int y] (hS u D J)) (fun _ => 1) xB := by
  have hn := hσ.2.1.1.1
  have hg := Good.sunK hσ.2.1.1 hσ.2.2.1
  by_cases hh : (¬ x < 0 ∧ ¬ 11 < x) ∧ ¬ y < 0 ∧ ¬ 100 < y
  · obtain ⟨ix, iy⟩ := hh
    obtain ⟨w, -, w2, w3, rfl⟩ := nI_x (a := 0) (b := 11) (by decide) ix.1 ix.2
    obtain ⟨n, -, n2, n3, rfl⟩ := nI_x (a := 0) (b := 100) (by decide) iy.1 iy.2
    refine ⟨.inl (nI (sizeN σ.2.1 (sunK σ.2.1 σ.2.2.1 n) w)), σ, hσ, fun u J D hC => ?_, fun u J D hM => ?_, by first | exact trivial | exact rfl | exact Or.inl rfl | exact Or.inr rfl⟩
    · refine wp_eq (e123_0 _ _) ?_
      rcases c_within (X := X) (d := d + 49) (u := u) (D := D) (J := J) (x := nI w) (a := 0) (b := 11) with ⟨_, g⟩ | ⟨g, _⟩
      · refine wp_vE g ?_
        refine wp_eq (e123_4 _ _) ?_
        rcases c_within (X := X) (d := d + 49) (u := u) (D := D) (J := J) (x := nI n) (a := 0) (b := 100) with ⟨_, g⟩ | ⟨g, _⟩
        · refine wp_vE g ?_
          refine wp_eq (e123_8 _ _) ?_
          refine wp_cV (c_reach (d := d + 44) hσ hC (show n ≤ 200 by omega)) (fun D1 h1 => ?_)
          obtain ⟨hC1, ⟨K, hK, hF⟩, hf⟩ := h1
          refine wp_eq (e123_12 _ _) ?_
          refine wp_loop (R := fun k (v : Int32) => Ev X (d + 50) 123 (16, [.ref 0, .int (nI w), .int (nI n), .int v, .int (nI k)], [], hS u D1 J)) (fun k v => v = nI (cntN (inW (sunK σ.2.1 σ.2.2.1 n) w) k)) σ.2.1.1 ?_ ?_ 0 0 (Nat.zero_le _) rfl
          · intro k v hk hv ih
            refine wp_eq (e123_16 _ _ _ _) ?_
            rw [hC1.2.1.1]
            refine wp_f (nI_ge hk (by omega)) ?_
            refine wp_iE (c_pewAt (d := d + 48) hF hK (show k < 12 by omega)) ?_
            refine wp_eq (e123_26 _ _ _ _ _) ?_
            refine wp_if (fun h => ?_) (fun h => ?_)
            · rw [nI_1]
              refine ih v ?_
              have hi : inW (sunK σ.2.1 σ.2.2.1 n) w k = false := by
                cases hi : inW (sunK σ.2.1 σ.2.2.1 n) w k with
                | false => rfl
                | true => exact absurd ((pewO_w w3).mpr hi) h
              rw [hv, cntN, hi]; rfl
            · have hi := (pewO_w w3).mp (Classical.not_not.mp h)
              rw [nI_1]
              refine ih _ ?_
              rw [hv, cntN, hi, nI_1]; rfl
          · intro v hv
            refine wp_eq (e123_16 _ _ _ _) ?_
            rw [hC1.2.1.1]
            refine wp_t (nI_le (Nat.le_refl _) (by omega)) ?_
            rw [hv]
            exact wp_cr hC1 (fun q hq => hf.1 q (by omega) (by omega))
        · exact absurd iy g
      · exact absurd ix g
    · have hM0 := hM.th (v := 0) hn
      have h0 := ud_at D 70 0 0
      refine wp_eq (e248_0 _ _) ?_
      refine wp_iE m_within ?_
      rw [if_pos ix]
      refine wp_eq (e248_8 _ _ _) (wp_f (by decide) ?_)
      refine wp_iE m_within ?_
      rw [if_pos iy]
      refine wp_eq (e248_13 _ _ _) (wp_f (by decide) ?_)
      refine wp_iE ((m_right h0 (by decide)).1 (by decide)) ?_
      refine wp_eq (e248_19 _ _ _) (wp_t (by decide) ?_)
      refine wp_cV (m_goes (d := d + 42) hσ.2.1 hσ.2.2.1 hM0.2.1 hM0.2.2.1 hM0.2.2.2.2.2.2 n3) (fun D1 h1 => ?_)
      have hM1 := h1.mi hM0 hn
      refine wp_eq (e248_25 _ _) ?_
      refine wp_iE (s_size (d := d + 48) (b := 85) (Or.inr rfl) hn hM1.2.1.1 h1.1 (show w < 12 by omega)) ?_
      exact wp_eq (e248_29 _ _ _) (wp_mr hM1 (by rw [h1.2.2.2.2 0 (by decide) (by decide) (by decide) (by decide)]; exact h0) (fun q hq => by rw [h1.2.2.1 q (by omega) (by omega) (by omega), ud_q (by omega)]))
  · refine ⟨.inr 2, σ, hσ, fun u J D hC => ?_, fun u J D hM => ?_, by first | exact trivial | exact rfl | exact Or.inl rfl | exact Or.inr rfl⟩
    · refine wp_eq (e123_0 _ _) ?_
      rcases c_within (X := X) (d := d + 49) (u := u) (D := D) (J := J) (x := x) (a := 0) (b := 11) with ⟨g1, g⟩ | ⟨_, g⟩
      · refine wp_vE g ?_
        refine wp_eq (e123_4 _ _) ?_
        rcases c_within (X := X) (d := d + 49) (u := u) (D := D) (J := J) (x := y) (a := 0) (b := 100) with ⟨g2, _⟩ | ⟨_, g⟩
        · exact absurd ⟨g1, g2⟩ hh
        · exact wp_vT g (wp_ct hC (fun _ _ => rfl))
      · exact wp_vT g (wp_ct hC (fun _ _ => rfl))
    · have hM0 := hM.th (v := 0) hn
      have h0 := ud_at D 70 0 0
      have no : Wp (bI (EvM X (d + 49) 172 [.ref 70, .int 0, .int 1] (hS u (ud D 70 0 0) J)) (fun y' h => Ev X (d + 49 + 1) 248 (19, [.ref 70, .int x, .int y], [.int y'], h)) (fun e h => some (.inr e, h))) (MR σ D u J 0 1) := by
        refine wp_iE ((m_right h0 (by decide)).2 rfl) ?_
        refine wp_eq (e248_19 _ _ _) (wp_f (by decide) ?_)
        exact wp_mr (hM0.th hn) (ud_at _ 70 0 1) (fun q hq => by rw [ud_q (by omega), ud_q (by omega)])
      refine wp_eq (e248_0 _ _) ?_
      refine wp_iE m_within ?_
      refine wp_eq (e248_8 _ _ _) ?_
      by_cases ix : ¬ x < 0 ∧ ¬ 11 < x
      · rw [if_pos ix]
        refine wp_f (by decide) ?_
        refine wp_iE m_within ?_
        rw [if_neg (fun iy => hh ⟨ix, iy⟩)]
        exact wp_eq (e248_13 _ _ _) (wp_t rfl no)
      · rw [if_neg ix]
        exact wp_t rfl no
theorem p_who {x y z : Int32} (hσ : SgOk σ) : PairI σ (fun u J D => EvM X (d + 50) 121 [.ref 0, .int x, .int y, .int z] (hS u D J)) (fun u J D => EvM X (d + 50) 247 [.ref 70, .int x, .int y, .int z] (hS u D J)) (fun _ => 1) xB := by
  have hn := hσ.2.1.1.1
  have hg := Good.sunK hσ.2.1.1 hσ.2.2.1
  by_cases hh : (¬ x < 0 ∧ ¬ 11 < x) ∧ (¬ y < 0 ∧ ¬ 11 < y) ∧ ¬ z < 0 ∧ ¬ 100 < z
  · obtain ⟨ix, iy, iz⟩ := hh
    obtain ⟨w, -, w2, w3, rfl⟩ := nI_x (a := 0) (b := 11) (by decide) ix.1 ix.2
    obtain ⟨s, -, s2, s3, rfl⟩ := nI_x (a := 0) (b := 11) (by decide) iy.1 iy.2
    obtain ⟨n, -, n2, n3, rfl⟩ := nI_x (a := 0) (b := 100) (by decide) iz.1 iz.2
    refine ⟨.inl (whoA (findN (fun p => decide (sunK σ.2.1 σ.2.2.1 n p = nI (12 * w + s))) σ.2.1.1 0)), σ, hσ, fun u J D hC => ?_, fun u J D hM => ?_, by first | exact trivial | exact rfl | exact Or.inl rfl | exact Or.inr rfl⟩
    · refine wp_eq (e121_0 _ _ _) ?_
      rcases c_within (X := X) (d := d + 49) (u := u) (D := D) (J := J) (x := nI w) (a := 0) (b := 11) with ⟨_, g⟩ | ⟨g, _⟩
      · refine wp_vE g ?_
        refine wp_eq (e121_4 _ _ _) ?_
        rcases c_within (X := X) (d := d + 49) (u := u) (D := D) (J := J) (x := nI s) (a := 0) (b := 11) with ⟨_, g⟩ | ⟨g, _⟩
        · refine wp_vE g ?_
          refine wp_eq (e121_8 _ _ _) ?_
          rcases c_within (X := X) (d := d + 49) (u := u) (D := D) (J := J) (x := nI n) (a := 0) (b := 100) with ⟨_, g⟩ | ⟨g, _⟩
          · refine wp_vE g ?_
            refine wp_eq (e121_12 _ _ _) ?_
            refine wp_cV (c_reach (d := d + 44) hσ hC (show n ≤ 200 by omega)) (fun D1 h1 => ?_)
            obtain ⟨hC1, ⟨K, hK, hF⟩, hf⟩ := h1
            have hK2 := hF.1
            refine wp_eq (e121_16 _ _ _) ?_
            have main : ∀ (r k : Nat), k + r = σ.2.1.1 → Wp (Ev X (d + 50) 121 (18, [.ref 0, .int (nI w), .int (nI s), .int (nI n), .int (nI k)], [], hS u D1 J)) (CR σ D u J (.inl (whoA (findN (fun p => decide (sunK σ.2.1 σ.2.2.1 n p = nI (12 * w + s))) r k)))) := by
              intro r
              induction r with
              | zero =>
                intro k hk
                refine wp_eq (e121_18 _ _ _ _) ?_
                rw [hC1.2.1.1]
                exact wp_t (nI_le (by omega) (by omega)) (wp_cr hC1 (fun q hq => hf.1 q (by omega) (by omega)))
              | succ r ih =>
                intro k hk
                refine wp_eq (e121_18 _ _ _ _) ?_
                rw [hC1.2.1.1]
                refine wp_f (nI_ge (by omega) (by omega)) ?_
                rw [lw n k, nI_clamp (show 12 * n + k < 2 ^ 31 by omega), (hF.2.2.1 n hK k (by omega)).1, lw w s]
                refine oG (by omega) (by decide) (wp_if (fun h => ?_) (fun h => ?_))
                · rw [findN, decide_eq_false h, nI_1]
                  exact ih (k + 1) (by omega)
                · rw [findN, decide_eq_true (Classical.not_not.mp h)]
                  exact wp_cr hC1 (fun q hq => hf.1 q (by omega) (by omega))
            exact main σ.2.1.1 0 (Nat.zero_add _)
          · exact absurd iz g
        · exact absurd iy g
      · exact absurd ix g
    · have hM0 := hM.th (v := 0) hn
      have h0 := ud_at D 70 0 0
      refine wp_eq (e247_0 _ _ _) ?_
      refine wp_iE m_within ?_
      rw [if_pos ix]
      refine wp_eq (e247_8 _ _ _ _) (wp_f (by decide) ?_)
      refine wp_iE m_within ?_
      rw [if_pos iy]
      refine wp_eq (e247_13 _ _ _ _) (wp_f (by decide) ?_)
      refine wp_iE m_within ?_
      rw [if_pos iz]
      refine wp_eq (e247_18 _ _ _ _) (wp_f (by decide) ?_)
      refine wp_iE ((m_right h0 (by decide)).1 (by decide)) ?_
      refine wp_eq (e247_24 _ _ _ _) (wp_t (by decide) ?_)
      refine wp_cV (m_goes (d := d + 42) hσ.2.1 hσ.2.2.1 hM0.2.1 hM0.2.2.1 hM0.2.2.2.2.2.2 n3) (fun D1 h1 => ?_)
      have hM1 := h1.mi hM0 hn
      refine wp_eq (e247_30 _ _ _) ?_
      refine wp_iE (s_whoAt (b := 85) (Or.inr rfl) hn hM1.2.1.1 h1.1 (fun z => by omega) (hg n).1.v (show w < 12 by omega) (show s < 12 by omega)) ?_
      exact wp_eq (e247_35 _ _ _ _) (wp_mr hM1 (by rw [h1.2.2.2.2 0 (by decide) (by decide) (by decide) (by decide)]; exact h0) (fun q hq => by rw [h1.2.2.1 q (by omega) (by omega) (by omega), ud_q (by omega)]))
  · refine ⟨.inr 2, σ, hσ, fun u J D hC => ?_, fun u J D hM => ?_, by first | exact trivial | exact rfl | exact Or.inl rfl | exact Or.inr rfl⟩
    · have th : Wp (some (.inr 2, hS (u + 1) D J)) (CR σ D u J (.inr 2)) := wp_ct hC (fun _ _ => rfl)
      refine wp_eq (e121_0 _ _ _) ?_
      rcases c_within (X := X) (d := d + 49) (u := u) (D := D) (J := J) (x := x) (a := 0) (b := 11) with ⟨g1, g⟩ | ⟨_, g⟩
      · refine wp_vE g ?_
        refine wp_eq (e121_4 _ _ _) ?_
        rcases c_within (X := X) (d := d + 49) (u := u) (D := D) (J := J) (x := y) (a := 0) (b := 11) with ⟨g2, g⟩ | ⟨_, g⟩
        · refine wp_vE g ?_
          refine wp_eq (e121_8 _ _ _) ?_
          rcases c_within (X := X) (d := d + 49) (u := u) (D := D) (J := J) (x := z) (a := 0) (b := 100) with ⟨g3, _⟩ | ⟨_, g⟩
          · exact absurd ⟨g1, g2, g3⟩ hh
          · exact wp_vT g th
        · exact wp_vT g th
      · exact wp_vT g th
    · have hM0 := hM.th (v := 0) hn
      have h0 := ud_at D 70 0 0
      have no : Wp (bI (EvM X (d + 49) 172 [.ref 70, .int 0, .int 1] (hS u (ud D 70 0 0) J)) (fun y' h => Ev X (d + 49 + 1) 247 (24, [.ref 70, .int x, .int y, .int z], [.int y'], h)) (fun e h => some (.inr e, h))) (MR σ D u J 0 1) := by
        refine wp_iE ((m_right h0 (by decide)).2 rfl) ?_
        refine wp_eq (e247_24 _ _ _ _) (wp_f (by decide) ?_)
        exact wp_mr (hM0.th hn) (ud_at _ 70 0 1) (fun q hq => by rw [ud_q (by omega), ud_q (by omega)])
      refine wp_eq (e247_0 _ _ _) ?_
      refine wp_iE m_within ?_
      refine wp_eq (e247_8 _ _ _ _) ?_
      by_cases ix : ¬ x < 0 ∧ ¬ 11 < x
      · rw [if_pos ix]
        refine wp_f (by decide) ?_
        refine wp_iE m_within ?_
        refine wp_eq (e247_13 _ _ _ _) ?_
        by_cases iy : ¬ y < 0 ∧ ¬ 11 < y
        · rw [if_pos iy]
          refine wp_f (by decide) ?_
          refine wp_iE m_within ?_
          rw [if_neg (fun iz => hh ⟨ix, iy, iz⟩)]
          exact wp_eq (e247_18 _ _ _ _) (wp_t rfl no)
        · rw [if_neg iy]
          exact wp_t rfl no
      · rw [if_neg ix]
        exact wp_t rfl no
end THEN
