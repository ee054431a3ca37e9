/-! ===== more, order, spread ===== -/
def spN (ρ : Ru) (c : Cc) (p : Nat) : Nat → Int32
  | 0 => 0
  | k + 1 => if pewO (sunK ρ c (k + 1) p) = -1 then spN ρ c p k else spN ρ c p k ||| ((1 : Int32) <<< (pewO (sunK ρ c (k + 1) p) &&& 31))
section MORE
variable {X : XS} {d u : Nat} {D D1 : DD} {J : JJ} {σ : Sg} {ρ : Ru} {c : Cc} {K : Nat}
theorem FrM.mi (h : FrM 85 D D1) (hM : MI σ D) (hn : σ.2.1.1 ≤ 12) : MI σ D1 :=
  hM.mv (fun k k1 k2 k3 => h.2.2 k (by omega) (by omega) (by omega) (by omega)) (fun i hi => h.2.1 i (by omega)) (fun q hq => h.1 q (by omega) (by omega) (by omega)) hn
theorem FrM.fin {r : Int32} (hM0 : MI σ (ud D 70 0 0)) (hn : σ.2.1.1 ≤ 12) (h1 : FrM 85 (ud D 70 0 0) D1) : Wp (some (.inl (some (.int r)), hS u D1 J)) (MR σ D u J r 0) :=
  wp_mr (h1.mi hM0 hn) (by rw [h1.2.2 0 (by decide) (by decide) (by decide) (by decide)]; exact ud_at D 70 0 0) (fun q hq => by rw [h1.1 q (by omega) (by omega) (by omega), ud_q (by omega)])
def morA (r : Cc × List (Nat × Nat) × Nat) : Nat → Int32
  | 0 => nI r.2.1.length
  | 1 => orB (r.2.1.map fun e => e.1) 0
  | _ => nI r.2.2
theorem sit_bc {p : Nat} (hR : Ru0 ρ) (hO : Ok ρ c) (hp : p < ρ.1) (h1 : c p = -1) : bcI (orB ((sitN ρ 12 c p 0).2.1.map fun e => e.1) 0) = nI (sitN ρ 12 c p 0).2.1.length := by
  obtain ⟨-, -, -, -, -, -, r7, r8⟩ := sit_ok0 hR hO hp h1
  have hn := hR.1
  rw [bc_l (fun o ho => ?_) r8, List.length_map]
  obtain ⟨e, he, rfl⟩ := List.mem_map.mp ho
  have := (r7 e he).1
  omega
theorem p_more {x y : Int32} (hσ : SgOk σ) : PairI σ (fun u J D => EvM X (d + 50) 130 [.ref 0, .int x, .int y] (hS u D J)) (fun u J D => EvM X (d + 50) 266 [.ref 70, .int x, .int y] (hS u D J)) nI xA := by
  have hn := hσ.2.1.1.1
  have hO := hσ.2.2.1.1
  have h31 : σ.2.1.1 < 2 ^ 31 := by omega
  by_cases ix : isPe σ.2.1.1 x
  · by_cases iy : ¬ y < 0 ∧ ¬ 2 < y
    · obtain ⟨p, p1, rfl⟩ := id ix
      obtain ⟨j, -, j2, j3, rfl⟩ := nI_x (a := 0) (b := 2) (by decide) iy.1 iy.2
      by_cases hc : σ.2.2.1 p = -1
      · refine ⟨.inl (morA (sitN σ.2.1 12 σ.2.2.1 p 0) j), σ, hσ, fun u J D hC => ?_, fun u J D hM => ?_, by first | exact trivial | exact rfl | exact Or.inl rfl | exact Or.inr rfl⟩
        · refine wp_eq (e130_0 _ _) ?_
          rcases c_pers (X := X) (d := d + 49) (u := u) (J := J) (x := nI p) h31 hC.2.1.1 with ⟨_, g⟩ | ⟨g, _⟩
          · refine wp_vE g ?_
            refine wp_eq (e130_3 _ _) ?_
            rcases c_what (X := X) (d := d + 49) (u := u) (D := D) (J := J) (x := nI j) (k := 2) with ⟨_, g⟩ | ⟨g, _⟩
            · refine wp_vE g ?_
              refine wp_eq (e130_6 _ _) ?_
              rw [la, nI_clamp (by omega), Nat.zero_add, hC.2.2.1.1]
              refine oG (by omega) (by decide) (wp_t hc ?_)
              refine wp_cV (s_copy (P := 31) (Or.inr (Or.inl rfl)) (by decide) hC.2.2.1 hO.2.2.2.1 (by rw [hC.2.2.1.1]; exact hσ.2.2.1.2.1) hC.2.2.2.2.2.2.2.2.1) (fun D1 h1 => ?_)
              obtain ⟨k1, -, k3⟩ := h1
              refine wp_eq (e130_22 _ _) ?_
              refine wp_cI (s_sit (d := d + 47) (P := 31) (Or.inr (Or.inl rfl)) hσ.2.1 (hC.2.1.p (Or.inr (Or.inl rfl)) k3) k1 hO p1 hc) (fun v D2 h2 => ?_)
              obtain ⟨rfl, m2, m3, -, -, -, -, -, m9⟩ := h2
              have fr : FrP 31 D D2 := k3.tr ((FrP.ud (Or.inr (Or.inl rfl)) (by omega) (by omega)).tr m9)
              have hC2 : CI σ D2 := hC.scr (fun q hq => fr.1 q (by omega) (by omega)) fr.2 (by
                have e : D2 32 = (sitN σ.2.1 12 σ.2.2.1 p 0).1 := m2.1
                rw [e]; exact (hσ.2.2.1.sit hσ.2.1.1 p1 hc).2.1)
              have fin : ∀ r, r = morA (sitN σ.2.1 12 σ.2.2.1 p 0) j → Wp (some (.inl (some (.int r)), hS u D2 J)) (CR σ D u J (.inl (morA (sitN σ.2.1 12 σ.2.2.1 p 0) j))) := fun r z => by
                rw [z]; exact wp_cr hC2 (fun q hq => fr.1 q (by omega) (by omega))
              rw [ud_at] at m3
              refine wp_eq (e130_26 _ _ _) ?_
              rw [m3]
              rcases (show j = 0 ∨ j = 1 ∨ j = 2 by omega) with rfl | rfl | rfl
              · refine wp_t rfl ?_
                refine wp_iE (s_bc _) ?_
                exact wp_eq (e130_33 _ _ _ _) (fin _ (sit_bc hσ.2.1.1 hO p1 hc))
              · exact wp_f (by decide) (wp_t rfl (fin _ rfl))
              · exact wp_f (by decide) (wp_f (by decide) (fin _ rfl))
            · exact absurd iy g
          · exact absurd ix g
        · have hM0 := hM.th (v := 0) hn
          have h0 := ud_at D 70 0 0
          refine wp_eq (e266_0 _ _) ?_
          refine wp_iE ((m_pers (X := X) (d := d + 48) (u := u) (J := J) (x := nI p) h31 hM0.2.1.1 h0).1 ix) ?_
          refine wp_eq (e266_6 _ _ _) (wp_f (by decide) ?_)
          refine wp_iE ((m_what (d := d + 48) h0).1 iy) ?_
          refine wp_eq (e266_11 _ _ _) (wp_t (by decide) ?_)
          obtain ⟨-, t2, -⟩ := hM0.2.2.1.s hn p1
          rw [Nat.zero_add] at t2
          rw [la, nI_clamp (by omega), t2, hc, pewO_1.1]
          refine oG (by omega) (by decide) (wp_t rfl ?_)
          refine wp_cV (m_try0 hn hM0.2.2.1) (fun D1 h1 => ?_)
          refine wp_eq (e266_26 _ _) ?_
          have hr1 : RowM 85 σ.2.1 σ.2.2.1 (D1 78) := h1.1
          refine wp_cV (s_sits (d := d + 45) (b := 85) (Or.inr rfl) hσ.2.1 (hM0.2.1.fr h1.2.2) (hr1.r hn) hO p1 hc) (fun D2 h2 => ?_)
          obtain ⟨-, i2, i3, i4, -, -, -, -, i9⟩ := h2
          have fr : FrM 85 (ud D 70 0 0) D2 := h1.2.2.tr ((FrM.ud7 (by omega)).tr ((FrM.ud7 (by omega)).tr i9))
          have fin : ∀ r, r = morA (sitN σ.2.1 12 σ.2.2.1 p 0) j → Wp (some (.inl (some (.int r)), hS u D2 J)) (MR σ D u J (morA (sitN σ.2.1 12 σ.2.2.1 p 0) j) 0) := fun r z => by
            rw [z]; exact fr.fin hM0 hn
          refine wp_eq (e266_30 _ _) ?_
          rw [ud_k (by decide), ud_at, Int32.zero_add] at i2
          rw [ud_at] at i3
          rcases (show j = 0 ∨ j = 1 ∨ j = 2 by omega) with rfl | rfl | rfl
          · exact wp_f (fun z => z rfl) (fin _ i2)
          · exact wp_t (by decide) (wp_f (fun z => z rfl) (fin _ i3))
          · exact wp_t (by decide) (wp_t (by decide) (fin _ i4))
      · refine ⟨.inl (-1), σ, hσ, fun u J D hC => ?_, fun u J D hM => ?_, by first | exact trivial | exact rfl | exact Or.inl rfl | exact Or.inr rfl⟩
        · refine wp_eq (e130_0 _ _) ?_
          rcases c_pers (X := X) (d := d + 49) (u := u) (J := J) (x := nI p) h31 hC.2.1.1 with ⟨_, g⟩ | ⟨g, _⟩
          · refine wp_vE g ?_
            refine wp_eq (e130_3 _ _) ?_
            rcases c_what (X := X) (d := d + 49) (u := u) (D := D) (J := J) (x := nI j) (k := 2) with ⟨_, g⟩ | ⟨g, _⟩
            · refine wp_vE g ?_
              refine wp_eq (e130_6 _ _) ?_
              rw [la, nI_clamp (by omega), Nat.zero_add, hC.2.2.1.1]
              exact oG (by omega) (by decide) (wp_f hc (wp_cr hC (fun _ _ => rfl)))
            · exact absurd iy g
          · exact absurd ix g
        · have hM0 := hM.th (v := 0) hn
          have h0 := ud_at D 70 0 0
          refine wp_eq (e266_0 _ _) ?_
          refine wp_iE ((m_pers (X := X) (d := d + 48) (u := u) (J := J) (x := nI p) h31 hM0.2.1.1 h0).1 ix) ?_
          refine wp_eq (e266_6 _ _ _) (wp_f (by decide) ?_)
          refine wp_iE ((m_what (d := d + 48) h0).1 iy) ?_
          refine wp_eq (e266_11 _ _ _) (wp_t (by decide) ?_)
          obtain ⟨-, t2, -⟩ := hM0.2.2.1.s hn p1
          rw [Nat.zero_add] at t2
          rw [la, nI_clamp (by omega), t2]
          exact oG (by omega) (by decide) (wp_f (fun z => hc ((pewO_n (hO.v p p1)).mp z)) (wp_mr hM0 h0 (fun q hq => ud_q (by omega))))
    · refine ⟨.inr 1, σ, hσ, fun u J D hC => ?_, fun u J D hM => ?_, by first | exact trivial | exact rfl | exact Or.inl rfl | exact Or.inr rfl⟩
      · refine wp_eq (e130_0 _ _) ?_
        rcases c_pers (X := X) (d := d + 49) (u := u) (J := J) (x := x) h31 hC.2.1.1 with ⟨_, g⟩ | ⟨g, _⟩
        · refine wp_vE g ?_
          refine wp_eq (e130_3 _ _) ?_
          rcases c_what (X := X) (d := d + 49) (u := u) (D := D) (J := J) (x := y) (k := 2) with ⟨g, _⟩ | ⟨_, g⟩
          · exact absurd g iy
          · exact wp_vT g (wp_ct hC (fun _ _ => rfl))
        · exact absurd ix g
      · have hM0 := hM.th (v := 0) hn
        have h0 := ud_at D 70 0 0
        refine wp_eq (e266_0 _ _) ?_
        refine wp_iE ((m_pers (X := X) (d := d + 48) (u := u) (J := J) (x := x) h31 hM0.2.1.1 h0).1 ix) ?_
        refine wp_eq (e266_6 _ _ _) (wp_f (by decide) ?_)
        refine wp_iE ((m_what (d := d + 48) h0).2 iy) ?_
        refine wp_eq (e266_11 _ _ _) (wp_f (by decide) ?_)
        exact wp_mr (hM0.th hn) (ud_at _ 70 0 1) (fun q hq => by rw [ud_q (by omega), ud_q (by omega)])
  · refine ⟨.inr 1, σ, hσ, fun u J D hC => ?_, fun u J D hM => ?_, by first | exact trivial | exact rfl | exact Or.inl rfl | exact Or.inr rfl⟩
    · refine wp_eq (e130_0 _ _) ?_
      rcases c_pers (X := X) (d := d + 49) (u := u) (J := J) (x := x) h31 hC.2.1.1 with ⟨g, _⟩ | ⟨_, g⟩
      · exact absurd g ix
      · exact wp_vT g (wp_ct hC (fun _ _ => rfl))
    · have hM0 := hM.th (v := 0) hn
      refine wp_eq (e266_0 _ _) ?_
      refine wp_iE ((m_pers (X := X) (d := d + 48) (u := u) (J := J) (x := x) h31 hM0.2.1.1 (ud_at D 70 0 0)).2 ix) ?_
      refine wp_eq (e266_6 _ _ _) (wp_t rfl ?_)
      exact wp_mr (hM0.th hn) (ud_at _ 70 0 1) (fun q hq => by rw [ud_q (by omega), ud_q (by omega)])
theorem p_order {x : Int32} (hσ : SgOk σ) : PairI σ (fun u J D => EvM X (d + 50) 131 [.ref 0, .int x] (hS u D J)) (fun u J D => EvM X (d + 50) 267 [.ref 70, .int x] (hS u D J)) (fun _ => 1) xB := by
  have hn := hσ.2.1.1.1
  have hO := hσ.2.2.1.1
  by_cases ix : ¬ x < 0 ∧ ¬ 11 < x
  · obtain ⟨n, -, n2, n3, rfl⟩ := nI_x (a := 0) (b := 11) (by decide) ix.1 ix.2
    have hD := line_D hn σ.2.2.1 false
    have hD1 := hD.1
    refine ⟨.inl (if (lineN σ.2.1 σ.2.2.1 false σ.2.1.1).1 ≤ n then -1 else nI ((lineN σ.2.1 σ.2.2.1 false σ.2.1.1).2 n)), σ, hσ, fun u J D hC => ?_, fun u J D hM => ?_, by first | exact trivial | exact rfl | exact Or.inl rfl | exact Or.inr rfl⟩
    · refine wp_eq (e131_0 _) ?_
      rcases c_within (X := X) (d := d + 49) (u := u) (D := D) (J := J) (x := nI n) (a := 0) (b := 11) with ⟨_, g⟩ | ⟨g, _⟩
      · refine wp_vE g ?_
        refine wp_eq (e131_4 _) ?_
        refine wp_cV (s_line (d := d + 48) (rain := false) (Or.inl rfl) hσ.2.1 hC.2.1 hC.2.2.1.1) (fun D1 h1 => ?_)
        have e4 : D1 25 4 = nI (lineN σ.2.1 σ.2.2.1 false σ.2.1.1).1 := h1.1
        have fr : ∀ q, 70 ≤ q → D1 q = D q := fun q hq => h1.2.2.2.2.1 q (by omega) (by omega) (by omega) (by omega)
        refine wp_eq (e131_8 _) ?_
        rw [e4]
        by_cases hl : (lineN σ.2.1 σ.2.2.1 false σ.2.1.1).1 ≤ n
        · rw [if_pos hl]
          exact wp_t (nI_le hl n3) (wp_cr (h1.ci hC) fr)
        · rw [if_neg hl]
          have e29 : D1 29 n = nI ((lineN σ.2.1 σ.2.2.1 false σ.2.1.1).2 n) := h1.2.2.1 n (by omega)
          rw [nI_clamp n3, e29]
          exact wp_f (nI_ge (by omega) (by omega)) (oG (by omega) (by decide) (wp_cr (h1.ci hC) fr))
      · exact absurd ix g
    · have hM0 := hM.th (v := 0) hn
      have h0 := ud_at D 70 0 0
      refine wp_eq (e267_0 _) ?_
      refine wp_iE m_within ?_
      rw [if_pos ix]
      refine wp_eq (e267_8 _ _) ?_
      refine wp_iE ((m_right h0 (by decide)).1 (by decide)) ?_
      refine wp_eq (e267_10 _ _) (wp_t (by decide) ?_)
      refine wp_cV (s_asks (d := d + 46) (b := 0) (rain := false) (Or.inl rfl) hσ.2.1 hM0.2.1 hM0.2.2.1 hO.v hσ.2.2.1.bz hM0.2.2.2.2.2.2) (fun D1 h1 => ?_)
      have fin : ∀ r, Wp (some (.inl (some (.int r)), hS u D1 J)) (MR σ D u J r 0) := fun r => wp_mr (h1.mi hM0 hn) (by rw [h1.2.1 0 (by decide)]; exact h0) (fun q hq => by rw [h1.2.2.2.2 q (by omega) (by omega), ud_q (by omega)])
      refine wp_eq (e267_16 _) ?_
      rw [h1.1]
      by_cases hl : (lineN σ.2.1 σ.2.2.1 false σ.2.1.1).1 ≤ n
      · rw [if_pos hl]
        exact wp_t (nI_le hl n3) (fin _)
      · rw [if_neg hl, nI_clamp n3, h1.2.2.1 n (by omega)]
        exact wp_f (nI_ge (by omega) (by omega)) (oG (by omega) (by decide) (fin _))
  · refine ⟨.inr 2, σ, hσ, fun u J D hC => ?_, fun u J D hM => ?_, by first | exact trivial | exact rfl | exact Or.inl rfl | exact Or.inr rfl⟩
    · refine wp_eq (e131_0 _) ?_
      rcases c_within (X := X) (d := d + 49) (u := u) (D := D) (J := J) (x := x) (a := 0) (b := 11) with ⟨g, _⟩ | ⟨_, g⟩
      · exact absurd g ix
      · exact wp_vT g (wp_ct hC (fun _ _ => rfl))
    · have hM0 := hM.th (v := 0) hn
      have h0 := ud_at D 70 0 0
      refine wp_eq (e267_0 _) ?_
      refine wp_iE m_within ?_
      rw [if_neg ix]
      refine wp_eq (e267_8 _ _) ?_
      refine wp_iE ((m_right h0 (by decide)).2 rfl) ?_
      refine wp_eq (e267_10 _ _) (wp_f (by decide) ?_)
      exact wp_mr (hM0.th hn) (ud_at _ 70 0 1) (fun q hq => by rw [ud_q (by omega), ud_q (by omega)])
end MORE
