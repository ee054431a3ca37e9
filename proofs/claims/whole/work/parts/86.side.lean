/-! ===== beside, together ===== -/
def apI (x y : Int32) : Int32 := if y ≤ x then x - y else y - x
def inN (a b : Int32) : Bool := decide (¬ pewO a = -1) && decide (pewO a = pewO b)
def bsB (a b : Int32) : Bool := inN a b && decide (apI (seatO a) (seatO b) = 1)
theorem ab144 : ∀ s, s < 144 → ∀ t, t < 144 → s / 12 = t / 12 → ((if 0 ≤ nI s - nI t then nI s - nI t else 0 - (nI s - nI t)) = 1 ↔ apI (nI (s % 12)) (nI (t % 12)) = 1) := by decide +kernel
theorem bs_self (a : Int32) : bsB a a = false := by
  unfold bsB apI
  rw [if_pos (Int32.le_refl _), Int32.sub_self]
  simp
theorem inN_T {a b : Int32} (h1 : ¬ pewO a = -1) (h2 : pewO a = pewO b) : inN a b = true := by
  unfold inN; rw [decide_eq_true h1, decide_eq_true h2]; rfl
theorem inN_F1 {a b : Int32} (h1 : pewO a = -1) : inN a b = false := by
  unfold inN; rw [decide_eq_false (fun z => z h1)]; rfl
theorem inN_F2 {a b : Int32} (h2 : ¬ pewO a = pewO b) : inN a b = false := by
  unfold inN; rw [decide_eq_false h2, Bool.and_false]
section SIDE
variable {X : XS} {d u : Nat} {D D1 : DD} {J : JJ} {σ : Sg} {ρ : Ru} {c : Cc} {K : Nat}
theorem m_inOne {b p q : Nat} (hb : isB b) (hn : ρ.1 ≤ 12) (hr : RowM b ρ c (D 78)) (hp : p < ρ.1) (hq : q < ρ.1) : EvM X d 253 [.ref 70, .int (nI b), .int (nI p), .int (nI q)] (hS u D J) = some (.inl (some (.int (bI32 (inN (c p) (c q))))), hS u D J) := by
  have hbl := isB_le hb
  refine (e253_0 (nI b) (nI p) (nI q)).trans ?_
  rw [ix3, ix3, nI_clamp (by omega), nI_clamp (by omega), (hr.2 p hp).2.1, (hr.2 q hq).2.1, gd_t (ob_n (by omega) (by decide)), gd_t (ob_n (by omega) (by decide)), gd_t (ob_n (by omega) (by decide))]
  by_cases h1 : pewO (c p) = -1
  · rw [brT h1, inN_F1 h1]; rfl
  · rw [brF h1]
    by_cases h2 : pewO (c p) = pewO (c q)
    · rw [brF (fun z => z h2), inN_T h1 h2]; rfl
    · rw [brT h2, inN_F2 h2]; rfl
theorem s_apart {x y : Int32} : EvM X d 175 [.int x, .int y] (hS u D J) = some (.inl (some (.int (apI x y))), hS u D J) := by
  refine (e175_0 x y).trans ?_
  unfold apI
  by_cases h : y ≤ x
  · rw [brT h, if_pos h]
  · rw [brF h, if_neg h]
theorem m_side {b p q : Nat} (hb : isB b) (hn : ρ.1 ≤ 12) (hr : RowM b ρ c (D 78)) (hp : p < ρ.1) (hq : q < ρ.1) : EvM X (d + 1) 254 [.ref 70, .int (nI b), .int (nI p), .int (nI q)] (hS u D J) = some (.inl (some (.int (bI32 (bsB (c p) (c q))))), hS u D J) := by
  have hbl := isB_le hb
  refine wp_eqI ?_
  refine wp_eq (e254_0 _ _ _) ?_
  refine wp_iE (m_inOne hb hn hr hp hq) ?_
  refine wp_eq (e254_5 _ _ _ _) ?_
  cases hi : inN (c p) (c q) with
  | false => exact wp_t rfl (wp_rI ⟨by unfold bsB; rw [hi]; rfl, rfl⟩)
  | true =>
    refine wp_f (by decide) ?_
    have t1 := (hr.2 p hp).2.2.1 (by omega)
    have t2 := (hr.2 q hq).2.2.1 (by omega)
    rw [ix3, ix3, nI_clamp (by omega), nI_clamp (by omega), t1, t2]
    refine oG (by omega) (by decide) (oG (by omega) (by decide) ?_)
    refine wp_iE s_apart ?_
    refine wp_eq (e254_23 _ _ _ _) (wp_if (fun h => wp_rI ⟨?_, rfl⟩) (fun h => wp_rI ⟨?_, rfl⟩))
    · unfold bsB; rw [hi, decide_eq_false h]; rfl
    · unfold bsB; rw [hi, decide_eq_true (Classical.not_not.mp h)]; rfl
theorem c_beside {n p q : Nat} (hF : FutK ρ c K D) (hn : n ≤ K) (hp : p < 12) (hq : q < 12) (vp : sunK ρ c n p = -1 ∨ ∃ s, s < 144 ∧ sunK ρ c n p = nI s) (vq : sunK ρ c n q = -1 ∨ ∃ s, s < 144 ∧ sunK ρ c n q = nI s) : EvM X (d + 1) 18 [.ref 37, .int (nI n), .int (nI p), .int (nI q)] (hS u D J) = some (.inl (some (.int (bI32 (bsB (sunK ρ c n p) (sunK ρ c n q))))), hS u D J) := by
  have hK := hF.1
  refine wp_eqI ?_
  refine wp_eq (e18_0 _ _ _) ?_
  rw [lw n p, lw n q, nI_clamp (by omega), nI_clamp (by omega), (hF.2.2.1 n hn p hp).1, (hF.2.2.1 n hn q hq).1]
  refine oG (by omega) (by decide) (oG (by omega) (by decide) ?_)
  rcases vp with h1 | ⟨s, s1, h1⟩
  · refine wp_t h1 (wp_rI ⟨?_, rfl⟩)
    unfold bsB; rw [h1, inN_F1 pewO_1.1]; rfl
  · rw [h1]
    refine wp_f (n144 s s1).2.2.2.1 ?_
    have e1 := pewO_s s1
    rcases vq with h2 | ⟨t, t1, h2⟩
    · refine wp_t h2 (wp_rI ⟨?_, rfl⟩)
      unfold bsB
      rw [h2, inN_F2 (by rw [e1.1, pewO_1.1]; exact nI_ne1 (by omega))]; rfl
    · rw [h2]
      have e2 := pewO_s t1
      refine wp_f (n144 t t1).2.2.2.1 ?_
      refine wp_iE c_pewOf ?_
      refine wp_eq (e18_26 _ _ _ _ _ _) ?_
      refine wp_iE c_pewOf ?_
      refine wp_eq (e18_28 _ _ _ _ _ _ _) ?_
      refine wp_if (fun h => wp_rI ⟨?_, rfl⟩) (fun h => ?_)
      · unfold bsB; rw [inN_F2 h]; rfl
      · have h := Classical.not_not.mp h
        have hst : s / 12 = t / 12 := by
          rw [e1.1, e2.1] at h
          exact nI_inj (by omega) (by omega) h
        have hi : inN (nI s) (nI t) = true := inN_T (by rw [e1.1]; exact nI_ne1 (by omega)) h
        have key := ab144 s s1 t t1 hst
        rw [← e1.2, ← e2.2] at key
        refine wp_if (fun h3 => wp_rI ⟨?_, rfl⟩) (fun h3 => wp_rI ⟨?_, rfl⟩)
        · unfold bsB; rw [hi, decide_eq_false (fun z => h3 (key.mpr z))]; rfl
        · unfold bsB; rw [hi, decide_eq_true (key.mp (Classical.not_not.mp h3))]; rfl
theorem p_beside {x y : Int32} (hσ : SgOk σ) : PairI σ (fun u J D => EvM X (d + 50) 126 [.ref 0, .int x, .int y] (hS u D J)) (fun u J D => EvM X (d + 50) 255 [.ref 70, .int x, .int y] (hS u D J)) nI xA := by
  have hn := hσ.2.1.1.1
  have h31 : σ.2.1.1 < 2 ^ 31 := by omega
  have hg := Good.sunK hσ.2.1.1 hσ.2.2.1
  by_cases hx : isPe σ.2.1.1 x ∧ isPe σ.2.1.1 y
  · obtain ⟨ix, iy⟩ := hx
    obtain ⟨p, p1, rfl⟩ := id ix
    obtain ⟨q, q1, rfl⟩ := id iy
    refine ⟨.inl (whoA (findN (fun k => bsB (sunK σ.2.1 σ.2.2.1 k p) (sunK σ.2.1 σ.2.2.1 k q)) 101 0)), σ, hσ, fun u J D hC => ?_, fun u J D hM => ?_, by first | exact trivial | exact rfl | exact Or.inl rfl | exact Or.inr rfl⟩
    · refine wp_eq (e126_0 _ _) ?_
      rcases c_pers (X := X) (d := d + 49) (u := u) (J := J) (x := nI p) h31 hC.2.1.1 with ⟨_, g⟩ | ⟨g, _⟩
      · refine wp_vE g ?_
        refine wp_eq (e126_3 _ _) ?_
        rcases c_pers (X := X) (d := d + 49) (u := u) (J := J) (x := nI q) h31 hC.2.1.1 with ⟨_, g⟩ | ⟨g, _⟩
        · refine wp_vE g ?_
          refine wp_eq (e126_6 _ _) ?_
          have main : ∀ (r k : Nat) (D1 : DD), k + r = 101 → CI σ D1 → FrF D D1 → Wp (Ev X (d + 50) 126 (8, [.ref 0, .int (nI p), .int (nI q), .int (nI k)], [], hS u D1 J)) (CR σ D u J (.inl (whoA (findN (fun k => bsB (sunK σ.2.1 σ.2.2.1 k p) (sunK σ.2.1 σ.2.2.1 k q)) r k)))) := by
            intro r
            induction r with
            | zero =>
              intro k D1 hk hC1 hf
              exact wp_eq (e126_8 _ _ _) (wp_t (nI_lt (a := 100) (by omega) (by omega)) (wp_cr hC1 (fun q hq => hf.1 q (by omega) (by omega))))
            | succ r ih =>
              intro k D1 hk hC1 hf
              refine wp_eq (e126_8 _ _ _) (wp_f (Int32.not_lt.mpr (nI_le (b := 100) (by omega) (by decide))) ?_)
              refine wp_cV (c_reach (d := d + 44) hσ hC1 (show k ≤ 200 by omega)) (fun D2 h2 => ?_)
              obtain ⟨hC2, ⟨K, hK, hF⟩, hf2⟩ := h2
              refine wp_eq (e126_15 _ _ _) ?_
              refine wp_iE (c_beside (d := d + 48) hF hK (show p < 12 by omega) (show q < 12 by omega) ((hg k).1.v p p1) ((hg k).1.v q q1)) ?_
              refine wp_eq (e126_21 _ _ _ _) ?_
              rw [findN]
              cases hb : bsB (sunK σ.2.1 σ.2.2.1 k p) (sunK σ.2.1 σ.2.2.1 k q) with
              | false =>
                rw [if_neg (by decide), nI_1]
                exact wp_t rfl (ih (k + 1) D2 (by omega) hC2 (hf.tr hf2))
              | true =>
                rw [if_pos rfl]
                exact wp_f (by decide) (wp_cr hC2 (fun q hq => (hf.tr hf2).1 q (by omega) (by omega)))
          exact main 101 0 D rfl hC ⟨fun _ _ _ => rfl, fun _ _ _ => rfl⟩
        · exact absurd iy g
      · exact absurd ix g
    · have hM0 := hM.th (v := 0) hn
      have h0 := ud_at D 70 0 0
      refine wp_eq (e255_0 _ _) ?_
      refine wp_iE ((m_pers (X := X) (d := d + 48) (u := u) (J := J) (x := nI p) h31 hM0.2.1.1 h0).1 ix) ?_
      refine wp_eq (e255_6 _ _ _) (wp_f (by decide) ?_)
      refine wp_iE ((m_pers (X := X) (d := d + 48) (u := u) (J := J) (x := nI q) h31 hM0.2.1.1 h0).1 iy) ?_
      refine wp_eq (e255_10 _ _ _) (wp_t (by decide) ?_)
      refine wp_cV (m_try0 hn hM0.2.2.1) (fun D1 h1 => ?_)
      refine wp_eq (e255_15 _ _) ?_
      by_cases hpq : p = q
      · subst hpq
        have e : findN (fun k => bsB (sunK σ.2.1 σ.2.2.1 k p) (sunK σ.2.1 σ.2.2.1 k p)) 101 0 = none := find_none (fun j _ _ => bs_self _)
        rw [e]
        exact wp_eq (e255_17 _ _ _) (wp_f (by decide) (wp_t rfl (h1.fin hM0 hn)))
      · have main : ∀ (r k : Nat) (D1 : DD), k + r = 101 → GoM σ.2.1 σ.2.2.1 k (ud D 70 0 0) D1 → Wp (Ev X (d + 50) 255 (17, [.ref 70, .int (nI p), .int (nI q), .int (nI k)], [], hS u D1 J)) (MR σ D u J (whoA (findN (fun k => bsB (sunK σ.2.1 σ.2.2.1 k p) (sunK σ.2.1 σ.2.2.1 k q)) r k)) 0) := by
          intro r
          induction r with
          | zero =>
            intro k D1 hk h1
            exact wp_eq (e255_17 _ _ _) (wp_t (nI_lt (a := 100) (by omega) (by omega)) (h1.fin hM0 hn))
          | succ r ih =>
            intro k D1 hk h1
            refine wp_eq (e255_17 _ _ _) (wp_f (Int32.not_lt.mpr (nI_le (b := 100) (by omega) (by decide))) (wp_f (fun z => hpq (nI_inj (by omega) (by omega) z)) ?_))
            refine wp_iE (m_side (d := d + 48) (b := 85) (Or.inr rfl) hn h1.1 p1 q1) ?_
            refine wp_eq (e255_28 _ _ _ _) ?_
            rw [findN]
            cases hb : bsB (sunK σ.2.1 σ.2.2.1 k p) (sunK σ.2.1 σ.2.2.1 k q) with
            | false =>
              rw [if_neg (by decide)]
              refine wp_t rfl ?_
              refine wp_cV (m_step (d := d + 43) hσ.2.1 hσ.2.2.1 hM0.2.1 hM0.2.2.2.2.2.2 h1) (fun D2 h2 => ?_)
              refine wp_eq (e255_34 _ _ _) ?_
              rw [nI_1]
              exact ih (k + 1) D2 (by omega) h2
            | true =>
              rw [if_pos rfl]
              exact wp_f (by decide) (h1.fin hM0 hn)
        exact main 101 0 D1 rfl h1
  · refine ⟨.inr 1, σ, hσ, fun u J D hC => ?_, fun u J D hM => ?_, by first | exact trivial | exact rfl | exact Or.inl rfl | exact Or.inr rfl⟩
    · refine wp_eq (e126_0 _ _) ?_
      rcases c_pers (X := X) (d := d + 49) (u := u) (J := J) (x := x) h31 hC.2.1.1 with ⟨h1, g2⟩ | ⟨_, g2⟩
      · refine wp_vE g2 ?_
        refine wp_eq (e126_3 _ _) ?_
        rcases c_pers (X := X) (d := d + 49) (u := u) (J := J) (x := y) h31 hC.2.1.1 with ⟨h2, _⟩ | ⟨_, g2⟩
        · exact absurd ⟨h1, h2⟩ hx
        · exact wp_vT g2 (wp_ct hC (fun _ _ => rfl))
      · exact wp_vT g2 (wp_ct hC (fun _ _ => rfl))
    · have hM0 := hM.th (v := 0) hn
      have h0 := ud_at D 70 0 0
      refine wp_eq (e255_0 _ _) ?_
      by_cases ix : isPe σ.2.1.1 x
      · refine wp_iE ((m_pers (X := X) (d := d + 48) (u := u) (J := J) (x := x) h31 hM0.2.1.1 h0).1 ix) ?_
        refine wp_eq (e255_6 _ _ _) (wp_f (by decide) ?_)
        refine wp_iE ((m_pers (X := X) (d := d + 48) (u := u) (J := J) (x := y) h31 hM0.2.1.1 h0).2 (fun z => hx ⟨ix, z⟩)) ?_
        refine wp_eq (e255_10 _ _ _) (wp_f (by decide) ?_)
        exact wp_mr (hM0.th hn) (ud_at _ 70 0 1) (fun q hq => by rw [ud_q (by omega), ud_q (by omega)])
      · refine wp_iE ((m_pers (X := X) (d := d + 48) (u := u) (J := J) (x := x) h31 hM0.2.1.1 h0).2 ix) ?_
        refine wp_eq (e255_6 _ _ _) (wp_t rfl ?_)
        exact wp_mr (hM0.th hn) (ud_at _ 70 0 1) (fun q hq => by rw [ud_q (by omega), ud_q (by omega)])
end SIDE
