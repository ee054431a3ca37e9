/-! ===== the law's loop (printed by wip/gen/law.py) ===== -/
theorem law_1 {X : XS} {u : Nat} {D : DD} {J : JJ} {σ : Sg} {x4 : Int32} {Q : Rs → Prop} (hch : ChP X) (hσ : SgOk σ) (hC : CI σ D) (hM : MI σ D) (hl : ¬ (Int32.ofNat X.2) - 6 < x4) (o0 : ob x4 X.2 = true) (o1 : ob (x4 + 1) X.2 = true) (o2 : ob (x4 + 2) X.2 = true) (o3 : ob (x4 + 3) X.2 = true) (o4 : ob (x4 + 4) X.2 = true) (o5 : ob (x4 + 5) X.2 = true) (hQ : NxQ X u x4 Q) : Wp (Ev X 60 333 (13, [.ref 900000, .ref 0, .ref 70, .ref 95, .int x4, .null, .null], [], hS u D J)) Q := by
  refine wp_eq (e333_13 _) (wp_f hl (wp_gd o0 ?_))
  refine wp_if (fun _ => arm_0 hσ hC hM o1 o2 o3 o4 o5 hQ) (fun _ => ?_)
  refine wp_if (fun _ => arm_1 hch hσ hC hM o1 o2 o3 o4 o5 hQ) (fun _ => ?_)
  refine wp_if (fun _ => arm_2 hσ hC hM o1 o2 o3 o4 o5 hQ) (fun _ => ?_)
  refine wp_if (fun _ => arm_3 hσ hC hM o1 o2 o3 o4 o5 hQ) (fun _ => ?_)
  refine wp_if (fun _ => arm_4 hσ hC hM o1 o2 o3 o4 o5 hQ) (fun _ => ?_)
  refine wp_if (fun _ => arm_5 hσ hC hM o1 o2 o3 o4 o5 hQ) (fun _ => ?_)
  refine wp_if (fun _ => arm_6 hσ hC hM o1 o2 o3 o4 o5 hQ) (fun _ => ?_)
  refine wp_if (fun _ => arm_7 hσ hC hM o1 o2 o3 o4 o5 hQ) (fun _ => ?_)
  refine wp_if (fun _ => arm_8 hσ hC hM o1 o2 o3 o4 o5 hQ) (fun _ => ?_)
  refine wp_if (fun _ => arm_9 hσ hC hM o1 o2 o3 o4 o5 hQ) (fun _ => ?_)
  refine wp_if (fun _ => arm_10 hσ hC hM o1 o2 o3 o4 o5 hQ) (fun _ => ?_)
  refine wp_if (fun _ => arm_11 hσ hC hM o1 o2 o3 o4 o5 hQ) (fun _ => ?_)
  refine wp_if (fun _ => arm_12 hσ hC hM o1 o2 o3 o4 o5 hQ) (fun _ => ?_)
  refine wp_if (fun _ => arm_13 hσ hC hM o1 o2 o3 o4 o5 hQ) (fun _ => ?_)
  refine wp_if (fun _ => arm_14 hσ hC hM o1 o2 o3 o4 o5 hQ) (fun _ => ?_)
  refine wp_if (fun _ => arm_15 hσ hC hM o1 o2 o3 o4 o5 hQ) (fun _ => ?_)
  refine wp_if (fun _ => arm_16 hσ hC hM o1 o2 o3 o4 o5 hQ) (fun _ => ?_)
  refine wp_if (fun _ => arm_17 hσ hC hM o1 o2 o3 o4 o5 hQ) (fun _ => ?_)
  refine wp_if (fun _ => arm_18 hσ hC hM o1 o2 o3 o4 o5 hQ) (fun _ => ?_)
  refine wp_if (fun _ => arm_19 hσ hC hM o1 o2 o3 o4 o5 hQ) (fun _ => ?_)
  refine wp_if (fun _ => arm_20 hσ hC hM o1 o2 o3 o4 o5 hQ) (fun _ => ?_)
  refine wp_if (fun _ => arm_21 hσ hC hM o1 o2 o3 o4 o5 hQ) (fun _ => ?_)
  refine wp_if (fun _ => arm_22 hσ hC hM o1 o2 o3 o4 o5 hQ) (fun _ => ?_)
  refine wp_if (fun _ => arm_23 hσ hC hM o1 o2 o3 o4 o5 hQ) (fun _ => ?_)
  refine wp_if (fun _ => arm_24 hσ hC hM o1 o2 o3 o4 o5 hQ) (fun _ => ?_)
  refine wp_if (fun _ => arm_25 hσ hC hM o1 o2 o3 o4 o5 hQ) (fun _ => ?_)
  refine wp_if (fun _ => arm_26 hσ hC hM o1 o2 o3 o4 o5 hQ) (fun _ => ?_)
  refine wp_if (fun _ => arm_27 hσ hC hM o1 o2 o3 o4 o5 hQ) (fun _ => ?_)
  refine wp_if (fun _ => arm_28 hσ hC hM o1 o2 o3 o4 o5 hQ) (fun _ => ?_)
  refine wp_if (fun _ => arm_29 hσ hC hM o1 o2 o3 o4 o5 hQ) (fun _ => ?_)
  refine wp_if (fun _ => arm_30 hσ hC hM o1 o2 o3 o4 o5 hQ) (fun _ => ?_)
  refine wp_if (fun _ => arm_31 hσ hC hM o1 o2 o3 o4 o5 hQ) (fun _ => ?_)
  refine wp_if (fun _ => arm_32 hσ hC hM o1 o2 o3 o4 o5 hQ) (fun _ => ?_)
  refine wp_if (fun _ => arm_33 hσ hC hM o1 o2 o3 o4 o5 hQ) (fun _ => ?_)
  refine wp_if (fun _ => arm_34 hσ hC hM o1 o2 o3 o4 o5 hQ) (fun _ => ?_)
  refine wp_if (fun _ => arm_35 hσ hC hM o1 o2 o3 o4 o5 hQ) (fun _ => ?_)
  refine wp_if (fun _ => arm_36 hσ hC hM o1 o2 o3 o4 o5 hQ) (fun _ => ?_)
  refine wp_if (fun _ => arm_37 hσ hC hM o1 o2 o3 o4 o5 hQ) (fun _ => ?_)
  refine wp_if (fun _ => arm_38 hσ hC hM o1 o2 o3 o4 o5 hQ) (fun _ => ?_)
  refine wp_if (fun _ => arm_39 hσ hC hM o1 o2 o3 o4 o5 hQ) (fun _ => ?_)
  refine wp_if (fun _ => arm_40 hσ hC hM o1 o2 o3 o4 o5 hQ) (fun _ => ?_)
  refine wp_if (fun _ => arm_41 hσ hC hM o1 o2 o3 o4 o5 hQ) (fun _ => ?_)
  refine wp_if (fun _ => arm_42 hσ hC hM o1 o2 o3 o4 o5 hQ) (fun _ => ?_)
  refine wp_if (fun _ => arm_43 hσ hC hM o1 o2 o3 o4 o5 hQ) (fun _ => ?_)
  exact hQ σ u D J hσ (Nat.le_succ _) hC hM
theorem lim6 : ∀ L, L < 6 → nI L - 6 < 0 := by decide
theorem law_n {X : XS} {D : DD} {J : JJ} {σ : Sg} (hch : ChP X) (hL : X.2 ≤ 3072) (hσ : SgOk σ) (hC : CI σ D) (hM : MI σ D) : Wp (Ev X 60 333 (13, [.ref 900000, .ref 0, .ref 70, .ref 95, .int 0, .null, .null], [], hS 0 D J)) (fun y => ∃ u D' J', u ≤ 512 ∧ y = (.inl (some (.int 1)), hS u D' J')) := by
  have hof : Int32.ofNat X.2 = nI X.2 := rfl
  refine wp_loop (R := fun i (z : Nat × DD × JJ) => Ev X 60 333 (13, [.ref 900000, .ref 0, .ref 70, .ref 95, .int (nI (6 * i)), .null, .null], [], hS z.1 z.2.1 z.2.2)) (fun i (z : Nat × DD × JJ) => z.1 ≤ i ∧ ∃ σ : Sg, SgOk σ ∧ CI σ z.2.1 ∧ MI σ z.2.1) (X.2 / 6) ?_ ?_ 0 (0, D, J) (Nat.zero_le _) ⟨Nat.le_refl _, σ, hσ, hC, hM⟩
  · intro i ⟨u, D1, J1⟩ hi ⟨i1, σ1, s1, s2, s3⟩ ih
    have ob6 : ∀ k, k < 6 → ob (nI (6 * i + k)) X.2 = true := fun k hk => ob_n (by omega) (by omega)
    refine law_1 hch s1 s2 s3 ?_ (ob6 0 (by decide)) ?_ ?_ ?_ ?_ ?_ (fun σ' u' D' J' t1 t2 t3 t4 => ?_)
    · rw [hof, show nI X.2 - 6 = nI (X.2 - 6) from nI_sub (b := 6) (by omega)]
      exact Int32.not_lt.mpr (nI_le (by omega) (by omega))
    · rw [lk]; exact ob6 1 (by decide)
    · rw [lk]; exact ob6 2 (by decide)
    · rw [lk]; exact ob6 3 (by decide)
    · rw [lk]; exact ob6 4 (by decide)
    · rw [lk]; exact ob6 5 (by decide)
    · refine wp_eq (e333_1712 _) ?_
      have e6 : nI (6 * i) + 6 = nI (6 * (i + 1)) := by rw [lk]; congr 1
      rw [e6]
      exact ih (u', D', J') ⟨by show u' ≤ i + 1; have : u ≤ i := i1; omega, σ', t1, t3, t4⟩
  · intro ⟨u, D1, J1⟩ ⟨i1, _⟩
    have hu : u ≤ X.2 / 6 := i1
    refine wp_eq (e333_13 _) (wp_t ?_ (wp_eq (e333_1714 _) ⟨_, rfl, u, D1, J1, by omega, rfl⟩))
    rw [hof]
    by_cases h6 : X.2 < 6
    · exact Int32.lt_of_lt_of_le (lim6 _ h6) (nI_pos' (by omega))
    · rw [show nI X.2 - 6 = nI (X.2 - 6) from nI_sub (b := 6) (by omega)]
      exact nI_lt (by omega) (by omega)
