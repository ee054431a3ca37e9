/-! ===== old, look: the reference, the pairs ===== -/
def FrB (D D' : DD) : Prop := (∀ q, q ≠ 70 → q ≠ 78 → q < 80 ∨ (84 < q ∧ q ≠ 90) → D' q = D q) ∧ (∀ i, i < 85 ∨ 170 ≤ i → D' 78 i = D 78 i) ∧ ∀ k, k ≠ 40 → k ≠ 41 → k ≠ 42 → k ≠ 46 → D' 70 k = D 70 k
theorem FrM.b {D D' : DD} (h : FrM 85 D D') : FrB D D' := ⟨fun q a b c => h.1 q a b (by omega), fun i hi => h.2.1 i (by omega), h.2.2⟩
theorem FrB.rf (D : DD) : FrB D D := ⟨fun _ _ _ _ => rfl, fun _ _ => rfl, fun _ _ _ _ _ => rfl⟩
theorem FrB.tr {A B C : DD} (h1 : FrB A B) (h2 : FrB B C) : FrB A C := ⟨fun q a b c => (h2.1 q a b c).trans (h1.1 q a b c), fun i a => (h2.2.1 i a).trans (h1.2.1 i a), fun k a b c e => (h2.2.2 k a b c e).trans (h1.2.2 k a b c e)⟩
def FrC (D D' : DD) : Prop := (∀ q, q ≠ 70 → q ≠ 78 → q < 80 ∨ (84 < q ∧ q ≠ 90 ∧ q ≠ 91) → D' q = D q) ∧ (∀ i, i < 85 ∨ 170 ≤ i → D' 78 i = D 78 i) ∧ ∀ k, k ≠ 40 → k ≠ 41 → k ≠ 42 → k ≠ 46 → D' 70 k = D 70 k
theorem FrB.c {D D' : DD} (h : FrB D D') : FrC D D' := ⟨fun q a b c => h.1 q a b (by omega), h.2.1, h.2.2⟩
theorem FrC.rf (D : DD) : FrC D D := ⟨fun _ _ _ _ => rfl, fun _ _ => rfl, fun _ _ _ _ _ => rfl⟩
theorem FrC.tr {A B C : DD} (h1 : FrC A B) (h2 : FrC B C) : FrC A C := ⟨fun q a b c => (h2.1 q a b c).trans (h1.1 q a b c), fun i a => (h2.2.1 i a).trans (h1.2.1 i a), fun k a b c e => (h2.2.2 k a b c e).trans (h1.2.2 k a b c e)⟩
theorem FrC.u9 {D : DD} {k : Nat} {v : Int32} : FrC D (ud D 91 k v) := ⟨fun a _ _ _ => ud_q (by omega), fun i _ => by rw [ud_q (by omega)], fun k _ _ _ _ => by rw [ud_q (by omega)]⟩
theorem FrB.u78 {D : DD} {k : Nat} {v : Int32} (h : 85 ≤ k) (h2 : k < 170) : FrB D (ud D 78 k v) := ⟨fun q _ a _ => ud_q a, fun i hi => ud_k (by omega), fun k _ _ _ _ => by rw [ud_q (by decide)]⟩
section OLDP
variable {X : XS} {d u : Nat} {D D1 : DD} {J : JJ} {σ : Sg} {ρ : Ru} {c : Cc} {l : List Sn} {n : Nat}
theorem FrB.mi (h : FrB D D1) (hM : MI σ D) (hn : σ.2.1.1 ≤ 12) : MI σ D1 :=
  hM.mv (fun k k1 k2 k3 => h.2.2 k (by omega) (by omega) (by omega) (by omega)) (fun i hi => h.2.1 i (by omega)) (fun q hq => h.1 q (by omega) (by omega) (by omega)) hn
theorem FrB.fin {r : Int32} (hM0 : MI σ (ud D 70 0 0)) (hn : σ.2.1.1 ≤ 12) (h1 : FrB (ud D 70 0 0) D1) : Wp (some (.inl (some (.int r)), hS u D1 J)) (MR σ D u J r 0) :=
  wp_mr (h1.mi hM0 hn) (by rw [h1.2.2 0 (by decide) (by decide) (by decide) (by decide)]; exact ud_at D 70 0 0) (fun q hq => by rw [h1.1 q (by omega) (by omega) (by omega), ud_q (by omega)])
theorem FrC.mi (h : FrC D D1) (hM : MI σ D) (hn : σ.2.1.1 ≤ 12) : MI σ D1 :=
  hM.mv (fun k k1 k2 k3 => h.2.2 k (by omega) (by omega) (by omega) (by omega)) (fun i hi => h.2.1 i (by omega)) (fun q hq => h.1 q (by omega) (by omega) (by omega)) hn
theorem FrC.fin {r : Int32} (hM0 : MI σ (ud D 70 0 0)) (hn : σ.2.1.1 ≤ 12) (h1 : FrC (ud D 70 0 0) D1) : Wp (some (.inl (some (.int r)), hS u D1 J)) (MR σ D u J r 0) :=
  wp_mr (h1.mi hM0 hn) (by rw [h1.2.2 0 (by decide) (by decide) (by decide) (by decide)]; exact ud_at D 70 0 0) (fun q hq => by rw [h1.1 q (by omega) (by omega) (by omega), ud_q (by omega)])
theorem l3 (j : Nat) : (3 : Int32) * nI j = nI (3 * j) := by
  have : (3 : Int32) = nI 3 := rfl
  rw [this, nI_mul]
theorem m_seen {s : Cc} {k : Nat} {Q : Rs → Prop} (hn : ρ.1 ≤ 12) (h51 : D 70 51 = nI l.length) (hl : l.length ≤ 8) (hs : SeesM l (D 89)) (hb : ∀ e ∈ l, e.1 < ρ.1 ∧ e.2.1 ≤ 20 ∧ e.2.2 < 12) (hr : RowM 85 ρ s (D 78)) (hk : k ≤ 20) (h0 : soK l s k = false → Wp (some (.inl (some (.int 0)), hS u D J)) Q) (h1 : soK l s k = true → Wp (Ev X d 282 (45, [.ref 70, .int (nI k), .int (nI l.length)], [], hS u D J)) Q) : Wp (Ev X d 282 (7, [.ref 70, .int (nI k), .int 0], [], hS u D J)) Q := by
  have main : ∀ (r j : Nat), j + r = l.length → (soK (l.drop j) s k = false → soK l s k = false) → (soK (l.drop j) s k = true → soK l s k = true) → Wp (Ev X d 282 (7, [.ref 70, .int (nI k), .int (nI j)], [], hS u D J)) Q := by
    intro r
    induction r with
    | zero =>
      intro j hj g0 g1
      refine wp_eq (e282_7 _ _) ?_
      rw [h51]
      have : j = l.length := by omega
      subst this
      exact wp_t (nI_le (Nat.le_refl _) (by omega)) (h1 (g1 (by rw [List.drop_of_length_le (Nat.le_refl _)]; rfl)))
    | succ r ih =>
      intro j hj g0 g1
      have hjl : j < l.length := by omega
      have ed : l.drop j = l.getD j (0, 0, 0) :: l.drop (j + 1) := by
        rw [getD_el hjl]; exact List.drop_eq_getElem_cons hjl
      have hm : l.getD j (0, 0, 0) ∈ l := by
        rw [getD_el hjl]; exact List.getElem_mem hjl
      obtain ⟨b1, b2, b3⟩ := hb _ hm
      obtain ⟨s1, s2, s3⟩ := hs j hjl
      have hd : soK (l.drop j) s k = ((decide (¬ (l.getD j (0, 0, 0)).2.1 = k) || decide (pewO (s (l.getD j (0, 0, 0)).1) = nI (l.getD j (0, 0, 0)).2.2)) && soK (l.drop (j + 1)) s k) := by
        rw [ed]; rfl
      rw [hd] at g0 g1
      have next : (decide (¬ (l.getD j (0, 0, 0)).2.1 = k) || decide (pewO (s (l.getD j (0, 0, 0)).1) = nI (l.getD j (0, 0, 0)).2.2)) = true → Wp (Ev X d 282 (43, [.ref 70, .int (nI k), .int (nI j)], [], hS u D J)) Q := by
        intro ht
        rw [ht, Bool.true_and] at g0 g1
        refine wp_eq (e282_43 _ _) ?_
        rw [nI_1]
        exact ih (j + 1) (by omega) g0 g1
      obtain ⟨-, t2, -⟩ := hr.s hn b1
      have t2 : D 78 (98 + (l.getD j (0, 0, 0)).1) = pewO (s (l.getD j (0, 0, 0)).1) := t2
      refine wp_eq (e282_7 _ _) ?_
      rw [h51, l3, nI_1, lk]
      refine wp_f (nI_ge hjl (by omega)) ?_
      rw [nI_clamp (show 3 * j < 2 ^ 31 by omega), nI_clamp (show 3 * j + 1 < 2 ^ 31 by omega), nI_clamp (show 3 * j + 2 < 2 ^ 31 by omega), s1, s2, s3, la, nI_clamp (show 98 + (l.getD j (0, 0, 0)).1 < 2 ^ 31 by omega), t2]
      refine oG (by omega) (by decide) (wp_if (fun h => ?_) (fun h => ?_))
      · refine next ?_
        rw [decide_eq_true (show ¬ (l.getD j (0, 0, 0)).2.1 = k from fun z => h (by rw [z])), Bool.true_or]
      · have h := nI_inj (by omega) (by omega) (Classical.not_not.mp h)
        refine oG (by omega) (by decide) (oG (by omega) (by decide) (oG (by omega) (by decide) (wp_if (fun h2 => next ?_) (fun h2 => h0 (g0 ?_)))))
        · rw [decide_eq_true h2, Bool.or_true]
        · rw [decide_eq_false h2, decide_eq_false (show ¬ ¬ (l.getD j (0, 0, 0)).2.1 = k from fun z => z h)]; rfl
  exact main l.length 0 (by omega) (fun h => h) (fun h => h)
theorem m_282 (hR : RuOk ρ) (hG : Good ρ c) (hC : RulesM ρ D) (hra : D 70 43 = 0) (h51 : D 70 51 = nI l.length) (hl : l.length ≤ 8) (hs : SeesM l (D 89)) (hb : ∀ e ∈ l, e.1 < ρ.1 ∧ e.2.1 ≤ 20 ∧ e.2.2 < 12) (hr : RowM 85 ρ c (D 78)) : Wp (EvM X (d + 7) 282 [.ref 70] (hS u D J)) (RI u J (fun y D' => y = bI32 (soN ρ c l) ∧ (soN ρ c l = true → ∀ q, q < ρ.1 → D' 90 q = p12 (sunK ρ c 4 q)) ∧ FrB D D')) := by
  have hn := hR.1.1
  have hg := Good.sunK hR.1 hG
  have eso : soN ρ c l = allN (fun k => soK l (sunK ρ c k) k) 21 := so_all (fun e he => by have := (hb e he).2.1; omega)
  refine wp_eq e282_0 ?_
  refine wp_loop (R := fun k (D1 : DD) => Ev X (d + 7) 282 (2, [.ref 70, .int (nI k), .null], [], hS u D1 J)) (fun k (D1 : DD) => RowM 85 ρ (sunK ρ c k) (D1 78) ∧ (4 < k → ∀ q, q < ρ.1 → D1 90 q = p12 (sunK ρ c 4 q)) ∧ allN (fun k => soK l (sunK ρ c k) k) k = true ∧ FrB D D1) 21 ?_ ?_ 0 D (by decide) ⟨hr, fun h => by omega, rfl, FrB.rf D⟩
  · intro k D1 hk ⟨i1, i2, i3, i4⟩ ih
    refine wp_eq (e282_2 _) (wp_f (Int32.not_lt.mpr (nI_le (b := 20) (by omega) (by decide))) ?_)
    have hC1 : RulesM ρ D1 := hC.mv (fun k _ _ => i4.2.2 k (by omega) (by omega) (by omega) (by omega)) (i4.1 71 (by omega) (by omega) (by omega))
    have e51 : D1 70 51 = nI l.length := by rw [i4.2.2 51 (by decide) (by decide) (by decide) (by decide)]; exact h51
    have e89 : D1 89 = D 89 := i4.1 89 (by decide) (by decide) (by omega)
    refine m_seen hn e51 hl (by rw [e89]; exact hs) hb i1 (by omega) (fun hf => ?_) (fun ht => ?_)
    · refine wp_rI ⟨?_, fun z => ?_, i4⟩
      · have h1 : allN (fun k => soK l (sunK ρ c k) k) (k + 1) = false := by rw [allN, hf, Bool.and_false]
        rw [eso, all_F h1 (by omega)]; rfl
      · have h1 : allN (fun k => soK l (sunK ρ c k) k) (k + 1) = false := by rw [allN, hf, Bool.and_false]
        rw [eso, all_F h1 (by omega)] at z
        cases z
    · have hk1 : allN (fun k => soK l (sunK ρ c k) k) (k + 1) = true := by rw [allN, i3, ht]; rfl
      have sun : ∀ (D2 : DD) x2, RowM 85 ρ (sunK ρ c k) (D2 78) → (4 < k + 1 → ∀ q, q < ρ.1 → D2 90 q = p12 (sunK ρ c 4 q)) → FrB D D2 → Wp (Ev X (d + 7) 282 (64, [.ref 70, .int (nI k), .int x2], [], hS u D2 J)) (RI u J (fun y D' => y = bI32 (soN ρ c l) ∧ (soN ρ c l = true → ∀ q, q < ρ.1 → D' 90 q = p12 (sunK ρ c 4 q)) ∧ FrB D D')) := by
        intro D2 x2 a1 a2 a3
        have hC2 : RulesM ρ D2 := hC.mv (fun k _ _ => a3.2.2 k (by omega) (by omega) (by omega) (by omega)) (a3.1 71 (by omega) (by omega) (by omega))
        have e43 : D2 70 43 = bI32 false := by
          rw [a3.2.2 43 (by decide) (by decide) (by decide) (by decide)]; exact hra
        refine wp_eq (e282_64 _ _) ?_
        refine wp_cV (s_sunday (d := d) (b := 85) (rain := false) (Or.inr rfl) hR hC2 a1 (hg k).1.v (hg k).bz e43) (fun D3 h3 => ?_)
        obtain ⟨s1, -, -, -, s5⟩ := h3
        refine wp_eq (e282_67 _ _) ?_
        rw [nI_1]
        refine wp_weak (ls := [.ref 70, .int (nI (k + 1)), .null]) (by simp [lle, lng]) ?_
        exact ih D3 ⟨s1, fun h q hq => by rw [s5.1 90 (by decide) (by decide) (by omega)]; exact a2 h q hq, hk1, a3.tr s5.b⟩
      refine wp_eq (e282_45 _ _) ?_
      by_cases h4 : k = 4
      · subst h4
        refine wp_f (fun z => z rfl) ?_
        refine wp_loop (R := fun q (D2 : DD) => Ev X (d + 7) 282 (50, [.ref 70, .int (nI 4), .int (nI q)], [], hS u D2 J)) (fun q (D2 : DD) => (∀ r, r < q → D2 90 r = p12 (sunK ρ c 4 r)) ∧ ∀ r, r ≠ 90 → D2 r = D1 r) ρ.1 ?_ ?_ 0 D1 (Nat.zero_le _) ⟨fun r hr => absurd hr (Nat.not_lt_zero r), fun _ _ => rfl⟩
        · intro q D2 hq ⟨j1, j2⟩ ih2
          refine wp_eq (e282_50 _ _) ?_
          rw [j2 70 (by decide), hC1.1]
          refine wp_f (nI_ge hq (by omega)) ?_
          refine wp_iE (m_p12 (b := 85) (c := sunK ρ c 4) (Or.inr rfl) hn (by rw [j2 78 (by decide)]; exact i1) hq ((hg 4).1.v q hq)) ?_
          refine wp_eq (e282_61 _ _ _ _) ?_
          rw [nI_clamp (show q < 2 ^ 31 by omega)]
          refine oG (by omega) (by decide) (wp_eq (e282_62 _ _) ?_)
          rw [nI_1]
          refine ih2 _ ⟨fun r hr => ?_, fun r hr => by rw [ud_q hr]; exact j2 r hr⟩
          by_cases hrq : r = q
          · rw [hrq, ud_at]
          · rw [ud_k hrq]; exact j1 r (by omega)
        · intro D2 ⟨j1, j2⟩
          refine wp_eq (e282_50 _ _) ?_
          rw [j2 70 (by decide), hC1.1]
          refine wp_t (nI_le (Nat.le_refl _) (by omega)) (sun D2 _ (by rw [j2 78 (by decide)]; exact i1) (fun _ => j1) (i4.tr ⟨fun r _ _ h => j2 r (by omega), fun i _ => by rw [j2 78 (by decide)], fun k _ _ _ _ => by rw [j2 70 (by decide)]⟩))
      · refine wp_t (fun z => h4 (nI_inj (b := 4) (by omega) (by decide) z)) (sun D1 _ i1 (fun h => i2 (by omega)) i4)
  · intro D1 ⟨i1, i2, i3, i4⟩
    refine wp_eq (e282_2 _) (wp_t (nI_lt (a := 20) (b := 21) (by decide) (by decide)) (wp_eq (e282_69 _) (wp_rI ⟨?_, fun _ => i2 (by decide), i4⟩)))
    rw [eso, i3]; rfl
theorem m_283 {x : Nat} (hσ : SgOk σ) (hM : MI σ D) (hx : x < 100 * σ.2.1.1) : Wp (EvM X (d + 8) 283 [.ref 70, .int (nI x)] (hS u D J)) (RI u J (fun y D' => y = bI32 (gvB σ.2.1 σ.2.2.1 σ.2.2.2.2.1 x) ∧ (gvB σ.2.1 σ.2.2.1 σ.2.2.2.2.1 x = true → ∀ q, q < σ.2.1.1 → D' 90 q = p12 (sunK σ.2.1 (upd σ.2.2.1 (12 + x / 100) (nI (x % 100))) 4 q)) ∧ FrB D D')) := by
  have hn := hσ.2.1.1.1
  obtain ⟨hl8, hle⟩ := hσ.2.2.2.2.1
  have e1 : nI x / 100 = nI (x / 100) := nI_div (b := 100) (by omega) (by decide)
  have e2 : nI x - nI (x / 100) * 100 = nI (x % 100) := by rw [← e1]; exact nI_mod (b := 100) (by omega) (by decide)
  have hp : x / 100 < σ.2.1.1 := by omega
  obtain ⟨t1, -⟩ := hM.2.2.1.s hn hp
  rw [Nat.zero_add] at t1
  refine wp_eq (e283_0 _) ?_
  rw [e1, e2, la, nI_clamp (show 1 + x / 100 < 2 ^ 31 by omega), t1]
  by_cases h30 : x % 100 < 30
  · refine wp_f (Int32.not_lt.mpr (nI_le (b := 29) (by omega) (by decide))) (oG (by omega) (by decide) ?_)
    have hgv : gvB σ.2.1 σ.2.2.1 σ.2.2.2.2.1 x = gueN σ.2.1 σ.2.2.1 σ.2.2.2.2.1 (x / 100) (x % 100) := by
      unfold gvB guA
      rw [decide_eq_true h30, decide_eq_true hp]; rfl
    rw [hgv]
    unfold gueN
    refine wp_if (fun h => ?_) (fun h => ?_)
    · rw [decide_eq_true (show ¬ nI (x % 100) = σ.2.2.1 (12 + x / 100) from fun z => h z.symm), Bool.true_and]
      refine wp_cV (m_tries hn hM.2.2.1) (fun D1 h1 => ?_)
      obtain ⟨k1, k2, -, k4⟩ := h1
      have f1 : FrB D D1 := ⟨fun q q1 q2 q3 => k4 q q2 (by omega), fun i hi => k2 i (by omega), fun k _ _ _ _ => by rw [k4 70 (by decide) (by decide)]⟩
      refine wp_eq (e283_23 _ _) ?_
      rw [e1, e2, la, nI_clamp (show 86 + x / 100 < 2 ^ 31 by omega)]
      refine oG (by omega) (by decide) ?_
      have f2 : FrB D (ud D1 78 (86 + x / 100) (nI (x % 100))) := f1.tr (FrB.u78 (by omega) (by omega))
      have hM2 := f2.mi hM hn
      have hG2 : Good σ.2.1 (upd σ.2.2.1 (12 + x / 100) (nI (x % 100))) := hσ.2.2.1.set hn hp (Or.inl ⟨rfl, rfl⟩) (nI_pos (by omega)) (Int32.not_lt.mpr (nI_le (b := 29) (by omega) (by decide)))
      refine wp_cI (m_282 (d := d) hσ.2.1 hG2 hM2.2.1 hM2.2.2.2.2.2.2 hM2.2.2.2.2.1.1 hl8 hM2.2.2.2.2.1.2 hle (by rw [ud_row]; exact row_age (b := 85) hn k1 hp)) (fun y D3 h3 => ?_)
      obtain ⟨rfl, a2, a3⟩ := h3
      refine wp_eq (e283_34 _ _ _) (wp_gd ?_ (wp_rI ⟨rfl, a2, f2.tr a3⟩))
      cases soN σ.2.1 (upd σ.2.2.1 (12 + x / 100) (nI (x % 100))) σ.2.2.2.2.1 <;> rfl
    · rw [decide_eq_false (show ¬ ¬ nI (x % 100) = σ.2.2.1 (12 + x / 100) from fun z => h (fun w => z w.symm)), Bool.false_and]
      exact wp_rI ⟨rfl, fun z => (by cases z), FrB.rf D⟩
  · have hgv : gvB σ.2.1 σ.2.2.1 σ.2.2.2.2.1 x = false := by
      unfold gvB
      rw [decide_eq_false h30, Bool.false_and]
    rw [hgv]
    exact wp_t (nI_lt (a := 29) (by omega) (by omega)) (wp_rI ⟨rfl, fun z => (by cases z), FrB.rf D⟩)
noncomputable def oldA (σ : Sg) : Nat → Int32
  | 0 => nI (cntN (gvB σ.2.1 σ.2.2.1 σ.2.2.2.2.1) (100 * σ.2.1.1))
  | 1 => whoA (fsN (gvB σ.2.1 σ.2.2.1 σ.2.2.2.2.1) (100 * σ.2.1.1))
  | _ => bI32 (soN σ.2.1 σ.2.2.1 σ.2.2.2.2.1)
theorem l100 (j : Nat) : (100 : Int32) * nI j = nI (100 * j) := by
  have : (100 : Int32) = nI 100 := rfl
  rw [this, nI_mul]
theorem p_old {x : Int32} (hσ : SgOk σ) : PairI σ (fun u J D => EvM X (d + 50) 139 [.ref 0, .int x] (hS u D J)) (fun u J D => EvM X (d + 50) 284 [.ref 70, .int x] (hS u D J)) nI xA := by
  have hn := hσ.2.1.1.1
  obtain ⟨hl8, hle⟩ := hσ.2.2.2.2.1
  by_cases ix : ¬ x < 0 ∧ ¬ 2 < x
  · obtain ⟨j, -, j2, j3, rfl⟩ := nI_x (a := 0) (b := 2) (by decide) ix.1 ix.2
    refine ⟨.inl (oldA σ j), σ, hσ, fun u J D hC => ?_, fun u J D hM => ?_, by first | exact trivial | exact rfl | exact Or.inl rfl | exact Or.inr rfl⟩
    · refine wp_eq (e139_0 _) ?_
      rcases c_what (X := X) (d := d + 49) (u := u) (D := D) (J := J) (x := nI j) (k := 2) with ⟨_, g⟩ | ⟨g, _⟩
      · refine wp_vE g ?_
        refine wp_eq (e139_3 _) ?_
        by_cases hj2 : j = 2
        · subst hj2
          refine wp_f (fun z => z rfl) ?_
          refine wp_cI (c_22 (d := d + 45) (o := none) hσ hC (fun p a e => by cases e)) (fun y D2 h2 => ?_)
          obtain ⟨rfl, k1, k2⟩ := h2
          refine wp_eq (e139_11 _ _) ?_
          show Wp _ (CR σ D u J (.inl (bI32 (soN σ.2.1 (ageC σ.2.2.1 none) σ.2.2.2.2.1))))
          cases soN σ.2.1 (ageC σ.2.2.1 none) σ.2.2.2.2.1 with
          | true => exact wp_f (by decide) (wp_cr k1 (fun q hq => k2.1 q (by omega) (by omega)))
          | false => exact wp_t rfl (wp_cr k1 (fun q hq => k2.1 q (by omega) (by omega)))
        · refine wp_t (fun z => hj2 (nI_inj (b := 2) (by omega) (by decide) z)) ?_
          refine wp_cV (c_21 (d := d + 44) hσ hC) (fun D1 h1 => ?_)
          obtain ⟨k1, k2, k3⟩ := h1
          refine wp_eq (e139_19 _) ?_
          rcases (show j = 0 ∨ j = 1 by omega) with rfl | rfl
          · exact wp_f (fun z => z rfl) (wp_iE (c_24 (d := d + 48) k2 hn) (wp_eq (e139_24 _ _) (wp_eq (e139_28 _ _) (wp_cr k1 k3))))
          · exact wp_t (by decide) (wp_iE (c_25 (d := d + 48) k2 hn) (wp_eq (e139_28 _ _) (wp_cr k1 k3)))
      · exact absurd ix g
    · have hM0 := hM.th (v := 0) hn
      have h0 := ud_at D 70 0 0
      refine wp_eq (e284_0 _) ?_
      refine wp_iE ((m_what (d := d + 48) h0).1 ix) ?_
      refine wp_eq (e284_7 _ _) (wp_t (by decide) ?_)
      by_cases hj2 : j = 2
      · subst hj2
        refine wp_f (fun z => z rfl) ?_
        refine wp_cV (m_tries hn hM0.2.2.1) (fun D1 h1 => ?_)
        obtain ⟨k1, k2, -, k4⟩ := h1
        have f1 : FrB (ud D 70 0 0) D1 := ⟨fun q q1 q2 q3 => k4 q q2 (by omega), fun i hi => k2 i (by omega), fun k _ _ _ _ => by rw [k4 70 (by decide) (by decide)]⟩
        have hM1 := f1.mi hM0 hn
        refine wp_eq (e284_15 _) ?_
        refine wp_cI (m_282 (d := d + 42) hσ.2.1 hσ.2.2.1 hM1.2.1 hM1.2.2.2.2.2.2 hM1.2.2.2.2.1.1 hl8 hM1.2.2.2.2.1.2 hle k1) (fun y D2 h2 => ?_)
        obtain ⟨rfl, -, f2⟩ := h2
        refine wp_eq (e284_17 _ _) ?_
        show Wp _ (MR σ D u J (bI32 (soN σ.2.1 σ.2.2.1 σ.2.2.2.2.1)) 0)
        cases soN σ.2.1 σ.2.2.1 σ.2.2.2.2.1 with
        | true => exact wp_f (by decide) ((f1.tr f2).fin hM0 hn)
        | false => exact wp_t rfl ((f1.tr f2).fin hM0 hn)
      · refine wp_t (fun z => hj2 (nI_inj (b := 2) (by omega) (by decide) z)) ?_
        refine wp_loop (R := fun k (D2 : DD) => Ev X (d + 50) 284 (28, [.ref 70, .int (nI j), .int (nI (cntN (gvB σ.2.1 σ.2.2.1 σ.2.2.2.2.1) k)), .int (whoA (fsN (gvB σ.2.1 σ.2.2.1 σ.2.2.2.2.1) k)), .int (nI k)], [], hS u D2 J)) (fun k (D2 : DD) => FrB (ud D 70 0 0) D2) (100 * σ.2.1.1) ?_ ?_ 0 _ (Nat.zero_le _) (FrB.rf _)
        · intro k D2 hk i1 ih
          have hM2 := i1.mi hM0 hn
          refine wp_eq (e284_28 _ _ _ _) ?_
          rw [hM2.2.1.1, l100]
          refine wp_f (nI_ge hk (by omega)) ?_
          refine wp_cI (m_283 (d := d + 41) hσ hM2 hk) (fun y D3 h3 => ?_)
          obtain ⟨rfl, -, f3⟩ := h3
          have ih := ih D3 (i1.tr f3)
          rw [cntN, fsN] at ih
          refine wp_eq (e284_37 _ _ _ _ _) ?_
          rw [nI_1, nI_1]
          cases hb : gvB σ.2.1 σ.2.2.1 σ.2.2.2.2.1 k with
          | false =>
            rw [hb] at ih
            refine wp_f (fun z => z rfl) ?_
            cases hf : fsN (gvB σ.2.1 σ.2.2.1 σ.2.2.2.2.1) k with
            | none => rw [hf] at ih; exact ih
            | some y => rw [hf] at ih; exact ih
          | true =>
            rw [hb] at ih
            refine wp_t (by decide) ?_
            cases hf : fsN (gvB σ.2.1 σ.2.2.1 σ.2.2.2.2.1) k with
            | none =>
              rw [hf] at ih
              exact wp_f (fun z => z rfl) ih
            | some y =>
              rw [hf] at ih
              have hy : y < 2 ^ 31 := by
                have : ∀ m, m ≤ 1200 → fsN (gvB σ.2.1 σ.2.2.1 σ.2.2.2.2.1) m = some y → y < m := by
                  intro m
                  induction m with
                  | zero => intro _ h; cases h
                  | succ m ihm =>
                    intro hm h
                    rw [fsN] at h
                    cases hq : fsN (gvB σ.2.1 σ.2.2.1 σ.2.2.2.2.1) m with
                    | none =>
                      rw [hq] at h
                      have h : (if gvB σ.2.1 σ.2.2.1 σ.2.2.2.2.1 m = true then some m else none) = some y := h
                      split at h
                      · cases h; omega
                      · cases h
                    | some z =>
                      rw [hq] at h
                      have := ihm (by omega) (hq.trans h)
                      omega
                have := this k (by omega) hf
                omega
              exact wp_t (nI_ne1 hy) ih
        · intro D2 i1
          have hM2 := i1.mi hM0 hn
          refine wp_eq (e284_28 _ _ _ _) ?_
          rw [hM2.2.1.1, l100]
          refine wp_t (nI_le (Nat.le_refl _) (by omega)) ?_
          rcases (show j = 0 ∨ j = 1 by omega) with rfl | rfl
          · exact wp_f (fun z => z rfl) (i1.fin hM0 hn)
          · exact wp_t (by decide) (i1.fin hM0 hn)
  · refine ⟨.inr 1, σ, hσ, fun u J D hC => ?_, fun u J D hM => ?_, by first | exact trivial | exact rfl | exact Or.inl rfl | exact Or.inr rfl⟩
    · refine wp_eq (e139_0 _) ?_
      rcases c_what (X := X) (d := d + 49) (u := u) (D := D) (J := J) (x := x) (k := 2) with ⟨g, _⟩ | ⟨_, g⟩
      · exact absurd g ix
      · exact wp_vT g (wp_ct hC (fun _ _ => rfl))
    · have hM0 := hM.th (v := 0) hn
      have h0 := ud_at D 70 0 0
      refine wp_eq (e284_0 _) ?_
      refine wp_iE ((m_what (d := d + 48) h0).2 ix) ?_
      refine wp_eq (e284_7 _ _) (wp_f (fun z => z rfl) ?_)
      exact wp_mr (hM0.th hn) (ud_at _ 70 0 1) (fun q hq => by rw [ud_q (by omega), ud_q (by omega)])
theorem pc13 {V : Nat} (h : V < 2 ^ 13) : pcB 32 V = cntN (fun k => V.testBit k) 13 := by
  have e : pcB 32 V = cntN (fun k => V.testBit k) 13 + cntN (fun k => V.testBit (13 + k)) 19 := cnt_sh _ 13 19
  have z : cntN (fun k => V.testBit (13 + k)) 19 = 0 := orP_cnt0 (fun k _ => Nat.testBit_lt_two_pow (Nat.lt_of_lt_of_le h (Nat.pow_le_pow_right (by decide) (by omega))))
  rw [e, z, Nat.add_zero]
theorem p_look {x : Int32} (hσ : SgOk σ) : PairI σ (fun u J D => EvM X (d + 50) 140 [.ref 0, .int x] (hS u D J)) (fun u J D => EvM X (d + 50) 285 [.ref 70, .int x] (hS u D J)) nI xA := by
  have hn := hσ.2.1.1.1
  by_cases ix : ¬ x < 0 ∧ ¬ 1 < x
  · let f : Nat → Int32 := fun q => bcI (mkN σ.2.1 σ.2.2.1 σ.2.2.2.2.1 q (100 * σ.2.1.1))
    refine ⟨.inl (if x = 0 then (beN f σ.2.1.1).2 else (beN f σ.2.1.1).1), σ, hσ, fun u J D hC => ?_, fun u J D hM => ?_, by first | exact trivial | exact rfl | exact Or.inl rfl | exact Or.inr rfl⟩
    · refine wp_eq (e140_0 _) ?_
      rcases c_what (X := X) (d := d + 49) (u := u) (D := D) (J := J) (x := x) (k := 1) with ⟨_, g⟩ | ⟨g, _⟩
      · refine wp_vE g ?_
        refine wp_eq (e140_3 _) ?_
        refine wp_cV (c_21 (d := d + 44) hσ hC) (fun D1 h1 => ?_)
        obtain ⟨k1, k2, k3⟩ := h1
        refine wp_eq (e140_6 _) ?_
        refine wp_cV (c_26 (d := d + 44) hσ k1 k2) (fun D2 h2 => ?_)
        obtain ⟨a1, a2, a3, a4⟩ := h2
        refine wp_eq (e140_9 _) ?_
        rw [a2, a3]
        have hf : ∀ q, 70 ≤ q → D2 q = D q := fun q hq => by rw [a4 q hq]; exact k3 q hq
        refine wp_if (fun h => ?_) (fun h => ?_)
        · rw [if_neg h]; exact wp_cr a1 hf
        · rw [if_pos (Classical.not_not.mp h)]; exact wp_cr a1 hf
      · exact absurd ix g
    · have hM0 := hM.th (v := 0) hn
      have h0 := ud_at D 70 0 0
      refine wp_eq (e285_0 _) ?_
      refine wp_iE ((m_what (d := d + 48) h0).1 ix) ?_
      refine wp_eq (e285_7 _ _) (wp_t (by decide) ?_)
      refine wp_loop (R := fun q (D2 : DD) => Ev X (d + 50) 285 (12, [.ref 70, .int x, .int (nI q), .null, .null], [], hS u D2 J)) (fun q (D2 : DD) => (∀ r, r < q → D2 91 r = 0) ∧ FrC (ud D 70 0 0) D2) σ.2.1.1 ?_ ?_ 0 _ (Nat.zero_le _) ⟨fun r hr => absurd hr (Nat.not_lt_zero r), FrC.rf _⟩
      · intro q D2 hq ⟨i1, i2⟩ ih
        have hM2 := i2.mi hM0 hn
        refine wp_eq (e285_12 _ _) ?_
        rw [hM2.2.1.1, nI_clamp (show q < 2 ^ 31 by omega), nI_1]
        refine wp_f (nI_ge hq (by omega)) (oG (by omega) (by decide) (ih _ ⟨fun r hr => ?_, i2.tr FrC.u9⟩))
        by_cases hrq : r = q
        · rw [hrq, ud_at]
        · rw [ud_k hrq]; exact i1 r (by omega)
      · intro D2 ⟨i1, i2⟩
        have hM2 := i2.mi hM0 hn
        refine wp_eq (e285_12 _ _) ?_
        rw [hM2.2.1.1]
        refine wp_t (nI_le (Nat.le_refl _) (by omega)) ?_
        refine wp_loop (R := fun k (D3 : DD) => Ev X (d + 50) 285 (25, [.ref 70, .int x, .int (nI k), .null, .null], [], hS u D3 J)) (fun k (D3 : DD) => (∀ q, q < σ.2.1.1 → D3 91 q = mkN σ.2.1 σ.2.2.1 σ.2.2.2.2.1 q k) ∧ FrC (ud D 70 0 0) D3) (100 * σ.2.1.1) ?_ ?_ 0 D2 (Nat.zero_le _) ⟨i1, i2⟩
        · intro k D3 hk ⟨j1, j2⟩ ih
          have hM3 := j2.mi hM0 hn
          refine wp_eq (e285_25 _ _) ?_
          rw [hM3.2.1.1, l100]
          refine wp_f (nI_ge hk (by omega)) ?_
          obtain ⟨Y, r, y, D4, rfl, rfl, g2, g3⟩ := m_283 (X := X) (d := d + 41) (u := u) (J := J) hσ hM3 hk
          have e91 : D4 91 = D3 91 := g3.1 91 (by decide) (by decide) (by omega)
          have f4 := j2.tr g3.c
          have hM4 := f4.mi hM0 hn
          refine wp_iE r ?_
          refine wp_eq (e285_34 _ _ _) ?_
          cases hb : gvB σ.2.1 σ.2.2.1 σ.2.2.2.2.1 k with
          | false =>
            refine wp_t rfl ?_
            rw [nI_1]
            refine ih D4 ⟨fun q hq => ?_, f4⟩
            rw [e91, j1 q hq, mkN, hb]; simp
          | true =>
            refine wp_f (by decide) ?_
            refine wp_loop (R := fun q (D5 : DD) => Ev X (d + 50) 285 (37, [.ref 70, .int x, .int (nI k), .int (nI q), .null], [], hS u D5 J)) (fun q (D5 : DD) => (∀ r, r < q → D5 91 r = mkN σ.2.1 σ.2.2.1 σ.2.2.2.2.1 r (k + 1)) ∧ (∀ r, q ≤ r → D5 91 r = D4 91 r) ∧ ∀ r, r ≠ 91 → D5 r = D4 r) σ.2.1.1 ?_ ?_ 0 D4 (Nat.zero_le _) ⟨fun r hr => absurd hr (Nat.not_lt_zero r), fun _ _ => rfl, fun _ _ => rfl⟩
            · intro q D5 hq ⟨a1, a2, a3⟩ ih5
              refine wp_eq (e285_37 _ _ _) ?_
              rw [a3 70 (by decide), hM4.2.1.1]
              refine wp_f (nI_ge hq (by omega)) ?_
              rw [nI_clamp (show q < 2 ^ 31 by omega), a3 90 (by decide), g2 hb q hq, a2 q (Nat.le_refl _), e91, j1 q hq, nI_1]
              refine oG (by omega) (by decide) (oG (by omega) (by decide) (oG (by omega) (by decide) (ih5 _ ⟨fun r hr => ?_, fun r hr => by rw [ud_k (by omega)]; exact a2 r (by omega), fun r hr => by rw [ud_q hr]; exact a3 r hr⟩)))
              by_cases hrq : r = q
              · rw [hrq, ud_at, mkN, if_pos hb]
              · rw [ud_k hrq]; exact a1 r (by omega)
            · intro D5 ⟨a1, a2, a3⟩
              refine wp_eq (e285_37 _ _ _) ?_
              rw [a3 70 (by decide), hM4.2.1.1]
              refine wp_t (nI_le (Nat.le_refl _) (by omega)) ?_
              rw [nI_1]
              refine wp_weak (ls := [.ref 70, .int x, .int (nI (k + 1)), .null, .null]) (by simp [lle, lng]) ?_
              exact ih D5 ⟨a1, f4.tr ⟨fun r _ _ h => a3 r (by omega), fun i _ => by rw [a3 78 (by decide)], fun k _ _ _ _ => by rw [a3 70 (by decide)]⟩⟩
        · intro D3 ⟨j1, j2⟩
          have hM3 := j2.mi hM0 hn
          refine wp_eq (e285_25 _ _) ?_
          rw [hM3.2.1.1, l100]
          refine wp_t (nI_le (Nat.le_refl _) (by omega)) ?_
          have hbits : ∀ q, q < σ.2.1.1 → ∀ d', EvM X d' 177 [.int (mkN σ.2.1 σ.2.2.1 σ.2.2.2.2.1 q (100 * σ.2.1.1))] (hS u D3 J) = some (.inl (some (.int (f q))), hS u D3 J) := by
            intro q hq d'
            obtain ⟨V, v1, v2⟩ := mk_V (l := σ.2.2.2.2.1) hσ.2.1.1 hσ.2.2.1 hq (100 * σ.2.1.1)
            have hV : V < 2 ^ 31 := by omega
            show EvM X d' 177 [.int (mkN σ.2.1 σ.2.2.1 σ.2.2.2.2.1 q (100 * σ.2.1.1))] (hS u D3 J) = some (.inl (some (.int (bcI (mkN σ.2.1 σ.2.2.1 σ.2.2.2.2.1 q (100 * σ.2.1.1))))), hS u D3 J)
            rw [v2, bc_32 hV, pc13 v1]
            exact s_bits (Q := fun k => V.testBit k) (fun k hk => tb_V hV (by omega))
          refine wp_loop (R := fun q (_ : Unit) => Ev X (d + 50) 285 (64, [.ref 70, .int x, .int (beN f q).2, .int (beN f q).1, .int (nI q)], [], hS u D3 J)) (fun _ _ => True) σ.2.1.1 ?_ ?_ 0 () (Nat.zero_le _) trivial
          · intro q _ hq _ ih
            have ih := ih () trivial
            rw [beN] at ih
            refine wp_eq (e285_64 _ _ _ _) ?_
            rw [hM3.2.1.1, nI_clamp (show q < 2 ^ 31 by omega), j1 q hq]
            refine wp_f (nI_ge hq (by omega)) (oG (by omega) (by decide) (wp_iE (hbits q hq _) ?_))
            refine wp_eq (e285_73 _ _ _ _ _) ?_
            rw [nI_clamp (show q < 2 ^ 31 by omega), j1 q hq, nI_1]
            refine wp_if (fun h => ?_) (fun h => ?_)
            · rw [if_neg (Int32.not_le.mpr h)] at ih
              refine oG (by omega) (by decide) (wp_iE (hbits q hq _) (wp_eq (e285_83 _ _ _ _ _) ?_))
              rw [nI_1]; exact ih
            · rw [if_pos (Int32.not_lt.mp h)] at ih
              exact ih
          · intro _ _
            refine wp_eq (e285_64 _ _ _ _) ?_
            rw [hM3.2.1.1]
            refine wp_t (nI_le (Nat.le_refl _) (by omega)) (wp_if (fun h => ?_) (fun h => ?_))
            · rw [if_neg h]; exact j2.fin hM0 hn
            · rw [if_pos (Classical.not_not.mp h)]; exact j2.fin hM0 hn
  · refine ⟨.inr 1, σ, hσ, fun u J D hC => ?_, fun u J D hM => ?_, by first | exact trivial | exact rfl | exact Or.inl rfl | exact Or.inr rfl⟩
    · refine wp_eq (e140_0 _) ?_
      rcases c_what (X := X) (d := d + 49) (u := u) (D := D) (J := J) (x := x) (k := 1) with ⟨g, _⟩ | ⟨_, g⟩
      · exact absurd g ix
      · exact wp_vT g (wp_ct hC (fun _ _ => rfl))
    · have hM0 := hM.th (v := 0) hn
      have h0 := ud_at D 70 0 0
      refine wp_eq (e285_0 _) ?_
      refine wp_iE ((m_what (d := d + 48) h0).2 ix) ?_
      refine wp_eq (e285_7 _ _) (wp_f (fun z => z rfl) ?_)
      exact wp_mr (hM0.th hn) (ud_at _ 70 0 1) (fun q hq => by rw [ud_q (by omega), ud_q (by omega)])
end OLDP
