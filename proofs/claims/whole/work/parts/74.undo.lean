/-! ===== undo, image, restore ===== -/
theorem conc {l : List Cc} (h : l ≠ []) : ∃ l' a, l = l' ++ [a] := ⟨l.dropLast, l.getLast h, (List.dropLast_concat_getLast h).symm⟩
def undS (σ : Sg) (l : List Cc) (a : Cc) : Sg := (σ.1, σ.2.1, a, l, σ.2.2.2.2)
section UNDO
variable {X : XS} {d u : Nat} {D : DD} {J : JJ} {σ : Sg} {ρ : Ru} {c : Cc}
theorem c_take {l : List Cc} {a : Cc} (h : ActsC 46 (l ++ [a]) D) (hl : l.length < 40) (hT : Tl (D 26)) (ha : Tl a) : Wp (EvM X d 2 [.ref 46, .ref 26] (hS u D J)) (RI u J (fun y D' => y = 1 ∧ D' 26 = a ∧ ActsC 46 l D' ∧ ∀ q, q ≠ 26 → q ≠ 46 → D' q = D q)) := by
  obtain ⟨h0, o, o1, o2, h3⟩ := h
  have hlen : (l ++ [a]).length = l.length + 1 := by simp
  rw [hlen] at h0
  refine wp_eq (e2_0 (A := 46) (Or.inl rfl)) ?_
  refine wp_t (by rw [h0]; exact nI_ne0 (by omega) (by omega)) ?_
  have q0 : ud D 46 0 (D 46 0 - 1) 46 0 = nI l.length := by rw [ud_at, h0, nI_pred]
  have q1 : ud D 46 0 (D 46 0 - 1) 46 1 = nI o := by rw [ud_k (by decide)]; exact o2
  have ei : (ud D 46 0 (D 46 0 - 1) 46 1 + ud D 46 0 (D 46 0 - 1) 46 0 - (ud D 46 0 (D 46 0 - 1) 46 1 + ud D 46 0 (D 46 0 - 1) 46 0) / 40 * 40) * 73 = nI (73 * ((o + l.length) % 40)) := by
    rw [q0, q1, nI_add, n80 _ (by omega), lm]
  have hs : 73 * ((o + l.length) % 40) + 73 ≤ 2920 := by
    have := Nat.mod_lt (o + l.length) (show 40 > 0 by decide)
    omega
  rw [ei, nI_clamp (by omega)]
  refine wp_gd ?_ ?_
  · simp only [Bool.and_eq_true]
    exact ⟨⟨⟨⟨decide_eq_true (nI_pos (by omega)), by decide⟩, by decide⟩, Nat.ble_eq_true_of_le hs⟩, by decide⟩
  · refine wp_rI ⟨rfl, ?_, ⟨?_, o, o1, ?_, fun j hj i hi => ?_⟩, fun q g1 g2 => by rw [ucp_q g1, ud_q g2]⟩
    · funext i
      by_cases hi : i < 73
      · have := ucp_in (D := ud D 46 0 (D 46 0 - 1)) (s := 46 + 1) (sp := 73 * ((o + l.length) % 40)) (q := 26) (dp := 0) (n := 73) hi
        rw [Nat.zero_add] at this
        rw [this, ud_q (by decide), h3 l.length (by omega) i hi, getD_len]
      · rw [ucp_out (by omega), ud_q (by decide), hT i (by omega), ha i (by omega)]
    · rw [ucp_q (by decide)]; exact q0
    · rw [ucp_q (by decide)]; exact q1
    · rw [ucp_q (by decide), ud_q (by decide), h3 j (by omega) i hi, getD_lt hj]
theorem CI.cut {D' : DD} {l : List Cc} {c' : Cc} (hC : CI σ D) (hW : PewsC 25 σ.2.1 c' D') (hA : ActsC 46 l D') (h37 : D' 37 0 = -1) (h52 : D' 52 0 = 0) (hq : ∀ q, q < 70 → q < 26 ∨ 28 < q → q ≠ 37 → q ≠ 46 → q ≠ 52 → D' q = D q) : CI (undS σ l c') D' := by
  obtain ⟨a1, a2, a3, a4, a5, a6, a7, a8, a9, a10, a11⟩ := hC
  have e : ∀ q, q < 26 ∨ 28 < q → q < 70 → q ≠ 37 → q ≠ 46 → q ≠ 52 → D' q = D q := fun q h1 h2 h3 h4 h5 => hq q h2 h1 h3 h4 h5
  exact ⟨a1.mv (e 0 (by omega) (by omega) (by omega) (by omega) (by omega)) (e 1 (by omega) (by omega) (by omega) (by omega) (by omega)) (e 2 (by omega) (by omega) (by omega) (by omega) (by omega)), a2.mv (e 3 (by omega) (by omega) (by omega) (by omega) (by omega)) (fun q _ _ => e q (by omega) (by omega) (by omega) (by omega) (by omega)) (fun i _ _ => by rw [e 5 (by omega) (by omega) (by omega) (by omega) (by omega)]), hW, Or.inl h37, hA, a6.mv (e 48 (by omega) (by omega) (by omega) (by omega) (by omega)) (e 49 (by omega) (by omega) (by omega) (by omega) (by omega)) (e 50 (by omega) (by omega) (by omega) (by omega) (by omega)) (e 51 (by omega) (by omega) (by omega) (by omega) (by omega)), Or.inl h52, a8.mv (fun q _ _ => e q (by omega) (by omega) (by omega) (by omega) (by omega)), by rw [e 32 (by omega) (by omega) (by omega) (by omega) (by omega)]; exact a9, by rw [e 39 (by omega) (by omega) (by omega) (by omega) (by omega)]; exact a10, by rw [e 56 (by omega) (by omega) (by omega) (by omega) (by omega)]; exact a11⟩
theorem p_undo (hσ : SgOk σ) : PairI σ (fun u J D => EvM X (d + 50) 119 [.ref 0] (hS u D J)) (fun u J D => EvM X (d + 50) 210 [.ref 70] (hS u D J)) nI xN := by
  have hn := hσ.2.1.1.1
  by_cases he : σ.2.2.2.1 = []
  · refine ⟨.inl (-1), σ, hσ, fun u J D hC => ?_, fun u J D hM => ?_, by first | exact trivial | exact rfl | exact Or.inl rfl | exact Or.inr rfl⟩
    · have h0 : D 46 0 = 0 := by
        have := hC.2.2.2.2.1.1
        rw [he] at this
        exact this.trans nI_0
      have e2 : EvM X (d + 49) 2 [.ref 46, .ref 26] (hS u D J) = some (.inl (some (.int 0)), hS u D J) := by
        refine (e2_0 (A := 46) (Or.inl rfl)).trans ?_
        rw [brF (fun z => z h0)]
      refine wp_eq e119_0 ?_
      refine wp_iE e2 ?_
      exact wp_eq (e119_6 _) (wp_f (fun z => z rfl) (wp_cr hC (fun _ _ => rfl)))
    · have h0 : ud D 70 0 0 70 36 = 0 := by
        have := hM.2.2.2.1.1
        rw [he] at this
        rw [ud_k (by decide)]
        exact this.trans nI_0
      refine wp_eq e210_0 ?_
      refine wp_f (fun z => z h0) ?_
      exact wp_mr (hM.th hn) (ud_at D 70 0 0) (fun q hq => ud_q (by omega))
  · obtain ⟨l, a, hla⟩ := conc he
    have hlen : (l ++ [a]).length = l.length + 1 := by simp
    have h40 : l.length < 40 := by have := hσ.2.2.2.1.1; rw [hla, hlen] at this; omega
    have hga : Good σ.2.1 a := hσ.2.2.2.1.2 a (by rw [hla]; simp)
    have hgl : ∀ b ∈ l, Good σ.2.1 b := fun b hb => hσ.2.2.2.1.2 b (by rw [hla]; exact List.mem_append_left _ hb)
    refine ⟨.inl (nI l.length), undS σ l a, ⟨hσ.1, hσ.2.1, hga, ⟨by show l.length ≤ 40; omega, hgl⟩, hσ.2.2.2.2⟩, fun u J D hC => ?_, fun u J D hM => ?_, by first | exact trivial | exact rfl | exact Or.inl rfl | exact Or.inr rfl⟩
    · have hA := hC.2.2.2.2.1
      rw [hla] at hA
      have hT : Tl (D 26) := by rw [show D 26 = σ.2.2.1 from hC.2.2.1.1]; exact hσ.2.2.1.2.1
      refine wp_eq e119_0 ?_
      refine wp_cI (c_take hA h40 hT hga.2.1) (fun y D1 g => ?_)
      obtain ⟨g1, g2, g3, g4⟩ := g
      refine wp_eq (e119_6 _) ?_
      rw [g1]
      refine wp_t (by decide) ?_
      refine wp_cV (s_seat (d := d + 48) (P := 25) (Or.inl rfl) hn (by rw [g4 3 (by decide) (by decide)]; exact hC.2.1.1) g2 hga.1) (fun D2 k => ?_)
      obtain ⟨k1, k2⟩ := k
      refine wp_eq e119_12 ?_
      refine wp_vE (h := hS u (ud (ud D2 37 0 (-1)) 52 0 0) J) e103_0 ?_
      refine wp_eq e119_14 ?_
      have hq : ∀ q, q < 26 ∨ 28 < q → q ≠ 37 → q ≠ 52 → q ≠ 46 → ud (ud D2 37 0 (-1)) 52 0 0 q = D q := fun q h1 h2 h3 h4 => by rw [ud_q h3, ud_q h2, k2 q (by omega) (by omega), g4 q (by omega) h4]
      have e46 : ud (ud D2 37 0 (-1)) 52 0 0 46 = D1 46 := by rw [ud_q (by decide), ud_q (by decide), k2 46 (by decide) (by decide)]
      have e47 : ud (ud D2 37 0 (-1)) 52 0 0 47 = D1 47 := by rw [ud_q (by decide), ud_q (by decide), k2 47 (by decide) (by decide)]
      rw [e46, g3.1]
      refine wp_cr (hC.cut (k1.mv (by rw [ud_q (by decide), ud_q (by decide)]) (by rw [ud_q (by decide), ud_q (by decide)]) (by rw [ud_q (by decide), ud_q (by decide)])) (g3.mv e46 e47) (by rw [ud_q (by decide), ud_at]) (by rw [ud_at]) (fun q h1 h2 h3 h4 h5 => hq q h2 h3 h5 h4)) (fun q h => hq q (by omega) (by omega) (by omega) (by omega))
    · have hM0 := hM.th (v := 0) hn
      have h36 : ud D 70 0 0 70 36 = nI (l.length + 1) := by
        have := hM0.2.2.2.1.1
        rw [hla, hlen] at this
        exact this
      refine wp_eq e210_0 ?_
      rw [h36]
      refine wp_t (nI_ne0 (by omega) (by omega)) ?_
      rw [nI_pred]
      have hk := hM0.2.2.2.1.2
      rw [hla] at hk
      refine wp_loop (R := fun i (D1 : DD) => Ev X (d + 50) 210 (16, [.ref 70, .int (nI i)], [], hS u D1 J)) (fun i (D1 : DD) => (∀ j, j < i → D1 78 j = D 79 (85 * l.length + j)) ∧ D1 70 = ud (ud D 70 0 0) 70 36 (nI l.length) 70 ∧ ∀ q, q ≠ 70 → q ≠ 78 → D1 q = D q) 85 ?_ ?_ 0 _ (by decide) ⟨fun j hj => absurd hj (Nat.not_lt_zero j), rfl, fun q h1 h2 => by rw [ud_q h1, ud_q h1]⟩
      · intro i D1 hi ⟨i1, i2, i3⟩ ih
        have e36 : D1 70 36 = nI l.length := by rw [i2, ud_at]
        refine wp_eq (e210_16 _) ?_
        refine wp_f (nI_ge (b := 85) hi (by decide)) ?_
        have ex : (85 : Int32) * D1 70 36 + nI i = nI (85 * l.length + i) := by
          rw [e36, show (85 : Int32) = nI 85 from rfl, nI_mul, nI_add]
        rw [ex, nI_clamp (by omega), nI_clamp (by omega)]
        refine oG (by omega) (by decide) (oG (by omega) (by decide) ?_)
        rw [nI_1, i3 79 (by decide) (by decide)]
        refine ih _ ⟨fun j hj => ?_, by rw [ud_q (by decide)]; exact i2, fun q h1 h2 => by rw [ud_q h2]; exact i3 q h1 h2⟩
        by_cases hji : j = i
        · rw [hji, ud_at]
        · rw [ud_k hji]; exact i1 j (by omega)
      · intro D1 ⟨i1, i2, i3⟩
        have e36 : D1 70 36 = nI l.length := by rw [i2, ud_at]
        have e7 : ∀ k, k ≠ 0 → k ≠ 36 → D1 70 k = D 70 k := fun k k1 k2 => by rw [i2, ud_k k2, ud_k k1]
        refine wp_eq (e210_16 _) ?_
        refine wp_t (nI_le (a := 85) (Nat.le_refl _) (by decide)) ?_
        rw [e36]
        obtain ⟨a1, a2, a3, a4, a5, a6, a7⟩ := hM
        have kk : KeptM σ.2.1 (l ++ [a]) (D 79) := by
          have := a4.2
          rw [hla] at this
          exact this
        refine wp_mr ⟨a1.mv (e7 8 (by decide) (by decide)) (e7 10 (by decide) (by decide)) (i3 72 (by decide) (by decide)) (i3 73 (by decide) (by decide)), a2.mv (fun k k1 k2 => e7 k (by omega) (by omega)) (i3 71 (by decide) (by decide)), ?_, ⟨e36, fun j hj => ?_⟩, by rw [e7 51 (by decide) (by decide), i3 89 (by decide) (by decide)]; exact a5, a6.mv (fun k k1 k2 => e7 k (by omega) (by omega)) (fun q _ _ => i3 q (by omega) (by omega)), by rw [e7 43 (by decide) (by decide)]; exact a7⟩ (by rw [i2, ud_k (by decide), ud_at]; rfl) (fun q hq => i3 q (by omega) (by omega))
        · have := kk l.length (by omega)
          rw [getD_len] at this
          exact this.copy hn (fun i hi => by rw [Nat.zero_add]; exact i1 i hi)
        · have hj : j < l.length := hj
          have := kk j (by omega)
          rw [getD_lt hj] at this
          rw [i3 79 (by decide) (by decide)]
          exact this
/-- copies of acts and of what was seen -/
theorem c_acopy {A B : Nat} {l : List Cc} (hA : isA A) (hB : isA B) (hAB : A ≠ B) (h : ActsC B l D) : Wp (EvM X d 3 [.ref A, .ref B] (hS u D J)) (RV u J (fun D' => ActsC A l D' ∧ ∀ q, q ≠ A → q ≠ A + 1 → D' q = D q)) := by
  obtain ⟨h0, o, o1, o2, h3⟩ := h
  have hl : (A = 46 ∧ B = 57) ∨ (A = 57 ∧ B = 46) := by unfold isA at hA hB; omega
  refine wp_eq (e3_0 hA hB) (wp_rV ⟨⟨?_, o, o1, ?_, fun j hj i hi => ?_⟩, fun q g1 g2 => by rw [ucp_q g2, ud_q g1, ud_q g1]⟩)
  · rw [ucp_q (by omega), ud_k (by decide), ud_at]; exact h0
  · rw [ucp_q (by omega), ud_at, ud_q (by omega)]; exact o2
  · have hm := Nat.mod_lt (o + j) (show 40 > 0 by decide)
    have := ucp_in (D := ud (ud D A 0 (D B 0)) A 1 (ud D A 0 (D B 0) B 1)) (s := B + 1) (sp := 0) (q := A + 1) (dp := 0) (n := 2920) (i := 73 * ((o + j) % 40) + i) (by omega)
    rw [Nat.zero_add] at this
    rw [this, ud_q (by omega), ud_q (by omega)]
    exact h3 j hj i hi
theorem c_scopy {S T : Nat} {l : List Sn} (hs : isS S) (hT : isS T) (hST : S ≠ T) (hl : l.length ≤ 8) (h : SeenC T l D) : Wp (EvM X d 98 [.ref S, .ref T] (hS u D J)) (RV u J (fun D' => SeenC S l D' ∧ ∀ q, q < S ∨ S + 3 < q → D' q = D q)) := by
  obtain ⟨h0, h3⟩ := h
  have hl2 : (S = 48 ∧ T = 59) ∨ (S = 59 ∧ T = 48) := by unfold isS at hs hT; omega
  have ci : ∀ (E : DD) (s q j : Nat), j < 8 → ucp E s 0 q 0 8 q j = E s j := fun E s q j hj => by
    have := ucp_in (D := E) (s := s) (sp := 0) (q := q) (dp := 0) (n := 8) hj
    rwa [Nat.zero_add] at this
  refine wp_eq (e98_0 hs hT) (wp_rV ⟨⟨?_, fun j hj => ?_⟩, fun q g => by rw [ucp_q (by omega), ucp_q (by omega), ucp_q (by omega), ud_q (by omega)]⟩)
  · rw [ucp_q (by omega), ucp_q (by omega), ucp_q (by omega), ud_at]; exact h0
  · obtain ⟨a1, a2, a3⟩ := h3 j hj
    refine ⟨?_, ?_, ?_⟩
    · rw [ucp_q (by omega), ucp_q (by omega), ci _ _ _ j (by omega), ud_q (by omega)]; exact a1
    · rw [ucp_q (by omega), ci _ _ _ j (by omega), ucp_q (by omega), ud_q (by omega)]; exact a2
    · rw [ci _ _ _ j (by omega), ucp_q (by omega), ucp_q (by omega), ud_q (by omega)]; exact a3
theorem m_copyb : Wp (EvM X d 176 [.ref 70, .ref 79, .ref 93] (hS u D J)) (RV u J (fun D' => (∀ i, i < 3400 → D' 93 i = D 79 i) ∧ ∀ q, q ≠ 93 → D' q = D q)) := by
  refine wp_eq e176b_0 ?_
  refine wp_loop (R := fun i (D1 : DD) => Ev X d 176 (2, [.ref 70, .ref 79, .ref 93, .int (nI i)], [], hS u D1 J)) (fun i (D1 : DD) => (∀ j, j < i → D1 93 j = D 79 j) ∧ ∀ q, q ≠ 93 → D1 q = D q) 3400 ?_ ?_ 0 D (by decide) ⟨fun j hj => absurd hj (Nat.not_lt_zero j), fun _ _ => rfl⟩
  · intro i D1 hi ⟨i1, i2⟩ ih
    refine wp_eq (e176b_2 _) ?_
    refine wp_f (nI_ge (b := 3400) hi (by decide)) ?_
    refine oG hi (by decide) (oG hi (by decide) ?_)
    rw [nI_1, nI_clamp (by omega), i2 79 (by decide)]
    refine ih _ ⟨fun j hj => ?_, fun q hq => by rw [ud_q hq]; exact i2 q hq⟩
    by_cases hji : j = i
    · rw [hji, ud_at]
    · rw [ud_k hji]; exact i1 j (by omega)
  · intro D1 h
    refine wp_eq (e176b_2 _) ?_
    exact wp_t (nI_le (a := 3400) (Nat.le_refl _) (by decide)) (wp_rV h)
theorem m_copyc : Wp (EvM X d 176 [.ref 70, .ref 89, .ref 94] (hS u D J)) (RV u J (fun D' => (∀ i, i < 24 → D' 94 i = D 89 i) ∧ ∀ q, q ≠ 94 → D' q = D q)) := by
  refine wp_eq e176c_0 ?_
  refine wp_loop (R := fun i (D1 : DD) => Ev X d 176 (2, [.ref 70, .ref 89, .ref 94, .int (nI i)], [], hS u D1 J)) (fun i (D1 : DD) => (∀ j, j < i → D1 94 j = D 89 j) ∧ ∀ q, q ≠ 94 → D1 q = D q) 24 ?_ ?_ 0 D (by decide) ⟨fun j hj => absurd hj (Nat.not_lt_zero j), fun _ _ => rfl⟩
  · intro i D1 hi ⟨i1, i2⟩ ih
    refine wp_eq (e176c_2 _) ?_
    refine wp_f (nI_ge (b := 24) hi (by decide)) ?_
    refine oG hi (by decide) (oG hi (by decide) ?_)
    rw [nI_1, nI_clamp (by omega), i2 89 (by decide)]
    refine ih _ ⟨fun j hj => ?_, fun q hq => by rw [ud_q hq]; exact i2 q hq⟩
    by_cases hji : j = i
    · rw [hji, ud_at]
    · rw [ud_k hji]; exact i1 j (by omega)
  · intro D1 h
    refine wp_eq (e176c_2 _) ?_
    exact wp_t (nI_le (a := 24) (Nat.le_refl _) (by decide)) (wp_rV h)
theorem m_copyd : Wp (EvM X d 176 [.ref 70, .ref 93, .ref 79] (hS u D J)) (RV u J (fun D' => (∀ i, i < 3400 → D' 79 i = D 93 i) ∧ ∀ q, q ≠ 79 → D' q = D q)) := by
  refine wp_eq e176d_0 ?_
  refine wp_loop (R := fun i (D1 : DD) => Ev X d 176 (2, [.ref 70, .ref 93, .ref 79, .int (nI i)], [], hS u D1 J)) (fun i (D1 : DD) => (∀ j, j < i → D1 79 j = D 93 j) ∧ ∀ q, q ≠ 79 → D1 q = D q) 3400 ?_ ?_ 0 D (by decide) ⟨fun j hj => absurd hj (Nat.not_lt_zero j), fun _ _ => rfl⟩
  · intro i D1 hi ⟨i1, i2⟩ ih
    refine wp_eq (e176d_2 _) ?_
    refine wp_f (nI_ge (b := 3400) hi (by decide)) ?_
    refine oG hi (by decide) (oG hi (by decide) ?_)
    rw [nI_1, nI_clamp (by omega), i2 93 (by decide)]
    refine ih _ ⟨fun j hj => ?_, fun q hq => by rw [ud_q hq]; exact i2 q hq⟩
    by_cases hji : j = i
    · rw [hji, ud_at]
    · rw [ud_k hji]; exact i1 j (by omega)
  · intro D1 h
    refine wp_eq (e176d_2 _) ?_
    exact wp_t (nI_le (a := 3400) (Nat.le_refl _) (by decide)) (wp_rV h)
theorem m_copye : Wp (EvM X d 176 [.ref 70, .ref 94, .ref 89] (hS u D J)) (RV u J (fun D' => (∀ i, i < 24 → D' 89 i = D 94 i) ∧ ∀ q, q ≠ 89 → D' q = D q)) := by
  refine wp_eq e176e_0 ?_
  refine wp_loop (R := fun i (D1 : DD) => Ev X d 176 (2, [.ref 70, .ref 94, .ref 89, .int (nI i)], [], hS u D1 J)) (fun i (D1 : DD) => (∀ j, j < i → D1 89 j = D 94 j) ∧ ∀ q, q ≠ 89 → D1 q = D q) 24 ?_ ?_ 0 D (by decide) ⟨fun j hj => absurd hj (Nat.not_lt_zero j), fun _ _ => rfl⟩
  · intro i D1 hi ⟨i1, i2⟩ ih
    refine wp_eq (e176e_2 _) ?_
    refine wp_f (nI_ge (b := 24) hi (by decide)) ?_
    refine oG hi (by decide) (oG hi (by decide) ?_)
    rw [nI_1, nI_clamp (by omega), i2 94 (by decide)]
    refine ih _ ⟨fun j hj => ?_, fun q hq => by rw [ud_q hq]; exact i2 q hq⟩
    by_cases hji : j = i
    · rw [hji, ud_at]
    · rw [ud_k hji]; exact i1 j (by omega)
  · intro D1 h
    refine wp_eq (e176e_2 _) ?_
    exact wp_t (nI_le (a := 24) (Nat.le_refl _) (by decide)) (wp_rV h)
theorem m_copya : Wp (EvM X d 176 [.ref 70, .ref 75, .ref 71] (hS u D J)) (RV u J (fun D' => (∀ i, i < 1400 → D' 71 i = D 75 i) ∧ ∀ q, q ≠ 71 → D' q = D q)) := by
  refine wp_eq e176a_0 ?_
  refine wp_loop (R := fun i (D1 : DD) => Ev X d 176 (2, [.ref 70, .ref 75, .ref 71, .int (nI i)], [], hS u D1 J)) (fun i (D1 : DD) => (∀ j, j < i → D1 71 j = D 75 j) ∧ ∀ q, q ≠ 71 → D1 q = D q) 1400 ?_ ?_ 0 D (by decide) ⟨fun j hj => absurd hj (Nat.not_lt_zero j), fun _ _ => rfl⟩
  · intro i D1 hi ⟨i1, i2⟩ ih
    refine wp_eq (e176a_2 _) ?_
    refine wp_f (nI_ge (b := 1400) hi (by decide)) ?_
    refine oG hi (by decide) (oG hi (by decide) ?_)
    rw [nI_1, nI_clamp (by omega), i2 75 (by decide)]
    refine ih _ ⟨fun j hj => ?_, fun q hq => by rw [ud_q hq]; exact i2 q hq⟩
    by_cases hji : j = i
    · rw [hji, ud_at]
    · rw [ud_k hji]; exact i1 j (by omega)
  · intro D1 h
    refine wp_eq (e176a_2 _) ?_
    exact wp_t (nI_le (a := 1400) (Nat.le_refl _) (by decide)) (wp_rV h)
theorem KeptM.cp {l : List Cc} {r r' : Nat → Int32} (hn : ρ.1 ≤ 12) (hl : l.length ≤ 40) (h : KeptM ρ l r) (hc : ∀ i, i < 3400 → r' i = r i) : KeptM ρ l r' := fun j hj => (h j hj).copy hn (fun i hi => hc _ (by omega))
theorem SeesM.cp {l : List Sn} {r r' : Nat → Int32} (hl : l.length ≤ 8) (h : SeesM l r) (hc : ∀ i, i < 24 → r' i = r i) : SeesM l r' := fun j hj => by
  rw [hc _ (by omega), hc _ (by omega), hc _ (by omega)]; exact h j hj
def imgS (σ : Sg) : Sg := (σ.1, σ.2.1, σ.2.2.1, σ.2.2.2.1, σ.2.2.2.2.1, some (σ.2.2.1, σ.2.2.2.1, σ.2.2.2.2.1))
theorem p_image (hσ : SgOk σ) : PairV σ (fun u J D => EvM X (d + 50) 162 [.ref 0] (hS u D J)) (fun u J D => EvM X (d + 50) 293 [.ref 70] (hS u D J)) := by
  have hn := hσ.2.1.1.1
  refine ⟨imgS σ, ⟨hσ.1, hσ.2.1, hσ.2.2.1, hσ.2.2.2.1, hσ.2.2.2.2.1, fun m hm => ?_, hσ.2.2.2.2.2.2⟩, fun u J D hC => ?_, fun u J D hM => ?_⟩
  · cases hm
    exact ⟨hσ.2.2.1, hσ.2.2.2.1, hσ.2.2.2.2.1⟩
  · obtain ⟨a1, a2, a3, a4, a5, a6, a7, a8, a9, a10, a11⟩ := hC
    have e26 : D 26 = σ.2.2.1 := a3.1
    refine wp_eq e162_0 ?_
    have hq0 : ∀ q, q ≠ 56 → ucp D 26 0 56 0 73 q = D q := fun q h => ucp_q h
    refine wp_cV (c_acopy (A := 57) (B := 46) (Or.inr rfl) (Or.inl rfl) (by decide) (a5.mv (hq0 46 (by decide)) (hq0 47 (by decide)))) (fun D1 g => ?_)
    obtain ⟨g1, g2⟩ := g
    refine wp_eq e162_16 ?_
    refine wp_cV (c_scopy (S := 59) (T := 48) (Or.inr rfl) (Or.inl rfl) (by decide) hσ.2.2.2.2.1.1 (a6.mv (by rw [g2 48 (by decide) (by decide), hq0 48 (by decide)]) (by rw [g2 49 (by decide) (by decide), hq0 49 (by decide)]) (by rw [g2 50 (by decide) (by decide), hq0 50 (by decide)]) (by rw [g2 51 (by decide) (by decide), hq0 51 (by decide)]))) (fun D2 k => ?_)
    obtain ⟨k1, k2⟩ := k
    refine wp_eq e162_22 ?_
    have hq : ∀ q, q < 55 ∨ 62 < q → ud D2 55 0 1 q = D q := fun q h => by rw [ud_q (by omega), k2 q (by omega), g2 q (by omega) (by omega), hq0 q (by omega)]
    have e56 : ud D2 55 0 1 56 = σ.2.2.1 := by
      rw [ud_q (by decide), k2 56 (by omega), g2 56 (by decide) (by decide)]
      funext i
      by_cases hi : i < 73
      · have := ucp_in (D := D) (s := 26) (sp := 0) (q := 56) (dp := 0) (n := 73) hi
        rw [Nat.zero_add] at this
        rw [this, e26]
      · rw [ucp_out (by omega), a11 i (by omega), hσ.2.2.1.2.1 i (by omega)]
    refine ⟨_, rfl, _, rfl, ⟨a1.mv (hq 0 (by omega)) (hq 1 (by omega)) (hq 2 (by omega)), a2.mv (hq 3 (by omega)) (fun q _ _ => hq q (by omega)) (fun i _ _ => by rw [hq 5 (by omega)]), a3.mv (hq 26 (by omega)) (hq 27 (by omega)) (hq 28 (by omega)), a4.mv (fun q _ _ => hq q (by omega)), a5.mv (hq 46 (by omega)) (hq 47 (by omega)), a6.mv (hq 48 (by omega)) (hq 49 (by omega)) (hq 50 (by omega)) (hq 51 (by omega)), a7.mv (hq 52 (by omega)) (hq 53 (by omega)), ⟨by rw [ud_at], e56, g1.mv (by rw [ud_q (by decide), k2 57 (by omega)]) (by rw [ud_q (by decide), k2 58 (by omega)]), k1.mv (ud_q (by decide)) (ud_q (by decide)) (ud_q (by decide)) (ud_q (by decide))⟩, by rw [hq 32 (by omega)]; exact a9, by rw [hq 39 (by omega)]; exact a10, by rw [e56]; exact hσ.2.2.1.2.1⟩, fun q h => hq q (by omega)⟩
  · obtain ⟨a1, a2, a3, a4, a5, a6, a7⟩ := hM
    refine wp_eq e293_0 ?_
    generalize hE : ud (ud (ud (ud D 70 0 0) 70 56 1) 70 57 (ud (ud D 70 0 0) 70 56 1 70 36)) 70 58 (ud (ud (ud D 70 0 0) 70 56 1) 70 57 (ud (ud D 70 0 0) 70 56 1 70 36) 70 51) = E
    have Eq : ∀ q, q ≠ 70 → E q = D q := fun q h => by rw [← hE, ud_q h, ud_q h, ud_q h, ud_q h]
    have E58 : E 70 58 = D 70 51 := by rw [← hE, ud_at, ud_k (by decide), ud_k (by decide), ud_k (by decide)]
    have E57 : E 70 57 = D 70 36 := by rw [← hE, ud_k (by decide), ud_at, ud_k (by decide), ud_k (by decide)]
    have E56 : E 70 56 = 1 := by rw [← hE, ud_k (by decide), ud_k (by decide), ud_at]
    have Ek : ∀ k, k ≠ 0 → k < 56 → E 70 k = D 70 k := fun k h1 h2 => by rw [← hE, ud_k (by omega), ud_k (by omega), ud_k (by omega), ud_k h1]
    clear hE
    refine wp_loop (R := fun i (D1 : DD) => Ev X (d + 50) 293 (16, [.ref 70, .int (nI i)], [], hS u D1 J)) (fun i (D1 : DD) => (∀ j, j < i → D1 92 j = D 78 j) ∧ ∀ q, q ≠ 92 → D1 q = E q) 85 ?_ ?_ 0 E (by decide) ⟨fun j hj => absurd hj (Nat.not_lt_zero j), fun _ _ => rfl⟩
    · intro i D1 hi ⟨i1, i2⟩ ih
      refine wp_eq (e293_16 _) ?_
      refine wp_f (nI_ge (b := 85) hi (by decide)) ?_
      refine oG (by omega) (by decide) (oG hi (by decide) ?_)
      rw [nI_1, nI_clamp (by omega), i2 78 (by decide), Eq 78 (by decide)]
      refine ih _ ⟨fun j hj => ?_, fun q hq => by rw [ud_q hq]; exact i2 q hq⟩
      by_cases hji : j = i
      · rw [hji, ud_at]
      · rw [ud_k hji]; exact i1 j (by omega)
    · intro D1 ⟨i1, i2⟩
      refine wp_eq (e293_16 _) ?_
      refine wp_t (nI_le (a := 85) (Nat.le_refl _) (by decide)) ?_
      refine wp_cV m_copyb (fun D2 g => ?_)
      obtain ⟨g1, g2⟩ := g
      refine wp_eq (e293_35 _) ?_
      refine wp_cV m_copyc (fun D3 k => ?_)
      obtain ⟨k1, k2⟩ := k
      have hq : ∀ q, q ≠ 70 → q ≠ 92 → q ≠ 93 → q ≠ 94 → D3 q = D q := fun q h1 h2 h3 h4 => by rw [k2 q h4, g2 q h3, i2 q h2, Eq q h1]
      have h70 : D3 70 = E 70 := by rw [k2 70 (by decide), g2 70 (by decide), i2 70 (by decide)]
      have e7 : ∀ k, k ≠ 0 → k < 56 → D3 70 k = D 70 k := fun k h1 h2 => by rw [h70]; exact Ek k h1 h2
      refine wp_eq (e293_41 _) ⟨_, rfl, _, rfl, ⟨a1.mv (e7 8 (by decide) (by decide)) (e7 10 (by decide) (by decide)) (hq 72 (by decide) (by decide) (by decide) (by decide)) (hq 73 (by decide) (by decide) (by decide) (by decide)), a2.mv (fun k k1 k2 => e7 k (by omega) (by omega)) (hq 71 (by decide) (by decide) (by decide) (by decide)), by rw [hq 78 (by decide) (by decide) (by decide) (by decide)]; exact a3, by rw [e7 36 (by decide) (by decide), hq 79 (by decide) (by decide) (by decide) (by decide)]; exact a4, by rw [e7 51 (by decide) (by decide), hq 89 (by decide) (by decide) (by decide) (by decide)]; exact a5, ⟨by rw [h70]; exact E56, by rw [h70, E57]; exact a4.1, by rw [h70, E58]; exact a5.1, ?_, ?_, ?_⟩, by rw [e7 43 (by decide) (by decide)]; exact a7⟩, fun q h => hq q (by omega) (by omega) (by omega) (by omega)⟩
      · rw [k2 92 (by decide), g2 92 (by decide)]
        exact a3.copy hn (fun i hi => by rw [Nat.zero_add]; exact i1 i hi)
      · rw [k2 93 (by decide)]
        exact a4.2.cp hn hσ.2.2.2.1.1 (fun i hi => by rw [g1 i hi, i2 79 (by decide), Eq 79 (by decide)])
      · exact a5.2.cp hσ.2.2.2.2.1.1 (fun i hi => by rw [k1 i hi, g2 89 (by decide), i2 89 (by decide), Eq 89 (by decide)])
end UNDO
