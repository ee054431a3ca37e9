/-! ===== old, look: the class ===== -/
theorem sar_k : ∀ k, k < 32 → (nI k &&& 31) = nI k ∧ ((nI k).toBitVec.smod 32).toNat = k := by decide +kernel
theorem sar_n {V k : Nat} (hV : V < 2 ^ 31) (hk : k < 32) : nI V >>> (nI k &&& 31) = nI (V / 2 ^ k) := by
  obtain ⟨e1, e2⟩ := sar_k k hk
  rw [e1]
  refine Int32.toBitVec_inj.1 ?_
  show (BitVec.ofNat 32 V).sshiftRight' ((nI k).toBitVec.smod 32) = BitVec.ofNat 32 (V / 2 ^ k)
  rw [BitVec.sshiftRight', e2]
  apply BitVec.eq_of_getLsbD_eq
  intro i hi
  rw [BitVec.getLsbD_sshiftRight, BitVec.getLsbD_ofNat, BitVec.getLsbD_ofNat, Nat.testBit_div_two_pow]
  have hm : (BitVec.ofNat 32 V).msb = false := by
    rw [BitVec.msb_eq_getLsbD_last, BitVec.getLsbD_ofNat, Nat.testBit_lt_two_pow (by simpa using hV), Bool.and_false]
  rw [hm, decide_eq_true hi, Nat.add_comm k i]
  by_cases h : i + k < 32
  · simp [h]
    intro hh; omega
  · have hf : V.testBit (i + k) = false := Nat.testBit_lt_two_pow (Nat.lt_of_lt_of_le hV (Nat.pow_le_pow_right (by decide) (by omega)))
    simp [h, hf]
theorem tb_V {V k : Nat} (hV : V < 2 ^ 31) (hk : k < 32) : tbN (nI V) k = if V.testBit k = true then 1 else 0 := by
  unfold tbN
  rw [sar_n hV hk]
  show nI (V / 2 ^ k) &&& nI 1 = _
  rw [nI_and, Nat.and_one_is_mod, Nat.testBit_eq_decide_div_mod_eq]
  have : V / 2 ^ k % 2 = 0 ∨ V / 2 ^ k % 2 = 1 := by omega
  rcases this with h | h <;> rw [h] <;> rfl
theorem tb_orP31 {P : Nat → Bool} {n k : Nat} (hn : n ≤ 31) (hk : k < 32) : tbN (orP P n) k = if k < n ∧ P k = true then 1 else 0 := by
  obtain ⟨V, v1, v2, v3⟩ := orP_V P n hn
  have hV : V < 2 ^ 31 := Nat.lt_of_lt_of_le v1 (Nat.pow_le_pow_right (by decide) hn)
  rw [v2, tb_V hV hk, v3 k]
  by_cases h : k < n ∧ P k = true
  · rw [if_pos h, h.2, decide_eq_true h.1]; rfl
  · rw [if_neg h, if_neg]
    intro z
    rw [Bool.and_eq_true] at z
    exact h ⟨of_decide_eq_true z.1, z.2⟩
theorem all_iff {P : Nat → Bool} : ∀ {n : Nat}, allN P n = true ↔ ∀ k, k < n → P k = true
  | 0 => ⟨fun _ k hk => absurd hk (Nat.not_lt_zero k), fun _ => rfl⟩
  | n + 1 => by
    rw [allN, Bool.and_eq_true, all_iff]
    constructor
    · intro ⟨h1, h2⟩ k hk
      by_cases h : k = n
      · rw [h]; exact h2
      · exact h1 k (by omega)
    · intro h
      exact ⟨fun k hk => h k (by omega), h n (by omega)⟩
def soK (l : List Sn) (s : Cc) (n : Nat) : Bool := l.all (fun e => decide (¬ e.2.1 = n) || decide (pewO (s e.1) = nI e.2.2))
theorem so_all {ρ : Ru} {c : Cc} {l : List Sn} {m : Nat} (h : ∀ e ∈ l, e.2.1 < m) : soN ρ c l = allN (fun k => soK l (sunK ρ c k) k) m := by
  have key : soN ρ c l = true ↔ allN (fun k => soK l (sunK ρ c k) k) m = true := by
    rw [all_iff]
    unfold soN soK
    constructor
    · intro h1 k hk
      rw [List.all_eq_true] at h1 ⊢
      intro e he
      by_cases hek : e.2.1 = k
      · have := h1 e he
        rw [hek] at this
        simp only [hek, not_true_eq_false, decide_false, Bool.false_or]
        exact this
      · simp [hek]
    · intro h1
      rw [List.all_eq_true]
      intro e he
      have := h1 e.2.1 (h e he)
      rw [List.all_eq_true] at this
      have := this e he
      simpa using this
  cases h1 : soN ρ c l <;> cases h2 : allN (fun k => soK l (sunK ρ c k) k) m <;> simp_all
/-- with another age, or as it is -/
def ageC (c : Cc) (o : Option (Nat × Nat)) : Cc := match o with | none => c | some (p, a) => upd c (12 + p) (nI a)
def agX (o : Option (Nat × Nat)) : Int32 := match o with | none => -1 | some (p, _) => nI p
def agY (o : Option (Nat × Nat)) : Int32 := match o with | none => -1 | some (_, a) => nI a
def agOk (n : Nat) (o : Option (Nat × Nat)) : Prop := ∀ p a, o = some (p, a) → p < n ∧ a ≤ 29
theorem getD_el {l : List Sn} {j : Nat} (h : j < l.length) : l.getD j (0, 0, 0) = l[j] := by
  rw [List.getD_eq_getElem?_getD, List.getElem?_eq_getElem h]; rfl
section OLD
variable {X : XS} {d u : Nat} {D D1 : DD} {J : JJ} {σ : Sg} {ρ : Ru} {c : Cc} {l : List Sn} {o : Option (Nat × Nat)} {n : Nat}
theorem age_good (hn : ρ.1 ≤ 12) (hG : Good ρ c) (ho : agOk ρ.1 o) : Good ρ (ageC c o) := by
  cases o with
  | none => exact hG
  | some x =>
    obtain ⟨p, a⟩ := x
    obtain ⟨h1, h2⟩ := ho p a rfl
    exact hG.set hn h1 (Or.inl ⟨rfl, rfl⟩) (nI_pos (by omega)) (Int32.not_lt.mpr (nI_le h2 (by decide)))
theorem c_23 (hσ : SgOk σ) (hC : CI σ D) (ho : agOk σ.2.1.1 o) : Wp (EvM X (d + 1) 23 [.ref 52, .int (agX o), .int (agY o)] (hS u D J)) (RV u J (fun D' => PewsC 31 σ.2.1 (ageC σ.2.2.1 o) D' ∧ FrP 31 D D')) := by
  have hn := hσ.2.1.1.1
  refine wp_eq (e23_0 _ _) ?_
  refine wp_cV (c_trial hσ hC) (fun D1 h1 => ?_)
  refine wp_eq (e23_5 _ _) ?_
  cases o with
  | none => exact wp_t rfl (wp_rV h1)
  | some x =>
    obtain ⟨p, a⟩ := x
    obtain ⟨p1, p2⟩ := ho p a rfl
    have ep : agX (some (p, a)) = nI p := rfl
    have ea : agY (some (p, a)) = nI a := rfl
    rw [ep, ea, la, nI_clamp (show 12 + p < 2 ^ 31 by omega)]
    exact wp_f (nI_ne1 (by omega)) (oG (by omega) (by decide) (wp_rV ⟨trial_age hn h1.1 p1, h1.2.tr (FrP.ud isP31 (by omega) (by omega))⟩))
theorem c_96 (hs : SeenC 48 l D) (hl : l.length ≤ 8) (hb : ∀ e ∈ l, e.2.1 ≤ 20) : ∃ L, L ≤ 21 ∧ (∀ e ∈ l, e.2.1 < L) ∧ EvM X d 96 [.ref 48] (hS u D J) = some (.inl (some (.int (nI L - 1))), hS u D J) := by
  suffices h : Wp (EvM X d 96 [.ref 48] (hS u D J)) (RI u J (fun y D' => (∃ L, L ≤ 21 ∧ (∀ e ∈ l, e.2.1 < L) ∧ y = nI L - 1) ∧ D' = D)) by
    obtain ⟨Y, h1, y, D', rfl, ⟨L, l1, l2, rfl⟩, rfl⟩ := h
    exact ⟨L, l1, l2, h1⟩
  have hget : ∀ j, j < l.length → l.getD j (0, 0, 0) ∈ l := fun j hj => by
    rw [getD_el hj]; exact List.getElem_mem hj
  refine wp_eq (e96_0 (Or.inl rfl)) ?_
  refine wp_loop (R := fun j (L : Nat) => Ev X d 96 (4, [.ref 48, .int (nI L - 1), .int (nI j)], [], hS u D J)) (fun j (L : Nat) => L ≤ 21 ∧ ∀ i, i < j → (l.getD i (0, 0, 0)).2.1 < L) l.length ?_ ?_ 0 0 (Nat.zero_le _) ⟨by decide, fun i hi => absurd hi (Nat.not_lt_zero i)⟩
  · intro j L hj ⟨i1, i2⟩ ih
    obtain ⟨-, s2, -⟩ := hs.2 j hj
    have hb20 := hb _ (hget j hj)
    refine wp_eq (e96_4 (Or.inl rfl) _ _) ?_
    rw [hs.1]
    refine wp_f (nI_ge hj (by omega)) ?_
    rw [nI_clamp (show j < 2 ^ 31 by omega), s2, nI_1]
    refine oG (by omega) (by decide) ?_
    by_cases hlt : nI L - 1 < nI (l.getD j (0, 0, 0)).2.1
    · rw [if_pos hlt]
      have e : nI (l.getD j (0, 0, 0)).2.1 = nI ((l.getD j (0, 0, 0)).2.1 + 1) - 1 := by rw [← nI_1, Int32.add_sub_cancel]
      rw [e]
      have hL : L ≤ (l.getD j (0, 0, 0)).2.1 := by
        apply Nat.le_of_not_lt
        intro z
        have e1 : nI L - 1 = nI (L - 1) := nI_sub (b := 1) (by omega)
        rw [e1] at hlt
        have := (nI_ltI (by omega) (by omega)).mp hlt
        omega
      refine ih _ ⟨by omega, fun i hi => ?_⟩
      by_cases hij : i = j
      · rw [hij]; omega
      · have := i2 i (by omega); omega
    · rw [if_neg hlt]
      refine ih _ ⟨i1, fun i hi => ?_⟩
      by_cases hij : i = j
      · rw [hij]
        apply Nat.lt_of_not_le
        intro z
        apply hlt
        by_cases hL : L = 0
        · rw [hL]
          exact Int32.lt_of_lt_of_le (b := 0) (by decide) (nI_pos' (by omega))
        · have e1 : nI L - 1 = nI (L - 1) := nI_sub (b := 1) (by omega)
          rw [e1]
          exact nI_lt (by omega) (by omega)
      · exact i2 i (by omega)
  · intro L ⟨i1, i2⟩
    refine wp_eq (e96_4 (Or.inl rfl) _ _) ?_
    rw [hs.1]
    refine wp_t (nI_le (Nat.le_refl _) (by omega)) (wp_rI ⟨⟨L, i1, fun e he => ?_, rfl⟩, rfl⟩)
    obtain ⟨j, hj, rfl⟩ := List.mem_iff_getElem.mp he
    have := i2 j hj
    rw [getD_el hj] at this
    exact this
theorem c_97 {s : Cc} (hs : SeenC 48 l D) (hl : l.length ≤ 8) (hb : ∀ e ∈ l, e.1 < 12 ∧ e.2.1 ≤ 20 ∧ e.2.2 < 12) (h32 : D 32 = s) (hn : n ≤ 21) : EvM X (d + 1) 97 [.ref 48, .ref 31, .int (nI n)] (hS u D J) = some (.inl (some (.int (bI32 (soK l s n)))), hS u D J) := by
  refine wp_eqI ?_
  refine wp_eq (e97_0 (Or.inl rfl) _) ?_
  have main : ∀ (r k : Nat), k + r = l.length → Wp (Ev X (d + 1) 97 (2, [.ref 48, .ref 31, .int (nI n), .int (nI k)], [], hS u D J)) (RI u J (fun y D' => y = bI32 (soK (l.drop k) s n) ∧ D' = D)) := by
    intro r
    induction r with
    | zero =>
      intro k hk
      refine wp_eq (e97_2 (Or.inl rfl) _ _) ?_
      rw [hs.1]
      refine wp_t (nI_le (by omega) (by omega)) (wp_rI ⟨?_, rfl⟩)
      rw [List.drop_of_length_le (by omega)]; rfl
    | succ r ih =>
      intro k hk
      have hkl : k < l.length := by omega
      have ed : l.drop k = l.getD k (0, 0, 0) :: l.drop (k + 1) := by
        rw [getD_el hkl]; exact List.drop_eq_getElem_cons hkl
      have hm : l.getD k (0, 0, 0) ∈ l := by
        rw [getD_el hkl]; exact List.getElem_mem hkl
      obtain ⟨b1, b2, b3⟩ := hb _ hm
      obtain ⟨s1, s2, s3⟩ := hs.2 k hkl
      have ih := ih (k + 1) (by omega)
      refine wp_eq (e97_2 (Or.inl rfl) _ _) ?_
      rw [hs.1]
      refine wp_f (nI_ge hkl (by omega)) ?_
      rw [nI_clamp (show k < 2 ^ 31 by omega), s2, nI_1]
      refine oG (by omega) (by decide) ?_
      have hd : soK (l.drop k) s n = ((decide (¬ (l.getD k (0, 0, 0)).2.1 = n) || decide (pewO (s (l.getD k (0, 0, 0)).1) = nI (l.getD k (0, 0, 0)).2.2)) && soK (l.drop (k + 1)) s n) := by
        rw [ed]; rfl
      rw [hd]
      refine wp_if (fun h => ?_) (fun h => ?_)
      · rw [decide_eq_true (show ¬ (l.getD k (0, 0, 0)).2.1 = n from fun z => h (by rw [z])), Bool.true_or, Bool.true_and]
        exact ih
      · have h := nI_inj (by omega) (by omega) (Classical.not_not.mp h)
        rw [s1, la, nI_clamp (show 0 + (l.getD k (0, 0, 0)).1 < 2 ^ 31 by omega), Nat.zero_add, h32]
        refine oG (by omega) (by decide) (oG (by omega) (by decide) (wp_iE c_pewOf ?_))
        refine wp_eq (e97_22 (Or.inl rfl) _ _ _) ?_
        rw [nI_clamp (show k < 2 ^ 31 by omega), s3, nI_1, decide_eq_false (show ¬ ¬ (l.getD k (0, 0, 0)).2.1 = n from fun z => z h), Bool.false_or]
        refine oG (by omega) (by decide) (wp_if (fun h2 => ?_) (fun h2 => ?_))
        · rw [decide_eq_true h2, Bool.true_and]; exact ih
        · rw [decide_eq_false h2, Bool.false_and]; exact wp_rI ⟨rfl, rfl⟩
  exact main l.length 0 (by omega)
theorem c_22 (hσ : SgOk σ) (hC : CI σ D) (ho : agOk σ.2.1.1 o) : Wp (EvM X (d + 4) 22 [.ref 52, .int (agX o), .int (agY o)] (hS u D J)) (RI u J (fun y D' => y = bI32 (soN σ.2.1 (ageC σ.2.2.1 o) σ.2.2.2.2.1) ∧ CI σ D' ∧ FrP 31 D D')) := by
  have hn := hσ.2.1.1.1
  have hG := age_good hn hσ.2.2.1 ho
  have hg := Good.sunK hσ.2.1.1 hG
  obtain ⟨hl8, hle⟩ := hσ.2.2.2.2.1
  refine wp_eq (e22_0 _ _) ?_
  refine wp_cV (c_23 (d := d + 2) hσ hC ho) (fun D1 h1 => ?_)
  have hS1 : ∀ D2, FrP 31 D D2 → SeenC 48 σ.2.2.2.2.1 D2 := fun D2 f => hC.2.2.2.2.2.1.mv (f.1 48 (by omega) (by omega)) (f.1 49 (by omega) (by omega)) (f.1 50 (by omega) (by omega)) (f.1 51 (by omega) (by omega))
  obtain ⟨L, l1, l2, l3⟩ := c_96 (X := X) (d := d + 3) (u := u) (J := J) (hS1 D1 h1.2) hl8 (fun e he => (hle e he).2.1)
  refine wp_eq (e22_4 _ _) (wp_iE l3 ?_)
  refine wp_eq (e22_7 _ _ _) ?_
  rw [so_all (m := L) l2]
  have fin : ∀ D2 (b : Bool) k, FrP 31 D D2 → PewsC 31 σ.2.1 (sunK σ.2.1 (ageC σ.2.2.1 o) k) D2 → b = allN (fun k => soK σ.2.2.2.2.1 (sunK σ.2.1 (ageC σ.2.2.1 o) k) k) L → Wp (some (.inl (some (.int (bI32 b))), hS u D2 J)) (RI u J (fun y D' => y = bI32 (allN (fun k => soK σ.2.2.2.2.1 (sunK σ.2.1 (ageC σ.2.2.1 o) k) k) L) ∧ CI σ D' ∧ FrP 31 D D')) := by
    rintro D2 b k f w rfl
    have e : D2 32 = sunK σ.2.1 (ageC σ.2.2.1 o) k := w.1
    exact wp_rI ⟨rfl, hC.p31 f (by rw [e]; exact (hg k).2.1), f⟩
  have look : ∀ k D2, k < L → PewsC 31 σ.2.1 (sunK σ.2.1 (ageC σ.2.2.1 o) k) D2 → FrP 31 D D2 → allN (fun k => soK σ.2.2.2.2.1 (sunK σ.2.1 (ageC σ.2.2.1 o) k) k) k = true → (∀ D3, PewsC 31 σ.2.1 (sunK σ.2.1 (ageC σ.2.2.1 o) k) D3 ∧ FrP 31 D D3 ∧ allN (fun k => soK σ.2.2.2.2.1 (sunK σ.2.1 (ageC σ.2.2.1 o) k) k) (k + 1) = true → Wp (Ev X (d + 4) 22 (10, [.ref 52, .int (agX o), .int (agY o), .int (nI L - 1), .int (nI (k + 1))], [], hS u D3 J)) (RI u J (fun y D' => y = bI32 (allN (fun k => soK σ.2.2.2.2.1 (sunK σ.2.1 (ageC σ.2.2.1 o) k) k) L) ∧ CI σ D' ∧ FrP 31 D D'))) → Wp (Ev X (d + 4) 22 (22, [.ref 52, .int (agX o), .int (agY o), .int (nI L - 1), .int (nI k)], [], hS u D2 J)) (RI u J (fun y D' => y = bI32 (allN (fun k => soK σ.2.2.2.2.1 (sunK σ.2.1 (ageC σ.2.2.1 o) k) k) L) ∧ CI σ D' ∧ FrP 31 D D')) := by
    intro k D2 hk w f ha ih
    refine wp_eq (e22_22 _ _ _ _) ?_
    refine wp_iE (c_97 (d := d + 2) (hS1 D2 f) hl8 (fun e he => ⟨by have := (hle e he).1; omega, (hle e he).2⟩) w.1 (by omega)) ?_
    refine wp_eq (e22_28 _ _ _ _ _) ?_
    rw [nI_1]
    cases hb : soK σ.2.2.2.2.1 (sunK σ.2.1 (ageC σ.2.2.1 o) k) k with
    | true =>
      refine wp_t (by decide) (ih D2 ⟨w, f, ?_⟩)
      rw [allN, ha, hb]; rfl
    | false =>
      refine wp_f (fun z => z rfl) (fin D2 false k f w ?_)
      have h1 : allN (fun k => soK σ.2.2.2.2.1 (sunK σ.2.1 (ageC σ.2.2.1 o) k) k) (k + 1) = false := by
        rw [allN, hb, Bool.and_false]
      exact (all_F h1 (by omega)).symm
  have lim : ∀ k, k ≤ 21 → (nI L - 1 < nI k ↔ L ≤ k) := by
    intro k hk
    by_cases hL : L = 0
    · rw [hL]
      exact ⟨fun _ => Nat.zero_le _, fun _ => Int32.lt_of_lt_of_le (b := 0) (by decide) (nI_pos' (by omega))⟩
    · have e1 : nI L - 1 = nI (L - 1) := nI_sub (b := 1) (by omega)
      rw [e1, nI_ltI (by omega) (by omega)]
      omega
  refine wp_loop (R := fun k (D2 : DD) => Ev X (d + 4) 22 (10, [.ref 52, .int (agX o), .int (agY o), .int (nI L - 1), .int (nI k)], [], hS u D2 J)) (fun k (D2 : DD) => PewsC 31 σ.2.1 (sunK σ.2.1 (ageC σ.2.2.1 o) (k - 1)) D2 ∧ FrP 31 D D2 ∧ allN (fun k => soK σ.2.2.2.2.1 (sunK σ.2.1 (ageC σ.2.2.1 o) k) k) k = true) L ?_ ?_ 0 D1 (Nat.zero_le _) ⟨h1.1, h1.2, rfl⟩
  · intro k D2 hk ⟨i1, i2, i3⟩ ih
    refine wp_eq (e22_10 _ _ _ _) (wp_f (fun z => by have := (lim k (by omega)).mp z; omega) ?_)
    have ih' : ∀ D3, PewsC 31 σ.2.1 (sunK σ.2.1 (ageC σ.2.2.1 o) k) D3 ∧ FrP 31 D D3 ∧ allN (fun k => soK σ.2.2.2.2.1 (sunK σ.2.1 (ageC σ.2.2.1 o) k) k) (k + 1) = true → Wp (Ev X (d + 4) 22 (10, [.ref 52, .int (agX o), .int (agY o), .int (nI L - 1), .int (nI (k + 1))], [], hS u D3 J)) (RI u J (fun y D' => y = bI32 (allN (fun k => soK σ.2.2.2.2.1 (sunK σ.2.1 (ageC σ.2.2.1 o) k) k) L) ∧ CI σ D' ∧ FrP 31 D D')) := fun D3 h3 => ih D3 h3
    by_cases h0 : k = 0
    · subst h0
      exact wp_t (by decide) (look 0 D2 hk i1 i2 i3 ih')
    · obtain ⟨k', rfl⟩ : ∃ k', k = k' + 1 := ⟨k - 1, by omega⟩
      refine wp_f (nI_ge (a := 0) (by omega) (by omega)) ?_
      have hC2 : RulesC σ.2.1 D2 := hC.2.1.p isP31 i2
      refine wp_cV (s_line (d := d + 2) (rain := false) isP31 hσ.2.1 hC2 i1.1) (fun D3 h3 => ?_)
      refine wp_eq (e22_19 _ _ _ _) ?_
      have e32 : D3 32 = sunK σ.2.1 (ageC σ.2.2.1 o) k' := by
        rw [h3.2.2.2.2.1 32 (by decide) (by decide) (by decide) (by decide)]; exact i1.1
      refine wp_cV (s_serv (d := d) (P := 31) isP31 hσ.2.1 (hC.2.1.p isP31 (i2.tr h3.fr)) e32 (line_D hn _ false) h3.1 h3.2.2.1) (fun D4 h4 => ?_)
      obtain ⟨a1, -, -, -, -, -, a7⟩ := h4
      exact look (k' + 1) D4 hk a1 ((i2.tr h3.fr).tr a7) i3 ih'
  · intro D2 ⟨i1, i2, i3⟩
    exact wp_eq (e22_10 _ _ _ _) (wp_t ((lim L l1).mpr (Nat.le_refl _)) (fin D2 true _ i2 i1 i3.symm))
/-- what the class has found -/
def guA (ρ : Ru) (c : Cc) (l : List Sn) (p a : Nat) : Bool := decide (p < ρ.1) && gueN ρ c l p a
theorem CI.gue {D' : DD} (h : CI σ D) (hq : ∀ q, q < 4 ∨ (6 ≤ q ∧ q ≤ 11) ∨ (26 ≤ q ∧ q ≤ 28) ∨ (37 ≤ q ∧ q ≤ 51) ∨ (55 ≤ q ∧ q ≤ 62) → D' q = D q) (h5 : ∀ i, 7 ≤ i → i < 357 → D' 5 i = D 5 i) (h32 : Tl (D' 32)) (hg : GueC σ.2.1 σ.2.2.1 σ.2.2.2.2.1 D') : CI σ D' := by
  obtain ⟨a1, a2, a3, a4, a5, a6, a7, a8, a9, a10, a11⟩ := h
  exact ⟨a1.mv (hq 0 (by omega)) (hq 1 (by omega)) (hq 2 (by omega)), a2.mv (hq 3 (by omega)) (fun q _ _ => hq q (by omega)) h5, a3.mv (hq 26 (by omega)) (hq 27 (by omega)) (hq 28 (by omega)), a4.mv (fun q _ _ => hq q (by omega)), a5.mv (hq 46 (by omega)) (hq 47 (by omega)), a6.mv (hq 48 (by omega)) (hq 49 (by omega)) (hq 50 (by omega)) (hq 51 (by omega)), hg, a8.mv (fun q _ _ => hq q (by omega)), h32, by rw [hq 39 (by omega)]; exact a10, by rw [hq 56 (by omega)]; exact a11⟩
def GuD (σ : Sg) (D : DD) : Prop := D 52 0 = 1 ∧ ∀ p, p < 12 → D 53 p = orP (guA σ.2.1 σ.2.2.1 σ.2.2.2.2.1 p) 30
theorem gu_eq (p : Nat) : (if p < σ.2.1.1 then orP (gueN σ.2.1 σ.2.2.1 σ.2.2.2.2.1 p) 30 else 0) = orP (guA σ.2.1 σ.2.2.1 σ.2.2.2.2.1 p) 30 := by
  by_cases h : p < σ.2.1.1
  · rw [if_pos h]
    have : guA σ.2.1 σ.2.2.1 σ.2.2.2.2.1 p = gueN σ.2.1 σ.2.2.1 σ.2.2.2.2.1 p := funext (fun a => by unfold guA; rw [decide_eq_true h, Bool.true_and])
    rw [this]
  · rw [if_neg h]
    exact ((orP_ne (by decide)).mpr (fun k _ => by unfold guA; rw [decide_eq_false h, Bool.false_and])).symm
theorem c_21 (hσ : SgOk σ) (hC : CI σ D) : Wp (EvM X (d + 5) 21 [.ref 52] (hS u D J)) (RV u J (fun D' => CI σ D' ∧ GuD σ D' ∧ ∀ q, 70 ≤ q → D' q = D q)) := by
  have hn := hσ.2.1.1.1
  refine wp_eq e21_0 ?_
  rcases hC.2.2.2.2.2.2.1 with h0 | ⟨h0, h1⟩
  · rw [h0]
    refine wp_t rfl ?_
    refine wp_cV (s_fill (Q := 53) (n := 12) (by unfold isQ; omega)) (fun D1 g => ?_)
    obtain ⟨f1, -, f3⟩ := g
    refine wp_eq e21_8 ?_
    have ci : ∀ D2 : DD, D2 52 = D 52 → (∀ q, (q < 31 ∨ 36 < q) → q ≠ 5 → q ≠ 53 → D2 q = D q) → (∀ i, 7 ≤ i → i < 357 → D2 5 i = D 5 i) → Tl (D2 32) → CI σ D2 := fun D2 e52 hq h5 h32 => hC.gue (fun q hh => hq q (by omega) (by omega) (by omega)) h5 h32 (Or.inl (by rw [e52]; exact h0))
    refine wp_loop (R := fun p (D2 : DD) => Ev X (d + 5) 21 (10, [.ref 52, .int (nI p), .null], [], hS u D2 J)) (fun p (D2 : DD) => (∀ q, q < p → D2 53 q = orP (gueN σ.2.1 σ.2.2.1 σ.2.2.2.2.1 q) 30) ∧ (∀ q, p ≤ q → q < 12 → D2 53 q = 0) ∧ (∀ q, (q < 31 ∨ 36 < q) → q ≠ 5 → q ≠ 53 → D2 q = D q) ∧ (∀ i, 7 ≤ i → i < 357 → D2 5 i = D 5 i) ∧ Tl (D2 32)) σ.2.1.1 ?_ ?_ 0 D1 (Nat.zero_le _) ⟨fun q hq => absurd hq (Nat.not_lt_zero q), fun q _ hq => f1 q hq, fun q _ _ h => f3 q h, fun i _ _ => by rw [f3 5 (by decide)], by rw [f3 32 (by decide)]; exact hC.2.2.2.2.2.2.2.2.1⟩
    · intro p D2 hp ⟨i1, i2, i3, i4, i5⟩ ih
      refine wp_eq (e21_10 _) ?_
      rw [i3 3 (by omega) (by omega) (by omega), hC.2.1.1]
      refine wp_f (nI_ge hp (by omega)) ?_
      refine wp_loop (R := fun a (D3 : DD) => Ev X (d + 5) 21 (18, [.ref 52, .int (nI p), .int (nI a)], [], hS u D3 J)) (fun a (D3 : DD) => D3 53 p = orP (gueN σ.2.1 σ.2.2.1 σ.2.2.2.2.1 p) a ∧ (∀ q, q ≠ p → D3 53 q = D2 53 q) ∧ (∀ q, (q < 31 ∨ 36 < q) → q ≠ 5 → q ≠ 53 → D3 q = D q) ∧ (∀ i, 7 ≤ i → i < 357 → D3 5 i = D 5 i) ∧ Tl (D3 32)) 30 ?_ ?_ 0 D2 (by decide) ⟨i2 p (Nat.le_refl _) (by omega), fun _ _ => rfl, i3, i4, i5⟩
      · intro a D3 ha ⟨j1, j2, j3, j4, j5⟩ ih3
        have hC3 := ci D3 (j3 52 (by omega) (by omega) (by omega)) j3 j4 j5
        have e26 : D3 26 = σ.2.2.1 := hC3.2.2.1.1
        refine wp_eq (e21_18 _ _) (wp_f (Int32.not_lt.mpr (nI_le (b := 29) (by omega) (by decide))) ?_)
        rw [la, nI_clamp (show 12 + p < 2 ^ 31 by omega), e26, nI_1]
        refine oG (by omega) (by decide) (wp_if (fun h => ?_) (fun h => ?_))
        · have hg : gueN σ.2.1 σ.2.2.1 σ.2.2.2.2.1 p a = false := by
            unfold gueN
            rw [decide_eq_false (fun z => z h), Bool.false_and]
          refine ih3 D3 ⟨?_, j2, j3, j4, j5⟩
          rw [orP, hg, j1]; simp
        · refine wp_cI (c_22 (d := d) (o := some (p, a)) hσ hC3 (fun p' a' e => by cases e; exact ⟨hp, by omega⟩)) (fun y D4 h4 => ?_)
          obtain ⟨rfl, k1, k2⟩ := h4
          have hg : gueN σ.2.1 σ.2.2.1 σ.2.2.2.2.1 p a = soN σ.2.1 (ageC σ.2.2.1 (some (p, a))) σ.2.2.2.2.1 := by
            unfold gueN
            rw [decide_eq_true h, Bool.true_and]; rfl
          have e53 : D4 53 = D3 53 := k2.1 53 (by omega) (by omega)
          have q4 : ∀ q, (q < 31 ∨ 36 < q) → q ≠ 5 → q ≠ 53 → D4 q = D q := fun q a1 a2 a3 => by rw [k2.1 q (by omega) a2]; exact j3 q a1 a2 a3
          have h54 : ∀ i, 7 ≤ i → i < 357 → D4 5 i = D 5 i := fun i a1 a2 => by rw [k2.2 i a1 a2]; exact j4 i a1 a2
          have t4 : Tl (D4 32) := k1.2.2.2.2.2.2.2.2.1
          refine wp_eq (e21_34 _ _ _) ?_
          rw [← hg, nI_1]
          cases hb : gueN σ.2.1 σ.2.2.1 σ.2.2.2.2.1 p a with
          | false =>
            refine wp_t rfl (ih3 D4 ⟨?_, fun q hq => by rw [e53]; exact j2 q hq, q4, h54, t4⟩)
            rw [orP, hb, e53, j1]; simp
          | true =>
            rw [nI_clamp (show p < 2 ^ 31 by omega), e53, j1]
            refine wp_f (by decide) (oG (by omega) (by decide) (oG (by omega) (by decide) (ih3 _ ⟨?_, fun q hq => by rw [ud_k hq, e53]; exact j2 q hq, fun q a1 a2 a3 => by rw [ud_q a3]; exact q4 q a1 a2 a3, fun i a1 a2 => by rw [ud_q (by decide)]; exact h54 i a1 a2, by rw [ud_q (by decide)]; exact t4⟩)))
            rw [ud_at, orP, if_pos hb]; rfl
      · intro D3 ⟨j1, j2, j3, j4, j5⟩
        refine wp_eq (e21_18 _ _) (wp_t (nI_lt (a := 29) (b := 30) (by decide) (by decide)) ?_)
        rw [nI_1]
        refine wp_weak (ls := [.ref 52, .int (nI (p + 1)), .null]) (by simp [lle, lng]) ?_
        refine ih D3 ⟨fun q hq => ?_, fun q q1 q2 => by rw [j2 q (by omega)]; exact i2 q (by omega) q2, j3, j4, j5⟩
        by_cases hqp : q = p
        · rw [hqp]; exact j1
        · rw [j2 q hqp]; exact i1 q (by omega)
    · intro D2 ⟨i1, i2, i3, i4, i5⟩
      refine wp_eq (e21_10 _) ?_
      rw [i3 3 (by omega) (by omega) (by omega), hC.2.1.1]
      have hd : ∀ p, p < 12 → ud D2 52 0 1 53 p = if p < σ.2.1.1 then orP (gueN σ.2.1 σ.2.2.1 σ.2.2.2.2.1 p) 30 else 0 := fun p hp => by
        rw [ud_q (by decide)]
        by_cases h : p < σ.2.1.1
        · rw [if_pos h]; exact i1 p h
        · rw [if_neg h]; exact i2 p (by omega) hp
      refine wp_t (nI_le (Nat.le_refl _) (by omega)) (wp_rV ⟨hC.gue (fun q hh => by rw [ud_q (by omega)]; exact i3 q (by omega) (by omega) (by omega)) (fun i a1 a2 => by rw [ud_q (by decide)]; exact i4 i a1 a2) (by rw [ud_q (by decide)]; exact i5) (Or.inr ⟨ud_at _ _ _ _, hd⟩), ⟨ud_at _ _ _ _, fun p hp => by rw [hd p hp]; exact gu_eq p⟩, fun q hq => by rw [ud_q (by omega)]; exact i3 q (by omega) (by omega) (by omega)⟩)
  · rw [h0]
    refine wp_f (by decide) (wp_rV ⟨hC, ⟨h0, fun p hp => by rw [h1 p hp]; exact gu_eq p⟩, fun _ _ => rfl⟩)
end OLD
