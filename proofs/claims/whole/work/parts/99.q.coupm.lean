/-! ===== couples: the reference ===== -/
def FZ (n S : Nat) : Nat → Bool := fun p => decide (p < n) && !S.testBit p
theorem fs_b {n S r : Nat} (h : FZ n S r = true) : r < n := by
  unfold FZ at h
  rw [Bool.and_eq_true] at h
  exact of_decide_eq_true h.1
theorem fs_rm1 (n S p : Nat) : rmF (FZ n S) p p = FZ n (S ||| 2 ^ p) := by
  funext r
  unfold rmF FZ
  rw [tb_add]
  by_cases h : r = p
  · rw [decide_eq_true h, decide_eq_true h.symm]; simp
  · rw [decide_eq_false h, decide_eq_false (show ¬ p = r from fun z => h z.symm)]; simp
theorem fs_rm2 (n S p q : Nat) : rmF (FZ n S) p q = FZ n (S ||| 2 ^ p ||| 2 ^ q) := by
  funext r
  unfold rmF FZ
  rw [tb_add, tb_add]
  by_cases h : r = p
  · rw [decide_eq_true h, decide_eq_true h.symm]; simp
  · rw [decide_eq_false h, decide_eq_false (show ¬ p = r from fun z => h z.symm)]
    by_cases h2 : r = q
    · rw [decide_eq_true h2, decide_eq_true h2.symm]; simp
    · rw [decide_eq_false h2, decide_eq_false (show ¬ q = r from fun z => h2 z.symm)]; simp
theorem fs_0 (n : Nat) : FZ n 0 = FN n := by
  funext r
  unfold FZ FN
  rw [Nat.zero_testBit]; simp
theorem low0 {n S : Nat} (h : S < 2 ^ n) (hne : S ≠ 2 ^ n - 1) : ∃ p, p < n ∧ S.testBit p = false ∧ ∀ r, r < p → S.testBit r = true := by
  cases hf : findN (fun r => !S.testBit r) n 0 with
  | none =>
    exfalso
    apply hne
    apply Nat.eq_of_testBit_eq
    intro i
    rw [Nat.testBit_two_pow_sub_one]
    by_cases hi : i < n
    · have := find_no hf i (Nat.zero_le _) (by omega)
      rw [decide_eq_true hi]
      simpa using this
    · rw [decide_eq_false hi]
      exact Nat.testBit_lt_two_pow (Nat.lt_of_lt_of_le h (Nat.pow_le_pow_right (by decide) (by omega)))
  | some p =>
    obtain ⟨p1, -, p3⟩ := find_mem hf
    refine ⟨p, by omega, by simpa using p1, fun r hr => ?_⟩
    have := find_first hf r (Nat.zero_le _) hr
    simpa using this
theorem min_le {n : Nat} {adj : Nat → Nat → Bool} {ds : Nat → Nat → Nat} {F : Nat → Bool} : coN n ds F (fun r => r) ≤ 1000 * n := by
  unfold coN
  induction n with
  | zero => exact Nat.le_refl 0
  | succ n ih =>
    rw [sumN, Nat.mul_succ]
    have : (if F n = true then csN ds n n else 0) ≤ 1000 := by
      split
      · exact Nat.le_of_eq (if_pos rfl)
      · omega
    exact Nat.add_le_add ih this
theorem id_MT (adj : Nat → Nat → Bool) (F : Nat → Bool) : MT adj F (fun r => r) := ⟨fun _ => rfl, fun _ _ => rfl, fun _ h => absurd rfl h⟩
section COUPM
variable {X : XS} {d u : Nat} {D D1 : DD} {J : JJ} {σ : Sg} {ρ : Ru} {c : Cc}
theorem m_276 {n S : Nat} (hn : n ≤ 12) (h : S < 2 ^ n) {p : Nat} (hp : p < n) (h1 : S.testBit p = false) (h2 : ∀ r, r < p → S.testBit r = true) : EvM X d 276 [.int (nI S)] (hS u D J) = some (.inl (some (.int (nI p))), hS u D J) := by
  have hS31 : S < 2 ^ 31 := Nat.lt_of_lt_of_le h (Nat.pow_le_pow_right (by decide) (by omega))
  have tb : ∀ r, r < 32 → (nI S >>> (nI r &&& 31)) &&& 1 = if S.testBit r = true then 1 else 0 := fun r hr => tb_V hS31 hr
  refine wp_eqI ?_
  refine wp_eq (e276_0 _) ?_
  refine wp_loop (R := fun r (_ : Unit) => Ev X d 276 (2, [.int (nI S), .int (nI r)], [], hS u D J)) (fun _ _ => True) p ?_ ?_ 0 () (Nat.zero_le _) trivial
  · intro r _ hr _ ih
    refine wp_eq (e276_2 _ _) ?_
    rw [tb r (by omega), h2 r hr, nI_1]
    exact wp_f (fun z => z rfl) (ih () trivial)
  · intro _ _
    refine wp_eq (e276_2 _ _) ?_
    rw [tb p (by omega), h1]
    exact wp_t (by decide) (wp_rI ⟨rfl, rfl⟩)
theorem m_min {x y : Int32} : EvM X d 174 [.int x, .int y] (hS u D J) = some (.inl (some (.int (if y ≤ x then y else x))), hS u D J) := by
  refine (e174_0 x y).trans ?_
  by_cases h : y ≤ x
  · rw [brT h, if_pos h]
  · rw [brF h, if_neg h]
/-- the table -/
def Tb (ρ : Ru) (c : Cc) (t : Nat) (D : DD) : Prop := ∀ S, t ≤ S → S < 2 ^ ρ.1 → ∃ v, IsMin ρ.1 (adC ρ c) (dsC c) (FZ ρ.1 S) v ∧ D 88 S = nI v
theorem or_up {S p : Nat} (h : S.testBit p = false) : S + 1 ≤ S ||| 2 ^ p := by
  have h1 : S ≤ S ||| 2 ^ p := Nat.left_le_or
  have h2 : S ≠ S ||| 2 ^ p := fun z => by
    have : (S ||| 2 ^ p).testBit p = true := by rw [tb_add]; simp
    rw [← z, h] at this
    cases this
  omega
theorem or_lt {n S p : Nat} (h : S < 2 ^ n) (hp : p < n) : S ||| 2 ^ p < 2 ^ n := Nat.or_lt_two_pow h (Nat.pow_lt_pow_right (by decide) hp)
theorem p12le {n : Nat} (hn : n ≤ 12) : 2 ^ n ≤ 4096 := Nat.pow_le_pow_right (n := 2) (by decide) hn
theorem m_275 {S p q : Nat} (hG : Good ρ c) (hn : ρ.1 ≤ 12) (hr : RowM 0 ρ c (D 78)) (hs0 : S < 2 ^ ρ.1) (hp : p < ρ.1) (hq : q < ρ.1) {v : Nat} (hv : D 88 (S ||| 2 ^ p ||| 2 ^ q) = nI v) : EvM X (d + 1) 275 [.ref 70, .int (nI S), .int (nI p), .int (nI q)] (hS u D J) = some (.inl (some (.int (nI (dsC c p q + v)))), hS u D J) := by
  obtain ⟨a, a1, a2⟩ := hG.2.2.2.1 p hp
  obtain ⟨b, b1, b2⟩ := hG.2.2.2.1 q hq
  obtain ⟨t1, -⟩ := hr.s hn hp
  obtain ⟨t2, -⟩ := hr.s hn hq
  rw [Nat.zero_add, a2] at t1
  rw [Nat.zero_add, b2] at t2
  have hb := p12le hn
  have hlt := or_lt (or_lt hs0 hp) hq
  have ed : dsC c p q = (a - b) + (b - a) := by
    unfold dsC agV
    rw [a2, b2, nI_clamp (by omega), nI_clamp (by omega)]
  refine wp_eqI ?_
  refine wp_eq (e275_0 _ _ _) ?_
  rw [la, la, nI_clamp (show 1 + p < 2 ^ 31 by omega), nI_clamp (show 1 + q < 2 ^ 31 by omega), t1, t2]
  refine oG (by omega) (by decide) (oG (by omega) (by decide) (wp_iE s_apart ?_))
  rw [(abs30 a (by omega) b (by omega)).2]
  refine wp_eq (e275_13 _ _ _ _) ?_
  have ei : (nI S ||| ((1 : Int32) <<< (nI p &&& 31))) ||| ((1 : Int32) <<< (nI q &&& 31)) = nI (S ||| 2 ^ p ||| 2 ^ q) := by
    show (nI S ||| bitN p) ||| bitN q = _
    rw [bit_p p (by omega), bit_p q (by omega), nI_or, nI_or]
  rw [ei, nI_clamp (by omega), hv, nI_add, ← ed]
  exact oG (by omega) (by decide) (wp_rI ⟨rfl, rfl⟩)
theorem m_277 (hG : Good ρ c) (hn : ρ.1 ≤ 12) (h1 : D 70 1 = nI ρ.1) (hr : RowM 0 ρ c (D 78)) : Wp (EvM X (d + 3) 277 [.ref 70] (hS u D J)) (RV u J (fun D' => Tb ρ c 0 D' ∧ ∀ q, q ≠ 88 → D' q = D q)) := by
  have hO := hG.1
  have hb := p12le hn
  have hpow : 0 < 2 ^ ρ.1 := Nat.two_pow_pos _
  have e1 : ((1 : Int32) <<< (D 70 1 &&& 31)) - 1 = nI (2 ^ ρ.1 - 1) := by
    rw [h1]
    show bitN ρ.1 - 1 = _
    rw [bit_p _ (by omega)]
    exact nI_sub (b := 1) (by omega)
  refine wp_eq e277_0 ?_
  rw [e1, nI_clamp (show 2 ^ ρ.1 - 1 < 2 ^ 31 by omega)]
  refine oG (by omega) (by decide) ?_
  refine wp_down (R := fun t (D1 : DD) => Ev X (d + 3) 277 (16, [.ref 70, .int (nI (2 ^ ρ.1 - 1)), .int (nI t - 1), .null, .null, .null], [], hS u D1 J)) (fun t (D1 : DD) => t ≤ 2 ^ ρ.1 - 1 ∧ Tb ρ c t D1 ∧ ∀ q, q ≠ 88 → D1 q = D q) ?_ ?_ (2 ^ ρ.1 - 1) _ ⟨Nat.le_refl _, fun S hS1 hS2 => ?_, fun q hq => ud_q hq⟩
  · intro t D1 ⟨i0, i1, i2⟩ ih
    have ht : t < 2 ^ ρ.1 := by omega
    obtain ⟨p, p1, p2, p3⟩ := low0 ht (by omega)
    have hr1 : RowM 0 ρ c (D1 78) := by rw [i2 78 (by decide)]; exact hr
    have e70 : D1 70 1 = nI ρ.1 := by rw [i2 70 (by decide)]; exact h1
    have et : nI (t + 1) - 1 = nI t := by rw [← nI_1, Int32.add_sub_cancel]
    have hFp : FZ ρ.1 t p = true := by unfold FZ; rw [decide_eq_true p1, p2]; rfl
    have hFl : ∀ r, r < p → FZ ρ.1 t r = false := fun r hr => by unfold FZ; rw [p3 r hr]; simp
    have hup := or_up p2
    refine wp_eq (e277_16 _ _) ?_
    rw [et]
    refine wp_f (nI_pos (by omega)) (wp_iE (m_276 hn ht p1 p2 p3) ?_)
    refine wp_eq (e277_20 _ _ _) ?_
    have ei : nI t ||| ((1 : Int32) <<< (nI p &&& 31)) = nI (t ||| 2 ^ p) := by
      show nI t ||| bitN p = _
      rw [bit_p p (by omega), nI_or]
    have hlt1 := or_lt ht p1
    obtain ⟨v0, v1, v2⟩ := i1 (t ||| 2 ^ p) (by omega) hlt1
    rw [ei, nI_clamp (by omega), v2, la, nI_1]
    refine oG (by omega) (by decide) ?_
    have st0 : StI ρ.1 (adC ρ c) (dsC c) (FZ ρ.1 t) p (p + 1) (1000 + v0) := st_0 (fun r => fs_b) hFp hFl (by rw [fs_rm1]; exact v1)
    have bound : ∀ k v, p < k → StI ρ.1 (adC ρ c) (dsC c) (FZ ρ.1 t) p k v → v < 2 ^ 31 := fun k v hk h => by
      have h1 := h.2 _ (id_MT _ _) hk
      have h2 := min_le (n := ρ.1) (adj := adC ρ c) (ds := dsC c) (F := FZ ρ.1 t)
      omega
    refine wp_loop (R := fun q (v : Nat) => Ev X (d + 3) 277 (36, [.ref 70, .int (nI (2 ^ ρ.1 - 1)), .int (nI t), .int (nI p), .int (nI v), .int (nI q)], [], hS u D1 J)) (fun q (v : Nat) => p < q ∧ StI ρ.1 (adC ρ c) (dsC c) (FZ ρ.1 t) p q v) ρ.1 ?_ ?_ (p + 1) (1000 + v0) (by omega) ⟨by omega, st0⟩
    · intro q v hq ⟨hpq, hst⟩ ih2
      have eb : (nI t >>> (nI q &&& 31)) &&& 1 = if t.testBit q = true then 1 else 0 := tb_V (by omega) (by omega)
      refine wp_eq (e277_36 _ _ _ _ _) ?_
      rw [e70, eb, nI_1]
      refine wp_f (nI_ge hq (by omega)) ?_
      by_cases htb : t.testBit q = true
      · rw [if_pos htb]
        refine wp_t (by decide) (ih2 v ⟨by omega, st_no hst (Or.inl ?_) (by omega)⟩)
        unfold FZ
        rw [htb]; simp
      · rw [if_neg htb]
        have htb : t.testBit q = false := (Bool.not_eq_true _).mp htb
        refine wp_f (fun z => z rfl) (wp_iE (m_side (d := d + 1) (b := 0) (Or.inl rfl) hn hr1 p1 hq) ?_)
        rw [ad_bs hO p1 hq]
        refine wp_eq (e277_51 _ _ _ _ _ _) ?_
        rw [nI_1]
        cases ha : adC ρ c p q with
        | false => exact wp_t rfl (ih2 v ⟨by omega, st_no hst (Or.inr ha) (by omega)⟩)
        | true =>
          have hlt2 := or_lt hlt1 hq
          have hle : t ||| 2 ^ p ≤ t ||| 2 ^ p ||| 2 ^ q := Nat.left_le_or
          obtain ⟨w, w1, w2⟩ := i1 (t ||| 2 ^ p ||| 2 ^ q) (by omega) hlt2
          refine wp_f (by decide) (wp_iE (m_275 (d := d + 1) hG hn hr1 ht p1 hq w2) ?_)
          refine wp_eq (e277_58 _ _ _ _ _ _ _) (wp_iE m_min ?_)
          refine wp_eq (e277_59 _ _ _ _ _ _) ?_
          rw [nI_1]
          have hFq : FZ ρ.1 t q = true := by unfold FZ; rw [decide_eq_true hq, htb]; rfl
          have st2 := st_yes (fun r => fs_b) hFp hFq hpq ha (by rw [ad_sym]; exact ha) hst (by rw [fs_rm2]; exact w1)
          have b1 := bound q v hpq hst
          have b2 := bound (q + 1) _ (by omega) st2
          have ih2 := ih2 _ ⟨by omega, st2⟩
          by_cases hlt : dsC c p q + w < v
          · rw [if_pos hlt] at ih2 b2
            rw [if_pos (nI_le (by omega) b1)]; exact ih2
          · rw [if_neg hlt] at ih2
            by_cases hle2 : nI (dsC c p q + w) ≤ nI v
            · rw [if_pos hle2]
              have hwb : dsC c p q + w < 2 ^ 31 := by
                obtain ⟨a, a1, a2⟩ := hG.2.2.2.1 p p1
                obtain ⟨b, b1', b2'⟩ := hG.2.2.2.1 q hq
                have h3 := w1.2 _ (id_MT _ _)
                have h4 := min_le (n := ρ.1) (adj := adC ρ c) (ds := dsC c) (F := FZ ρ.1 (t ||| 2 ^ p ||| 2 ^ q))
                have : dsC c p q ≤ 58 := by
                  unfold dsC agV
                  rw [a2, b2', nI_clamp (by omega), nI_clamp (by omega)]; omega
                omega
              have : dsC c p q + w = v := by
                have : ¬ v < dsC c p q + w := fun z => nI_ge z hwb hle2
                omega
              rw [this]; exact ih2
            · rw [if_neg hle2]; exact ih2
    · intro v ⟨hpq, hst⟩
      refine wp_eq (e277_36 _ _ _ _ _) ?_
      rw [e70, nI_clamp (show t < 2 ^ 31 by omega)]
      refine wp_t (nI_le (Nat.le_refl _) (by omega)) (oG (by omega) (by decide) ?_)
      have em : nI t + (-1) = nI t - 1 := (Int32.sub_eq_add_neg _ _).symm
      rw [em]
      refine wp_weak (ls := [.ref 70, .int (nI (2 ^ ρ.1 - 1)), .int (nI t - 1), .null, .null, .null]) (by simp [lle, lng]) ?_
      refine ih _ ⟨by omega, fun S a b => ?_, fun q hq => by rw [ud_q hq]; exact i2 q hq⟩
      by_cases hSt : S = t
      · rw [hSt]; exact ⟨v, st_end (fun r => fs_b) hFp hst, ud_at _ _ _ _⟩
      · obtain ⟨w, w1, w2⟩ := i1 S (by omega) b
        exact ⟨w, w1, by rw [ud_k hSt]; exact w2⟩
  · intro D1 ⟨i0, i1, i2⟩
    exact wp_eq (e277_16 _ _) (wp_t (by decide) (wp_rV ⟨i1, i2⟩))
  · have : S = 2 ^ ρ.1 - 1 := by omega
    subst this
    refine ⟨0, min_0 (fun r => ?_), ud_at _ _ _ _⟩
    unfold FZ
    rw [Nat.testBit_two_pow_sub_one]
    cases decide (r < ρ.1) <;> rfl
theorem tb_v {t S : Nat} (hn : ρ.1 ≤ 12) (h : Tb ρ c t D) (h1 : t ≤ S) (h2 : S < 2 ^ ρ.1) : IsMin ρ.1 (adC ρ c) (dsC c) (FZ ρ.1 S) (D 88 S).toNatClampNeg ∧ D 88 S = nI (D 88 S).toNatClampNeg ∧ (D 88 S).toNatClampNeg ≤ 12000 := by
  obtain ⟨v, v1, v2⟩ := h S h1 h2
  have h3 := v1.2 _ (id_MT _ _)
  have h4 := min_le (n := ρ.1) (adj := adC ρ c) (ds := dsC c) (F := FZ ρ.1 S)
  have e : (D 88 S).toNatClampNeg = v := by rw [v2, nI_clamp (by omega)]
  rw [e]
  exact ⟨v1, v2, by omega⟩
/-- with whom one is -/
theorem m_279g {x : Nat} {mo : Nat → Nat} (hG : Good ρ c) (hn : ρ.1 ≤ 12) (h1 : D 70 1 = nI ρ.1) (hr : RowM 0 ρ c (D 78)) (hT : Tb ρ c 0 D) (hx : x < ρ.1) : ∀ (f S : Nat) (g : Nat → Nat), 2 ^ ρ.1 - S ≤ f → S < 2 ^ ρ.1 → Best ρ.1 (adC ρ c) (dsC c) (FZ ρ.1 S) g → (∀ r, FZ ρ.1 S r = true → g r = mo r) → FZ ρ.1 S x = true → Wp (Ev X (d + 2) 279 (11, [.ref 70, .int (nI x), .int (nI S), .int (nI (2 ^ ρ.1 - 1)), .null, .null, .null], [], hS u D J)) (RI u J (fun y D' => y = ofN x (mo x) ∧ D' = D)) := by
  have hO := hG.1
  have hb := p12le hn
  intro f
  induction f with
  | zero => intro S g hf hS2; omega
  | succ f ihf =>
    intro S g hf hS2 hB hag hFx
    have hSx : S.testBit x = false := by
      unfold FZ at hFx
      rw [Bool.and_eq_true] at hFx
      simpa using hFx.2
    have hne : S ≠ 2 ^ ρ.1 - 1 := fun z => by
      rw [z, Nat.testBit_two_pow_sub_one, decide_eq_true hx] at hSx
      cases hSx
    obtain ⟨p, p1, p2, p3⟩ := low0 hS2 hne
    have hFp : FZ ρ.1 S p = true := by unfold FZ; rw [decide_eq_true p1, p2]; rfl
    have hFl : ∀ r, r < p → FZ ρ.1 S r = false := fun r hr => by unfold FZ; rw [p3 r hr]; simp
    obtain ⟨vm, ve, vb⟩ := tb_v hn hT (Nat.zero_le S) hS2
    have hco : coN ρ.1 (dsC c) (FZ ρ.1 S) g = (D 88 S).toNatClampNeg := min_uq ⟨⟨g, hB.1, rfl⟩, hB.2.1⟩ vm
    obtain ⟨st1, st2⟩ := hB.step (fun r => fs_b) hFp hFl (by omega) (ad_sym ρ c)
    have hup := or_up p2
    have hlt1 := or_lt hS2 p1
    have vq : ∀ q, q < ρ.1 → IsMin ρ.1 (adC ρ c) (dsC c) (rmF (FZ ρ.1 S) p q) (D 88 (S ||| 2 ^ p ||| 2 ^ q)).toNatClampNeg ∧ D 88 (S ||| 2 ^ p ||| 2 ^ q) = nI (D 88 (S ||| 2 ^ p ||| 2 ^ q)).toNatClampNeg ∧ (D 88 (S ||| 2 ^ p ||| 2 ^ q)).toNatClampNeg ≤ 12000 := fun q hq => by
      rw [fs_rm2]; exact tb_v hn hT (Nat.zero_le _) (or_lt hlt1 hq)
    let qual : Nat → Bool := fun q => FZ ρ.1 S q && adC ρ c p q && decide (dsC c p q + (D 88 (S ||| 2 ^ p ||| 2 ^ q)).toNatClampNeg = (D 88 S).toNatClampNeg)
    have dsb : ∀ q, q < ρ.1 → dsC c p q ≤ 58 := fun q hq => by
      obtain ⟨a, a1, a2⟩ := hG.2.2.2.1 p p1
      obtain ⟨b, b1, b2⟩ := hG.2.2.2.1 q hq
      unfold dsC agV
      rw [a2, b2, nI_clamp (by omega), nI_clamp (by omega)]; omega
    -- whom the least one is with
    have hfind : findN qual (ρ.1 - 1 - p) (p + 1) = if g p = p then none else some (g p) := by
      by_cases hgp : g p = p
      · rw [if_pos hgp]
        refine find_none (fun j a b => ?_)
        obtain ⟨-, hno⟩ := st1 hgp
        have hj : j < ρ.1 := by omega
        cases hq : qual j with
        | false => rfl
        | true =>
          have hq : (FZ ρ.1 S j && adC ρ c p j && decide (dsC c p j + (D 88 (S ||| 2 ^ p ||| 2 ^ j)).toNatClampNeg = (D 88 S).toNatClampNeg)) = true := hq
          rw [Bool.and_eq_true, Bool.and_eq_true] at hq
          exact absurd ((of_decide_eq_true hq.2).trans hco.symm) (hno j _ (by omega) hq.1.1 hq.1.2 (vq j hj).1)
      · rw [if_neg hgp]
        obtain ⟨a1, a2, a3, -, a5, a6⟩ := st2 hgp
        have hgn : g p < ρ.1 := fs_b a2
        refine find_some ?_ (by omega) (by omega) (fun j b1 b2 => ?_)
        · show (FZ ρ.1 S (g p) && adC ρ c p (g p) && decide (dsC c p (g p) + (D 88 (S ||| 2 ^ p ||| 2 ^ g p)).toNatClampNeg = (D 88 S).toNatClampNeg)) = true
          rw [a2, a3, decide_eq_true ((a5 _ (vq _ hgn).1).trans hco)]; rfl
        · have hj : j < ρ.1 := by omega
          cases hq : qual j with
          | false => rfl
          | true =>
            have hq : (FZ ρ.1 S j && adC ρ c p j && decide (dsC c p j + (D 88 (S ||| 2 ^ p ||| 2 ^ j)).toNatClampNeg = (D 88 S).toNatClampNeg)) = true := hq
            rw [Bool.and_eq_true, Bool.and_eq_true] at hq
            exact absurd ((of_decide_eq_true hq.2).trans hco.symm) (a6 j _ (by omega) b2 hq.1.1 hq.1.2 (vq j hj).1)
    refine wp_eq (e279_11 _ _ _) (wp_f (fun z => hne (nI_inj (by omega) (by omega) z)) (wp_iE (m_276 hn hS2 p1 p2 p3) ?_))
    refine wp_eq (e279_16 _ _ _ _) ?_
    have en : nI ρ.1 - 1 = nI (p + (ρ.1 - 1 - p)) := by
      have : nI ρ.1 - 1 = nI (ρ.1 - 1) := nI_sub (b := 1) (by omega)
      rw [this]; congr 1; omega
    rw [h1, en]
    have loop : ∀ r, r ≤ ρ.1 - 1 - p → Wp (Ev X (d + 2) 279 (24, [.ref 70, .int (nI x), .int (nI S), .int (nI (2 ^ ρ.1 - 1)), .int (nI p), .int (whoA (findN qual (ρ.1 - 1 - p - r) (p + r + 1))), .int (nI (p + r))], [], hS u D J)) (RI u J (fun y D' => y = ofN x (mo x) ∧ D' = D)) := by
      intro r
      induction r with
      | zero =>
        intro _
        refine wp_eq (e279_24 _ _ _ _ _ _) (wp_t (nI_le (by omega) (by omega)) ?_)
        rw [Nat.sub_zero, Nat.add_zero, hfind]
        by_cases hgp : g p = p
        · rw [if_pos hgp]
          by_cases hpx : p = x
          · refine wp_f (fun z => z (by rw [hpx])) (wp_rI ⟨?_, rfl⟩)
            rw [← hag x hFx, ← hpx, hgp]
            exact (if_pos rfl).symm
          · refine wp_t (fun z => hpx (nI_inj (by omega) (by omega) z)) (wp_t (fun z => nI_ne1 (show x < 2 ^ 31 by omega) z.symm) (wp_t rfl ?_))
            have ei : nI S ||| ((1 : Int32) <<< (nI p &&& 31)) = nI (S ||| 2 ^ p) := by
              show nI S ||| bitN p = _
              rw [bit_p p (by omega), nI_or]
            rw [ei]
            refine wp_weak (ls := [.ref 70, .int (nI x), .int (nI (S ||| 2 ^ p)), .int (nI (2 ^ ρ.1 - 1)), .null, .null, .null]) (by simp [lle, lng]) ?_
            obtain ⟨b1, -⟩ := st1 hgp
            rw [fs_rm1] at b1
            refine ihf _ g (by omega) hlt1 b1 (fun r hr => hag r ?_) ?_
            · rw [← fs_rm1] at hr
              unfold rmF at hr
              rw [Bool.and_eq_true, Bool.and_eq_true] at hr
              exact hr.1.1
            · rw [← fs_rm1]
              unfold rmF
              rw [hFx, decide_eq_false (fun z => hpx z.symm)]; rfl
        · rw [if_neg hgp]
          obtain ⟨a1, a2, a3, a4, -, -⟩ := st2 hgp
          have hgn : g p < ρ.1 := fs_b a2
          have eq0 : whoA (some (g p)) = nI (g p) := rfl
          rw [eq0]
          by_cases hpx : p = x
          · refine wp_f (fun z => z (by rw [hpx])) (wp_rI ⟨?_, rfl⟩)
            rw [← hag x hFx, ← hpx]
            exact (if_neg hgp).symm
          · refine wp_t (fun z => hpx (nI_inj (by omega) (by omega) z)) ?_
            by_cases hqx : g p = x
            · refine wp_f (fun z => z (by rw [hqx])) (wp_rI ⟨?_, rfl⟩)
              have : mo x = p := by rw [← hag x hFx, ← hqx]; exact hB.1.1 p
              rw [this]
              exact (if_neg hpx).symm
            · refine wp_t (fun z => hqx (nI_inj (by omega) (by omega) z)) (wp_f (nI_ne1 (by omega)) ?_)
              have ei : (nI S ||| ((1 : Int32) <<< (nI p &&& 31))) ||| ((1 : Int32) <<< (nI (g p) &&& 31)) = nI (S ||| 2 ^ p ||| 2 ^ g p) := by
                show (nI S ||| bitN p) ||| bitN (g p) = _
                rw [bit_p p (by omega), bit_p (g p) (by omega), nI_or, nI_or]
              rw [ei]
              refine wp_weak (ls := [.ref 70, .int (nI x), .int (nI (S ||| 2 ^ p ||| 2 ^ g p)), .int (nI (2 ^ ρ.1 - 1)), .null, .null, .null]) (by simp [lle, lng]) ?_
              have hle : S ||| 2 ^ p ≤ S ||| 2 ^ p ||| 2 ^ g p := Nat.left_le_or
              rw [fs_rm2] at a4
              refine ihf _ (fxM g p (g p)) (by omega) (or_lt hlt1 hgn) a4 (fun r hr => ?_) ?_
              · rw [← fs_rm2] at hr
                unfold rmF at hr
                rw [Bool.and_eq_true, Bool.and_eq_true] at hr
                have r1 : r ≠ p := fun z => by rw [decide_eq_true z] at hr; exact absurd hr.1.2 (by decide)
                have r2 : r ≠ g p := fun z => by rw [decide_eq_true z] at hr; exact absurd hr.2 (by decide)
                show (if r = p then p else if r = g p then g p else g r) = mo r
                rw [if_neg r1, if_neg r2]
                exact hag r hr.1.1
              · rw [← fs_rm2]
                unfold rmF
                rw [hFx, decide_eq_false (fun z => hpx z.symm), decide_eq_false (fun z => hqx z.symm)]; rfl
      | succ r ihr =>
        intro hr0
        have ihr := ihr (by omega)
        have hq : p + (r + 1) < ρ.1 := by omega
        have ef : findN qual (ρ.1 - 1 - p - r) (p + r + 1) = if qual (p + (r + 1)) = true then some (p + (r + 1)) else findN qual (ρ.1 - 1 - p - (r + 1)) (p + (r + 1) + 1) := by
          rw [show ρ.1 - 1 - p - r = (ρ.1 - 1 - p - (r + 1)) + 1 by omega, findN]; rfl
        rw [ef] at ihr
        have em : nI (p + (r + 1)) + (-1) = nI (p + r) := by
          rw [← Int32.sub_eq_add_neg]
          exact nI_sub (b := 1) (by omega)
        have skip : qual (p + (r + 1)) = false → Wp (Ev X (d + 2) 279 (24, [.ref 70, .int (nI x), .int (nI S), .int (nI (2 ^ ρ.1 - 1)), .int (nI p), .int (whoA (findN qual (ρ.1 - 1 - p - (r + 1)) (p + (r + 1) + 1))), .int (nI (p + r))], [], hS u D J)) (RI u J (fun y D' => y = ofN x (mo x) ∧ D' = D)) := fun hf => by
          rw [hf] at ihr; exact ihr
        have eb : (nI S >>> (nI (p + (r + 1)) &&& 31)) &&& 1 = if S.testBit (p + (r + 1)) = true then 1 else 0 := tb_V (by omega) (by omega)
        refine wp_eq (e279_24 _ _ _ _ _ _) (wp_f (nI_ge (by omega) (by omega)) ?_)
        rw [eb, em]
        by_cases htb : S.testBit (p + (r + 1)) = true
        · rw [if_pos htb]
          refine wp_t (by decide) (skip ?_)
          show (FZ ρ.1 S (p + (r + 1)) && _ && _) = false
          have : FZ ρ.1 S (p + (r + 1)) = false := by unfold FZ; rw [htb]; simp
          rw [this]; rfl
        · rw [if_neg htb]
          have htb : S.testBit (p + (r + 1)) = false := (Bool.not_eq_true _).mp htb
          refine wp_f (fun z => z rfl) (wp_iE (m_side (d := d) (b := 0) (Or.inl rfl) hn hr p1 hq) ?_)
          rw [ad_bs hO p1 hq]
          refine wp_eq (e279_38 _ _ _ _ _ _ _) ?_
          rw [em]
          cases ha : adC ρ c p (p + (r + 1)) with
          | false =>
            refine wp_t rfl (skip ?_)
            show (FZ ρ.1 S (p + (r + 1)) && adC ρ c p (p + (r + 1)) && _) = false
            rw [ha, Bool.and_false]; rfl
          | true =>
            obtain ⟨-, q2, q3⟩ := vq _ hq
            refine wp_f (by decide) (wp_iE (m_275 (d := d) hG hn hr hS2 p1 hq q2) ?_)
            refine wp_eq (e279_44 _ _ _ _ _ _ _) ?_
            have hd := dsb _ hq
            rw [nI_clamp (show S < 2 ^ 31 by omega), ve, em]
            refine oG (by omega) (by decide) (wp_if (fun h => skip ?_) (fun h => ?_))
            · show (FZ ρ.1 S (p + (r + 1)) && adC ρ c p (p + (r + 1)) && decide (dsC c p (p + (r + 1)) + (D 88 (S ||| 2 ^ p ||| 2 ^ (p + (r + 1)))).toNatClampNeg = (D 88 S).toNatClampNeg)) = false
              rw [decide_eq_false (fun z => h (by rw [z])), Bool.and_false]
            · have hv := nI_inj (by omega) (by omega) (Classical.not_not.mp h)
              have hq1 : qual (p + (r + 1)) = true := by
                show (FZ ρ.1 S (p + (r + 1)) && adC ρ c p (p + (r + 1)) && decide (dsC c p (p + (r + 1)) + (D 88 (S ||| 2 ^ p ||| 2 ^ (p + (r + 1)))).toNatClampNeg = (D 88 S).toNatClampNeg)) = true
                have : FZ ρ.1 S (p + (r + 1)) = true := by unfold FZ; rw [decide_eq_true hq, htb]; rfl
                rw [this, ha, decide_eq_true hv]; rfl
              rw [hq1] at ihr
              exact ihr
    have := loop (ρ.1 - 1 - p) (Nat.le_refl _)
    rw [Nat.sub_self] at this
    exact this
end COUPM
