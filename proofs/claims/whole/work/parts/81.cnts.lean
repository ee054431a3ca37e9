/-! ===== what count and person look up ===== -/
theorem CI.scr {σ : Sg} {D D' : DD} (h : CI σ D) (hq : ∀ q, q < 4 ∨ (6 ≤ q ∧ q ≤ 11) ∨ (26 ≤ q ∧ q ≤ 28) ∨ (37 ≤ q ∧ q ≤ 53) ∨ (55 ≤ q ∧ q ≤ 62) → D' q = D q) (h5 : ∀ i, 7 ≤ i → i < 357 → D' 5 i = D 5 i) (h32 : Tl (D' 32)) : CI σ D' := by
  obtain ⟨a1, a2, a3, a4, a5, a6, a7, a8, a9, a10, a11⟩ := h
  exact ⟨a1.mv (hq 0 (by omega)) (hq 1 (by omega)) (hq 2 (by omega)), a2.mv (hq 3 (by omega)) (fun q _ _ => hq q (by omega)) h5, a3.mv (hq 26 (by omega)) (hq 27 (by omega)) (hq 28 (by omega)), a4.mv (fun q _ _ => hq q (by omega)), a5.mv (hq 46 (by omega)) (hq 47 (by omega)), a6.mv (hq 48 (by omega)) (hq 49 (by omega)) (hq 50 (by omega)) (hq 51 (by omega)), a7.mv (hq 52 (by omega)) (hq 53 (by omega)), a8.mv (fun q _ _ => hq q (by omega)), h32, by rw [hq 39 (by omega)]; exact a10, by rw [hq 56 (by omega)]; exact a11⟩
def sitB (c : Cc) (p : Nat) : Bool := decide (¬ c p = -1)
def smN (c : Cc) (k n : Nat) : Int32 := fP (fun x y : Int32 => x + y) 0 (fun p => c (k + p)) (fun _ => true) n
def ioK (ρ : Ru) (c : Cc) (w : Nat) : Nat → Bool
  | 0 => true
  | k + 1 => ioK ρ c w k && (decide (k = 0) || decide (c (12 + whoN ρ c (12 * w + (k - 1))) ≤ c (12 + whoN ρ c (12 * w + k))))
theorem io_le {ρ : Ru} {c : Cc} {w k : Nat} (h : ioK ρ c w k = false) : ∀ {m : Nat}, k ≤ m → ioK ρ c w m = false
  | 0, hm => by
    have : k = 0 := by omega
    subst this; exact h
  | m + 1, hm => by
    by_cases hk : k = m + 1
    · rw [← hk]; exact h
    · rw [ioK, io_le h (show k ≤ m by omega)]; rfl
def ioB (ρ : Ru) (c : Cc) (w : Nat) : Bool := decide (¬ sizeN ρ c w = 0) && ioK ρ c w (sizeN ρ c w)
theorem orP_cut {A : Nat → Bool} {m : Nat} : ∀ {n : Nat}, m ≤ n → (∀ w, m ≤ w → w < n → A w = false) → orP A n = orP A m
  | 0, h, _ => by
    have : m = 0 := by omega
    subst this; rfl
  | n + 1, h, hA => by
    by_cases hm : m = n + 1
    · rw [hm]
    · rw [orP, orP_cut (show m ≤ n by omega) (fun w h1 h2 => hA w h1 (by omega)), hA n (by omega) (by omega)]
      exact Int32.or_zero
section CNTS
variable {X : XS} {d u : Nat} {D : DD} {J : JJ} {σ : Sg} {ρ : Ru} {c : Cc} {P : Nat}
theorem c_pewsN (hP : isP P) (hW : PewsC P ρ c D) (hO : Ok ρ c) : EvM X d 52 [.ref P] (hS u D J) = some (.inl (some (.int (nI (pwN ρ c 12 0)))), hS u D J) := by
  have hpw := (pw_le ρ c 12 0).1
  refine wp_eqI ?_
  refine wp_eq (e52_0 hP) ?_
  refine wp_loop (R := fun k (v : Int32) => Ev X d 52 (4, [.ref P, .int v, .int (nI k)], [], hS u D J)) (fun k v => v = nI (min k (pwN ρ c 12 0))) 12 ?_ ?_ 0 0 (by decide) (by rw [Nat.zero_min]; rfl)
  · intro k v hk hv ih
    have h4 := hO.2.2.2.1 k hk
    refine wp_eq (e52_4 hP _ _) ?_
    refine wp_f (nI_ge (b := 12) hk (by decide)) ?_
    rw [nI_clamp (by omega), hW.2.1 k hk]
    refine oG hk (by decide) (wp_if (fun h => ?_) (fun h => ?_))
    · have hz : sizeN ρ c k = 0 := by
        have := (nI_leI (b := 0) (by omega) (by decide)).mp h
        omega
      have := (pw_iff hO hk).mpr hz
      rw [nI_1]
      exact ih v (by rw [hv]; congr 1; omega)
    · have hz : ¬ sizeN ρ c k = 0 := fun z => h (by rw [z]; exact Int32.le_refl _)
      have : ¬ pwN ρ c 12 0 ≤ k := fun z => hz ((pw_iff hO hk).mp z)
      rw [nI_1]
      exact ih _ (by rw [hv, nI_1]; congr 1; omega)
  · intro v hv
    refine wp_eq (e52_4 hP _ _) ?_
    refine wp_t (nI_le (a := 12) (Nat.le_refl _) (by decide)) (wp_rI ⟨?_, rfl⟩)
    rw [hv]; congr 1; omega
theorem c_sitB (hP : isP P) (hn : ρ.1 ≤ 12) (h3 : D 3 0 = nI ρ.1) (hc : D (P + 1) = c) : EvM X d 53 [.ref P] (hS u D J) = some (.inl (some (.int (orP (sitB c) ρ.1))), hS u D J) := by
  refine wp_eqI ?_
  refine wp_eq (e53_0 hP) ?_
  refine wp_loop (R := fun k (v : Int32) => Ev X d 53 (4, [.ref P, .int v, .int (nI k)], [], hS u D J)) (fun k v => v = orP (sitB c) k) ρ.1 ?_ ?_ 0 0 (Nat.zero_le _) rfl
  · intro k v hk hv ih
    refine wp_eq (e53_4 hP _ _) ?_
    rw [h3]
    refine wp_f (nI_ge hk (by omega)) ?_
    rw [la, nI_clamp (by omega), Nat.zero_add, hc]
    refine oG (by omega) (by decide) (wp_if (fun h => ?_) (fun h => ?_))
    · rw [nI_1]
      refine ih v ?_
      rw [orP, ← hv, if_neg (by unfold sitB; simp [h]), Int32.or_zero]
    · rw [nI_1]
      refine ih _ ?_
      rw [orP, ← hv, if_pos (by unfold sitB; simp [h])]; rfl
  · intro v hv
    refine wp_eq (e53_4 hP _ _) ?_
    rw [h3]
    exact wp_t (nI_le (Nat.le_refl _) (by omega)) (wp_rI ⟨hv, rfl⟩)
theorem pewO_n {s : Int32} (h : s = -1 ∨ ∃ k, k < 144 ∧ s = nI k) : pewO s = -1 ↔ s = -1 := by
  rcases h with rfl | ⟨k, k1, rfl⟩
  · exact ⟨fun _ => rfl, fun _ => pewO_1.1⟩
  · rw [(pewO_s k1).1]
    exact ⟨fun z => absurd z (nI_ne1 (by omega)), fun z => absurd z (nI_ne1 (by omega))⟩
theorem m_sitB {b q : Nat} (hb : isB b) (hn : ρ.1 ≤ 12) (hC : D 70 1 = nI ρ.1) (hr : RowS b ρ c q (D 78)) (hv : ∀ p, p < ρ.1 → c p = -1 ∨ ∃ s, s < 144 ∧ c p = nI s) : EvM X d 218 [.ref 70, .int (nI b)] (hS u D J) = some (.inl (some (.int (orP (sitB c) ρ.1))), hS u D J) := by
  have hbl := isB_le hb
  refine wp_eqI ?_
  refine wp_eq (e218_0 _) ?_
  refine wp_loop (R := fun k (v : Int32) => Ev X d 218 (4, [.ref 70, .int (nI b), .int v, .int (nI k)], [], hS u D J)) (fun k v => v = orP (sitB c) k) ρ.1 ?_ ?_ 0 0 (Nat.zero_le _) rfl
  · intro k v hk hv' ih
    refine wp_eq (e218_4 _ _ _) ?_
    rw [hC]
    refine wp_f (nI_ge hk (by omega)) ?_
    rw [ix3, nI_clamp (by omega), (hr.2 k hk).2.1]
    refine oG (by omega) (by decide) (wp_if (fun h => ?_) (fun h => ?_))
    · have h := (pewO_n (hv k hk)).mp h
      rw [nI_1]
      refine ih _ ?_
      rw [orP, ← hv', if_neg (by unfold sitB; simp [h])]
    · have h : ¬ c k = -1 := fun z => h ((pewO_n (hv k hk)).mpr z)
      rw [nI_1]
      refine ih _ ?_
      rw [orP, ← hv', if_pos (by unfold sitB; simp [h])]; rfl
  · intro v hv'
    refine wp_eq (e218_4 _ _ _) ?_
    rw [hC]
    exact wp_t (nI_le (Nat.le_refl _) (by omega)) (wp_rI ⟨hv', rfl⟩)
theorem c_sum {k : Nat} (hP : isP P) (hn : ρ.1 ≤ 12) (h3 : D 3 0 = nI ρ.1) (hc : D (P + 1) = c) (hk : k ≤ 60) : EvM X d 58 [.ref P, .int (nI k)] (hS u D J) = some (.inl (some (.int (smN c k ρ.1))), hS u D J) := by
  refine wp_eqI ?_
  refine wp_eq (e58_0 hP _) ?_
  refine wp_loop (R := fun i (v : Int32) => Ev X d 58 (4, [.ref P, .int (nI k), .int v, .int (nI i)], [], hS u D J)) (fun i v => v = smN c k i) ρ.1 ?_ ?_ 0 0 (Nat.zero_le _) rfl
  · intro i v hi hv ih
    refine wp_eq (e58_4 hP _ _ _) ?_
    rw [h3]
    refine wp_f (nI_ge hi (by omega)) ?_
    rw [nI_add, nI_clamp (by omega), hc]
    refine oG (by omega) (by decide) ?_
    rw [nI_1]
    exact ih _ (by rw [hv]; rfl)
  · intro v hv
    refine wp_eq (e58_4 hP _ _ _) ?_
    rw [h3]
    exact wp_t (nI_le (Nat.le_refl _) (by omega)) (wp_rI ⟨hv, rfl⟩)
theorem m_sum {b k kk : Nat} (hb : isB b) (hn : ρ.1 ≤ 12) (hC : D 70 1 = nI ρ.1) (hr : ∀ p, p < ρ.1 → D 78 (b + kk + p) = c (k + p)) (hk : kk ≤ 73) : EvM X d 230 [.ref 70, .int (nI b), .int (nI kk)] (hS u D J) = some (.inl (some (.int (smN c k ρ.1))), hS u D J) := by
  have hbl := isB_le hb
  refine wp_eqI ?_
  refine wp_eq (e230_0 _ _) ?_
  refine wp_loop (R := fun i (v : Int32) => Ev X d 230 (4, [.ref 70, .int (nI b), .int (nI kk), .int v, .int (nI i)], [], hS u D J)) (fun i v => v = smN c k i) ρ.1 ?_ ?_ 0 0 (Nat.zero_le _) rfl
  · intro i v hi hv ih
    refine wp_eq (e230_4 _ _ _ _) ?_
    rw [hC]
    refine wp_f (nI_ge hi (by omega)) ?_
    rw [nI_add, nI_add, nI_clamp (by omega), hr i hi]
    refine oG (by omega) (by decide) ?_
    rw [nI_1]
    exact ih _ (by rw [hv]; rfl)
  · intro v hv
    refine wp_eq (e230_4 _ _ _ _) ?_
    rw [hC]
    exact wp_t (nI_le (Nat.le_refl _) (by omega)) (wp_rI ⟨hv, rfl⟩)
def cmN (ρ : Ru) (c : Cc) : Int32 := fS (fun x y : Int32 => x ||| y) 0 bitN (lineN ρ c false ρ.1).2 (lineN ρ c false ρ.1).1
theorem c_comers (hR : RuOk ρ) (hC : RulesC ρ D) (hc : D 26 = c) : Wp (EvM X (d + 2) 106 [.ref 0] (hS u D J)) (RI u J (fun y D' => y = cmN ρ c ∧ LineI 25 ρ c false D ρ.1 D')) := by
  have hn := hR.1.1
  refine wp_eq e106_0 ?_
  refine wp_cV (s_line (d := d) (rain := false) (Or.inl rfl) hR hC hc) (fun D1 h1 => ?_)
  have hD := line_D hn c false
  refine wp_eq e106_4 ?_
  have e4 : D1 25 4 = nI (lineN ρ c false ρ.1).1 := h1.1
  refine wp_loop (R := fun i (v : Int32) => Ev X (d + 2) 106 (8, [.ref 0, .int v, .int (nI i)], [], hS u D1 J)) (fun i v => v = fS (fun x y : Int32 => x ||| y) 0 bitN (lineN ρ c false ρ.1).2 i) (lineN ρ c false ρ.1).1 ?_ ?_ 0 0 (Nat.zero_le _) rfl
  · intro i v hi hv ih
    have e29 : D1 29 i = nI ((lineN ρ c false ρ.1).2 i) := h1.2.2.1 i hi
    have := hD.1
    refine wp_eq (e106_8 _ _) ?_
    rw [e4]
    refine wp_f (nI_ge hi (by omega)) ?_
    rw [nI_clamp (by omega), e29]
    refine oG (by omega) (by decide) ?_
    rw [nI_1]
    exact ih _ (by rw [fS, ← hv]; rfl)
  · intro v hv
    have := hD.1
    refine wp_eq (e106_8 _ _) ?_
    rw [e4]
    exact wp_t (nI_le (Nat.le_refl _) (by omega)) (wp_rI ⟨hv, h1⟩)
theorem m_comers (hR : RuOk ρ) (hC : RulesM ρ D) (hr : RowM 0 ρ c (D 78)) (hv : ∀ p, p < ρ.1 → c p = -1 ∨ ∃ s, s < 144 ∧ c p = nI s) (hz : Bz ρ c) (hra : D 70 43 = 0) : Wp (EvM X (d + 4) 231 [.ref 70] (hS u D J)) (RI u J (fun y D' => y = cmN ρ c ∧ AskI ρ c false D ρ.1 D')) := by
  have hn := hR.1.1
  refine wp_eq e231_0 ?_
  refine wp_cV (s_asks (d := d) (b := 0) (rain := false) (Or.inl rfl) hR hC hr hv hz hra) (fun D1 h1 => ?_)
  have hD := line_D hn c false
  refine wp_eq e231_3 ?_
  refine wp_loop (R := fun i (v : Int32) => Ev X (d + 4) 231 (7, [.ref 70, .int v, .int (nI i)], [], hS u D1 J)) (fun i v => v = fS (fun x y : Int32 => x ||| y) 0 bitN (lineN ρ c false ρ.1).2 i) (lineN ρ c false ρ.1).1 ?_ ?_ 0 0 (Nat.zero_le _) rfl
  · intro i v hi hv' ih
    have := hD.1
    refine wp_eq (e231_7 _ _) ?_
    rw [h1.1]
    refine wp_f (nI_ge hi (by omega)) ?_
    rw [nI_clamp (by omega), h1.2.2.1 i hi]
    refine oG (by omega) (by decide) ?_
    rw [nI_1]
    exact ih _ (by rw [fS, ← hv']; rfl)
  · intro v hv'
    have := hD.1
    refine wp_eq (e231_7 _ _) ?_
    rw [h1.1]
    exact wp_t (nI_le (Nat.le_refl _) (by omega)) (wp_rI ⟨hv', h1⟩)
/-- whether a pew is in order -/
theorem c_inOrd {w : Nat} (hP : isP P) (hn : ρ.1 ≤ 12) (hW : PewsC P ρ c D) (hO : Ok ρ c) (hw : w < 12) (hz : ¬ sizeN ρ c w = 0) : EvM X (d + 1) 57 [.ref P, .int (nI w)] (hS u D J) = some (.inl (some (.int (bI32 (ioK ρ c w (sizeN ρ c w))))), hS u D J) := by
  refine wp_eqI ?_
  have h4 := hO.2.2.2.1 w hw
  refine wp_eq (e57_0 hP _) ?_
  refine wp_loop (R := fun k (_ : Unit) => Ev X (d + 1) 57 (2, [.ref P, .int (nI w), .int (nI k)], [], hS u D J)) (fun k _ => 1 ≤ k ∧ ioK ρ c w k = true) (sizeN ρ c w) ?_ ?_ 1 () (by omega) ⟨Nat.le_refl _, rfl⟩
  · intro k _ hk ⟨k1, k2⟩ ih
    refine wp_eq (e57_2 hP _ _) ?_
    rw [nI_clamp (show w < 2 ^ 31 by omega), hW.2.1 w hw]
    refine oG hw (by decide) (wp_f (nI_ge hk (by omega)) ?_)
    refine wp_iE (c_ageAt hP hn hW hO hw hk) ?_
    refine wp_eq (e57_12 hP _ _ _) ?_
    have e1 : nI k - 1 = nI (k - 1) := nI_sub (b := 1) k1
    rw [e1]
    refine wp_iE (c_ageAt hP hn hW hO hw (show k - 1 < sizeN ρ c w by omega)) ?_
    refine wp_eq (e57_18 hP _ _ _ _) ?_
    refine wp_if (fun h => ?_) (fun h => ?_)
    · rw [nI_1]
      refine ih () ⟨by omega, ?_⟩
      rw [ioK, k2, decide_eq_true h, Bool.or_true]; rfl
    · refine wp_rI ⟨?_, rfl⟩
      have : ioK ρ c w (k + 1) = false := by
        rw [ioK, k2, decide_eq_false h, decide_eq_false (show ¬ k = 0 by omega)]; rfl
      rw [io_le this hk]; rfl
  · intro _ ⟨k1, k2⟩
    refine wp_eq (e57_2 hP _ _) ?_
    rw [nI_clamp (show w < 2 ^ 31 by omega), hW.2.1 w hw]
    refine oG hw (by decide) (wp_t (nI_le (Nat.le_refl _) (by omega)) (wp_rI ⟨?_, rfl⟩))
    rw [k2]; rfl
theorem c_ino (hn : ρ.1 ≤ 12) (hW : PewsC 25 ρ c D) (hO : Ok ρ c) : EvM X (d + 2) 107 [.ref 0] (hS u D J) = some (.inl (some (.int (orP (ioB ρ c) 12))), hS u D J) := by
  refine wp_eqI ?_
  refine wp_eq e107_0 ?_
  refine wp_loop (R := fun k (v : Int32) => Ev X (d + 2) 107 (4, [.ref 0, .int v, .int (nI k)], [], hS u D J)) (fun k v => v = orP (ioB ρ c) k) 12 ?_ ?_ 0 0 (by decide) rfl
  · intro k v hk hv ih
    have h4 := hO.2.2.2.1 k hk
    have e28 : D 28 k = nI (sizeN ρ c k) := hW.2.1 k hk
    refine wp_eq (e107_4 _ _) ?_
    refine wp_f (nI_ge (b := 12) hk (by decide)) ?_
    rw [nI_clamp (by omega), e28]
    refine oG hk (by decide) (wp_if (fun h => ?_) (fun h => ?_))
    · have hz : sizeN ρ c k = 0 := by
        have := (nI_leI (b := 0) (by omega) (by decide)).mp h
        omega
      rw [nI_1]
      refine ih v ?_
      rw [orP, ← hv, if_neg (by unfold ioB; simp [hz]), Int32.or_zero]
    · have hz : ¬ sizeN ρ c k = 0 := fun z => h (by rw [z]; exact Int32.le_refl _)
      refine wp_iE (c_inOrd (d := d) (Or.inl rfl) hn hW hO hk hz) ?_
      refine wp_eq (e107_17 _ _ _) ?_
      rw [nI_1]
      cases hi : ioK ρ c k (sizeN ρ c k) with
      | false =>
        refine wp_t rfl (ih v ?_)
        rw [orP, ← hv, if_neg (by unfold ioB; simp [hi]), Int32.or_zero]
      | true =>
        refine wp_f (by decide) (ih _ ?_)
        rw [orP, ← hv, if_pos (by unfold ioB; simp [hi, hz])]; rfl
  · intro v hv
    refine wp_eq (e107_4 _ _) ?_
    exact wp_t (nI_le (a := 12) (Nat.le_refl _) (by decide)) (wp_rI ⟨hv, rfl⟩)
theorem m_ino (hn : ρ.1 ≤ 12) (hC : D 70 1 = nI ρ.1) (hr : RowM 0 ρ c (D 78)) (hO : Ok ρ c) : EvM X (d + 2) 232 [.ref 70] (hS u D J) = some (.inl (some (.int (orP (ioB ρ c) 12))), hS u D J) := by
  refine wp_eqI ?_
  have hpw := (pw_le ρ c 12 0).1
  have h12 : (12 : Nat) < ρ.1 → c 12 = -1 := fun z => by omega
  refine wp_eq e232_0 ?_
  refine wp_loop (R := fun k (v : Int32) => Ev X (d + 2) 232 (4, [.ref 70, .int v, .int (nI k), .null, .null], [], hS u D J)) (fun k v => v = orP (ioB ρ c) k) (pwN ρ c 12 0) ?_ ?_ 0 0 (Nat.zero_le _) rfl
  · intro w v hw hv ih
    have hw12 : w < 12 := by omega
    have h4 := hO.2.2.2.1 w hw12
    have hz : ¬ sizeN ρ c w = 0 := fun z => by have := (pw_iff hO hw12).mpr z; omega
    refine wp_eq (e232_4 _ _) ?_
    refine wp_iE (m_pews (d := d) (b := 0) (Or.inl rfl) hn hC hr) ?_
    refine wp_eq (e232_8 _ _ _ _) ?_
    refine wp_f (nI_ge hw (by omega)) ?_
    refine wp_loop (R := fun k (_ : Unit) => Ev X (d + 2) 232 (13, [.ref 70, .int v, .int (nI w), .int (bI32 (ioK ρ c w k)), .int (nI k)], [], hS u D J)) (fun k _ => 1 ≤ k) (sizeN ρ c w) ?_ ?_ 1 () (by omega) (Nat.le_refl _)
    · intro k _ hk k1 ih2
      refine wp_eq (e232_13 _ _ _ _) ?_
      refine wp_iE (s_size (d := d) (b := 0) (Or.inl rfl) hn hC hr hw12) ?_
      refine wp_eq (e232_18 _ _ _ _ _ _) ?_
      refine wp_f (nI_ge hk (by omega)) ?_
      cases hi : ioK ρ c w k with
      | false =>
        refine wp_t rfl ?_
        have e : ioK ρ c w (k + 1) = false := io_le hi (by omega)
        have := ih2 () (by omega)
        rw [e] at this
        rw [nI_1]
        exact this
      | true =>
        refine wp_f (by decide) ?_
        refine wp_iE (s_who1 (b := 0) (Or.inl rfl) hn hC hr h12 hO hw12 hk) ?_
        refine wp_eq (e232_29 _ _ _ _ _ _) ?_
        have w1 := (who_ex hO hw12 hk).1
        have w2 := (who_ex hO hw12 (show k - 1 < sizeN ρ c w by omega)).1
        obtain ⟨t1, -⟩ := hr.s hn w1
        obtain ⟨t2, -⟩ := hr.s hn w2
        rw [Nat.zero_add] at t1 t2
        have e1 : nI k - 1 = nI (k - 1) := nI_sub (b := 1) k1
        rw [la, nI_clamp (by omega), t1, e1]
        refine oG (by omega) (by decide) ?_
        refine wp_iE (s_who1 (b := 0) (Or.inl rfl) hn hC hr h12 hO hw12 (show k - 1 < sizeN ρ c w by omega)) ?_
        refine wp_eq (e232_41 _ _ _ _ _ _ _) ?_
        rw [la, nI_clamp (by omega), t2, nI_1]
        refine oG (by omega) (by decide) (wp_if (fun h => ?_) (fun h => ?_))
        · have e : ioK ρ c w (k + 1) = false := by
            rw [ioK, hi, decide_eq_false (Int32.not_le.mpr h), decide_eq_false (show ¬ k = 0 by omega)]; rfl
          have := ih2 () (by omega)
          rw [e] at this
          exact this
        · have e : ioK ρ c w (k + 1) = true := by
            rw [ioK, hi, decide_eq_true (Int32.not_lt.mp h), Bool.or_true]; rfl
          have := ih2 () (by omega)
          rw [e] at this
          exact this
    · intro _ _
      refine wp_eq (e232_13 _ _ _ _) ?_
      refine wp_iE (s_size (d := d) (b := 0) (Or.inl rfl) hn hC hr hw12) ?_
      refine wp_eq (e232_18 _ _ _ _ _ _) ?_
      refine wp_t (nI_le (Nat.le_refl _) (by omega)) ?_
      cases hi : ioK ρ c w (sizeN ρ c w) with
      | false =>
        refine wp_t rfl ?_
        refine wp_weak (ls := [.ref 70, .int (v ||| 0), .int (nI w + 1), .null, .null]) (by simp [lle, lng]) ?_
        rw [nI_1]
        refine ih _ ?_
        rw [orP, ← hv, if_neg (by unfold ioB; simp [hi])]
      | true =>
        refine wp_f (by decide) ?_
        refine wp_weak (ls := [.ref 70, .int (v ||| ((1 : Int32) <<< (nI w &&& 31))), .int (nI w + 1), .null, .null]) (by simp [lle, lng]) ?_
        rw [nI_1]
        refine ih _ ?_
        rw [orP, ← hv, if_pos (by unfold ioB; simp [hi, hz])]; rfl
  · intro v hv
    refine wp_eq (e232_4 _ _) ?_
    refine wp_iE (m_pews (d := d) (b := 0) (Or.inl rfl) hn hC hr) ?_
    refine wp_eq (e232_8 _ _ _ _) ?_
    refine wp_t (nI_le (Nat.le_refl _) (by omega)) (wp_rI ⟨?_, rfl⟩)
    rw [hv, orP_cut hpw (fun w w1 w2 => ?_)]
    unfold ioB
    rw [(pw_iff hO (show w < 12 by omega)).mp w1]
    rfl
end CNTS
