/-! ===== old, look: what the class answers ===== -/
def gvB (ρ : Ru) (c : Cc) (l : List Sn) (x : Nat) : Bool := decide (x % 100 < 30) && guA ρ c l (x / 100) (x % 100)
def fsN (B : Nat → Bool) : Nat → Option Nat
  | 0 => none
  | k + 1 => match fsN B k with | some y => some y | none => if B k = true then some k else none
theorem fs_none {B : Nat → Bool} : ∀ {k : Nat}, (∀ j, j < k → B j = false) → fsN B k = none
  | 0, _ => rfl
  | k + 1, h => by
    rw [fsN, fs_none (fun j hj => h j (by omega)), h k (by omega)]; rfl
theorem fs_some {B : Nat → Bool} {y : Nat} (hy : B y = true) (hl : ∀ j, j < y → B j = false) : ∀ {k : Nat}, y < k → fsN B k = some y
  | k + 1, h => by
    rw [fsN]
    by_cases hyk : y = k
    · subst hyk
      rw [fs_none hl]
      show (if B y = true then some y else none) = _
      rw [if_pos hy]
    · rw [fs_some hy hl (show y < k by omega)]
theorem gv_cnt (ρ : Ru) (c : Cc) (l : List Sn) : ∀ n, cntN (gvB ρ c l) (100 * n) = sumN (fun p => cntN (guA ρ c l p) 30) n
  | 0 => rfl
  | n + 1 => by
    have key : cntN (fun k => gvB ρ c l (100 * n + k)) 100 = cntN (guA ρ c l n) 30 := by
      rw [← cnt_cut (guA ρ c l n) 100 (show 30 ≤ 100 by decide)]
      refine cnt_congr (fun a ha => ?_)
      unfold gvB
      rw [show (100 * n + a) % 100 = a by omega, show (100 * n + a) / 100 = n by omega]
    have e : 100 * (n + 1) = 100 * n + 100 := by omega
    have e2 : sumN (fun p => cntN (guA ρ c l p) 30) (n + 1) = sumN (fun p => cntN (guA ρ c l p) 30) n + cntN (guA ρ c l n) 30 := rfl
    rw [e2, ← gv_cnt ρ c l n, e, cnt_sh, key]
/-- the pews that one sees from there -/
def p12N (s : Int32) : Nat := if 0 ≤ s then (s / 12).toNatClampNeg else 12
theorem p12_n {s : Int32} (h : s = -1 ∨ ∃ k, k < 144 ∧ s = nI k) : p12 s = nI (p12N s) ∧ p12N s ≤ 12 := by
  unfold p12 p12N
  rcases h with rfl | ⟨k, k1, rfl⟩
  · rw [if_neg (by decide), if_neg (by decide)]; exact ⟨rfl, Nat.le_refl _⟩
  · rw [if_pos (nI_pos' (by omega)), if_pos (nI_pos' (by omega)), (n144 k k1).1, nI_clamp (by omega)]
    exact ⟨rfl, by omega⟩
def mkN (ρ : Ru) (c : Cc) (l : List Sn) (q : Nat) : Nat → Int32
  | 0 => 0
  | x + 1 => if gvB ρ c l x = true then mkN ρ c l q x ||| ((1 : Int32) <<< (p12 (sunK ρ (upd c (12 + x / 100) (nI (x % 100))) 4 q) &&& 31)) else mkN ρ c l q x
theorem mk_skip {ρ : Ru} {c : Cc} {l : List Sn} {q : Nat} : ∀ {x y : Nat}, x ≤ y → (∀ j, x ≤ j → j < y → gvB ρ c l j = false) → mkN ρ c l q y = mkN ρ c l q x
  | x, 0, h, _ => by rw [show x = 0 by omega]
  | x, y + 1, h, hf => by
    by_cases hxy : x = y + 1
    · rw [hxy]
    · rw [mkN, if_neg (by rw [hf y (by omega) (by omega)]; exact Bool.false_ne_true)]
      exact mk_skip (by omega) (fun j a b => hf j a (by omega))
theorem find_first {P : Nat → Bool} : ∀ {r p q : Nat}, findN P r p = some q → ∀ j, p ≤ j → j < q → P j = false
  | 0, p, q, h, j, _, _ => by cases h
  | r + 1, p, q, h, j, h1, h2 => by
    rw [findN] at h
    by_cases hp : P p = true
    · rw [if_pos hp] at h
      cases h
      omega
    · rw [if_neg hp] at h
      by_cases hj : j = p
      · rw [hj]; cases hh : P p <;> simp_all
      · exact find_first h j (by omega) h2
theorem orP_cnt0 {P : Nat → Bool} : ∀ {n : Nat}, (∀ k, k < n → P k = false) → cntN P n = 0
  | 0, _ => rfl
  | n + 1, h => by
    rw [cntN, orP_cnt0 (fun k hk => h k (by omega)), h n (by omega)]; rfl
section LOOKC
variable {X : XS} {d u : Nat} {D D1 : DD} {J : JJ} {σ : Sg} {ρ : Ru} {c : Cc} {l : List Sn} {o : Option (Nat × Nat)} {n : Nat}
theorem gv_ok {x : Nat} (h : gvB ρ c l x = true) : x / 100 < ρ.1 ∧ x % 100 < 30 ∧ gueN ρ c l (x / 100) (x % 100) = true := by
  unfold gvB guA at h
  rw [Bool.and_eq_true, Bool.and_eq_true] at h
  exact ⟨of_decide_eq_true h.2.1, of_decide_eq_true h.1, h.2.2⟩
theorem mk_V (hR : Ru0 ρ) (hG : Good ρ c) {q : Nat} (hq : q < ρ.1) : ∀ x, ∃ V, V < 2 ^ 13 ∧ mkN ρ c l q x = nI V
  | 0 => ⟨0, by decide, rfl⟩
  | x + 1 => by
    obtain ⟨V, v1, v2⟩ := mk_V hR hG hq x
    rw [mkN]
    by_cases h : gvB ρ c l x = true
    · rw [if_pos h]
      obtain ⟨g1, g2, -⟩ := gv_ok h
      have hG2 : Good ρ (upd c (12 + x / 100) (nI (x % 100))) := hG.set hR.1 g1 (Or.inl ⟨rfl, rfl⟩) (nI_pos (by omega)) (Int32.not_lt.mpr (nI_le (b := 29) (by omega) (by decide)))
      obtain ⟨e1, e2⟩ := p12_n ((Good.sunK hR hG2 4).1.v q hq)
      rw [e1]
      refine ⟨V ||| 2 ^ p12N (sunK ρ (upd c (12 + x / 100) (nI (x % 100))) 4 q), Nat.or_lt_two_pow v1 (Nat.pow_lt_pow_right (by decide) (by omega)), ?_⟩
      show _ ||| bitN (p12N (sunK ρ (upd c (12 + x / 100) (nI (x % 100))) 4 q)) = _
      rw [v2, bit_p _ (by omega), nI_or]
    · rw [if_neg h]; exact ⟨V, v1, v2⟩
theorem c_24 (h53 : GuD σ D) (hn : σ.2.1.1 ≤ 12) : EvM X (d + 1) 24 [.ref 52] (hS u D J) = some (.inl (some (.int (nI (cntN (gvB σ.2.1 σ.2.2.1 σ.2.2.2.2.1) (100 * σ.2.1.1))))), hS u D J) := by
  refine wp_eqI ?_
  refine wp_eq e24_0 ?_
  refine wp_loop (R := fun p (_ : Unit) => Ev X (d + 1) 24 (4, [.ref 52, .int (nI (sumN (fun p => cntN (guA σ.2.1 σ.2.2.1 σ.2.2.2.2.1 p) 30) p)), .int (nI p)], [], hS u D J)) (fun _ _ => True) 12 ?_ ?_ 0 () (by decide) trivial
  · intro p _ hp _ ih
    have ih := ih () trivial
    refine wp_eq (e24_4 _ _) (wp_f (nI_ge (b := 12) hp (by decide)) ?_)
    rw [nI_clamp (by omega), h53.2 p hp]
    refine oG hp (by decide) (wp_iE (s_bc _) ?_)
    rw [bc_orP _ (by decide)]
    refine wp_eq (e24_13 _ _ _ _) ?_
    rw [nI_add, nI_1]
    exact ih
  · intro _ _
    refine wp_eq (e24_4 _ _) (wp_t (nI_le (a := 12) (Nat.le_refl _) (by decide)) (wp_rI ⟨?_, rfl⟩))
    rw [gv_cnt]
    congr 1
    have cut : ∀ m, σ.2.1.1 ≤ m → sumN (fun p => cntN (guA σ.2.1 σ.2.2.1 σ.2.2.2.2.1 p) 30) m = sumN (fun p => cntN (guA σ.2.1 σ.2.2.1 σ.2.2.2.2.1 p) 30) σ.2.1.1 := by
      intro m
      induction m with
      | zero => intro h; rw [show σ.2.1.1 = 0 by omega]
      | succ m ih =>
        intro h
        by_cases hm : σ.2.1.1 = m + 1
        · rw [hm]
        · rw [sumN, ih (by omega)]
          have z : cntN (guA σ.2.1 σ.2.2.1 σ.2.2.2.2.1 m) 30 = 0 := (orP_cnt0 (by
            intro k _
            unfold guA
            rw [decide_eq_false (by omega), Bool.false_and]))
          show _ + cntN (guA σ.2.1 σ.2.2.1 σ.2.2.2.2.1 m) 30 = _
          rw [z, Nat.add_zero]
    exact cut 12 hn
theorem c_25 (h53 : GuD σ D) (hn : σ.2.1.1 ≤ 12) : EvM X (d + 1) 25 [.ref 52] (hS u D J) = some (.inl (some (.int (whoA (fsN (gvB σ.2.1 σ.2.2.1 σ.2.2.2.2.1) (100 * σ.2.1.1))))), hS u D J) := by
  have hlow : ∀ p, (∀ k, k < 30 → guA σ.2.1 σ.2.2.1 σ.2.2.2.2.1 p k = false) → ∀ x, x / 100 = p → gvB σ.2.1 σ.2.2.1 σ.2.2.2.2.1 x = false := by
    intro p h x hx
    unfold gvB
    by_cases h30 : x % 100 < 30
    · rw [hx, h _ h30, Bool.and_false]
    · rw [decide_eq_false h30, Bool.false_and]
  refine wp_eqI ?_
  refine wp_eq e25_0 ?_
  refine wp_loop (R := fun p (_ : Unit) => Ev X (d + 1) 25 (2, [.ref 52, .int (nI p)], [], hS u D J)) (fun p _ => ∀ x, x < 100 * p → gvB σ.2.1 σ.2.2.1 σ.2.2.2.2.1 x = false) 12 ?_ ?_ 0 () (by decide) (fun x hx => absurd hx (by omega))
  · intro p _ hp hI ih
    refine wp_eq (e25_2 _) (wp_f (nI_ge (b := 12) hp (by decide)) ?_)
    rw [nI_clamp (by omega), h53.2 p hp, nI_1]
    refine oG hp (by decide) (wp_if (fun h => ?_) (fun h => ?_))
    · have h0 := (orP_ne (by decide)).mp h
      refine ih () (fun x hx => ?_)
      by_cases hxp : x < 100 * p
      · exact hI x hxp
      · exact hlow p h0 x (by omega)
    · have hex : ∃ t, t < 30 ∧ guA σ.2.1 σ.2.2.1 σ.2.2.2.2.1 p t = true ∧ ∀ j, j < t → guA σ.2.1 σ.2.2.1 σ.2.2.2.2.1 p j = false := by
        cases hf : findN (guA σ.2.1 σ.2.2.1 σ.2.2.2.2.1 p) 30 0 with
        | none => exact absurd ((orP_ne (by decide)).mpr (fun k hk => find_no hf k (Nat.zero_le _) (by omega))) h
        | some t =>
          obtain ⟨t1, -, t3⟩ := find_mem hf
          refine ⟨t, by omega, t1, fun j hj => ?_⟩
          exact find_first hf j (Nat.zero_le _) hj
      obtain ⟨t, t1, t2, t3⟩ := hex
      refine oG hp (by decide) (wp_iE (ntz_orP (by decide) t1 t2 t3) ?_)
      refine wp_eq (e25_18 _ _ _) (wp_rI ⟨?_, rfl⟩)
      have hpn : p < σ.2.1.1 := by
        unfold guA at t2
        rw [Bool.and_eq_true] at t2
        exact of_decide_eq_true t2.1
      have hy : gvB σ.2.1 σ.2.2.1 σ.2.2.2.2.1 (100 * p + t) = true := by
        unfold gvB
        rw [show (100 * p + t) % 100 = t by omega, show (100 * p + t) / 100 = p by omega, decide_eq_true t1, t2]; rfl
      rw [fs_some (y := 100 * p + t) hy (fun j hj => ?_) (by omega)]
      · show 100 * nI p + nI t = nI (100 * p + t)
        have e : (100 : Int32) * nI p = nI (100 * p) := by
          have : (100 : Int32) = nI 100 := rfl
          rw [this, nI_mul]
        rw [e, nI_add]
      · by_cases hjp : j < 100 * p
        · exact hI j hjp
        · unfold gvB
          rw [show j / 100 = p by omega, t3 (j % 100) (by omega), Bool.and_false]
  · intro _ hI
    refine wp_eq (e25_2 _) (wp_t (nI_le (a := 12) (Nat.le_refl _) (by decide)) (wp_rI ⟨?_, rfl⟩))
    rw [fs_none (fun j hj => hI j (by omega))]; rfl
theorem c_27 {p a : Nat} (hσ : SgOk σ) (hC : CI σ D) (hp : p < σ.2.1.1) (ha : a ≤ 29) : Wp (EvM X (d + 4) 27 [.ref 52, .int (nI p), .int (nI a)] (hS u D J)) (RV u J (fun D' => (∀ q, q < σ.2.1.1 → D' 54 q = D 54 q ||| ((1 : Int32) <<< (p12 (sunK σ.2.1 (upd σ.2.2.1 (12 + p) (nI a)) 4 q) &&& 31))) ∧ CI σ D' ∧ ∀ q, (q < 31 ∨ 36 < q) → q ≠ 5 → q ≠ 54 → D' q = D q)) := by
  have hn := hσ.2.1.1.1
  have ho : agOk σ.2.1.1 (some (p, a)) := fun p' a' e => by cases e; exact ⟨hp, ha⟩
  have hG := age_good hn hσ.2.2.1 ho
  have hg := Good.sunK hσ.2.1.1 hG
  refine wp_eq (e27_0 _ _) ?_
  refine wp_cV (c_23 (d := d + 2) (o := some (p, a)) hσ hC ho) (fun D1 h1 => ?_)
  refine wp_eq (e27_4 _ _) ?_
  refine wp_loop (R := fun k (D2 : DD) => Ev X (d + 4) 27 (6, [.ref 52, .int (nI p), .int (nI a), .int (nI k)], [], hS u D2 J)) (fun k (D2 : DD) => PewsC 31 σ.2.1 (sunK σ.2.1 (ageC σ.2.2.1 (some (p, a))) k) D2 ∧ FrP 31 D D2) 4 ?_ ?_ 0 D1 (by decide) h1
  · intro k D2 hk ⟨i1, i2⟩ ih
    refine wp_eq (e27_6 _ _ _) (wp_f (nI_ge (b := 4) hk (by decide)) ?_)
    refine wp_cV (s_line (d := d + 2) (rain := false) isP31 hσ.2.1 (hC.2.1.p isP31 i2) i1.1) (fun D3 h3 => ?_)
    refine wp_eq (e27_13 _ _ _) ?_
    have e32 : D3 32 = sunK σ.2.1 (ageC σ.2.2.1 (some (p, a))) k := by
      rw [h3.2.2.2.2.1 32 (by decide) (by decide) (by decide) (by decide)]; exact i1.1
    refine wp_cV (s_serv (d := d) (P := 31) isP31 hσ.2.1 (hC.2.1.p isP31 (i2.tr h3.fr)) e32 (line_D hn _ false) h3.1 h3.2.2.1) (fun D4 h4 => ?_)
    obtain ⟨a1, -, -, -, -, -, a7⟩ := h4
    refine wp_eq (e27_16 _ _ _) ?_
    rw [nI_1]
    exact ih D4 ⟨a1, (i2.tr h3.fr).tr a7⟩
  · intro D2 ⟨i1, i2⟩
    have e32 : D2 32 = sunK σ.2.1 (ageC σ.2.2.1 (some (p, a))) 4 := i1.1
    have hC2 : CI σ D2 := hC.p31 i2 (by rw [e32]; exact (hg 4).2.1)
    refine wp_eq (e27_6 _ _ _) (wp_t (nI_le (a := 4) (Nat.le_refl _) (by decide)) ?_)
    refine wp_loop (R := fun q (D3 : DD) => Ev X (d + 4) 27 (20, [.ref 52, .int (nI p), .int (nI a), .int (nI q)], [], hS u D3 J)) (fun q (D3 : DD) => (∀ r, r < q → D3 54 r = D 54 r ||| ((1 : Int32) <<< (p12 (sunK σ.2.1 (ageC σ.2.2.1 (some (p, a))) 4 r) &&& 31))) ∧ (∀ r, q ≤ r → D3 54 r = D 54 r) ∧ ∀ r, r ≠ 54 → D3 r = D2 r) σ.2.1.1 ?_ ?_ 0 D2 (Nat.zero_le _) ⟨fun r hr => absurd hr (Nat.not_lt_zero r), fun r _ => by rw [i2.1 54 (by omega) (by omega)], fun _ _ => rfl⟩
    · intro q D3 hq ⟨j1, j2, j3⟩ ih
      refine wp_eq (e27_20 _ _ _) ?_
      rw [j3 3 (by decide), hC2.2.1.1]
      refine wp_f (nI_ge hq (by omega)) ?_
      rw [la, nI_clamp (show 0 + q < 2 ^ 31 by omega), Nat.zero_add, nI_clamp (show q < 2 ^ 31 by omega), j3 32 (by decide), e32, j2 q (Nat.le_refl _)]
      refine oG (by omega) (by decide) (oG (by omega) (by decide) (wp_iE c_p12 ?_))
      refine wp_eq (e27_40 _ _ _ _ _ _ _) ?_
      rw [nI_clamp (show q < 2 ^ 31 by omega), nI_1]
      refine oG (by omega) (by decide) (ih _ ⟨fun r hr => ?_, fun r hr => by rw [ud_k (by omega)]; exact j2 r (by omega), fun r hr => by rw [ud_q hr]; exact j3 r hr⟩)
      by_cases hrq : r = q
      · rw [hrq, ud_at]
      · rw [ud_k hrq]; exact j1 r (by omega)
    · intro D3 ⟨j1, j2, j3⟩
      refine wp_eq (e27_20 _ _ _) ?_
      rw [j3 3 (by decide), hC2.2.1.1]
      refine wp_t (nI_le (Nat.le_refl _) (by omega)) (wp_rV ⟨j1, hC2.scr (fun q hh => j3 q (by omega)) (fun i _ _ => by rw [j3 5 (by decide)]) (by rw [j3 32 (by decide)]; exact hC2.2.2.2.2.2.2.2.2.1), fun q q1 q2 q3 => by rw [j3 q q3]; exact i2.1 q (by omega) q2⟩)
theorem c_26 (hσ : SgOk σ) (hC : CI σ D) (hg : GuD σ D) : Wp (EvM X (d + 5) 26 [.ref 52] (hS u D J)) (RV u J (fun D' => CI σ D' ∧ D' 52 1 = (beN (fun q => bcI (mkN σ.2.1 σ.2.2.1 σ.2.2.2.2.1 q (100 * σ.2.1.1))) σ.2.1.1).2 ∧ D' 52 2 = (beN (fun q => bcI (mkN σ.2.1 σ.2.2.1 σ.2.2.2.2.1 q (100 * σ.2.1.1))) σ.2.1.1).1 ∧ ∀ q, 70 ≤ q → D' q = D q)) := by
  have hn := hσ.2.1.1.1
  refine wp_eq e26_0 ?_
  refine wp_cV (s_fill (Q := 54) (n := 12) (by unfold isQ; omega)) (fun D1 g => ?_)
  obtain ⟨f1, -, f3⟩ := g
  refine wp_eq e26_4 ?_
  have hC1 : CI σ D1 := hC.scr (fun q hh => f3 q (by omega)) (fun i _ _ => by rw [f3 5 (by decide)]) (by rw [f3 32 (by decide)]; exact hC.2.2.2.2.2.2.2.2.1)
  refine wp_loop (R := fun p (D2 : DD) => Ev X (d + 5) 26 (6, [.ref 52, .int (nI p), .null], [], hS u D2 J)) (fun p (D2 : DD) => (∀ q, q < σ.2.1.1 → D2 54 q = mkN σ.2.1 σ.2.2.1 σ.2.2.2.2.1 q (100 * p)) ∧ CI σ D2 ∧ ∀ q, (q < 31 ∨ 36 < q) → q ≠ 5 → q ≠ 54 → D2 q = D q) 12 ?_ ?_ 0 D1 (by decide) ⟨fun q hq => f1 q (by omega), hC1, fun q _ _ h => f3 q h⟩
  · intro p D2 hp ⟨i1, i2, i3⟩ ih
    refine wp_eq (e26_6 _) (wp_f (nI_ge (b := 12) hp (by decide)) ?_)
    refine wp_loop (R := fun a (D3 : DD) => Ev X (d + 5) 26 (11, [.ref 52, .int (nI p), .int (nI a)], [], hS u D3 J)) (fun a (D3 : DD) => (∀ q, q < σ.2.1.1 → D3 54 q = mkN σ.2.1 σ.2.2.1 σ.2.2.2.2.1 q (100 * p + a)) ∧ CI σ D3 ∧ ∀ q, (q < 31 ∨ 36 < q) → q ≠ 5 → q ≠ 54 → D3 q = D q) 30 ?_ ?_ 0 D2 (by decide) ⟨i1, i2, i3⟩
    · intro a D3 ha ⟨j1, j2, j3⟩ ih3
      refine wp_eq (e26_11 _ _) (wp_f (Int32.not_lt.mpr (nI_le (b := 29) (by omega) (by decide))) ?_)
      have eb : ((D3 53 p) >>> (nI a &&& 31)) &&& 1 = if a < 30 ∧ guA σ.2.1 σ.2.2.1 σ.2.2.2.2.1 p a = true then 1 else 0 := by
        rw [j3 53 (by omega) (by omega) (by omega), hg.2 p hp]
        exact tb_orP31 (by decide) (by omega)
      rw [nI_clamp (show p < 2 ^ 31 by omega), eb]
      refine oG hp (by decide) ?_
      have hgv : gvB σ.2.1 σ.2.2.1 σ.2.2.2.2.1 (100 * p + a) = guA σ.2.1 σ.2.2.1 σ.2.2.2.2.1 p a := by
        unfold gvB
        rw [show (100 * p + a) % 100 = a by omega, show (100 * p + a) / 100 = p by omega, decide_eq_true ha, Bool.true_and]
      by_cases h : guA σ.2.1 σ.2.2.1 σ.2.2.2.2.1 p a = true
      · rw [if_pos ⟨ha, h⟩]
        have hpn : p < σ.2.1.1 := by
          have h2 := h
          unfold guA at h2
          rw [Bool.and_eq_true] at h2
          exact of_decide_eq_true h2.1
        refine wp_f (fun z => z rfl) ?_
        refine wp_cV (c_27 (d := d) hσ j2 hpn (by omega)) (fun D4 h4 => ?_)
        obtain ⟨k1, k2, k3⟩ := h4
        refine wp_eq (e26_28 _ _) ?_
        rw [nI_1]
        refine ih3 D4 ⟨fun q hq => ?_, k2, fun q a1 a2 a3 => by rw [k3 q a1 a2 a3]; exact j3 q a1 a2 a3⟩
        rw [k1 q hq, j1 q hq]
        show _ = mkN σ.2.1 σ.2.2.1 σ.2.2.2.2.1 q (100 * p + a + 1)
        rw [mkN, if_pos (hgv.trans h), show (100 * p + a) % 100 = a by omega, show (100 * p + a) / 100 = p by omega]
      · rw [if_neg (fun z => h z.2)]
        refine wp_t (by decide) (wp_eq (e26_28 _ _) ?_)
        rw [nI_1]
        refine ih3 D3 ⟨fun q hq => ?_, j2, j3⟩
        rw [j1 q hq]
        show _ = mkN σ.2.1 σ.2.2.1 σ.2.2.2.2.1 q (100 * p + a + 1)
        rw [mkN, if_neg (by rw [hgv]; exact h)]
    · intro D3 ⟨j1, j2, j3⟩
      refine wp_eq (e26_11 _ _) (wp_t (nI_lt (a := 29) (b := 30) (by decide) (by decide)) ?_)
      rw [nI_1]
      refine wp_weak (ls := [.ref 52, .int (nI (p + 1)), .null]) (by simp [lle, lng]) ?_
      refine ih D3 ⟨fun q hq => ?_, j2, j3⟩
      rw [j1 q hq]
      refine (mk_skip (by omega) (fun j a b => ?_)).symm
      unfold gvB
      rw [decide_eq_false (by omega), Bool.false_and]
  · intro D2 ⟨i1, i2, i3⟩
    have hcut : ∀ q, q < σ.2.1.1 → D2 54 q = mkN σ.2.1 σ.2.2.1 σ.2.2.2.2.1 q (100 * σ.2.1.1) := fun q hq => by
      rw [i1 q hq]
      refine mk_skip (by omega) (fun j a b => ?_)
      unfold gvB guA
      rw [decide_eq_false (show ¬ j / 100 < σ.2.1.1 by omega), Bool.false_and, Bool.and_false]
    refine wp_eq (e26_6 _) (wp_t (nI_le (a := 12) (Nat.le_refl _) (by decide)) ?_)
    refine wp_loop (R := fun q (D3 : DD) => Ev X (d + 5) 26 (40, [.ref 52, .int (nI q), .null], [], hS u D3 J)) (fun q (D3 : DD) => D3 52 0 = D2 52 0 ∧ D3 52 1 = (beN (fun q => bcI (mkN σ.2.1 σ.2.2.1 σ.2.2.2.2.1 q (100 * σ.2.1.1))) q).2 ∧ D3 52 2 = (beN (fun q => bcI (mkN σ.2.1 σ.2.2.1 σ.2.2.2.2.1 q (100 * σ.2.1.1))) q).1 ∧ ∀ r, r ≠ 52 → D3 r = D2 r) σ.2.1.1 ?_ ?_ 0 _ (Nat.zero_le _) ⟨by rw [ud_k (by decide), ud_k (by decide)], by rw [ud_k (by decide), ud_at]; rfl, by rw [ud_at]; rfl, fun r hr => by rw [ud_q hr, ud_q hr]⟩
    · intro q D3 hq ⟨j0, j1, j2, j3⟩ ih
      refine wp_eq (e26_40 _) ?_
      rw [j3 3 (by decide), i2.2.1.1]
      refine wp_f (nI_ge hq (by omega)) ?_
      rw [nI_clamp (show q < 2 ^ 31 by omega), j3 54 (by decide), hcut q hq]
      refine oG (by omega) (by decide) (wp_iE (s_bc _) ?_)
      refine wp_eq (e26_51 _ _) ?_
      rw [j2, nI_clamp (show q < 2 ^ 31 by omega), j3 54 (by decide), hcut q hq, nI_1]
      refine wp_if (fun h => ?_) (fun h => ?_)
      · refine ih D3 ⟨j0, ?_, ?_, j3⟩
        · rw [beN, if_pos h]; exact j1
        · rw [beN, if_pos h]; exact j2
      · refine oG (by omega) (by decide) (wp_iE (s_bc _) ?_)
        refine wp_eq (e26_60 _ _) ?_
        rw [nI_1]
        refine ih _ ⟨by rw [ud_k (by decide), ud_k (by decide)]; exact j0, ?_, ?_, fun r hr => by rw [ud_q hr, ud_q hr]; exact j3 r hr⟩
        · rw [beN, if_neg h, ud_at]
        · rw [beN, if_neg h, ud_k (by decide), ud_at]
    · intro D3 ⟨j0, j1, j2, j3⟩
      refine wp_eq (e26_40 _) ?_
      rw [j3 3 (by decide), i2.2.1.1]
      refine wp_t (nI_le (Nat.le_refl _) (by omega)) (wp_rV ⟨i2.gue (fun q hh => j3 q (by omega)) (fun i _ _ => by rw [j3 5 (by decide)]) (by rw [j3 32 (by decide)]; exact i2.2.2.2.2.2.2.2.2.1) ?_, j1, j2, fun q hq => by rw [j3 q (by omega)]; exact i3 q (by omega) (by omega) (by omega)⟩)
      have := i2.2.2.2.2.2.2.1
      unfold GueC at this ⊢
      rw [j0, j3 53 (by decide)]; exact this
end LOOKC
