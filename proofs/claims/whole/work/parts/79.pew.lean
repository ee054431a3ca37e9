/-! ===== one gathering in two orders; pew ===== -/
def fP {α : Type} (op : α → α → α) (e : α) (g : Nat → α) (P : Nat → Bool) : Nat → α
  | 0 => e
  | n + 1 => op (fP op e g P n) (if P n = true then g n else e)
def fS {α : Type} (op : α → α → α) (e : α) (g : Nat → α) (a : Nat → Nat) : Nat → α
  | 0 => e
  | m + 1 => op (fS op e g a m) (g (a m))
section PERM
variable {α : Type} {op : α → α → α} {e : α} {g : Nat → α}
theorem fP_congr {P Q : Nat → Bool} : ∀ {n : Nat}, (∀ p, p < n → P p = Q p) → fP op e g P n = fP op e g Q n
  | 0, _ => rfl
  | n + 1, h => by rw [fP, fP, fP_congr (fun p hp => h p (by omega)), h n (by omega)]
theorem fP_none (hi : ∀ x, op x e = x) {P : Nat → Bool} : ∀ {n : Nat}, (∀ p, p < n → P p = false) → fP op e g P n = e
  | 0, _ => rfl
  | n + 1, h => by
    rw [fP, fP_none hi (fun p hp => h p (by omega)), h n (by omega)]
    exact hi e
theorem fP_add (ha : ∀ x y z, op (op x y) z = op x (op y z)) (hc : ∀ x y, op x y = op y x) (hi : ∀ x, op x e = x) {P : Nat → Bool} {q : Nat} (hq : P q = true) : ∀ {n : Nat}, q < n → op (fP op e g (fun p => P p && !(p == q)) n) (g q) = fP op e g P n
  | 0, h => absurd h (Nat.not_lt_zero q)
  | n + 1, h => by
    rw [fP, fP]
    by_cases hn : n = q
    · subst hn
      have e1 : fP op e g (fun p => P p && !(p == n)) n = fP op e g P n := fP_congr (fun p hp => by
        have : (p == n) = false := by simp; omega
        rw [this, Bool.not_false, Bool.and_true])
      simp only [beq_self_eq_true, Bool.not_true, Bool.and_false]
      rw [e1, hq, if_pos rfl]
      simp only [Bool.false_eq_true, if_false]
      rw [hi]
    · have e2 : (P n && !(n == q)) = P n := by
        have : (n == q) = false := by simp; omega
        rw [this, Bool.not_false, Bool.and_true]
      rw [e2, ← fP_add ha hc hi hq (show q < n by omega), ha, ha, hc (g q)]
theorem f_perm (ha : ∀ x y z, op (op x y) z = op x (op y z)) (hc : ∀ x y, op x y = op y x) (hi : ∀ x, op x e = x) {n : Nat} {a : Nat → Nat} : ∀ (m : Nat) (P : Nat → Bool), (∀ i, i < m → a i < n ∧ P (a i) = true) → (∀ i j, i < m → j < m → a i = a j → i = j) → (∀ p, p < n → P p = true → ∃ i, i < m ∧ a i = p) → fS op e g a m = fP op e g P n
  | 0, P, _, _, h3 => by
    rw [fP_none hi (fun p hp => ?_)]
    · rfl
    · cases hP : P p with
      | false => rfl
      | true => obtain ⟨i, hi', _⟩ := h3 p hp hP; exact absurd hi' (Nat.not_lt_zero i)
  | m + 1, P, h1, h2, h3 => by
    obtain ⟨k1, k2⟩ := h1 m (by omega)
    rw [fS, f_perm ha hc hi m (fun p => P p && !(p == a m)) (fun i hi' => ?_) (fun i j hi' hj => h2 i j (by omega) (by omega)) (fun p hp hP => ?_)]
    · exact fP_add ha hc hi k2 k1
    · obtain ⟨q1, q2⟩ := h1 i (by omega)
      refine ⟨q1, ?_⟩
      have : (a i == a m) = false := by
        simp
        intro z
        have := h2 i m (by omega) (by omega) z
        omega
      show (P (a i) && !(a i == a m)) = true
      rw [this, q2]; rfl
    · have hP : (P p && !(p == a m)) = true := hP
      simp at hP
      obtain ⟨i, i1, i2⟩ := h3 p hp hP.1
      refine ⟨i, ?_, i2⟩
      have : i ≠ m := fun z => hP.2 (by rw [← i2, z])
      omega
end PERM
theorem orP_f (P : Nat → Bool) : ∀ n, orP P n = fP (fun x y : Int32 => x ||| y) 0 bitN P n
  | 0 => rfl
  | n + 1 => by rw [fP, ← orP_f P n]; rfl
section PEW
variable {X : XS} {d u : Nat} {D : DD} {J : JJ} {σ : Sg} {ρ : Ru} {c : Cc} {P : Nat}
theorem seat_perm {w : Nat} (hO : Ok ρ c) (hw : w < 12) : (∀ x, x < sizeN ρ c w → whoN ρ c (12 * w + x) < ρ.1 ∧ inW c w (whoN ρ c (12 * w + x)) = true) ∧ (∀ x y, x < sizeN ρ c w → y < sizeN ρ c w → whoN ρ c (12 * w + x) = whoN ρ c (12 * w + y) → x = y) ∧ ∀ p, p < ρ.1 → inW c w p = true → ∃ x, x < sizeN ρ c w ∧ whoN ρ c (12 * w + x) = p := by
  have h4 := hO.2.2.2.1 w hw
  refine ⟨fun x hx => ?_, fun x y hx hy h => ?_, fun p hp h => ?_⟩
  · obtain ⟨g1, g2⟩ := who_ex hO hw hx
    refine ⟨g1, ?_⟩
    rw [inW_s (hO.lt hw hx) (by omega) g2]
    exact decide_eq_true (by omega)
  · have g1 := (who_ex hO hw hx).2
    have g2 := (who_ex hO hw hy).2
    rw [h, g2] at g1
    have := nI_inj (by omega) (by omega) g1
    omega
  · rcases hO.1 p hp with g | ⟨v, x, v1, x1, g⟩
    · rw [inW_no g] at h; exact absurd h (by decide)
    · have hl := hO.lt v1 x1
      have h4' := hO.2.2.2.1 v v1
      rw [inW_s hl (by omega) g] at h
      have hv : v = w := by have := of_decide_eq_true h; omega
      subst hv
      exact ⟨x, x1, who_at hO hp hl g⟩
theorem or_seats {w : Nat} (hO : Ok ρ c) (hw : w < 12) : fS (fun x y : Int32 => x ||| y) 0 bitN (fun x => whoN ρ c (12 * w + x)) (sizeN ρ c w) = orP (inW c w) ρ.1 := by
  obtain ⟨h1, h2, h3⟩ := seat_perm hO hw
  rw [orP_f]
  exact f_perm Int32.or_assoc Int32.or_comm (fun _ => Int32.or_zero) _ _ h1 h2 h3
def agN (ρ : Ru) (c : Cc) (w : Nat) : Int32 := fP (fun x y : Int32 => x + y) 0 (fun p => c (12 + p)) (inW c w) ρ.1
theorem age_seats {w : Nat} (hO : Ok ρ c) (hw : w < 12) : fS (fun x y : Int32 => x + y) 0 (fun p => c (12 + p)) (fun x => whoN ρ c (12 * w + x)) (sizeN ρ c w) = agN ρ c w := by
  obtain ⟨h1, h2, h3⟩ := seat_perm hO hw
  exact f_perm Int32.add_assoc Int32.add_comm Int32.add_zero _ _ h1 h2 h3
theorem lw (w x : Nat) : nI w * 12 + nI x = nI (12 * w + x) := by rw [lm, nI_add]
/-- the bits of a pew -/
theorem c_bitsOf {w : Nat} (hP : isP P) (hn : ρ.1 ≤ 12) (hW : PewsC P ρ c D) (hO : Ok ρ c) (hw : w < 12) : EvM X d 54 [.ref P, .int (nI w)] (hS u D J) = some (.inl (some (.int (orP (inW c w) ρ.1))), hS u D J) := by
  refine wp_eqI ?_
  have h4 := hO.2.2.2.1 w hw
  refine wp_eq (e54_0 hP _) ?_
  refine wp_loop (R := fun k (v : Int32) => Ev X d 54 (4, [.ref P, .int (nI w), .int v, .int (nI k)], [], hS u D J)) (fun k v => v = fS (fun x y : Int32 => x ||| y) 0 bitN (fun x => whoN ρ c (12 * w + x)) k) (sizeN ρ c w) ?_ ?_ 0 0 (Nat.zero_le _) rfl
  · intro k v hk hv ih
    refine wp_eq (e54_4 hP _ _ _) ?_
    rw [nI_clamp (show w < 2 ^ 31 by omega), hW.2.1 w hw]
    refine oG hw (by decide) (wp_f (nI_ge hk (by omega)) ?_)
    rw [lw, nI_clamp (by omega), hW.2.2 w k hw hk]
    refine oG (by omega) (by decide) ?_
    rw [nI_1]
    exact ih _ (by rw [fS, ← hv]; rfl)
  · intro v hv
    refine wp_eq (e54_4 hP _ _ _) ?_
    rw [nI_clamp (show w < 2 ^ 31 by omega), hW.2.1 w hw]
    refine oG hw (by decide) (wp_t (nI_le (Nat.le_refl _) (by omega)) ?_)
    exact wp_rI ⟨by rw [hv]; exact or_seats hO hw, rfl⟩
theorem c_ageAt {w x : Nat} (hP : isP P) (hn : ρ.1 ≤ 12) (hW : PewsC P ρ c D) (hO : Ok ρ c) (hw : w < 12) (hx : x < sizeN ρ c w) : EvM X d 56 [.ref P, .int (nI w), .int (nI x)] (hS u D J) = some (.inl (some (.int (c (12 + whoN ρ c (12 * w + x))))), hS u D J) := by
  have hl := hO.lt hw hx
  have g1 := (who_ex hO hw hx).1
  refine (e56_0 hP _ _).trans ?_
  rw [lw, nI_clamp (by omega), gd_t (ob_n hl (by decide)), hW.2.2 w x hw hx, la, gd_t (ob_n (by omega) (by decide)), nI_clamp (by omega), hW.1]
theorem c_ages {w : Nat} (hP : isP P) (hn : ρ.1 ≤ 12) (hW : PewsC P ρ c D) (hO : Ok ρ c) (hw : w < 12) : EvM X (d + 1) 55 [.ref P, .int (nI w)] (hS u D J) = some (.inl (some (.int (agN ρ c w))), hS u D J) := by
  refine wp_eqI ?_
  have h4 := hO.2.2.2.1 w hw
  refine wp_eq (e55_0 hP _) ?_
  refine wp_loop (R := fun k (v : Int32) => Ev X (d + 1) 55 (4, [.ref P, .int (nI w), .int v, .int (nI k)], [], hS u D J)) (fun k v => v = fS (fun x y : Int32 => x + y) 0 (fun p => c (12 + p)) (fun x => whoN ρ c (12 * w + x)) k) (sizeN ρ c w) ?_ ?_ 0 0 (Nat.zero_le _) rfl
  · intro k v hk hv ih
    refine wp_eq (e55_4 hP _ _ _) ?_
    rw [nI_clamp (show w < 2 ^ 31 by omega), hW.2.1 w hw]
    refine oG hw (by decide) (wp_f (nI_ge hk (by omega)) ?_)
    refine wp_iE (c_ageAt hP hn hW hO hw hk) ?_
    refine wp_eq (e55_15 hP _ _ _ _ _) ?_
    rw [nI_1]
    exact ih _ (by rw [fS, ← hv])
  · intro v hv
    refine wp_eq (e55_4 hP _ _ _) ?_
    rw [nI_clamp (show w < 2 ^ 31 by omega), hW.2.1 w hw]
    refine oG hw (by decide) (wp_t (nI_le (Nat.le_refl _) (by omega)) ?_)
    exact wp_rI ⟨by rw [hv]; exact age_seats hO hw, rfl⟩
theorem orP_0 {A : Nat → Bool} {n : Nat} (hn : n ≤ 12) : orP A n = 0 ↔ cntN A n = 0 := by
  constructor
  · intro h
    cases Nat.eq_zero_or_pos (cntN A n) with
    | inl z => exact z
    | inr z =>
      exfalso
      have : ∀ p, p < n → A p = false := fun p hp => by
        have t := tb_orP A n (by omega) p (by omega)
        rw [h, tb_0 p (by omega)] at t
        cases hA : A p with
        | false => rfl
        | true => rw [if_pos ⟨hp, hA⟩] at t; exact absurd t (by decide)
      have e : cntN A n = cntN (fun _ => false) n := cnt_congr this
      have e0 : ∀ m, cntN (fun _ => false) m = 0 := fun m => by
        induction m with
        | zero => rfl
        | succ m ih => rw [cntN, ih]; rfl
      rw [e, e0] at z
      exact absurd z (by decide)
  · intro h
    rw [orP_f]
    refine fP_none (fun _ => Int32.or_zero) (fun p hp => ?_)
    cases hA : A p with
    | false => rfl
    | true => have := cnt_pos hp hA; omega
/-- how many pews have sitters -/
def pwN (ρ : Ru) (c : Cc) : Nat → Nat → Nat
  | 0, w => w
  | f + 1, w => if sizeN ρ c w = 0 then w else pwN ρ c f (w + 1)
theorem pw_le (ρ : Ru) (c : Cc) : ∀ f w, pwN ρ c f w ≤ w + f ∧ w ≤ pwN ρ c f w ∧ ∀ v, w ≤ v → v < pwN ρ c f w → sizeN ρ c v ≠ 0
  | 0, w => ⟨Nat.le_refl _, Nat.le_refl _, fun v h1 h2 => by have h2 : v < w := h2; omega⟩
  | f + 1, w => by
    rw [pwN]
    by_cases h : sizeN ρ c w = 0
    · rw [if_pos h]; exact ⟨by omega, Nat.le_refl _, fun v h1 h2 => by omega⟩
    · rw [if_neg h]
      obtain ⟨h1, h2, h3⟩ := pw_le ρ c f (w + 1)
      refine ⟨by omega, by omega, fun v v1 v2 => ?_⟩
      by_cases hv : v = w
      · rw [hv]; exact h
      · exact h3 v (by omega) v2
theorem pw_0 (ρ : Ru) (c : Cc) : ∀ f w, pwN ρ c f w < w + f → sizeN ρ c (pwN ρ c f w) = 0
  | 0, w, h => by have h : w < w + 0 := h; omega
  | f + 1, w, h => by
    rw [pwN] at h ⊢
    by_cases hz : sizeN ρ c w = 0
    · rw [if_pos hz]; exact hz
    · rw [if_neg hz] at h ⊢
      exact pw_0 ρ c f (w + 1) (by omega)
theorem pw_iff (hO : Ok ρ c) {w : Nat} (hw : w < 12) : pwN ρ c 12 0 ≤ w ↔ sizeN ρ c w = 0 := by
  constructor
  · intro h
    have h0 := pw_0 ρ c 12 0 (by omega)
    have : ∀ k, pwN ρ c 12 0 + k < 12 → sizeN ρ c (pwN ρ c 12 0 + k) = 0 := fun k => by
      induction k with
      | zero => intro _; exact h0
      | succ k ih => intro hk; exact hO.2.2.2.2 (pwN ρ c 12 0 + k) (by omega) (ih (by omega))
    have := this (w - pwN ρ c 12 0) (by omega)
    rw [show pwN ρ c 12 0 + (w - pwN ρ c 12 0) = w by omega] at this
    exact this
  · intro h
    exact Nat.not_lt.mp (fun z => (pw_le ρ c 12 0).2.2 w (Nat.zero_le _) z h)
theorem m_pewsW {b q : Nat} (hb : isB b) (hn : ρ.1 ≤ 12) (hC : D 70 1 = nI ρ.1) (hr : RowS b ρ c q (D 78)) : ∀ f w, f + w = 12 → Ev X (d + 1) 217 (2, [.ref 70, .int (nI b), .int (nI w)], [], hS u D J) = some (.inl (some (.int (nI (pwN ρ c f w)))), hS u D J)
  | 0, w, h => by
    have : w = 12 := by omega
    subst this
    rw [e217_2, brT (by decide)]; rfl
  | f + 1, w, h => by
    rw [e217_2, brF (show ¬ (12 : Int32) ≤ nI w from nI_ge (b := 12) (by omega) (by decide)), s_inPew hb hn hC hr (by omega)]
    show Ev X (d + 1) 217 (9, [.ref 70, .int (nI b), .int (nI w)], [.int (orP (inW c w) ρ.1)], hS u D J) = _
    rw [e217_9, pwN]
    by_cases hz : sizeN ρ c w = 0
    · rw [if_pos hz, brT ((orP_0 hn).mpr hz)]
    · rw [if_neg hz, brF (fun z => hz ((orP_0 hn).mp z)), nI_1]
      exact m_pewsW hb hn hC hr f (w + 1) (by omega)
theorem m_pews {b q : Nat} (hb : isB b) (hn : ρ.1 ≤ 12) (hC : D 70 1 = nI ρ.1) (hr : RowS b ρ c q (D 78)) : EvM X (d + 1) 217 [.ref 70, .int (nI b)] (hS u D J) = some (.inl (some (.int (nI (pwN ρ c 12 0)))), hS u D J) :=
  (e217_0 (nI b)).trans (m_pewsW hb hn hC hr 12 0 rfl)
theorem m_what {x k : Int32} (h0 : D 70 0 = 0) : ((¬ x < 0 ∧ ¬ k < x) → EvM X (d + 1) 235 [.ref 70, .int x, .int k] (hS u D J) = some (.inl (some (.int 1)), hS u D J)) ∧ (¬ (¬ x < 0 ∧ ¬ k < x) → EvM X (d + 1) 235 [.ref 70, .int x, .int k] (hS u D J) = some (.inl (some (.int 0)), hS u (ud D 70 0 1) J)) := by
  have e : EvM X (d + 1) 235 [.ref 70, .int x, .int k] (hS u D J) = _ := e235_0 x k
  rw [m_within] at e
  have e : EvM X (d + 1) 235 [.ref 70, .int x, .int k] (hS u D J) = Ev X (d + 1) 235 (5, [.ref 70, .int x, .int k], [.int (if ¬ x < 0 ∧ ¬ k < x then 1 else 0), .ref 70], hS u D J) := e
  constructor
  · intro h
    rw [e, if_pos h, e235_5, (m_right h0 (by decide)).1 (by decide)]
    show Ev X (d + 1) 235 (7, [.ref 70, .int x, .int k], [.int 1], hS u D J) = _
    rw [e235_7]
    exact gd_t (by decide)
  · intro h
    rw [e, if_neg h, e235_5, (m_right h0 (by decide)).2 rfl]
    show Ev X (d + 1) 235 (7, [.ref 70, .int x, .int k], [.int 0], hS u (ud D 70 0 1) J) = _
    rw [e235_7]
    exact gd_t (by decide)
def pewA (ρ : Ru) (c : Cc) (w : Nat) : Nat → Int32
  | 0 => nI (sizeN ρ c w)
  | 1 => orP (inW c w) ρ.1
  | 2 => nI (whoN ρ c (12 * w + 0))
  | 3 => nI (whoN ρ c (12 * w + (sizeN ρ c w - 1)))
  | _ => agN ρ c w
end PEW
