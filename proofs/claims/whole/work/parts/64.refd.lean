/-! ===== a service reads nothing of who was away or barred ===== -/
section CONG
variable {ρ : Ru} {c c' : Cc}
theorem minds_congr (hn : ρ.1 ≤ 12) (h : ∀ i, i < 48 → c i = c' i) {o : Nat} (ho : o ≤ 12) (th : Int32) : mindsF ρ c o th = mindsF ρ c' o th := by
  unfold mindsF
  have e : vM c o th = vM c' o th := by
    funext k
    unfold vM
    rw [h (12 + o) (by omega), h o (by omega), h (24 + o) (by omega)]
  rw [e, h (12 + o) (by omega)]
theorem find_le {P : Nat → Bool} : ∀ {r p q : Nat}, findN P r p = some q → q < p + r
  | 0, _, _, h => by cases h
  | r + 1, p, q, h => by
    rw [findN] at h
    split at h
    · cases h; omega
    · have := find_le h; omega
theorem who_le (ρ : Ru) (c : Cc) (s : Nat) : whoN ρ c s ≤ ρ.1 := by
  unfold whoN
  cases hf : findN (fun p => decide (c p = nI s)) ρ.1 0 with
  | none => exact Nat.le_refl _
  | some q =>
    have := find_le hf
    show q ≤ ρ.1
    omega
theorem vic_congr (hn : ρ.1 ≤ 12) (h : ∀ i, i < 48 → c i = c' i) (w : Nat) (th : Int32) : ∀ r x, vicN ρ c w th r x = vicN ρ c' w th r x
  | 0, _ => rfl
  | r + 1, x => by
    have hw := who_congr (ρ := ρ) (c := c) (c' := c') (fun p hp => h p (by omega)) (12 * w + x)
    have hl := who_le ρ c' (12 * w + x)
    rw [vicN, vicN, hw, minds_congr hn h (by omega) th, vic_congr hn h w th r (x + 1)]
theorem out_congr (h : ∀ i, i < 48 → c i = c' i) {p o : Nat} (ho : o ≤ 12) : ∀ i, i < 48 → outN c p o i = outN c' p o i := by
  intro i hi
  unfold outN upd
  by_cases h1 : i = 36 + o
  · rw [if_pos h1, if_pos h1, h (36 + o) (by omega)]
  · rw [if_neg h1, if_neg h1]
    by_cases h2 : i = 24 + o
    · rw [if_pos h2, if_pos h2, h (24 + o) (by omega)]
    · rw [if_neg h2, if_neg h2]
      by_cases h3 : i = o
      · rw [if_pos h3, if_pos h3]
      · rw [if_neg h3, if_neg h3, h o (by omega), h i hi]
theorem sit_congr (hn : ρ.1 ≤ 12) : ∀ (f : Nat) (c c' : Cc) (p w : Nat), (∀ i, i < 48 → c i = c' i) → p ≤ 12 → (sitN ρ f c p w).2 = (sitN ρ f c' p w).2 ∧ ∀ i, i < 48 → (sitN ρ f c p w).1 i = (sitN ρ f c' p w).1 i := by
  intro f
  induction f with
  | zero => intro c c' p w h _; exact ⟨rfl, h⟩
  | succ f ih =>
    intro c c' p w h hp
    have hz := size_congr (ρ := ρ) (c := c) (c' := c') (fun q hq => h q (by omega)) w
    have hv := vic_congr hn h w (c' (12 + p)) (sizeN ρ c' w) 0
    rw [sitN, sitN, hz, h (12 + p) (by omega), hv]
    cases vicN ρ c' w (c' (12 + p)) (sizeN ρ c' w) 0 with
    | none =>
      dsimp only
      by_cases hs : sizeN ρ c' w < ρ.2.1
      · rw [if_pos hs, if_pos hs]
        refine ⟨rfl, fun i hi => ?_⟩
        show (if i = p then _ else c i) = (if i = p then _ else c' i)
        rw [h i hi]
      · rw [if_neg hs, if_neg hs]
        exact ih c c' p (w + 1) h hp
    | some x =>
      dsimp only
      have hw := who_congr (ρ := ρ) (c := c) (c' := c') (fun q hq => h q (by omega)) (12 * w + x)
      have hl := who_le ρ c' (12 * w + x)
      rw [hw]
      obtain ⟨i1, i2⟩ := ih (outN c p (whoN ρ c' (12 * w + x))) (outN c' p (whoN ρ c' (12 * w + x))) (whoN ρ c' (12 * w + x)) (w + 1) (out_congr h (by omega)) (by omega)
      exact ⟨by rw [i1], i2⟩
end CONG
/-- whether one is in a line -/
def inL (L : Nat × (Nat → Nat)) (p : Nat) : Bool := (findN (fun i => decide (L.2 i = p)) L.1 0).isSome
theorem inL_iff {L : Nat × (Nat → Nat)} {p : Nat} : inL L p = true ↔ ∃ i, i < L.1 ∧ L.2 i = p := by
  have key : ∀ r k, (findN (fun i => decide (L.2 i = p)) r k).isSome = true ↔ ∃ i, k ≤ i ∧ i < k + r ∧ L.2 i = p := by
    intro r
    induction r with
    | zero => intro k; exact ⟨fun h => by simp [findN] at h, fun ⟨i, h1, h2, _⟩ => by omega⟩
    | succ r ih =>
      intro k
      rw [findN]
      by_cases h : L.2 k = p
      · rw [if_pos (decide_eq_true h)]
        exact ⟨fun _ => ⟨k, Nat.le_refl k, by omega, h⟩, fun _ => rfl⟩
      · rw [if_neg (by simp [h]), ih (k + 1)]
        constructor
        · intro ⟨i, h1, h2, h3⟩; exact ⟨i, by omega, by omega, h3⟩
        · intro ⟨i, h1, h2, h3⟩
          by_cases hik : i = k
          · rw [hik] at h3; exact absurd h3 h
          · exact ⟨i, by omega, by omega, h3⟩
  unfold inL
  rw [key L.1 0]
  exact ⟨fun ⟨i, _, h2, h3⟩ => ⟨i, by omega, h3⟩, fun ⟨i, h2, h3⟩ => ⟨i, Nat.zero_le i, by omega, h3⟩⟩
/-- what is held once all stand, as the reference goes: those away and barred are counted first -/
def preN (ρ : Ru) (c : Cc) (L : Nat × (Nat → Nat)) : Cc := fun i => if 48 ≤ i ∧ i < 48 + ρ.1 then (if inL L (i - 48) = true then 0 else c i + 1) else if 60 ≤ i ∧ i < 60 + ρ.1 then (if 0 < c i then c i - 1 else c i) else resN c i
theorem pre_lo {ρ : Ru} {c : Cc} {L : Nat × (Nat → Nat)} {i : Nat} (h : i < 48) : preN ρ c L i = resN c i := by
  unfold preN
  rw [if_neg (by omega), if_neg (by omega)]
theorem sits_pre {ρ : Ru} (hR : Ru0 ρ) {c : Cc} {L : Nat × (Nat → Nat)} (hL : LineD ρ L) : ∀ k, k ≤ L.1 → (∀ i, i < 48 → sitsN ρ (preN ρ c L) L.2 k i = sitsN ρ (resN c) L.2 k i) ∧ (∀ i, 48 ≤ i → sitsN ρ (preN ρ c L) L.2 k i = preN ρ c L i) ∧ Ok ρ (sitsN ρ (preN ρ c L) L.2 k) ∧ logN ρ (preN ρ c L) L.2 k = logN ρ (resN c) L.2 k
  | 0, _ => ⟨fun i hi => pre_lo hi, fun _ _ => rfl, (ok_res hR.1 c).congr (fun p hp => (pre_lo (by have := hR.1; omega)).symm), rfl⟩
  | k + 1, hk => by
    have hn := hR.1
    obtain ⟨h1, h2, h3, h4⟩ := sits_pre hR (c := c) hL k (by omega)
    obtain ⟨k1, k2, -⟩ := sits_ok hR (c := c) hL k (by omega)
    have hlk := hL.2.1 k (by omega)
    have hs : sitsN ρ (preN ρ c L) L.2 k (L.2 k) = -1 := by
      rw [h1 _ (by omega)]
      exact (k2 _ hlk).mpr (fun j hj z => by have := hL.2.2 j k (by omega) (by omega) z; omega)
    obtain ⟨r1, -, -, r4, -⟩ := sit_ok0 hR h3 hlk hs
    obtain ⟨c1, c2⟩ := sit_congr (ρ := ρ) hn 12 (sitsN ρ (preN ρ c L) L.2 k) (sitsN ρ (resN c) L.2 k) (L.2 k) 0 h1 (by omega)
    refine ⟨c2, fun i hi => (r4 i (Or.inr hi)).trans (h2 i hi), r1, ?_⟩
    show logN ρ (preN ρ c L) L.2 k ++ _ = logN ρ (resN c) L.2 k ++ _
    rw [h4, c1]
theorem serv_pre {ρ : Ru} (hR : Ru0 ρ) {c : Cc} {L : Nat × (Nat → Nat)} (hL : LineD ρ L) : servN ρ c L = upd (sitsN ρ (preN ρ c L) L.2 L.1) 72 (c 72 + 1) := by
  have hn := hR.1
  obtain ⟨h1, h2, -, -⟩ := sits_pre hR (c := c) hL L.1 (Nat.le_refl _)
  obtain ⟨-, k2, k3, -, -⟩ := sits_ok hR (c := c) hL L.1 (Nat.le_refl _)
  funext i
  unfold servN
  by_cases hi : i < 48
  · rw [endN_spot hi, upd_ne (by omega), h1 i hi]
  · by_cases h72 : i = 72
    · subst h72
      rw [upd_at]
      unfold endN
      rw [if_neg (by omega), if_neg (by omega), if_pos rfl, k3 72 (by omega)]
    · rw [upd_ne h72, h2 i (by omega)]
      unfold endN preN
      by_cases ha : 48 ≤ i ∧ i < 48 + ρ.1
      · rw [if_pos ha, if_pos ha, k3 i (by omega)]
        have hq := k2 (i - 48) (by omega)
        by_cases hin : inL L (i - 48) = true
        · rw [if_pos hin, if_neg]
          intro z
          obtain ⟨j, j1, j2⟩ := inL_iff.mp hin
          exact hq.mp z j j1 j2
        · rw [if_neg hin, if_pos]
          exact hq.mpr (fun j hj z => hin (inL_iff.mpr ⟨j, hj, z⟩))
      · rw [if_neg ha, if_neg ha]
        by_cases hb : 60 ≤ i ∧ i < 60 + ρ.1
        · rw [if_pos hb, if_pos hb, k3 i (by omega)]
        · rw [if_neg hb, if_neg hb, if_neg h72, k3 i (by omega)]
          unfold resN
          rw [if_neg (by omega), if_neg (by omega)]
/-! ===== the reference: a service ===== -/
def poN (o p : Nat) (ρ : Ru) (c : Cc) (L : Nat × (Nat → Nat)) : Nat := pcN o p (logN ρ (resN c) L.2 L.1)
theorem pc_app (o p : Nat) : ∀ l m : List (Nat × Nat), pcN o p (l ++ m) = pcN o p l + pcN o p m
  | [], m => by
    show pcN o p m = 0 + pcN o p m
    omega
  | e :: l, m => by
    show (if e.1 = o ∧ e.2 = p then 1 else 0) + pcN o p (l ++ m) = (if e.1 = o ∧ e.2 = p then 1 else 0) + pcN o p l + pcN o p m
    rw [pc_app o p l m]; omega
def ServM (b : Nat) (ρ : Ru) (c : Cc) (L : Nat × (Nat → Nat)) (D D' : DD) : Prop :=
  RowM b ρ (servN ρ c L) (D' 78) ∧ (∀ o p, o < 12 → p < 12 → D' 80 (12 * o + p) = D 80 (12 * o + p) + nI (poN o p ρ c L)) ∧ D' 70 46 = D 70 46 ∧ D' 83 = D 83 ∧ D' 84 = D 84 ∧ FrM b D D'
section REFD
variable {X : XS} {d u b : Nat} {D : DD} {J : JJ} {ρ : Ru} {c : Cc}
theorem whoA_none {o : Option Nat} (h : ∀ p, o = some p → p < 2 ^ 31) : whoA o = -1 ↔ o.isSome = false := by
  cases o with
  | none => exact ⟨fun _ => rfl, fun _ => rfl⟩
  | some p => exact ⟨fun z => absurd z (nI_ne1 (h p rfl)), fun z => by cases z⟩
/-- the row while all are made to stand: k people are through -/
def preK (ρ : Ru) (c : Cc) (L : Nat × (Nat → Nat)) (k : Nat) : Cc := fun i => if i < 12 then (if i < k then -1 else c i) else if 24 ≤ i ∧ i < 24 + k then 0 else if 48 ≤ i ∧ i < 48 + k then (if inL L (i - 48) = true then 0 else c i + 1) else if 60 ≤ i ∧ i < 60 + k then (if 0 < c i then c i - 1 else c i) else c i
theorem s_comesAll {L : Nat × (Nat → Nat)} (hb : isB b) (hR : RuOk ρ) (hC : RulesM ρ D) (hr : RowM b ρ c (D 78)) (hL : LineD ρ L) (h46 : D 70 46 = nI L.1) (hl : ∀ i, i < L.1 → D 83 i = nI (L.2 i)) : Wp (EvM X (d + 5) 227 [.ref 70, .int (nI b)] (hS u D J)) (RV u J (ServM b ρ c L D)) := by
  have hbl := isB_le hb
  have hn := hR.1.1
  have hL12 := hL.1
  refine wp_eq (e227_0 _) ?_
  refine wp_loop (R := fun k (D1 : DD) => Ev X (d + 5) 227 (2, [.ref 70, .int (nI b), .int (nI k)], [], hS u D1 J)) (fun k (D1 : DD) => RowM b ρ (preK ρ c L k) (D1 78) ∧ (∀ q, q ≠ 78 → D1 q = D q) ∧ ∀ i, i < b ∨ b + 85 ≤ i → D1 78 i = D 78 i) ρ.1 ?_ ?_ 0 D (Nat.zero_le _) ?_
  · intro k D1 hk ⟨i1, i2, i3⟩ ih
    have hC1 : D1 70 1 = nI ρ.1 := by rw [i2 70 (by decide)]; exact hC.1
    obtain ⟨s1, s2, s3, s4, s5, s6, s7⟩ := i1.s hn hk
    refine wp_eq (e227_2 _ _) ?_
    rw [hC1]
    refine wp_f (nI_ge hk (by omega)) ?_
    rw [ix3, nI_clamp (by omega)]
    refine oG (by omega) (by decide) ?_
    refine wp_eq (e227_15 _ _) ?_
    rw [ix3, nI_clamp (by omega)]
    refine oG (by omega) (by decide) ?_
    refine wp_eq (e227_24 _ _) ?_
    rw [ix3, nI_clamp (by omega)]
    refine oG (by omega) (by decide) ?_
    refine wp_eq (e227_33 _ _) ?_
    generalize hE : ud (ud (ud D1 78 (b + 13 + k) (-1)) 78 (b + 25 + k) (-1)) 78 (b + 37 + k) 0 = E
    have Eq : ∀ q, q ≠ 78 → E q = D q := fun q hq => by rw [← hE, ud_q hq, ud_q hq, ud_q hq, i2 q hq]
    have E78 : E 78 = upd (upd (upd (D1 78) (b + 13 + k) (-1)) (b + 25 + k) (-1)) (b + 37 + k) 0 := by rw [← hE, ud_row, ud_row, ud_row]
    clear hE
    refine wp_iE (s_placeOf (L := L) (by omega) hL12 (fun i hi => by have := hL.2.1 i hi; omega) (by rw [Eq 70 (by decide)]; exact h46) (fun i hi => by rw [Eq 83 (by decide)]; exact hl i hi)) ?_
    have hw := whoA_none (o := findN (fun i => decide (L.2 i = k)) L.1 0) (fun p hp => by have := find_le hp; omega)
    have hin : (findN (fun i => decide (L.2 i = k)) L.1 0).isSome = inL L k := rfl
    refine wp_eq (e227_43 _ _ _ _) ?_
    rw [ix3, nI_clamp (by omega)]
    have e61 : E 78 (b + 61 + k) = c (48 + k) := by
      rw [E78, upd_ne (by omega), upd_ne (by omega), upd_ne (by omega), s6]
      unfold preK
      rw [if_neg (by omega), if_neg (by omega), if_neg (by omega), if_neg (by omega)]
    -- the second half
    have half : ∀ va : Int32, va = (if inL L k = true then 0 else c (48 + k) + 1) → Wp (Ev X (d + 5) 227 (58, [.ref 70, .int (nI b), .int (nI k)], [], hS u (ud E 78 (b + 61 + k) va) J)) (RV u J (ServM b ρ c L D)) := by
      intro va hva
      refine wp_eq (e227_58 _ _) ?_
      have e73 : ud E 78 (b + 61 + k) va 78 (b + 73 + k) = c (60 + k) := by
        rw [ud_k (by omega), E78, upd_ne (by omega), upd_ne (by omega), upd_ne (by omega), s7]
        unfold preK
        rw [if_neg (by omega), if_neg (by omega), if_neg (by omega), if_neg (by omega)]
      rw [ix3, nI_clamp (by omega), e73]
      refine oG (by omega) (by decide) (oG (by omega) (by decide) ?_)
      have fin : ∀ vb : Int32, vb = (if 0 < c (60 + k) then c (60 + k) - 1 else c (60 + k)) → Wp (Ev X (d + 5) 227 (81, [.ref 70, .int (nI b), .int (nI k)], [], hS u (ud (ud E 78 (b + 61 + k) va) 78 (b + 73 + k) vb) J)) (RV u J (ServM b ρ c L D)) := by
        intro vb hvb
        refine wp_eq (e227_81 _ _) ?_
        rw [nI_1]
        refine ih _ ⟨?_, fun q hq => by rw [ud_q hq, ud_q hq]; exact Eq q hq, fun i hi => ?_⟩
        · rw [ud_row, ud_row, E78]
          refine ⟨?_, fun p hp => ?_⟩
          · rw [upd_ne (by omega), upd_ne (by omega), upd_ne (by omega), upd_ne (by omega), upd_ne (by omega), i1.1]
            unfold preK
            rw [if_neg (by omega), if_neg (by omega), if_neg (by omega), if_neg (by omega), if_neg (by omega), if_neg (by omega), if_neg (by omega), if_neg (by omega)]
          · obtain ⟨t1, t2, t3, t4, t5, t6, t7⟩ := i1.s hn hp
            refine ⟨?_, ?_, fun _ => ?_, ?_, ?_, ?_, ?_⟩
            · rw [upd_ne (by omega), upd_ne (by omega), upd_ne (by omega), upd_ne (by omega), upd_ne (by omega), t1]
              unfold preK
              rw [if_neg (by omega), if_neg (by omega), if_neg (by omega), if_neg (by omega), if_neg (by omega), if_neg (by omega), if_neg (by omega), if_neg (by omega)]
            · rw [upd_ne (by omega), upd_ne (by omega), upd_ne (by omega), upd_ne (by omega)]
              by_cases hpk : p = k
              · subst hpk
                rw [upd_at]
                unfold preK
                rw [if_pos (by omega), if_pos (by omega)]; exact pewO_1.1.symm
              · rw [upd_ne (by omega), t2]
                unfold preK
                rw [if_pos (show p < 12 by omega), if_pos (show p < 12 by omega)]
                by_cases hlt : p < k
                · rw [if_pos hlt, if_pos (by omega)]
                · rw [if_neg hlt, if_neg (by omega)]
            · rw [upd_ne (by omega), upd_ne (by omega), upd_ne (by omega)]
              by_cases hpk : p = k
              · subst hpk
                rw [upd_at]
                unfold preK
                rw [if_pos (by omega), if_pos (by omega)]; exact pewO_1.2.symm
              · rw [upd_ne (by omega), upd_ne (by omega), t3]
                unfold preK
                rw [if_pos (show p < 12 by omega), if_pos (show p < 12 by omega)]
                by_cases hlt : p < k
                · rw [if_pos hlt, if_pos (by omega)]
                · rw [if_neg hlt, if_neg (by omega)]
            · rw [upd_ne (by omega), upd_ne (by omega)]
              by_cases hpk : p = k
              · subst hpk
                rw [upd_at]
                unfold preK
                rw [if_neg (by omega), if_pos (by omega)]
              · rw [upd_ne (by omega), upd_ne (by omega), upd_ne (by omega), t4]
                unfold preK
                rw [if_neg (show ¬ 24 + p < 12 by omega), if_neg (show ¬ 24 + p < 12 by omega)]
                by_cases hlt : p < k
                · rw [if_pos (show 24 ≤ 24 + p ∧ 24 + p < 24 + k by omega), if_pos (show 24 ≤ 24 + p ∧ 24 + p < 24 + (k + 1) by omega)]
                · rw [if_neg (show ¬ (24 ≤ 24 + p ∧ 24 + p < 24 + k) by omega), if_neg (show ¬ (24 ≤ 24 + p ∧ 24 + p < 24 + (k + 1)) by omega), if_neg (by omega), if_neg (by omega), if_neg (by omega), if_neg (by omega)]
            · rw [upd_ne (by omega), upd_ne (by omega), upd_ne (by omega), upd_ne (by omega), upd_ne (by omega), t5]
              unfold preK
              rw [if_neg (by omega), if_neg (by omega), if_neg (by omega), if_neg (by omega), if_neg (by omega), if_neg (by omega), if_neg (by omega), if_neg (by omega)]
            · rw [upd_ne (by omega)]
              by_cases hpk : p = k
              · subst hpk
                rw [upd_at, hva]
                unfold preK
                rw [if_neg (show ¬ 48 + p < 12 by omega), if_neg (show ¬ (24 ≤ 48 + p ∧ 48 + p < 24 + (p + 1)) by omega), if_pos (show 48 ≤ 48 + p ∧ 48 + p < 48 + (p + 1) by omega), Nat.add_sub_cancel_left]
              · rw [upd_ne (by omega), upd_ne (by omega), upd_ne (by omega), upd_ne (by omega), t6]
                unfold preK
                rw [if_neg (show ¬ 48 + p < 12 by omega), if_neg (show ¬ 48 + p < 12 by omega), if_neg (show ¬ (24 ≤ 48 + p ∧ 48 + p < 24 + k) by omega), if_neg (show ¬ (24 ≤ 48 + p ∧ 48 + p < 24 + (k + 1)) by omega)]
                by_cases hlt : p < k
                · rw [if_pos (show 48 ≤ 48 + p ∧ 48 + p < 48 + k by omega), if_pos (show 48 ≤ 48 + p ∧ 48 + p < 48 + (k + 1) by omega)]
                · rw [if_neg (show ¬ (48 ≤ 48 + p ∧ 48 + p < 48 + k) by omega), if_neg (show ¬ (48 ≤ 48 + p ∧ 48 + p < 48 + (k + 1)) by omega), if_neg (by omega), if_neg (by omega)]
            · by_cases hpk : p = k
              · subst hpk
                rw [upd_at, hvb]
                unfold preK
                rw [if_neg (show ¬ 60 + p < 12 by omega), if_neg (show ¬ (24 ≤ 60 + p ∧ 60 + p < 24 + (p + 1)) by omega), if_neg (show ¬ (48 ≤ 60 + p ∧ 60 + p < 48 + (p + 1)) by omega), if_pos (show 60 ≤ 60 + p ∧ 60 + p < 60 + (p + 1) by omega)]
              · rw [upd_ne (by omega), upd_ne (by omega), upd_ne (by omega), upd_ne (by omega), upd_ne (by omega), t7]
                unfold preK
                rw [if_neg (show ¬ 60 + p < 12 by omega), if_neg (show ¬ 60 + p < 12 by omega), if_neg (show ¬ (24 ≤ 60 + p ∧ 60 + p < 24 + k) by omega), if_neg (show ¬ (24 ≤ 60 + p ∧ 60 + p < 24 + (k + 1)) by omega), if_neg (show ¬ (48 ≤ 60 + p ∧ 60 + p < 48 + k) by omega), if_neg (show ¬ (48 ≤ 60 + p ∧ 60 + p < 48 + (k + 1)) by omega)]
                by_cases hlt : p < k
                · rw [if_pos (show 60 ≤ 60 + p ∧ 60 + p < 60 + k by omega), if_pos (show 60 ≤ 60 + p ∧ 60 + p < 60 + (k + 1) by omega)]
                · rw [if_neg (show ¬ (60 ≤ 60 + p ∧ 60 + p < 60 + k) by omega), if_neg (show ¬ (60 ≤ 60 + p ∧ 60 + p < 60 + (k + 1)) by omega)]
        · rw [ud_k (by omega), ud_k (by omega), E78, upd_ne (by omega), upd_ne (by omega), upd_ne (by omega)]; exact i3 i hi
      refine wp_if (fun h => ?_) (fun h => ?_)
      · refine oG (by omega) (by decide) ?_
        exact fin _ (by rw [if_neg (Int32.not_lt.mpr h), Int32.sub_zero])
      · refine oG (by omega) (by decide) ?_
        exact fin _ (by rw [if_pos (Int32.not_le.mp h)])
    refine wp_if (fun h => ?_) (fun h => ?_)
    · refine oG (by omega) (by decide) ?_
      refine half 0 ?_
      rw [if_pos]
      cases hq : inL L k with
      | true => rfl
      | false => exact absurd (hw.mpr (hin.trans hq)) h
    · refine oG (by omega) (by decide) (oG (by omega) (by decide) ?_)
      rw [e61]
      refine half _ ?_
      rw [if_neg]
      intro z
      have := hw.mp (Classical.not_not.mp h)
      rw [hin, z] at this
      cases this
  · intro D1 ⟨i1, i2, i3⟩
    have hC1 : D1 70 1 = nI ρ.1 := by rw [i2 70 (by decide)]; exact hC.1
    have hR1 : RulesM ρ D1 := hC.mv (fun k _ _ => by rw [i2 70 (by decide)]) (i2 71 (by decide))
    refine wp_eq (e227_2 _ _) ?_
    rw [hC1]
    refine wp_t (nI_le (Nat.le_refl _) (by omega)) ?_
    refine wp_eq (e227_83 _ _) ?_
    have hF1 : FrM b D D1 := ⟨fun q _ h _ => i2 q h, i3, fun k _ _ _ _ => by rw [i2 70 (by decide)]⟩
    -- all stand: that is preN
    have hr1 : RowM b ρ (preN ρ c L) (D1 78) := by
      have hpp : ∀ p, p < ρ.1 → preK ρ c L ρ.1 (12 + p) = preN ρ c L (12 + p) ∧ preK ρ c L ρ.1 p = preN ρ c L p ∧ preK ρ c L ρ.1 (24 + p) = preN ρ c L (24 + p) ∧ preK ρ c L ρ.1 (36 + p) = preN ρ c L (36 + p) ∧ preK ρ c L ρ.1 (48 + p) = preN ρ c L (48 + p) ∧ preK ρ c L ρ.1 (60 + p) = preN ρ c L (60 + p) := by
        intro p hp
        refine ⟨?_, ?_, ?_, ?_, ?_, ?_⟩
        · rw [pre_lo (by omega)]
          unfold preK resN
          rw [if_neg (by omega), if_neg (by omega), if_neg (by omega), if_neg (by omega), if_neg (by omega), if_neg (by omega)]
        · rw [pre_lo (by omega)]
          unfold preK resN
          rw [if_pos (show p < 12 by omega), if_pos hp, if_pos (show p < 12 by omega)]
        · rw [pre_lo (by omega)]
          unfold preK resN
          rw [if_neg (show ¬ 24 + p < 12 by omega), if_pos (show 24 ≤ 24 + p ∧ 24 + p < 24 + ρ.1 by omega), if_neg (show ¬ 24 + p < 12 by omega), if_pos (show 24 ≤ 24 + p ∧ 24 + p < 36 by omega)]
        · rw [pre_lo (by omega)]
          unfold preK resN
          rw [if_neg (by omega), if_neg (by omega), if_neg (by omega), if_neg (by omega), if_neg (by omega), if_neg (by omega)]
        · unfold preK preN
          rw [if_neg (show ¬ 48 + p < 12 by omega), if_neg (show ¬ (24 ≤ 48 + p ∧ 48 + p < 24 + ρ.1) by omega), if_pos (show 48 ≤ 48 + p ∧ 48 + p < 48 + ρ.1 by omega), if_pos (show 48 ≤ 48 + p ∧ 48 + p < 48 + ρ.1 by omega)]
        · unfold preK preN
          rw [if_neg (show ¬ 60 + p < 12 by omega), if_neg (show ¬ (24 ≤ 60 + p ∧ 60 + p < 24 + ρ.1) by omega), if_neg (show ¬ (48 ≤ 60 + p ∧ 60 + p < 48 + ρ.1) by omega), if_pos (show 60 ≤ 60 + p ∧ 60 + p < 60 + ρ.1 by omega), if_neg (show ¬ (48 ≤ 60 + p ∧ 60 + p < 48 + ρ.1) by omega), if_pos (show 60 ≤ 60 + p ∧ 60 + p < 60 + ρ.1 by omega)]
      refine ⟨?_, fun p hp => ?_⟩
      · rw [i1.1]
        unfold preK preN resN
        rw [if_neg (by omega), if_neg (by omega), if_neg (by omega), if_neg (by omega), if_neg (by omega), if_neg (by omega), if_neg (by omega), if_neg (by omega)]
      · obtain ⟨t1, t2, t3, t4, t5, t6, t7⟩ := i1.s hn hp
        obtain ⟨q1, q2, q3, q4, q5, q6⟩ := hpp p hp
        rw [q1] at t1
        rw [q2] at t2 t3
        rw [q3] at t4
        rw [q4] at t5
        rw [q5] at t6
        rw [q6] at t7
        exact ⟨t1, t2, fun _ => t3, t4, t5, t6, t7⟩
    refine wp_loop (R := fun k (D2 : DD) => Ev X (d + 5) 227 (85, [.ref 70, .int (nI b), .int (nI k)], [], hS u D2 J)) (fun k (D2 : DD) => RowM b ρ (sitsN ρ (preN ρ c L) L.2 k) (D2 78) ∧ (∀ o p, o < 12 → p < 12 → D2 80 (12 * o + p) = D 80 (12 * o + p) + nI (pcN o p (logN ρ (resN c) L.2 k))) ∧ D2 70 46 = D 70 46 ∧ D2 83 = D 83 ∧ D2 84 = D 84 ∧ FrM b D D2) L.1 ?_ ?_ 0 D1 (Nat.zero_le _) ?_
    · intro k D2 hk ⟨g1, g2, g3, g4, g5, g6⟩ ih
      obtain ⟨s1, s2, s3, s4⟩ := sits_pre hR.1 (c := c) hL k (by omega)
      obtain ⟨k1, k2, -⟩ := sits_ok hR.1 (c := c) hL k (by omega)
      have hlk := hL.2.1 k hk
      have hs : sitsN ρ (preN ρ c L) L.2 k (L.2 k) = -1 := by
        rw [s1 _ (by omega)]
        exact (k2 _ hlk).mpr (fun j hj z => by have := hL.2.2 j k (by omega) hk z; omega)
      refine wp_eq (e227_85 _ _) ?_
      rw [g3, h46]
      refine wp_f (nI_ge hk (by omega)) ?_
      refine oG (by omega) (by decide) ?_
      rw [nI_clamp (by omega), g4, hl k hk]
      refine wp_cV (s_sits (d := d) hb hR (hC.fr g6) (g1.to hn _) s3 hlk hs) (fun D3 h3 => ?_)
      obtain ⟨a1, -, -, -, a5, a6, a7, a8, a9⟩ := h3
      refine wp_eq (e227_96 _ _) ?_
      rw [nI_1]
      refine ih D3 ⟨a1, fun o p ho hp => ?_, ?_, ?_, ?_, ?_⟩
      · rw [a5 o p ho hp, ud_q (by decide), ud_q (by decide), g2 o p ho hp, Int32.add_assoc, nI_add]
        show _ = _ + nI (pcN o p (logN ρ (resN c) L.2 k ++ _))
        rw [pc_app]
        obtain ⟨c1, -⟩ := sit_congr (ρ := ρ) hn 12 (sitsN ρ (preN ρ c L) L.2 k) (sitsN ρ (resN c) L.2 k) (L.2 k) 0 s1 (by omega)
        rw [c1]
      · rw [a6, ud_k (by decide), ud_k (by decide)]; exact g3
      · rw [a7, ud_q (by decide), ud_q (by decide)]; exact g4
      · rw [a8, ud_q (by decide), ud_q (by decide)]; exact g5
      · exact g6.tr (((FrM.ud7 (by omega)).tr (FrM.ud7 (by omega))).tr a9)
    · intro D2 ⟨g1, g2, g3, g4, g5, g6⟩
      refine wp_eq (e227_85 _ _) ?_
      rw [g3, h46]
      refine wp_t (nI_le (Nat.le_refl _) (by omega)) ?_
      refine wp_eq (e227_98 _ _) ?_
      rw [lk, nI_clamp (by omega), Nat.add_zero]
      refine oG (by omega) (by decide) (oG (by omega) (by decide) ?_)
      obtain ⟨s1, s2, s3, s4⟩ := sits_pre hR.1 (c := c) hL L.1 (Nat.le_refl _)
      have e72 : D2 78 b = c 72 := by
        rw [g1.1, s2 72 (by omega)]
        unfold preN resN
        rw [if_neg (by omega), if_neg (by omega), if_neg (by omega), if_neg (by omega)]
      refine wp_eq (e227_108 _ _) (wp_rV ⟨?_, fun o p ho hp => ?_, ?_, ?_, ?_, ?_⟩)
      · rw [ud_row, e72, serv_pre hR.1 hL]
        refine ⟨by rw [upd_at, upd_at], fun p hp => ?_⟩
        obtain ⟨t1, t2, t3, t4, t5, t6, t7⟩ := g1.s hn hp
        exact ⟨by rw [upd_ne (by omega), upd_ne (by omega)]; exact t1, by rw [upd_ne (by omega), upd_ne (by omega)]; exact t2, fun _ => by rw [upd_ne (by omega), upd_ne (by omega)]; exact t3, by rw [upd_ne (by omega), upd_ne (by omega)]; exact t4, by rw [upd_ne (by omega), upd_ne (by omega)]; exact t5, by rw [upd_ne (by omega), upd_ne (by omega)]; exact t6, by rw [upd_ne (by omega), upd_ne (by omega)]; exact t7⟩
      · rw [ud_q (by decide)]; exact g2 o p ho hp
      · rw [ud_q (by decide)]; exact g3
      · rw [ud_q (by decide)]; exact g4
      · rw [ud_q (by decide)]; exact g5
      · exact g6.tr (FrM.ud8 (by omega) (by omega))
    · refine ⟨hr1, fun o p _ _ => ?_, by rw [i2 70 (by decide)], i2 83 (by decide), i2 84 (by decide), hF1⟩
      rw [i2 80 (by decide)]
      show _ = _ + nI 0
      rw [nI_0, Int32.add_zero]
  · refine ⟨?_, fun _ _ => rfl, fun _ _ => rfl⟩
    have e0 : ∀ i, preK ρ c L 0 i = c i := fun i => by
      unfold preK
      by_cases h : i < 12
      · rw [if_pos h, if_neg (by omega)]
      · rw [if_neg h, if_neg (by omega), if_neg (by omega), if_neg (by omega)]
    have : preK ρ c L 0 = c := funext e0
    rw [this]; exact hr
def SunM (b : Nat) (ρ : Ru) (c : Cc) (rain : Bool) (D D' : DD) : Prop :=
  RowM b ρ (sunN ρ rain c) (D' 78) ∧ (∀ o p, o < 12 → p < 12 → D' 80 (12 * o + p) = D 80 (12 * o + p) + nI (poN o p ρ c (lineN ρ c rain ρ.1))) ∧ D' 70 46 = nI (lineN ρ c rain ρ.1).1 ∧ (∀ i, i < (lineN ρ c rain ρ.1).1 → D' 83 i = nI ((lineN ρ c rain ρ.1).2 i)) ∧ FrM b D D'
theorem s_sunday {rain : Bool} (hb : isB b) (hR : RuOk ρ) (hC : RulesM ρ D) (hr : RowM b ρ c (D 78)) (hv : ∀ p, p < ρ.1 → c p = -1 ∨ ∃ s, s < 144 ∧ c p = nI s) (hz : Bz ρ c) (hra : D 70 43 = bI32 rain) : Wp (EvM X (d + 6) 228 [.ref 70, .int (nI b)] (hS u D J)) (RV u J (SunM b ρ c rain D)) := by
  refine wp_eq (e228_0 _) ?_
  refine wp_cV (s_asks (d := d + 2) (rain := rain) hb hR hC hr hv hz hra) (fun D1 hI => ?_)
  refine wp_eq (e228_3 _) ?_
  refine wp_cV (s_comesAll (d := d) (c := c) hb hR (hC.fr (b := b) hI.fr) (by rw [hI.2.2.2.2 78 (by decide) (by omega)]; exact hr) (line_D hR.1.1 c rain) hI.1 hI.2.2.1) (fun D2 h2 => ?_)
  obtain ⟨a1, a2, a3, a4, a5, a6⟩ := h2
  refine wp_eq (e228_6 _) (wp_rV ⟨a1, fun o p ho hp => ?_, a3.trans hI.1, fun i hi => by rw [a4]; exact hI.2.2.1 i hi, (hI.fr (b := b)).tr a6⟩)
  rw [a2 o p ho hp, hI.2.2.2.2 80 (by decide) (by omega)]
end REFD
