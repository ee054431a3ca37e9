/-! ===== answers of a call: the class's, the reference's ===== -/
def CR (σ' : Sg) (D : DD) (u : Nat) (J : JJ) (res : Int32 ⊕ Nat) : Rs → Prop := fun y => ∃ D' : DD, (y = match res with | .inl r => (.inl (some (.int r)), hS u D' J) | .inr e => (.inr e, hS (u + 1) D' J)) ∧ CI σ' D' ∧ ∀ q, 70 ≤ q → D' q = D q
def MR (σ' : Sg) (D : DD) (u : Nat) (J : JJ) (r th : Int32) : Rs → Prop := fun y => ∃ (D' : DD) (J' : JJ), y = (.inl (some (.int r)), hS u D' J') ∧ J' 95 = J 95 ∧ MI σ' D' ∧ D' 70 0 = th ∧ ∀ q, q < 70 → D' q = D q
theorem wp_cr {σ' : Sg} {D D' : DD} {u : Nat} {J : JJ} {r : Int32} (h : CI σ' D') (hf : ∀ q, 70 ≤ q → D' q = D q) : Wp (some (.inl (some (.int r)), hS u D' J)) (CR σ' D u J (.inl r)) := ⟨_, rfl, D', rfl, h, hf⟩
theorem wp_ct {σ' : Sg} {D D' : DD} {u e : Nat} {J : JJ} (h : CI σ' D') (hf : ∀ q, 70 ≤ q → D' q = D q) : Wp (some (.inr e, hS (u + 1) D' J)) (CR σ' D u J (.inr e)) := ⟨_, rfl, D', rfl, h, hf⟩
theorem wp_mr {σ' : Sg} {D D' : DD} {u : Nat} {J : JJ} {r th : Int32} (h : MI σ' D') (ht : D' 70 0 = th) (hf : ∀ q, q < 70 → D' q = D q) : Wp (some (.inl (some (.int r)), hS u D' J)) (MR σ' D u J r th) := ⟨_, rfl, D', J, rfl, rfl, h, ht, hf⟩
theorem wp_vT {r : Option Rs} {e : Nat} {h : Hp} {k : Hp → Option Rs} {t : Nat → Hp → Option Rs} {Q : Rs → Prop} (q : r = some (.inr e, h)) (ht : Wp (t e h) Q) : Wp (bV r k t) Q := by rw [q]; exact ht
theorem wp_iT {r : Option Rs} {e : Nat} {h : Hp} {k : Int32 → Hp → Option Rs} {t : Nat → Hp → Option Rs} {Q : Rs → Prop} (q : r = some (.inr e, h)) (ht : Wp (t e h) Q) : Wp (bI r k t) Q := by rw [q]; exact ht
/-- x is a person's number -/
def isPe (n : Nat) (x : Int32) : Prop := ∃ p, p < n ∧ x = nI p
theorem isPe_iff {n : Nat} (hn : n < 2 ^ 31) (x : Int32) : isPe n x ↔ ¬ x < 0 ∧ x < nI n := by
  constructor
  · rintro ⟨p, h1, rfl⟩
    exact ⟨nI_pos (by omega), nI_lt h1 hn⟩
  · intro ⟨h1, h2⟩
    obtain ⟨j, j1, rfl⟩ := nI_of h1
    exact ⟨j, (nI_ltI j1 hn).mp h2, rfl⟩
section ACTS
variable {X : XS} {d u : Nat} {D : DD} {J : JJ} {ρ : Ru} {c : Cc} {σ : Sg}
theorem c_pers {n : Nat} {x : Int32} (hn : n < 2 ^ 31) (h3 : D 3 0 = nI n) : (isPe n x ∧ EvM X d 164 [.ref 0, .int x] (hS u D J) = some (.inl none, hS u D J)) ∨ (¬ isPe n x ∧ EvM X d 164 [.ref 0, .int x] (hS u D J) = some (.inr 1, hS (u + 1) D J)) := by
  have e : EvM X d 164 [.ref 0, .int x] (hS u D J) = _ := e164_0 x
  rw [h3] at e
  by_cases h : isPe n x
  · obtain ⟨h1, h2⟩ := (isPe_iff hn x).mp h
    exact Or.inl ⟨h, by rw [e, brF h1, brT h2]⟩
  · refine Or.inr ⟨h, ?_⟩
    rw [e]
    by_cases h1 : x < 0
    · rw [brT h1]
    · rw [brF h1, brF (fun z => h ((isPe_iff hn x).mpr ⟨h1, z⟩))]
theorem m_right {x v : Int32} (h0 : D 70 0 = 0) (hv : v ≠ 0) : (x ≠ 0 → EvM X d 172 [.ref 70, .int x, .int v] (hS u D J) = some (.inl (some (.int 1)), hS u D J)) ∧ (x = 0 → EvM X d 172 [.ref 70, .int x, .int v] (hS u D J) = some (.inl (some (.int 0)), hS u (ud D 70 0 v) J)) := by
  have e : EvM X d 172 [.ref 70, .int x, .int v] (hS u D J) = _ := e172_0 x v
  have n0 : ¬ ¬ D 70 0 = 0 := fun z => z h0
  rw [brF n0] at e
  constructor
  · intro h
    have h : ¬ x = 0 := h
    rw [e, brT h, brF n0]
  · intro h
    have h : ¬ ¬ x = 0 := fun z => z h
    have hv : ¬ ud D 70 0 v 70 0 = 0 := by rw [ud_at]; exact hv
    rw [e, brF h, brT hv]
theorem m_pers {n : Nat} {x : Int32} (hn : n < 2 ^ 31) (h1 : D 70 1 = nI n) (h0 : D 70 0 = 0) : (isPe n x → EvM X (d + 1) 234 [.ref 70, .int x] (hS u D J) = some (.inl (some (.int 1)), hS u D J)) ∧ (¬ isPe n x → EvM X (d + 1) 234 [.ref 70, .int x] (hS u D J) = some (.inl (some (.int 0)), hS u (ud D 70 0 1) J)) := by
  obtain ⟨r1, -⟩ := m_right (X := X) (d := d) (u := u) (J := J) (x := 1) (v := 1) h0 (by decide)
  obtain ⟨-, r2⟩ := m_right (X := X) (d := d) (u := u) (J := J) (x := 0) (v := 1) h0 (by decide)
  have e : EvM X (d + 1) 234 [.ref 70, .int x] (hS u D J) = _ := e234_0 x
  have a1 : ∀ E : DD, gd ((decide ((1 : Int32) = 0) || decide ((1 : Int32) = 1))) (some (.inl (some (.int 1)), hS u E J)) = some (.inl (some (.int 1)), hS u E J) := fun E => gd_t (by decide)
  have a0 : ∀ E : DD, gd ((decide ((0 : Int32) = 0) || decide ((0 : Int32) = 1))) (some (.inl (some (.int 0)), hS u E J)) = some (.inl (some (.int 0)), hS u E J) := fun E => gd_t (by decide)
  rw [h1] at e
  constructor
  · intro h
    obtain ⟨g1, g2⟩ := (isPe_iff hn x).mp h
    rw [e, brF g1, brF (Int32.not_le.mpr g2), r1 (by decide)]
    show Ev X (d + 1) 234 (12, [.ref 70, .int x], [.int 1], hS u D J) = _
    rw [e234_12, a1]
  · intro h
    rw [e]
    have fin : bI (EvM X d 172 [.ref 70, .int 0, .int 1] (hS u D J)) (fun y h => Ev X (d + 1) 234 (12, [.ref 70, .int x], [.int y], h)) (fun e h => some (.inr e, h)) = some (.inl (some (.int 0)), hS u (ud D 70 0 1) J) := by
      rw [r2 rfl]
      show Ev X (d + 1) 234 (12, [.ref 70, .int x], [.int 0], hS u (ud D 70 0 1) J) = _
      rw [e234_12, a0]
    by_cases g1 : x < 0
    · rw [brT g1]; exact fin
    · rw [brF g1, brT (Int32.not_lt.mp (fun z => h ((isPe_iff hn x).mpr ⟨g1, z⟩)))]; exact fin
/-- within(v, low, high) -/
theorem m_within {x a b : Int32} : EvM X d 173 [.int x, .int a, .int b] (hS u D J) = some (.inl (some (.int (if ¬ x < a ∧ ¬ b < x then 1 else 0))), hS u D J) := by
  refine (e173_0 x a b).trans ?_
  by_cases h1 : x < a
  · rw [brT h1, if_neg (fun z => z.1 h1)]
  · rw [brF h1]
    by_cases h2 : b < x
    · rw [brT h2, if_neg (fun z => z.2 h2)]
    · rw [brF h2, if_pos ⟨h1, h2⟩]
theorem MI.th {v : Int32} (h : MI σ D) (hn : σ.2.1.1 ≤ 12) : MI σ (ud D 70 0 v) := h.mv (fun k k1 _ _ => ud_k (by omega)) (fun i _ => by rw [ud_q (by decide)]) (fun q hq => ud_q (by omega)) hn
/-! acts are kept -/
def pushN (l : List Cc) (c : Cc) : List Cc := if l.length = 40 then l.tail ++ [c] else l ++ [c]
theorem push_len {l : List Cc} {c : Cc} (h : l.length ≤ 40) : (pushN l c).length ≤ 40 ∧ 1 ≤ (pushN l c).length := by
  unfold pushN
  split
  · simp; omega
  · simp; omega
theorem push_good {l : List Cc} (hl : ∀ a ∈ l, Good ρ a) (hc : Good ρ c) : ∀ a ∈ pushN l c, Good ρ a := by
  intro a ha
  unfold pushN at ha
  split at ha
  · rcases List.mem_append.mp ha with h | h
    · exact hl a (List.mem_of_mem_tail h)
    · rw [List.mem_singleton.mp h]; exact hc
  · rcases List.mem_append.mp ha with h | h
    · exact hl a h
    · rw [List.mem_singleton.mp h]; exact hc
theorem n80 : ∀ n, n < 100 → nI n - nI n / 40 * 40 = nI (n % 40) := by decide +kernel
theorem getD_lt {l : List Cc} {c : Cc} {j : Nat} (h : j < l.length) : (l ++ [c]).getD j c00 = l.getD j c00 := by
  simp only [List.getD, List.getElem?_append_left h]
theorem getD_len {l : List Cc} {c : Cc} : (l ++ [c]).getD l.length c00 = c := by
  simp [List.getD]
theorem tail_getD {l : List Cc} {j : Nat} : l.tail.getD j c00 = l.getD (j + 1) c00 := by
  cases l <;> simp [List.getD]
theorem ucp_in {s sp q dp n i : Nat} (h : i < n) : ucp D s sp q dp n q (dp + i) = D s (sp + i) := by
  show (if q = q ∧ dp ≤ dp + i ∧ dp + i < dp + n then D s (sp + (dp + i - dp)) else _) = _
  rw [if_pos ⟨rfl, by omega, by omega⟩, Nat.add_sub_cancel_left]
theorem ucp_out {s sp q dp n i : Nat} (h : i < dp ∨ dp + n ≤ i) : ucp D s sp q dp n q i = D q i := by
  show (if q = q ∧ dp ≤ i ∧ i < dp + n then _ else D q i) = _
  rw [if_neg (by omega)]
/-- keep: the class -/
theorem c_keep {l : List Cc} (h : ActsC 46 l D) (hl : l.length ≤ 40) (hc : D 26 = c) : Wp (EvM X d 1 [.ref 46, .ref 26] (hS u D J)) (RV u J (fun D' => ActsC 46 (pushN l c) D' ∧ ∀ q, q ≠ 46 → q ≠ 47 → D' q = D q)) := by
  obtain ⟨h0, o, o1, o2, h3⟩ := h
  refine wp_eq (e1_0 (A := 46) (Or.inl rfl)) ?_
  have hs : 73 * ((o + l.length) % 40) + 73 ≤ 2920 := by
    have := Nat.mod_lt (o + l.length) (show 40 > 0 by decide)
    omega
  have ei : (D 46 1 + D 46 0 - (D 46 1 + D 46 0) / 40 * 40) * 73 = nI (73 * ((o + l.length) % 40)) := by
    rw [o2, h0, nI_add, n80 _ (by omega), lm]
  rw [ei, nI_clamp (by omega)]
  refine wp_gd ?_ ?_
  · simp only [Bool.and_eq_true]
    exact ⟨⟨⟨⟨by decide, decide_eq_true (nI_pos (by omega))⟩, by decide⟩, by decide⟩, Nat.ble_eq_true_of_le hs⟩
  · have q46 : ucp D 26 0 (46 + 1) (73 * ((o + l.length) % 40)) 73 46 = D 46 := ucp_q (by decide)
    rw [q46, h0, o2]
    have cp : ∀ j, j < 40 → ∀ i, i < 73 → ucp D 26 0 (46 + 1) (73 * ((o + l.length) % 40)) 73 (46 + 1) (73 * j + i) = if j = (o + l.length) % 40 then c i else D 47 (73 * j + i) := by
      intro j hj i hi
      by_cases hjj : j = (o + l.length) % 40
      · rw [if_pos hjj, hjj, ucp_in hi, Nat.zero_add, hc]
      · rw [if_neg hjj]
        exact ucp_out (by
          rcases Nat.lt_or_gt_of_ne hjj with z | z
          · left; omega
          · right; omega)
    refine wp_if (fun h40 => ?_) (fun h40 => ?_)
    · have hll : l.length = 40 := by
        have : 40 ≤ l.length := (nI_leI (a := 40) (by decide) (by omega)).mp h40
        omega
      have ep : pushN l c = l.tail ++ [c] := by unfold pushN; rw [if_pos hll]
      have ht : l.tail.length = 39 := by simp [hll]
      have e1 : nI o + 1 - (nI o + 1) / 40 * 40 = nI ((o + 1) % 40) := by rw [nI_1, n80 _ (by omega)]
      rw [e1, ep]
      refine wp_rV ⟨⟨?_, (o + 1) % 40, Nat.mod_lt _ (by decide), by rw [ud_at], fun j hj i hi => ?_⟩, fun q q1 q2 => by rw [ud_q q1, ucp_q q2]⟩
      · rw [ud_k (by decide), q46, h0, hll]; simp [ht]
      · have hj : j < 40 := by simp [ht] at hj; exact hj
        rw [ud_q (by decide), cp _ (Nat.mod_lt _ (by decide)) i hi, hll]
        by_cases hj9 : j = 39
        · subst hj9
          rw [if_pos (by omega)]
          have : (l.tail ++ [c]).getD 39 c00 = c := by rw [← ht]; exact getD_len
          rw [this]
        · rw [if_neg (by omega), getD_lt (by omega), tail_getD, ← h3 (j + 1) (by omega) i hi]
          rw [show ((o + 1) % 40 + j) % 40 = (o + (j + 1)) % 40 by omega]
    · have hll : l.length < 40 := Nat.not_le.mp (fun z => h40 (nI_le z (by omega)))
      have ep : pushN l c = l ++ [c] := by unfold pushN; rw [if_neg (by omega)]
      rw [ep, nI_1]
      refine wp_rV ⟨⟨by rw [ud_at]; simp, o, o1, by rw [ud_k (by decide), q46]; exact o2, fun j hj i hi => ?_⟩, fun q q1 q2 => by rw [ud_q q1, ucp_q q2]⟩
      have hj : j < l.length + 1 := by simpa using hj
      rw [ud_q (by decide), cp _ (Nat.mod_lt _ (by decide)) i hi]
      by_cases hjl : j = l.length
      · subst hjl
        rw [if_pos rfl, getD_len]
      · rw [if_neg (by omega), getD_lt (by omega)]; exact h3 j (by omega) i hi
theorem RowM.copy {b b' : Nat} {r r' : Nat → Int32} (h : RowM b ρ c r) (hn : ρ.1 ≤ 12) (hc : ∀ i, i < 85 → r' (b' + i) = r (b + i)) : RowM b' ρ c r' := by
  have e : ∀ k p, k + p < 85 → r' (b' + k + p) = r (b + k + p) := fun k p hk => by rw [Nat.add_assoc, Nat.add_assoc]; exact hc _ hk
  refine ⟨?_, fun p hp => ?_⟩
  · have := hc 0 (by omega)
    rw [Nat.add_zero, Nat.add_zero] at this
    rw [this]; exact h.1
  · obtain ⟨t1, t2, t3, t4, t5, t6, t7⟩ := h.2 p hp
    exact ⟨by rw [e 1 p (by omega)]; exact t1, by rw [e 13 p (by omega)]; exact t2, fun z => by rw [e 25 p (by omega)]; exact t3 z, by rw [e 37 p (by omega)]; exact t4, by rw [e 49 p (by omega)]; exact t5, by rw [e 61 p (by omega)]; exact t6, by rw [e 73 p (by omega)]; exact t7⟩
/-- keeps: the reference -/
theorem m_keeps {l : List Cc} (hn : ρ.1 ≤ 12) (h36 : D 70 36 = nI l.length) (hl : l.length ≤ 40) (hk : KeptM ρ l (D 79)) (hr : RowM 0 ρ c (D 78)) : Wp (EvM X d 208 [.ref 70] (hS u D J)) (RV u J (fun D' => D' 70 36 = nI (pushN l c).length ∧ KeptM ρ (pushN l c) (D' 79) ∧ (∀ k, k ≠ 36 → D' 70 k = D 70 k) ∧ ∀ q, q ≠ 70 → q ≠ 79 → D' q = D q)) := by
  -- the copy of the row that is now, behind l0
  have put : ∀ (l0 : List Cc) (D1 : DD), l0.length < 40 → D1 70 36 = nI l0.length → KeptM ρ l0 (D1 79) → (∀ k, k ≠ 36 → D1 70 k = D 70 k) → (∀ q, q ≠ 70 → q ≠ 79 → D1 q = D q) → Wp (Ev X d 208 (29, [.ref 70, .int 0], [], hS u D1 J)) (RV u J (fun D' => D' 70 36 = nI (l0 ++ [c]).length ∧ KeptM ρ (l0 ++ [c]) (D' 79) ∧ (∀ k, k ≠ 36 → D' 70 k = D 70 k) ∧ ∀ q, q ≠ 70 → q ≠ 79 → D' q = D q)) := by
    intro l0 D1 hl0 g1 g2 g3 g4
    refine wp_loop (R := fun i (D2 : DD) => Ev X d 208 (29, [.ref 70, .int (nI i)], [], hS u D2 J)) (fun i (D2 : DD) => (∀ j, j < i → D2 79 (85 * l0.length + j) = D 78 j) ∧ (∀ j, j < 85 * l0.length → D2 79 j = D1 79 j) ∧ ∀ q, q ≠ 79 → D2 q = D1 q) 85 ?_ ?_ 0 D1 (by decide) ⟨fun j hj => absurd hj (Nat.not_lt_zero j), fun _ _ => rfl, fun _ _ => rfl⟩
    · intro i D2 hi ⟨i1, i2, i3⟩ ih
      refine wp_eq (e208_29 _) ?_
      refine wp_f (nI_ge (b := 85) hi (by decide)) ?_
      have ex : (85 : Int32) * D2 70 36 + nI i = nI (85 * l0.length + i) := by
        rw [i3 70 (by decide), g1, show (85 : Int32) = nI 85 from rfl, nI_mul, nI_add]
      rw [ex, nI_clamp (by omega), nI_clamp (by omega)]
      refine oG (by omega) (by decide) (oG (by omega) (by decide) ?_)
      rw [nI_1, i3 78 (by decide), g4 78 (by decide) (by decide)]
      refine ih _ ⟨fun j hj => ?_, fun j hj => ?_, fun q hq => by rw [ud_q hq]; exact i3 q hq⟩
      · by_cases hji : j = i
        · rw [hji, ud_at]
        · rw [ud_k (by omega)]; exact i1 j (by omega)
      · rw [ud_k (by omega)]; exact i2 j hj
    · intro D2 ⟨i1, i2, i3⟩
      refine wp_eq (e208_29 _) ?_
      refine wp_t (nI_le (a := 85) (Nat.le_refl _) (by decide)) ?_
      rw [i3 70 (by decide), g1, nI_1]
      refine wp_rV ⟨by rw [ud_at]; simp, fun j hj => ?_, fun k hk => by rw [ud_k hk, i3 70 (by decide)]; exact g3 k hk, fun q q1 q2 => by rw [ud_q q1, i3 q q2]; exact g4 q q1 q2⟩
      have hj : j < l0.length + 1 := by simpa using hj
      rw [ud_q (by decide)]
      by_cases hjl : j = l0.length
      · subst hjl
        rw [getD_len]
        exact hr.copy hn (fun i hi => by rw [i1 i hi, Nat.zero_add])
      · rw [getD_lt (by omega)]
        exact (g2 j (by omega)).copy hn (fun i hi => i2 _ (by omega))
  refine wp_eq e208_0 ?_
  rw [h36]
  refine wp_if (fun h => ?_) (fun h => ?_)
  · have hne : l.length ≠ 40 := fun z => h (by rw [z]; rfl)
    have ep : pushN l c = l ++ [c] := by unfold pushN; rw [if_neg hne]
    rw [ep]
    exact put l D (by omega) h36 hk (fun _ _ => rfl) (fun _ _ _ => rfl)
  · have h40 : l.length = 40 := nI_inj (by omega) (by decide) (Classical.not_not.mp h)
    have ep : pushN l c = l.tail ++ [c] := by unfold pushN; rw [if_pos h40]
    have ht : l.tail.length = 39 := by simp [h40]
    rw [ep]
    refine wp_loop (R := fun i (D2 : DD) => Ev X d 208 (6, [.ref 70, .int (nI i)], [], hS u D2 J)) (fun i (D2 : DD) => 85 ≤ i ∧ (∀ j, j + 85 < i → D2 79 j = D 79 (j + 85)) ∧ (∀ j, i ≤ j + 85 → D2 79 j = D 79 j) ∧ ∀ q, q ≠ 79 → D2 q = D q) 3400 ?_ ?_ 85 D (by decide) ⟨Nat.le_refl _, fun j hj => by omega, fun _ _ => rfl, fun _ _ => rfl⟩
    · intro i D2 hi ⟨i0, i1, i2, i3⟩ ih
      refine wp_eq (e208_6 _) ?_
      refine wp_f (nI_ge (b := 3400) hi (by decide)) ?_
      have e5 : nI i - 85 = nI (i - 85) := nI_sub (b := 85) (by omega)
      rw [e5, nI_clamp (by omega), nI_clamp (by omega)]
      refine oG (by omega) (by decide) (oG (by omega) (by decide) ?_)
      rw [nI_1, i2 i (by omega)]
      refine ih _ ⟨by omega, fun j hj => ?_, fun j hj => ?_, fun q hq => by rw [ud_q hq]; exact i3 q hq⟩
      · by_cases hji : j = i - 85
        · rw [hji, ud_at]; congr 1; omega
        · rw [ud_k hji]; exact i1 j (by omega)
      · rw [ud_k (by omega)]; exact i2 j (by omega)
    · intro D2 ⟨_, i1, i2, i3⟩
      refine wp_eq (e208_6 _) ?_
      refine wp_t (nI_le (a := 3400) (Nat.le_refl _) (by decide)) ?_
      rw [i3 70 (by decide), h36, h40]
      refine put l.tail _ (by omega) ?_ (fun j hj => ?_) (fun k hk => by rw [ud_k hk, i3 70 (by decide)]) (fun q q1 q2 => by rw [ud_q q1]; exact i3 q q2)
      · rw [ud_at, ht]; decide
      · rw [ud_q (by decide), tail_getD]
        have := hk (j + 1) (by omega)
        exact this.copy hn (fun i hi => by rw [i1 _ (by omega)]; congr 1; omega)
end ACTS
