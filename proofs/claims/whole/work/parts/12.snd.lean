/-! ===== soundness: one instruction ===== -/
def cz (h : Hp) : Nat := h.1.length + h.2.1
def slz (h : Hp) : Nat := (h.1.map fun c => c.2.1).sum + 6 * h.2.1
def LR (G : GC) (ls : List Value) (nL : Nat) (lsM : Array Slot) : Prop := ls.length = nL ∧ lsM.size = nL ∧ lv_wf lsM ∧ ∀ (j : Nat) (v : Value), ls[j]? = some v → v ≠ .null → lsM[j]? = some (.val (rv G v))
def WSel (P : FS → Prop) : List (Bool × FS) → Prop
  | [] => False
  | (b, s) :: l => (b = true → P s) ∧ (b = false → WSel P l)
theorem pI_inv {P : FS → Prop} {st : List Value} {k : Int32 → List Value → Act} {l : List (Bool × FS)} (h : pI st k = .inl l) (hk : WSel P l) : ∃ x r, st = .int x :: r ∧ k x r = .inl l := by
  unfold pI at h
  split at h
  · exact ⟨_, _, rfl, h⟩
  · cases h; exact hk.elim
theorem pR_inv {P : FS → Prop} {st : List Value} {k : Nat → List Value → Act} {l : List (Bool × FS)} (h : pR st k = .inl l) (hk : WSel P l) : ∃ x r, st = .ref x :: r ∧ k x r = .inl l := by
  unfold pR at h
  split at h
  · exact ⟨_, _, rfl, h⟩
  · cases h; exact hk.elim
theorem pJ_inv {P : FS → Prop} {st : List Value} {k : Int64 → List Value → Act} {l : List (Bool × FS)} (h : pJ st k = .inl l) (hk : WSel P l) : ∃ x r, st = .long x :: r ∧ k x r = .inl l := by
  unfold pJ at h
  split at h
  · exact ⟨_, _, rfl, h⟩
  · cases h; exact hk.elim
theorem gI_inv {P : FS → Prop} {ls : List Value} {j : Nat} {k : Int32 → Act} {l : List (Bool × FS)} (h : gI ls j k = .inl l) (hk : WSel P l) : ∃ x, ls[j]? = some (.int x) ∧ k x = .inl l := by
  unfold gI at h
  split at h
  · next x hx => exact ⟨_, hx, h⟩
  · cases h; exact hk.elim
theorem gR_inv {P : FS → Prop} {ls : List Value} {j : Nat} {k : Nat → Act} {l : List (Bool × FS)} (h : gR ls j k = .inl l) (hk : WSel P l) : ∃ x, ls[j]? = some (.ref x) ∧ k x = .inl l := by
  unfold gR at h
  split at h
  · next x hx => exact ⟨_, hx, h⟩
  · cases h; exact hk.elim
theorem gJ_inv {P : FS → Prop} {ls : List Value} {j : Nat} {k : Int64 → Act} {l : List (Bool × FS)} (h : gJ ls j k = .inl l) (hk : WSel P l) : ∃ x, ls[j]? = some (.long x) ∧ k x = .inl l := by
  unfold gJ at h
  split at h
  · next x hx => exact ⟨_, hx, h⟩
  · cases h; exact hk.elim
theorem cel_inv {P : FS → Prop} {hp : Hp} {q : Nat} {k : Nat → Nat → List (Option Nat) → Act} {l : List (Bool × FS)} (h : cel hp q k = .inl l) (hk : WSel P l) : ∃ kd n rf, hp.1[q]? = some (kd, n, rf) ∧ k kd n rf = .inl l := by
  unfold cel at h
  split at h
  · next kd n rf hx => exact ⟨_, _, _, hx, h⟩
  · cases h; exact hk.elim
theorem cond_inv {P : FS → Prop} {b : Bool} {a : Act} {l : List (Bool × FS)} (h : cond b a stk = .inl l) (hk : WSel P l) : b = true ∧ a = .inl l := by
  cases b with
  | true => exact ⟨rfl, h⟩
  | false => cases h; exact hk.elim
theorem go1_inv {P : FS → Prop} {s : FS} {l : List (Bool × FS)} (h : go1 s = .inl l) (hk : WSel P l) : P s := by
  cases h; exact hk.1 rfl
theorem g1_inv {P : FS → Prop} {b : Bool} {s : FS} {l : List (Bool × FS)} (h : (Sum.inl [(b, s)] : Act) = .inl l) (hk : WSel P l) : b = true ∧ P s := by
  cases h
  cases b with
  | true => exact ⟨rfl, hk.1 rfl⟩
  | false => exact (hk.2 rfl).elim
theorem g2_inv {P : FS → Prop} {b : Bool} {s s2 : FS} {l : List (Bool × FS)} (h : (Sum.inl [(b, s), (true, s2)] : Act) = .inl l) (hk : WSel P l) : (b = true → P s) ∧ (b = false → P s2) := by
  cases h
  exact ⟨hk.1, fun hb => (hk.2 hb).1 rfl⟩
theorem sto_inv {P : FS → Prop} {ls : List Value} {j : Nat} {v : Value} {k : List Value → Act} {l : List (Bool × FS)} (h : sto ls j v k = .inl l) (hk : WSel P l) : j < ls.length ∧ (j = 0 ∨ lng (ls.getD (j - 1) .null) = false) ∧ k (ls.set j v) = .inl l := by
  obtain ⟨h1, h2⟩ := cond_inv h hk
  simp only [Bool.and_eq_true, Bool.or_eq_true, Bool.not_eq_true'] at h1
  refine ⟨Nat.le_of_ble_eq_true h1.1, ?_, h2⟩
  rcases h1.2 with q | q
  · exact Or.inl (Nat.eq_of_beq_eq_true q)
  · exact Or.inr q
theorem stoJ_inv {P : FS → Prop} {ls : List Value} {j : Nat} {v : Value} {k : List Value → Act} {l : List (Bool × FS)} (h : stoJ ls j v k = .inl l) (hk : WSel P l) : j + 1 < ls.length ∧ (j = 0 ∨ lng (ls.getD (j - 1) .null) = false) ∧ k ((ls.set j v).set (j + 1) .null) = .inl l := by
  obtain ⟨h1, h2⟩ := cond_inv h hk
  simp only [Bool.and_eq_true, Bool.or_eq_true, Bool.not_eq_true'] at h1
  refine ⟨Nat.le_of_ble_eq_true h1.1, ?_, h2⟩
  rcases h1.2 with q | q
  · exact Or.inl (Nat.eq_of_beq_eq_true q)
  · exact Or.inr q
/-- the locals as the kit's lists -/
def lvl (G : GC) (ls : List Value) : List (Nat × Value) := (List.range ls.length).filterMap fun (j : Nat) => match (ls[j]? : Option Value) with | some Value.null => none | some v => some (j, rv G v) | none => none
theorem lvl_mem {G : GC} {ls : List Value} {q : Nat × Value} : q ∈ lvl G ls ↔ ∃ v, ls[q.1]? = some v ∧ v ≠ .null ∧ q.2 = rv G v := by
  simp only [lvl, List.mem_filterMap, List.mem_range]
  constructor
  · rintro ⟨j, hj, h⟩
    cases hv : ls[j]? with
    | none => rw [hv] at h; cases h
    | some v =>
      rw [hv] at h
      cases v <;> first | cases h; exact ⟨_, hv, by simp, rfl⟩ | cases h
  · rintro ⟨v, h1, h2, h3⟩
    refine ⟨q.1, (List.getElem?_eq_some_iff.mp h1).1, ?_⟩
    rw [h1]
    cases v <;> first | exact absurd rfl h2 | (dsimp only; rw [← h3])
theorem LR.has {G : GC} {ls : List Value} {nL : Nat} {lsM : Array Slot} (h : LR G ls nL lsM) : lv_has lsM nL (lvl G ls) := by
  refine ⟨h.2.1, h.2.2.1, fun q hq => ?_⟩
  obtain ⟨v, h1, h2, h3⟩ := lvl_mem.mp hq
  rw [h3]
  exact h.2.2.2 q.1 v h1 h2
theorem rv_cat (G : GC) (v : Value) : (rv G v).category = v.category := by cases v <;> rfl
theorem lng_cat {v : Value} (h : lng v = false) : ¬ v.category = 2 := by cases v <;> first | (simp [Value.category]; done) | simp [lng] at h
/-- a store of one word, as lv_store1 has it -/
theorem LR.store {G : GC} {ls : List Value} {nL j : Nat} {lsM : Array Slot} {v : Value} (h : LR G ls nL lsM) (hj : j < ls.length) (hp : j = 0 ∨ lng (ls.getD (j - 1) .null) = false) (ls' : Array Slot)
    (h' : lv_has ls' nL ((j, rv G v) :: (lvl G ls).filter (fun q => !(q.1 == j) && !(q.1 + 1 == j && q.2.category == 2)))) : LR G (ls.set j v) nL ls' := by
  refine ⟨by rw [List.length_set]; exact h.1, h'.1, h'.2.1, fun i w hi hw => ?_⟩
  by_cases hij : i = j
  · subst hij
    rw [List.getElem?_set_self hj] at hi
    cases hi
    exact h'.2.2 (i, rv G v) List.mem_cons_self
  · rw [List.getElem?_set_ne (Ne.symm hij)] at hi
    refine h'.2.2 (i, rv G w) (List.mem_cons_of_mem _ (List.mem_filter.mpr ⟨lvl_mem.mpr ⟨w, hi, hw, rfl⟩, ?_⟩))
    have h1 : (i == j) = false := by simp [hij]
    have h2 : (i + 1 == j && (rv G w).category == 2) = false := by
      rw [Bool.and_eq_false_iff]
      by_cases hi1 : i + 1 = j
      · right
        rcases hp with q | q
        · omega
        · have hg : ls.getD (j - 1) .null = w := by
            rw [show j - 1 = i by omega]
            simp [List.getD, hi]
          rw [hg] at q
          simp only [rv_cat, beq_eq_false_iff_ne, ne_eq]
          exact lng_cat q
      · left
        simp [hi1]
    simp only [h1, h2]; rfl
theorem LR.storeJ {G : GC} {ls : List Value} {nL j : Nat} {lsM : Array Slot} {v : Value} (h : LR G ls nL lsM) (hj : j + 1 < ls.length) (hp : j = 0 ∨ lng (ls.getD (j - 1) .null) = false) (ls' : Array Slot)
    (h' : lv_has ls' nL ((j, rv G v) :: (lvl G ls).filter (fun q => !(q.1 == j) && (!(q.1 == j + 1) && !(q.1 + 1 == j && q.2.category == 2))))) : LR G ((ls.set j v).set (j + 1) .null) nL ls' := by
  refine ⟨by rw [List.length_set, List.length_set]; exact h.1, h'.1, h'.2.1, fun i w hi hw => ?_⟩
  by_cases hij1 : i = j + 1
  · subst hij1
    rw [List.getElem?_set_self (by rw [List.length_set]; exact hj)] at hi
    cases hi
    exact absurd rfl hw
  · rw [List.getElem?_set_ne (Ne.symm hij1)] at hi
    by_cases hij : i = j
    · subst hij
      rw [List.getElem?_set_self (by omega)] at hi
      cases hi
      exact h'.2.2 (i, rv G v) List.mem_cons_self
    · rw [List.getElem?_set_ne (Ne.symm hij)] at hi
      refine h'.2.2 (i, rv G w) (List.mem_cons_of_mem _ (List.mem_filter.mpr ⟨lvl_mem.mpr ⟨w, hi, hw, rfl⟩, ?_⟩))
      have h1 : (i == j) = false := by simp [hij]
      have h1' : (i == j + 1) = false := by simp [hij1]
      have h2 : (i + 1 == j && (rv G w).category == 2) = false := by
        rw [Bool.and_eq_false_iff]
        by_cases hi1 : i + 1 = j
        · right
          rcases hp with q | q
          · omega
          · have hg : ls.getD (j - 1) .null = w := by
              rw [show j - 1 = i by omega]
              simp [List.getD, hi]
            rw [hg] at q
            simp only [rv_cat, beq_eq_false_iff_ne, ne_eq]
            exact lng_cat q
        · left
          simp [hi1]
      simp only [h1, h1', h2]; rfl
theorem LR.at {G : GC} {ls : List Value} {nL j : Nat} {lsM : Array Slot} {v : Value} (h : LR G ls nL lsM) (hv : ls[j]? = some v) (hn : v ≠ .null) : lsM[j]? = some (.val (rv G v)) := h.2.2.2 j v hv hn
theorem ob_in {x : Int32} {n : Nat} (h : ob x n = true) : vp_in x n := by
  simp only [ob, Bool.not_eq_true', Bool.or_eq_false_iff, decide_eq_false_iff_not] at h
  intro q
  rcases q with q | q
  · exact h.1 q
  · exact absurd (Nat.ble_eq_true_of_le q) (by rw [h.2]; exact Bool.false_ne_true)
