/-! ===== of each method: its words are there ===== -/
def cw (k : Nat) : Cond := match hM k with
  | [] => .code (yM k) (bM k) (mxl k) (rM k)
  | hh => .codeWith (yM k) (bM k) (mxl k) (rM k) hh
def mfok (k : Nat) : Bool :=
  decide (lw_tbl[(mpl k).1]? = some (cw k)) && goodWord (cw k) && decide ((yM k).cls = cnm (mown k)) && plainName (yM k).cls && decide ((yM k).cls ≠ "java/lang/invoke/MethodHandle" ∧ (yM k).cls ≠ "java/lang/invoke/VarHandle") &&
  decide (lw_tbl[(mpl k).2.2.1]? = some (if (mpl k).2.1 = 1 then .static (yM k) else .instanceMethod (yM k))) && decide (lw_tbl[(mpl k).2.2.2.2]? = some (.initialized (yM k).cls)) &&
  (decide ((mpl k).2.1 = 1) || decide ((yM k).name = "<init>") || decide (lw_tbl[(mpl k).2.2.2.1]? = some (.selects (yM k).cls (yM k) (yM k)))) && Nat.beq (pcf k 0) 0
theorem mfok_1 : (List.range' 0 111).all mfok = true := by decide +kernel
theorem mfok_2 : (List.range' 111 111).all mfok = true := by decide +kernel
theorem mfok_3 : (List.range' 222 111).all mfok = true := by decide +kernel
theorem mfok_at {k : Nat} (hk : k < 333) : mfok k = true := by
  by_cases h1 : k < 111
  · exact List.all_eq_true.mp mfok_1 k (List.mem_range'_1.mpr ⟨by omega, by omega⟩)
  · by_cases h2 : k < 222
    · exact List.all_eq_true.mp mfok_2 k (List.mem_range'_1.mpr ⟨by omega, by omega⟩)
    · exact List.all_eq_true.mp mfok_3 k (List.mem_range'_1.mpr ⟨by omega, by omega⟩)
theorem mf {k : Nat} (hk : k < 333) : cw k ∈ TBg ∧ (yM k).cls = cnm (mown k) ∧ plainName (yM k).cls = true ∧ ((yM k).cls ≠ "java/lang/invoke/MethodHandle" ∧ (yM k).cls ≠ "java/lang/invoke/VarHandle") ∧
    ((mpl k).2.1 = 1 → Cond.static (yM k) ∈ TBg) ∧ ((mpl k).2.1 = 0 → Cond.instanceMethod (yM k) ∈ TBg) ∧ Cond.initialized (yM k).cls ∈ TBg ∧ ((mpl k).2.1 = 0 → (yM k).name ≠ "<init>" → Cond.selects (yM k).cls (yM k) (yM k) ∈ TBg) ∧ pcf k 0 = 0 := by
  have h := mfok_at hk
  simp only [mfok, Bool.and_eq_true, decide_eq_true_eq, Bool.or_eq_true] at h
  obtain ⟨⟨⟨⟨⟨⟨⟨⟨h1, h2⟩, h3⟩, h4⟩, h5⟩, h6⟩, h7⟩, h8⟩, h9⟩ := h
  refine ⟨tbg (List.mem_of_getElem? h1) h2, h3, h4, h5, fun q => ?_, fun q => ?_, tbg (List.mem_of_getElem? h7) rfl, fun q1 q2 => ?_, Nat.eq_of_beq_eq_true h9⟩
  · rw [if_pos q] at h6
    exact tbg (List.mem_of_getElem? h6) rfl
  · rw [if_neg (by omega)] at h6
    exact tbg (List.mem_of_getElem? h6) rfl
  · rcases h8 with (h8 | h8) | h8
    · omega
    · exact absurd h8 q2
    · exact tbg (List.mem_of_getElem? h8) rfl
