/-! ===== of each method: its words are there ===== -/
def cw (k : Nat) : Cond := match hM k with
  | [] => .code (yM k) (bM k) (mxl k) (rM k)
  | hh => .codeWith (yM k) (bM k) (mxl k) (rM k) hh
def mfok (k : Nat) : Bool :=
  decide (lw_tbl[(mpl k).1]? = some (cw k)) && goodWord (cw k) && decide ((yM k).cls = cnm (mown k)) && plainName (yM k).cls && decide ((yM k).cls ≠ "java/lang/invoke/MethodHandle" ∧ (yM k).cls ≠ "java/lang/invoke/VarHandle") &&
  decide (lw_tbl[(mpl k).2.2.1]? = some (if (mpl k).2.1 = 1 then .static (yM k) else .instanceMethod (yM k))) && decide (lw_tbl[(mpl k).2.2.2.2]? = some (.initialized (yM k).cls)) &&
  (decide ((mpl k).2.1 = 1) || decide ((yM k).name = "<init>") || decide (lw_tbl[(mpl k).2.2.2.1]? = some (.selects (yM k).cls (yM k) (yM k)))) && Nat.beq (pcf k 0) 0
theorem mfok_0 : (List.range' 0 9).all mfok = true := by decide +kernel
theorem mfok_9 : (List.range' 9 9).all mfok = true := by decide +kernel
theorem mfok_18 : (List.range' 18 9).all mfok = true := by decide +kernel
theorem mfok_27 : (List.range' 27 9).all mfok = true := by decide +kernel
theorem mfok_36 : (List.range' 36 9).all mfok = true := by decide +kernel
theorem mfok_45 : (List.range' 45 9).all mfok = true := by decide +kernel
theorem mfok_54 : (List.range' 54 9).all mfok = true := by decide +kernel
theorem mfok_63 : (List.range' 63 9).all mfok = true := by decide +kernel
theorem mfok_72 : (List.range' 72 9).all mfok = true := by decide +kernel
theorem mfok_81 : (List.range' 81 9).all mfok = true := by decide +kernel
theorem mfok_90 : (List.range' 90 9).all mfok = true := by decide +kernel
theorem mfok_99 : (List.range' 99 9).all mfok = true := by decide +kernel
theorem mfok_108 : (List.range' 108 9).all mfok = true := by decide +kernel
theorem mfok_117 : (List.range' 117 9).all mfok = true := by decide +kernel
theorem mfok_126 : (List.range' 126 9).all mfok = true := by decide +kernel
theorem mfok_135 : (List.range' 135 9).all mfok = true := by decide +kernel
theorem mfok_144 : (List.range' 144 9).all mfok = true := by decide +kernel
theorem mfok_153 : (List.range' 153 9).all mfok = true := by decide +kernel
theorem mfok_162 : (List.range' 162 9).all mfok = true := by decide +kernel
theorem mfok_171 : (List.range' 171 9).all mfok = true := by decide +kernel
theorem mfok_180 : (List.range' 180 9).all mfok = true := by decide +kernel
theorem mfok_189 : (List.range' 189 9).all mfok = true := by decide +kernel
theorem mfok_198 : (List.range' 198 9).all mfok = true := by decide +kernel
theorem mfok_207 : (List.range' 207 9).all mfok = true := by decide +kernel
theorem mfok_216 : (List.range' 216 9).all mfok = true := by decide +kernel
theorem mfok_225 : (List.range' 225 9).all mfok = true := by decide +kernel
theorem mfok_234 : (List.range' 234 9).all mfok = true := by decide +kernel
theorem mfok_243 : (List.range' 243 9).all mfok = true := by decide +kernel
theorem mfok_252 : (List.range' 252 9).all mfok = true := by decide +kernel
theorem mfok_261 : (List.range' 261 9).all mfok = true := by decide +kernel
theorem mfok_270 : (List.range' 270 9).all mfok = true := by decide +kernel
theorem mfok_279 : (List.range' 279 9).all mfok = true := by decide +kernel
theorem mfok_288 : (List.range' 288 9).all mfok = true := by decide +kernel
theorem mfok_297 : (List.range' 297 9).all mfok = true := by decide +kernel
theorem mfok_306 : (List.range' 306 9).all mfok = true := by decide +kernel
theorem mfok_315 : (List.range' 315 9).all mfok = true := by decide +kernel
theorem mfok_324 : (List.range' 324 9).all mfok = true := by decide +kernel
theorem mfok_at {k : Nat} (hk : k < 333) : mfok k = true := by
  by_cases h9 : k < 9
  · exact List.all_eq_true.mp mfok_0 k (List.mem_range'_1.mpr ⟨by omega, by omega⟩)
  by_cases h18 : k < 18
  · exact List.all_eq_true.mp mfok_9 k (List.mem_range'_1.mpr ⟨by omega, by omega⟩)
  by_cases h27 : k < 27
  · exact List.all_eq_true.mp mfok_18 k (List.mem_range'_1.mpr ⟨by omega, by omega⟩)
  by_cases h36 : k < 36
  · exact List.all_eq_true.mp mfok_27 k (List.mem_range'_1.mpr ⟨by omega, by omega⟩)
  by_cases h45 : k < 45
  · exact List.all_eq_true.mp mfok_36 k (List.mem_range'_1.mpr ⟨by omega, by omega⟩)
  by_cases h54 : k < 54
  · exact List.all_eq_true.mp mfok_45 k (List.mem_range'_1.mpr ⟨by omega, by omega⟩)
  by_cases h63 : k < 63
  · exact List.all_eq_true.mp mfok_54 k (List.mem_range'_1.mpr ⟨by omega, by omega⟩)
  by_cases h72 : k < 72
  · exact List.all_eq_true.mp mfok_63 k (List.mem_range'_1.mpr ⟨by omega, by omega⟩)
  by_cases h81 : k < 81
  · exact List.all_eq_true.mp mfok_72 k (List.mem_range'_1.mpr ⟨by omega, by omega⟩)
  by_cases h90 : k < 90
  · exact List.all_eq_true.mp mfok_81 k (List.mem_range'_1.mpr ⟨by omega, by omega⟩)
  by_cases h99 : k < 99
  · exact List.all_eq_true.mp mfok_90 k (List.mem_range'_1.mpr ⟨by omega, by omega⟩)
  by_cases h108 : k < 108
  · exact List.all_eq_true.mp mfok_99 k (List.mem_range'_1.mpr ⟨by omega, by omega⟩)
  by_cases h117 : k < 117
  · exact List.all_eq_true.mp mfok_108 k (List.mem_range'_1.mpr ⟨by omega, by omega⟩)
  by_cases h126 : k < 126
  · exact List.all_eq_true.mp mfok_117 k (List.mem_range'_1.mpr ⟨by omega, by omega⟩)
  by_cases h135 : k < 135
  · exact List.all_eq_true.mp mfok_126 k (List.mem_range'_1.mpr ⟨by omega, by omega⟩)
  by_cases h144 : k < 144
  · exact List.all_eq_true.mp mfok_135 k (List.mem_range'_1.mpr ⟨by omega, by omega⟩)
  by_cases h153 : k < 153
  · exact List.all_eq_true.mp mfok_144 k (List.mem_range'_1.mpr ⟨by omega, by omega⟩)
  by_cases h162 : k < 162
  · exact List.all_eq_true.mp mfok_153 k (List.mem_range'_1.mpr ⟨by omega, by omega⟩)
  by_cases h171 : k < 171
  · exact List.all_eq_true.mp mfok_162 k (List.mem_range'_1.mpr ⟨by omega, by omega⟩)
  by_cases h180 : k < 180
  · exact List.all_eq_true.mp mfok_171 k (List.mem_range'_1.mpr ⟨by omega, by omega⟩)
  by_cases h189 : k < 189
  · exact List.all_eq_true.mp mfok_180 k (List.mem_range'_1.mpr ⟨by omega, by omega⟩)
  by_cases h198 : k < 198
  · exact List.all_eq_true.mp mfok_189 k (List.mem_range'_1.mpr ⟨by omega, by omega⟩)
  by_cases h207 : k < 207
  · exact List.all_eq_true.mp mfok_198 k (List.mem_range'_1.mpr ⟨by omega, by omega⟩)
  by_cases h216 : k < 216
  · exact List.all_eq_true.mp mfok_207 k (List.mem_range'_1.mpr ⟨by omega, by omega⟩)
  by_cases h225 : k < 225
  · exact List.all_eq_true.mp mfok_216 k (List.mem_range'_1.mpr ⟨by omega, by omega⟩)
  by_cases h234 : k < 234
  · exact List.all_eq_true.mp mfok_225 k (List.mem_range'_1.mpr ⟨by omega, by omega⟩)
  by_cases h243 : k < 243
  · exact List.all_eq_true.mp mfok_234 k (List.mem_range'_1.mpr ⟨by omega, by omega⟩)
  by_cases h252 : k < 252
  · exact List.all_eq_true.mp mfok_243 k (List.mem_range'_1.mpr ⟨by omega, by omega⟩)
  by_cases h261 : k < 261
  · exact List.all_eq_true.mp mfok_252 k (List.mem_range'_1.mpr ⟨by omega, by omega⟩)
  by_cases h270 : k < 270
  · exact List.all_eq_true.mp mfok_261 k (List.mem_range'_1.mpr ⟨by omega, by omega⟩)
  by_cases h279 : k < 279
  · exact List.all_eq_true.mp mfok_270 k (List.mem_range'_1.mpr ⟨by omega, by omega⟩)
  by_cases h288 : k < 288
  · exact List.all_eq_true.mp mfok_279 k (List.mem_range'_1.mpr ⟨by omega, by omega⟩)
  by_cases h297 : k < 297
  · exact List.all_eq_true.mp mfok_288 k (List.mem_range'_1.mpr ⟨by omega, by omega⟩)
  by_cases h306 : k < 306
  · exact List.all_eq_true.mp mfok_297 k (List.mem_range'_1.mpr ⟨by omega, by omega⟩)
  by_cases h315 : k < 315
  · exact List.all_eq_true.mp mfok_306 k (List.mem_range'_1.mpr ⟨by omega, by omega⟩)
  by_cases h324 : k < 324
  · exact List.all_eq_true.mp mfok_315 k (List.mem_range'_1.mpr ⟨by omega, by omega⟩)
  exact List.all_eq_true.mp mfok_324 k (List.mem_range'_1.mpr ⟨by omega, by omega⟩)
theorem mf {k : Nat} (hk : k < 333) : cw k ∈ TBg ∧ (yM k).cls = cnm (mown k) ∧ plainName (yM k).cls = true ∧ ((yM k).cls ≠ "java/lang/invoke/MethodHandle" ∧ (yM k).cls ≠ "java/lang/invoke/VarHandle") ∧
    ((mpl k).2.1 = 1 → Cond.static (yM k) ∈ TBg) ∧ ((mpl k).2.1 = 0 → Cond.instanceMethod (yM k) ∈ TBg) ∧ Cond.initialized (yM k).cls ∈ TBg ∧ ((mpl k).2.1 = 0 → (yM k).name ≠ "<init>" → Cond.selects (yM k).cls (yM k) (yM k) ∈ TBg) ∧ pcf k 0 = 0 := by
  have h := mfok_at hk
  simp only [mfok, Bool.and_eq_true, decide_eq_true_eq, Bool.or_eq_true] at h
  obtain ⟨⟨⟨⟨⟨⟨⟨⟨h1, h2⟩, h3⟩, h4⟩, h5⟩, h6⟩, h7⟩, h8⟩, h9⟩ := h
  refine ⟨tbg (List.mem_of_getElem? h1) h2, h3, h4, h5, fun q => ?_, fun q => ?_, tbg (List.mem_of_getElem? h7) rfl, fun q1 q2 => ?_, Nat.eq_of_beq_eq_true h9⟩
  · rw [if_pos q] at h6
    exact tbg (List.mem_of_getElem? h6) rfl
  · rw [if_neg (by omega)] at h6
    exact tbg (List.mem_of_getElem? h6) rfl
  · rcases h8 with (h8 | h8) | h8
    · omega
    · exact absurd h8 q2
    · exact tbg (List.mem_of_getElem? h8) rfl
