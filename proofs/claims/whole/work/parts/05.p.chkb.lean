/-! ===== each method is as its table says (printed by program) ===== -/
theorem chk_100 : (List.range' 100 5).all chkM = true := by decide +kernel
theorem chk_105 : (List.range' 105 3).all chkM = true := by decide +kernel
theorem chk_108 : (List.range' 108 2).all chkM = true := by decide +kernel
theorem chk_110 : (List.range' 110 5).all chkM = true := by decide +kernel
theorem chk_115 : (List.range' 115 5).all chkM = true := by decide +kernel
theorem chk_120 : (List.range' 120 3).all chkM = true := by decide +kernel
theorem chk_123 : (List.range' 123 5).all chkM = true := by decide +kernel
theorem chk_128 : (List.range' 128 5).all chkM = true := by decide +kernel
theorem chk_133 : (List.range' 133 3).all chkM = true := by decide +kernel
theorem chk_136 : (List.range' 136 5).all chkM = true := by decide +kernel
theorem chk_141 : (List.range' 141 3).all chkM = true := by decide +kernel
theorem chk_144 : (List.range' 144 3).all chkM = true := by decide +kernel
theorem chk_147 : (List.range' 147 5).all chkM = true := by decide +kernel
theorem chk_152 : (List.range' 152 5).all chkM = true := by decide +kernel
theorem chk_157 : (List.range' 157 3).all chkM = true := by decide +kernel
theorem chk_160 : (List.range' 160 5).all chkM = true := by decide +kernel
theorem chk_165 : (List.range' 165 5).all chkM = true := by decide +kernel
theorem chk_170 : (List.range' 170 6).all chkM = true := by decide +kernel
theorem chk_176 : (List.range' 176 7).all chkM = true := by decide +kernel
theorem chk_183 : (List.range' 183 1).all chkM = true := by decide +kernel
theorem chk_184 : (List.range' 184 1).all chkM = true := by decide +kernel
theorem chk_185 : (List.range' 185 1).all chkM = true := by decide +kernel
theorem chk_186 : (List.range' 186 8).all chkM = true := by decide +kernel
theorem chk_194 : (List.range' 194 4).all chkM = true := by decide +kernel
theorem chk_198 : (List.range' 198 2).all chkM = true := by decide +kernel
theorem chkb {k : Nat} (h1 : 100 ≤ k) (h2 : k < 200) : chkM k = true := by
  by_cases h1105 : k < 105
  · exact List.all_eq_true.mp chk_100 k (List.mem_range'_1.mpr ⟨by omega, by omega⟩)
  by_cases h1108 : k < 108
  · exact List.all_eq_true.mp chk_105 k (List.mem_range'_1.mpr ⟨by omega, by omega⟩)
  by_cases h1110 : k < 110
  · exact List.all_eq_true.mp chk_108 k (List.mem_range'_1.mpr ⟨by omega, by omega⟩)
  by_cases h1115 : k < 115
  · exact List.all_eq_true.mp chk_110 k (List.mem_range'_1.mpr ⟨by omega, by omega⟩)
  by_cases h1120 : k < 120
  · exact List.all_eq_true.mp chk_115 k (List.mem_range'_1.mpr ⟨by omega, by omega⟩)
  by_cases h1123 : k < 123
  · exact List.all_eq_true.mp chk_120 k (List.mem_range'_1.mpr ⟨by omega, by omega⟩)
  by_cases h1128 : k < 128
  · exact List.all_eq_true.mp chk_123 k (List.mem_range'_1.mpr ⟨by omega, by omega⟩)
  by_cases h1133 : k < 133
  · exact List.all_eq_true.mp chk_128 k (List.mem_range'_1.mpr ⟨by omega, by omega⟩)
  by_cases h1136 : k < 136
  · exact List.all_eq_true.mp chk_133 k (List.mem_range'_1.mpr ⟨by omega, by omega⟩)
  by_cases h1141 : k < 141
  · exact List.all_eq_true.mp chk_136 k (List.mem_range'_1.mpr ⟨by omega, by omega⟩)
  by_cases h1144 : k < 144
  · exact List.all_eq_true.mp chk_141 k (List.mem_range'_1.mpr ⟨by omega, by omega⟩)
  by_cases h1147 : k < 147
  · exact List.all_eq_true.mp chk_144 k (List.mem_range'_1.mpr ⟨by omega, by omega⟩)
  by_cases h1152 : k < 152
  · exact List.all_eq_true.mp chk_147 k (List.mem_range'_1.mpr ⟨by omega, by omega⟩)
  by_cases h1157 : k < 157
  · exact List.all_eq_true.mp chk_152 k (List.mem_range'_1.mpr ⟨by omega, by omega⟩)
  by_cases h1160 : k < 160
  · exact List.all_eq_true.mp chk_157 k (List.mem_range'_1.mpr ⟨by omega, by omega⟩)
  by_cases h1165 : k < 165
  · exact List.all_eq_true.mp chk_160 k (List.mem_range'_1.mpr ⟨by omega, by omega⟩)
  by_cases h1170 : k < 170
  · exact List.all_eq_true.mp chk_165 k (List.mem_range'_1.mpr ⟨by omega, by omega⟩)
  by_cases h1176 : k < 176
  · exact List.all_eq_true.mp chk_170 k (List.mem_range'_1.mpr ⟨by omega, by omega⟩)
  by_cases h1183 : k < 183
  · exact List.all_eq_true.mp chk_176 k (List.mem_range'_1.mpr ⟨by omega, by omega⟩)
  by_cases h1184 : k < 184
  · exact List.all_eq_true.mp chk_183 k (List.mem_range'_1.mpr ⟨by omega, by omega⟩)
  by_cases h1185 : k < 185
  · exact List.all_eq_true.mp chk_184 k (List.mem_range'_1.mpr ⟨by omega, by omega⟩)
  by_cases h1186 : k < 186
  · exact List.all_eq_true.mp chk_185 k (List.mem_range'_1.mpr ⟨by omega, by omega⟩)
  by_cases h1194 : k < 194
  · exact List.all_eq_true.mp chk_186 k (List.mem_range'_1.mpr ⟨by omega, by omega⟩)
  by_cases h1198 : k < 198
  · exact List.all_eq_true.mp chk_194 k (List.mem_range'_1.mpr ⟨by omega, by omega⟩)
  exact List.all_eq_true.mp chk_198 k (List.mem_range'_1.mpr ⟨by omega, by omega⟩)
