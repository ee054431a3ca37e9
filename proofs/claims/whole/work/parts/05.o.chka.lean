/-! ===== each method is as its table says (printed by program) ===== -/
theorem chk_0 : (List.range' 0 6).all chkM = true := by decide +kernel
theorem chk_6 : (List.range' 6 1).all chkM = true := by decide +kernel
theorem chk_7 : (List.range' 7 3).all chkM = true := by decide +kernel
theorem chk_10 : (List.range' 10 6).all chkM = true := by decide +kernel
theorem chk_16 : (List.range' 16 5).all chkM = true := by decide +kernel
theorem chk_21 : (List.range' 21 5).all chkM = true := by decide +kernel
theorem chk_26 : (List.range' 26 4).all chkM = true := by decide +kernel
theorem chk_30 : (List.range' 30 3).all chkM = true := by decide +kernel
theorem chk_33 : (List.range' 33 6).all chkM = true := by decide +kernel
theorem chk_39 : (List.range' 39 3).all chkM = true := by decide +kernel
theorem chk_42 : (List.range' 42 2).all chkM = true := by decide +kernel
theorem chk_44 : (List.range' 44 2).all chkM = true := by decide +kernel
theorem chk_46 : (List.range' 46 4).all chkM = true := by decide +kernel
theorem chk_50 : (List.range' 50 5).all chkM = true := by decide +kernel
theorem chk_55 : (List.range' 55 8).all chkM = true := by decide +kernel
theorem chk_63 : (List.range' 63 3).all chkM = true := by decide +kernel
theorem chk_66 : (List.range' 66 7).all chkM = true := by decide +kernel
theorem chk_73 : (List.range' 73 4).all chkM = true := by decide +kernel
theorem chk_77 : (List.range' 77 3).all chkM = true := by decide +kernel
theorem chk_80 : (List.range' 80 1).all chkM = true := by decide +kernel
theorem chk_81 : (List.range' 81 2).all chkM = true := by decide +kernel
theorem chk_83 : (List.range' 83 3).all chkM = true := by decide +kernel
theorem chk_86 : (List.range' 86 5).all chkM = true := by decide +kernel
theorem chk_91 : (List.range' 91 2).all chkM = true := by decide +kernel
theorem chk_93 : (List.range' 93 2).all chkM = true := by decide +kernel
theorem chk_95 : (List.range' 95 4).all chkM = true := by decide +kernel
theorem chk_99 : (List.range' 99 1).all chkM = true := by decide +kernel
theorem chka {k : Nat} (h1 : 0 ≤ k) (h2 : k < 100) : chkM k = true := by
  by_cases h1006 : k < 6
  · exact List.all_eq_true.mp chk_0 k (List.mem_range'_1.mpr ⟨by omega, by omega⟩)
  by_cases h1007 : k < 7
  · exact List.all_eq_true.mp chk_6 k (List.mem_range'_1.mpr ⟨by omega, by omega⟩)
  by_cases h1010 : k < 10
  · exact List.all_eq_true.mp chk_7 k (List.mem_range'_1.mpr ⟨by omega, by omega⟩)
  by_cases h1016 : k < 16
  · exact List.all_eq_true.mp chk_10 k (List.mem_range'_1.mpr ⟨by omega, by omega⟩)
  by_cases h1021 : k < 21
  · exact List.all_eq_true.mp chk_16 k (List.mem_range'_1.mpr ⟨by omega, by omega⟩)
  by_cases h1026 : k < 26
  · exact List.all_eq_true.mp chk_21 k (List.mem_range'_1.mpr ⟨by omega, by omega⟩)
  by_cases h1030 : k < 30
  · exact List.all_eq_true.mp chk_26 k (List.mem_range'_1.mpr ⟨by omega, by omega⟩)
  by_cases h1033 : k < 33
  · exact List.all_eq_true.mp chk_30 k (List.mem_range'_1.mpr ⟨by omega, by omega⟩)
  by_cases h1039 : k < 39
  · exact List.all_eq_true.mp chk_33 k (List.mem_range'_1.mpr ⟨by omega, by omega⟩)
  by_cases h1042 : k < 42
  · exact List.all_eq_true.mp chk_39 k (List.mem_range'_1.mpr ⟨by omega, by omega⟩)
  by_cases h1044 : k < 44
  · exact List.all_eq_true.mp chk_42 k (List.mem_range'_1.mpr ⟨by omega, by omega⟩)
  by_cases h1046 : k < 46
  · exact List.all_eq_true.mp chk_44 k (List.mem_range'_1.mpr ⟨by omega, by omega⟩)
  by_cases h1050 : k < 50
  · exact List.all_eq_true.mp chk_46 k (List.mem_range'_1.mpr ⟨by omega, by omega⟩)
  by_cases h1055 : k < 55
  · exact List.all_eq_true.mp chk_50 k (List.mem_range'_1.mpr ⟨by omega, by omega⟩)
  by_cases h1063 : k < 63
  · exact List.all_eq_true.mp chk_55 k (List.mem_range'_1.mpr ⟨by omega, by omega⟩)
  by_cases h1066 : k < 66
  · exact List.all_eq_true.mp chk_63 k (List.mem_range'_1.mpr ⟨by omega, by omega⟩)
  by_cases h1073 : k < 73
  · exact List.all_eq_true.mp chk_66 k (List.mem_range'_1.mpr ⟨by omega, by omega⟩)
  by_cases h1077 : k < 77
  · exact List.all_eq_true.mp chk_73 k (List.mem_range'_1.mpr ⟨by omega, by omega⟩)
  by_cases h1080 : k < 80
  · exact List.all_eq_true.mp chk_77 k (List.mem_range'_1.mpr ⟨by omega, by omega⟩)
  by_cases h1081 : k < 81
  · exact List.all_eq_true.mp chk_80 k (List.mem_range'_1.mpr ⟨by omega, by omega⟩)
  by_cases h1083 : k < 83
  · exact List.all_eq_true.mp chk_81 k (List.mem_range'_1.mpr ⟨by omega, by omega⟩)
  by_cases h1086 : k < 86
  · exact List.all_eq_true.mp chk_83 k (List.mem_range'_1.mpr ⟨by omega, by omega⟩)
  by_cases h1091 : k < 91
  · exact List.all_eq_true.mp chk_86 k (List.mem_range'_1.mpr ⟨by omega, by omega⟩)
  by_cases h1093 : k < 93
  · exact List.all_eq_true.mp chk_91 k (List.mem_range'_1.mpr ⟨by omega, by omega⟩)
  by_cases h1095 : k < 95
  · exact List.all_eq_true.mp chk_93 k (List.mem_range'_1.mpr ⟨by omega, by omega⟩)
  by_cases h1099 : k < 99
  · exact List.all_eq_true.mp chk_95 k (List.mem_range'_1.mpr ⟨by omega, by omega⟩)
  exact List.all_eq_true.mp chk_99 k (List.mem_range'_1.mpr ⟨by omega, by omega⟩)
