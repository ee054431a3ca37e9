/-! ===== each method is as its table says ===== -/
theorem chk_0 : (List.range' 0 8).all chkM = true := by decide +kernel
theorem chk_8 : (List.range' 8 8).all chkM = true := by decide +kernel
theorem chk_16 : (List.range' 16 8).all chkM = true := by decide +kernel
theorem chk_24 : (List.range' 24 8).all chkM = true := by decide +kernel
theorem chk_32 : (List.range' 32 8).all chkM = true := by decide +kernel
theorem chk_40 : (List.range' 40 8).all chkM = true := by decide +kernel
theorem chk_48 : (List.range' 48 8).all chkM = true := by decide +kernel
theorem chk_56 : (List.range' 56 8).all chkM = true := by decide +kernel
theorem chk_64 : (List.range' 64 8).all chkM = true := by decide +kernel
theorem chk_72 : (List.range' 72 8).all chkM = true := by decide +kernel
theorem chk_80 : (List.range' 80 8).all chkM = true := by decide +kernel
theorem chk_88 : (List.range' 88 8).all chkM = true := by decide +kernel
theorem chk_96 : (List.range' 96 8).all chkM = true := by decide +kernel
theorem chk_104 : (List.range' 104 8).all chkM = true := by decide +kernel
theorem chk_112 : (List.range' 112 8).all chkM = true := by decide +kernel
theorem chk_120 : (List.range' 120 8).all chkM = true := by decide +kernel
theorem chk_128 : (List.range' 128 8).all chkM = true := by decide +kernel
theorem chk_136 : (List.range' 136 8).all chkM = true := by decide +kernel
theorem chk_144 : (List.range' 144 8).all chkM = true := by decide +kernel
theorem chk_152 : (List.range' 152 8).all chkM = true := by decide +kernel
theorem chk_160 : (List.range' 160 8).all chkM = true := by decide +kernel
theorem chk_168 : (List.range' 168 8).all chkM = true := by decide +kernel
theorem chk_176 : (List.range' 176 8).all chkM = true := by decide +kernel
theorem chk_184 : (List.range' 184 8).all chkM = true := by decide +kernel
theorem chk_192 : (List.range' 192 8).all chkM = true := by decide +kernel
theorem chk_200 : (List.range' 200 8).all chkM = true := by decide +kernel
theorem chk_208 : (List.range' 208 8).all chkM = true := by decide +kernel
theorem chk_216 : (List.range' 216 8).all chkM = true := by decide +kernel
theorem chk_224 : (List.range' 224 8).all chkM = true := by decide +kernel
theorem chk_232 : (List.range' 232 8).all chkM = true := by decide +kernel
theorem chk_240 : (List.range' 240 8).all chkM = true := by decide +kernel
theorem chk_248 : (List.range' 248 8).all chkM = true := by decide +kernel
theorem chk_256 : (List.range' 256 8).all chkM = true := by decide +kernel
theorem chk_264 : (List.range' 264 8).all chkM = true := by decide +kernel
theorem chk_272 : (List.range' 272 8).all chkM = true := by decide +kernel
theorem chk_280 : (List.range' 280 8).all chkM = true := by decide +kernel
theorem chk_288 : (List.range' 288 8).all chkM = true := by decide +kernel
theorem chk_296 : (List.range' 296 8).all chkM = true := by decide +kernel
theorem chk_304 : (List.range' 304 8).all chkM = true := by decide +kernel
theorem chk_312 : (List.range' 312 8).all chkM = true := by decide +kernel
theorem chk_320 : (List.range' 320 8).all chkM = true := by decide +kernel
theorem chk_328 : (List.range' 328 5).all chkM = true := by decide +kernel
theorem chk_law : chkM 333 = true := by decide +kernel
theorem chk_all : ∀ k, k < 334 → chkM k = true := by
  intro k hk
  by_cases h8 : k < 8
  · exact List.all_eq_true.mp chk_0 k (List.mem_range'_1.mpr ⟨by omega, by omega⟩)
  by_cases h16 : k < 16
  · exact List.all_eq_true.mp chk_8 k (List.mem_range'_1.mpr ⟨by omega, by omega⟩)
  by_cases h24 : k < 24
  · exact List.all_eq_true.mp chk_16 k (List.mem_range'_1.mpr ⟨by omega, by omega⟩)
  by_cases h32 : k < 32
  · exact List.all_eq_true.mp chk_24 k (List.mem_range'_1.mpr ⟨by omega, by omega⟩)
  by_cases h40 : k < 40
  · exact List.all_eq_true.mp chk_32 k (List.mem_range'_1.mpr ⟨by omega, by omega⟩)
  by_cases h48 : k < 48
  · exact List.all_eq_true.mp chk_40 k (List.mem_range'_1.mpr ⟨by omega, by omega⟩)
  by_cases h56 : k < 56
  · exact List.all_eq_true.mp chk_48 k (List.mem_range'_1.mpr ⟨by omega, by omega⟩)
  by_cases h64 : k < 64
  · exact List.all_eq_true.mp chk_56 k (List.mem_range'_1.mpr ⟨by omega, by omega⟩)
  by_cases h72 : k < 72
  · exact List.all_eq_true.mp chk_64 k (List.mem_range'_1.mpr ⟨by omega, by omega⟩)
  by_cases h80 : k < 80
  · exact List.all_eq_true.mp chk_72 k (List.mem_range'_1.mpr ⟨by omega, by omega⟩)
  by_cases h88 : k < 88
  · exact List.all_eq_true.mp chk_80 k (List.mem_range'_1.mpr ⟨by omega, by omega⟩)
  by_cases h96 : k < 96
  · exact List.all_eq_true.mp chk_88 k (List.mem_range'_1.mpr ⟨by omega, by omega⟩)
  by_cases h104 : k < 104
  · exact List.all_eq_true.mp chk_96 k (List.mem_range'_1.mpr ⟨by omega, by omega⟩)
  by_cases h112 : k < 112
  · exact List.all_eq_true.mp chk_104 k (List.mem_range'_1.mpr ⟨by omega, by omega⟩)
  by_cases h120 : k < 120
  · exact List.all_eq_true.mp chk_112 k (List.mem_range'_1.mpr ⟨by omega, by omega⟩)
  by_cases h128 : k < 128
  · exact List.all_eq_true.mp chk_120 k (List.mem_range'_1.mpr ⟨by omega, by omega⟩)
  by_cases h136 : k < 136
  · exact List.all_eq_true.mp chk_128 k (List.mem_range'_1.mpr ⟨by omega, by omega⟩)
  by_cases h144 : k < 144
  · exact List.all_eq_true.mp chk_136 k (List.mem_range'_1.mpr ⟨by omega, by omega⟩)
  by_cases h152 : k < 152
  · exact List.all_eq_true.mp chk_144 k (List.mem_range'_1.mpr ⟨by omega, by omega⟩)
  by_cases h160 : k < 160
  · exact List.all_eq_true.mp chk_152 k (List.mem_range'_1.mpr ⟨by omega, by omega⟩)
  by_cases h168 : k < 168
  · exact List.all_eq_true.mp chk_160 k (List.mem_range'_1.mpr ⟨by omega, by omega⟩)
  by_cases h176 : k < 176
  · exact List.all_eq_true.mp chk_168 k (List.mem_range'_1.mpr ⟨by omega, by omega⟩)
  by_cases h184 : k < 184
  · exact List.all_eq_true.mp chk_176 k (List.mem_range'_1.mpr ⟨by omega, by omega⟩)
  by_cases h192 : k < 192
  · exact List.all_eq_true.mp chk_184 k (List.mem_range'_1.mpr ⟨by omega, by omega⟩)
  by_cases h200 : k < 200
  · exact List.all_eq_true.mp chk_192 k (List.mem_range'_1.mpr ⟨by omega, by omega⟩)
  by_cases h208 : k < 208
  · exact List.all_eq_true.mp chk_200 k (List.mem_range'_1.mpr ⟨by omega, by omega⟩)
  by_cases h216 : k < 216
  · exact List.all_eq_true.mp chk_208 k (List.mem_range'_1.mpr ⟨by omega, by omega⟩)
  by_cases h224 : k < 224
  · exact List.all_eq_true.mp chk_216 k (List.mem_range'_1.mpr ⟨by omega, by omega⟩)
  by_cases h232 : k < 232
  · exact List.all_eq_true.mp chk_224 k (List.mem_range'_1.mpr ⟨by omega, by omega⟩)
  by_cases h240 : k < 240
  · exact List.all_eq_true.mp chk_232 k (List.mem_range'_1.mpr ⟨by omega, by omega⟩)
  by_cases h248 : k < 248
  · exact List.all_eq_true.mp chk_240 k (List.mem_range'_1.mpr ⟨by omega, by omega⟩)
  by_cases h256 : k < 256
  · exact List.all_eq_true.mp chk_248 k (List.mem_range'_1.mpr ⟨by omega, by omega⟩)
  by_cases h264 : k < 264
  · exact List.all_eq_true.mp chk_256 k (List.mem_range'_1.mpr ⟨by omega, by omega⟩)
  by_cases h272 : k < 272
  · exact List.all_eq_true.mp chk_264 k (List.mem_range'_1.mpr ⟨by omega, by omega⟩)
  by_cases h280 : k < 280
  · exact List.all_eq_true.mp chk_272 k (List.mem_range'_1.mpr ⟨by omega, by omega⟩)
  by_cases h288 : k < 288
  · exact List.all_eq_true.mp chk_280 k (List.mem_range'_1.mpr ⟨by omega, by omega⟩)
  by_cases h296 : k < 296
  · exact List.all_eq_true.mp chk_288 k (List.mem_range'_1.mpr ⟨by omega, by omega⟩)
  by_cases h304 : k < 304
  · exact List.all_eq_true.mp chk_296 k (List.mem_range'_1.mpr ⟨by omega, by omega⟩)
  by_cases h312 : k < 312
  · exact List.all_eq_true.mp chk_304 k (List.mem_range'_1.mpr ⟨by omega, by omega⟩)
  by_cases h320 : k < 320
  · exact List.all_eq_true.mp chk_312 k (List.mem_range'_1.mpr ⟨by omega, by omega⟩)
  by_cases h328 : k < 328
  · exact List.all_eq_true.mp chk_320 k (List.mem_range'_1.mpr ⟨by omega, by omega⟩)
  by_cases h333 : k < 333
  · exact List.all_eq_true.mp chk_328 k (List.mem_range'_1.mpr ⟨by omega, by omega⟩)
  have : k = 333 := by omega
  subst this
  exact chk_law
