/-! ===== each method is as its table says (printed by program) ===== -/
theorem chk_200 : (List.range' 200 2).all chkM = true := by decide +kernel
theorem chk_202 : (List.range' 202 1).all chkM = true := by decide +kernel
theorem chk_203 : (List.range' 203 2).all chkM = true := by decide +kernel
theorem chk_205 : (List.range' 205 1).all chkM = true := by decide +kernel
theorem chk_206 : (List.range' 206 2).all chkM = true := by decide +kernel
theorem chk_208 : (List.range' 208 4).all chkM = true := by decide +kernel
theorem chk_212 : (List.range' 212 2).all chkM = true := by decide +kernel
theorem chk_214 : (List.range' 214 5).all chkM = true := by decide +kernel
theorem chk_219 : (List.range' 219 2).all chkM = true := by decide +kernel
theorem chk_221 : (List.range' 221 1).all chkM = true := by decide +kernel
theorem chk_222 : (List.range' 222 2).all chkM = true := by decide +kernel
theorem chk_224 : (List.range' 224 3).all chkM = true := by decide +kernel
theorem chk_227 : (List.range' 227 4).all chkM = true := by decide +kernel
theorem chk_231 : (List.range' 231 3).all chkM = true := by decide +kernel
theorem chk_234 : (List.range' 234 4).all chkM = true := by decide +kernel
theorem chk_238 : (List.range' 238 3).all chkM = true := by decide +kernel
theorem chk_241 : (List.range' 241 1).all chkM = true := by decide +kernel
theorem chk_242 : (List.range' 242 4).all chkM = true := by decide +kernel
theorem chk_246 : (List.range' 246 3).all chkM = true := by decide +kernel
theorem chk_249 : (List.range' 249 4).all chkM = true := by decide +kernel
theorem chk_253 : (List.range' 253 4).all chkM = true := by decide +kernel
theorem chk_257 : (List.range' 257 3).all chkM = true := by decide +kernel
theorem chk_260 : (List.range' 260 2).all chkM = true := by decide +kernel
theorem chk_262 : (List.range' 262 2).all chkM = true := by decide +kernel
theorem chk_264 : (List.range' 264 2).all chkM = true := by decide +kernel
theorem chk_266 : (List.range' 266 3).all chkM = true := by decide +kernel
theorem chk_269 : (List.range' 269 2).all chkM = true := by decide +kernel
theorem chk_271 : (List.range' 271 3).all chkM = true := by decide +kernel
theorem chk_274 : (List.range' 274 4).all chkM = true := by decide +kernel
theorem chk_278 : (List.range' 278 2).all chkM = true := by decide +kernel
theorem chk_280 : (List.range' 280 3).all chkM = true := by decide +kernel
theorem chk_283 : (List.range' 283 2).all chkM = true := by decide +kernel
theorem chk_285 : (List.range' 285 1).all chkM = true := by decide +kernel
theorem chk_286 : (List.range' 286 3).all chkM = true := by decide +kernel
theorem chk_289 : (List.range' 289 3).all chkM = true := by decide +kernel
theorem chk_292 : (List.range' 292 4).all chkM = true := by decide +kernel
theorem chk_296 : (List.range' 296 10).all chkM = true := by decide +kernel
theorem chk_306 : (List.range' 306 10).all chkM = true := by decide +kernel
theorem chk_316 : (List.range' 316 10).all chkM = true := by decide +kernel
theorem chk_326 : (List.range' 326 5).all chkM = true := by decide +kernel
theorem chk_331 : (List.range' 331 2).all chkM = true := by decide +kernel
theorem chkc {k : Nat} (h1 : 200 ≤ k) (h2 : k < 333) : chkM k = true := by
  by_cases h1202 : k < 202
  · exact List.all_eq_true.mp chk_200 k (List.mem_range'_1.mpr ⟨by omega, by omega⟩)
  by_cases h1203 : k < 203
  · exact List.all_eq_true.mp chk_202 k (List.mem_range'_1.mpr ⟨by omega, by omega⟩)
  by_cases h1205 : k < 205
  · exact List.all_eq_true.mp chk_203 k (List.mem_range'_1.mpr ⟨by omega, by omega⟩)
  by_cases h1206 : k < 206
  · exact List.all_eq_true.mp chk_205 k (List.mem_range'_1.mpr ⟨by omega, by omega⟩)
  by_cases h1208 : k < 208
  · exact List.all_eq_true.mp chk_206 k (List.mem_range'_1.mpr ⟨by omega, by omega⟩)
  by_cases h1212 : k < 212
  · exact List.all_eq_true.mp chk_208 k (List.mem_range'_1.mpr ⟨by omega, by omega⟩)
  by_cases h1214 : k < 214
  · exact List.all_eq_true.mp chk_212 k (List.mem_range'_1.mpr ⟨by omega, by omega⟩)
  by_cases h1219 : k < 219
  · exact List.all_eq_true.mp chk_214 k (List.mem_range'_1.mpr ⟨by omega, by omega⟩)
  by_cases h1221 : k < 221
  · exact List.all_eq_true.mp chk_219 k (List.mem_range'_1.mpr ⟨by omega, by omega⟩)
  by_cases h1222 : k < 222
  · exact List.all_eq_true.mp chk_221 k (List.mem_range'_1.mpr ⟨by omega, by omega⟩)
  by_cases h1224 : k < 224
  · exact List.all_eq_true.mp chk_222 k (List.mem_range'_1.mpr ⟨by omega, by omega⟩)
  by_cases h1227 : k < 227
  · exact List.all_eq_true.mp chk_224 k (List.mem_range'_1.mpr ⟨by omega, by omega⟩)
  by_cases h1231 : k < 231
  · exact List.all_eq_true.mp chk_227 k (List.mem_range'_1.mpr ⟨by omega, by omega⟩)
  by_cases h1234 : k < 234
  · exact List.all_eq_true.mp chk_231 k (List.mem_range'_1.mpr ⟨by omega, by omega⟩)
  by_cases h1238 : k < 238
  · exact List.all_eq_true.mp chk_234 k (List.mem_range'_1.mpr ⟨by omega, by omega⟩)
  by_cases h1241 : k < 241
  · exact List.all_eq_true.mp chk_238 k (List.mem_range'_1.mpr ⟨by omega, by omega⟩)
  by_cases h1242 : k < 242
  · exact List.all_eq_true.mp chk_241 k (List.mem_range'_1.mpr ⟨by omega, by omega⟩)
  by_cases h1246 : k < 246
  · exact List.all_eq_true.mp chk_242 k (List.mem_range'_1.mpr ⟨by omega, by omega⟩)
  by_cases h1249 : k < 249
  · exact List.all_eq_true.mp chk_246 k (List.mem_range'_1.mpr ⟨by omega, by omega⟩)
  by_cases h1253 : k < 253
  · exact List.all_eq_true.mp chk_249 k (List.mem_range'_1.mpr ⟨by omega, by omega⟩)
  by_cases h1257 : k < 257
  · exact List.all_eq_true.mp chk_253 k (List.mem_range'_1.mpr ⟨by omega, by omega⟩)
  by_cases h1260 : k < 260
  · exact List.all_eq_true.mp chk_257 k (List.mem_range'_1.mpr ⟨by omega, by omega⟩)
  by_cases h1262 : k < 262
  · exact List.all_eq_true.mp chk_260 k (List.mem_range'_1.mpr ⟨by omega, by omega⟩)
  by_cases h1264 : k < 264
  · exact List.all_eq_true.mp chk_262 k (List.mem_range'_1.mpr ⟨by omega, by omega⟩)
  by_cases h1266 : k < 266
  · exact List.all_eq_true.mp chk_264 k (List.mem_range'_1.mpr ⟨by omega, by omega⟩)
  by_cases h1269 : k < 269
  · exact List.all_eq_true.mp chk_266 k (List.mem_range'_1.mpr ⟨by omega, by omega⟩)
  by_cases h1271 : k < 271
  · exact List.all_eq_true.mp chk_269 k (List.mem_range'_1.mpr ⟨by omega, by omega⟩)
  by_cases h1274 : k < 274
  · exact List.all_eq_true.mp chk_271 k (List.mem_range'_1.mpr ⟨by omega, by omega⟩)
  by_cases h1278 : k < 278
  · exact List.all_eq_true.mp chk_274 k (List.mem_range'_1.mpr ⟨by omega, by omega⟩)
  by_cases h1280 : k < 280
  · exact List.all_eq_true.mp chk_278 k (List.mem_range'_1.mpr ⟨by omega, by omega⟩)
  by_cases h1283 : k < 283
  · exact List.all_eq_true.mp chk_280 k (List.mem_range'_1.mpr ⟨by omega, by omega⟩)
  by_cases h1285 : k < 285
  · exact List.all_eq_true.mp chk_283 k (List.mem_range'_1.mpr ⟨by omega, by omega⟩)
  by_cases h1286 : k < 286
  · exact List.all_eq_true.mp chk_285 k (List.mem_range'_1.mpr ⟨by omega, by omega⟩)
  by_cases h1289 : k < 289
  · exact List.all_eq_true.mp chk_286 k (List.mem_range'_1.mpr ⟨by omega, by omega⟩)
  by_cases h1292 : k < 292
  · exact List.all_eq_true.mp chk_289 k (List.mem_range'_1.mpr ⟨by omega, by omega⟩)
  by_cases h1296 : k < 296
  · exact List.all_eq_true.mp chk_292 k (List.mem_range'_1.mpr ⟨by omega, by omega⟩)
  by_cases h1306 : k < 306
  · exact List.all_eq_true.mp chk_296 k (List.mem_range'_1.mpr ⟨by omega, by omega⟩)
  by_cases h1316 : k < 316
  · exact List.all_eq_true.mp chk_306 k (List.mem_range'_1.mpr ⟨by omega, by omega⟩)
  by_cases h1326 : k < 326
  · exact List.all_eq_true.mp chk_316 k (List.mem_range'_1.mpr ⟨by omega, by omega⟩)
  by_cases h1331 : k < 331
  · exact List.all_eq_true.mp chk_326 k (List.mem_range'_1.mpr ⟨by omega, by omega⟩)
  exact List.all_eq_true.mp chk_331 k (List.mem_range'_1.mpr ⟨by omega, by omega⟩)
