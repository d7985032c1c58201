theorem okq_250 : okQ r250 = true := by decide +kernel
set_option maxRecDepth 8000 in
theorem ok_250 : okQ (mget 250) = true ∧ okC (mget 250) := ⟨okq_250, memC_8 (i := 122) rfl⟩
theorem okq_251 : okQ r251 = true := by decide +kernel
set_option maxRecDepth 8000 in
theorem ok_251 : okQ (mget 251) = true ∧ okC (mget 251) := ⟨okq_251, memC_8 (i := 118) rfl⟩
theorem okq_252 : okQ r252 = true := by decide +kernel
set_option maxRecDepth 8000 in
theorem ok_252 : okQ (mget 252) = true ∧ okC (mget 252) := ⟨okq_252, memC_8 (i := 114) rfl⟩
theorem okq_253 : okQ r253 = true := by decide +kernel
set_option maxRecDepth 8000 in
theorem ok_253 : okQ (mget 253) = true ∧ okC (mget 253) := ⟨okq_253, memC_8 (i := 126) rfl⟩
theorem okq_254 : okQ r254 = true := by decide +kernel
set_option maxRecDepth 8000 in
theorem ok_254 : okQ (mget 254) = true ∧ okC (mget 254) := ⟨okq_254, memC_8 (i := 138) rfl⟩
theorem okq_255 : okQ r255 = true := by decide +kernel
set_option maxRecDepth 8000 in
theorem ok_255 : okQ (mget 255) = true ∧ okC (mget 255) := ⟨okq_255, memC_8 (i := 134) rfl⟩
theorem okq_256 : okQ r256 = true := by decide +kernel
set_option maxRecDepth 8000 in
theorem ok_256 : okQ (mget 256) = true ∧ okC (mget 256) := ⟨okq_256, memC_8 (i := 142) rfl⟩
theorem okq_257 : okQ r257 = true := by decide +kernel
set_option maxRecDepth 8000 in
theorem ok_257 : okQ (mget 257) = true ∧ okC (mget 257) := ⟨okq_257, memC_8 (i := 150) rfl⟩
theorem okq_258 : okQ r258 = true := by decide +kernel
set_option maxRecDepth 8000 in
theorem ok_258 : okQ (mget 258) = true ∧ okC (mget 258) := ⟨okq_258, memC_8 (i := 146) rfl⟩
theorem okq_259 : okQ r259 = true := by decide +kernel
set_option maxRecDepth 8000 in
theorem ok_259 : okQ (mget 259) = true ∧ okC (mget 259) := ⟨okq_259, memC_8 (i := 162) rfl⟩
theorem okq_260 : okQ r260 = true := by decide +kernel
set_option maxRecDepth 8000 in
theorem ok_260 : okQ (mget 260) = true ∧ okC (mget 260) := ⟨okq_260, memC_8 (i := 158) rfl⟩
theorem okq_261 : okQ r261 = true := by decide +kernel
set_option maxRecDepth 8000 in
theorem ok_261 : okQ (mget 261) = true ∧ okC (mget 261) := ⟨okq_261, memC_8 (i := 154) rfl⟩
theorem okq_262 : okQ r262 = true := by decide +kernel
set_option maxRecDepth 8000 in
theorem ok_262 : okQ (mget 262) = true ∧ okC (mget 262) := ⟨okq_262, memC_8 (i := 130) rfl⟩
theorem okq_263 : okQ r263 = true := by decide +kernel
set_option maxRecDepth 8000 in
theorem ok_263 : okQ (mget 263) = true ∧ okC (mget 263) := ⟨okq_263, memC_8 (i := 174) rfl⟩
theorem okq_264 : okQ r264 = true := by decide +kernel
set_option maxRecDepth 8000 in
theorem ok_264 : okQ (mget 264) = true ∧ okC (mget 264) := ⟨okq_264, memC_8 (i := 170) rfl⟩
theorem okq_265 : okQ r265 = true := by decide +kernel
set_option maxRecDepth 8000 in
theorem ok_265 : okQ (mget 265) = true ∧ okC (mget 265) := ⟨okq_265, memC_8 (i := 182) rfl⟩
theorem okq_266 : okQ r266 = true := by decide +kernel
set_option maxRecDepth 8000 in
theorem ok_266 : okQ (mget 266) = true ∧ okC (mget 266) := ⟨okq_266, memC_8 (i := 178) rfl⟩
theorem okq_267 : okQ r267 = true := by decide +kernel
set_option maxRecDepth 8000 in
theorem ok_267 : okQ (mget 267) = true ∧ okC (mget 267) := ⟨okq_267, memC_8 (i := 166) rfl⟩
theorem okq_268 : okQ r268 = true := by decide +kernel
set_option maxRecDepth 8000 in
theorem ok_268 : okQ (mget 268) = true ∧ okC (mget 268) := ⟨okq_268, memC_8 (i := 191) rfl⟩
theorem okq_269 : okQ r269 = true := by decide +kernel
set_option maxRecDepth 8000 in
theorem ok_269 : okQ (mget 269) = true ∧ okC (mget 269) := ⟨okq_269, memC_8 (i := 186) rfl⟩
theorem okq_270 : okQ r270 = true := by decide +kernel
set_option maxRecDepth 8000 in
theorem ok_270 : okQ (mget 270) = true ∧ okC (mget 270) := ⟨okq_270, memC_8 (i := 199) rfl⟩
theorem okq_271 : okQ r271 = true := by decide +kernel
set_option maxRecDepth 8000 in
theorem ok_271 : okQ (mget 271) = true ∧ okC (mget 271) := ⟨okq_271, memC_8 (i := 195) rfl⟩
theorem okq_272 : okQ r272 = true := by decide +kernel
set_option maxRecDepth 8000 in
theorem ok_272 : okQ (mget 272) = true ∧ okC (mget 272) := ⟨okq_272, memC_8 (i := 207) rfl⟩
theorem okq_273 : okQ r273 = true := by decide +kernel
set_option maxRecDepth 8000 in
theorem ok_273 : okQ (mget 273) = true ∧ okC (mget 273) := ⟨okq_273, memC_8 (i := 203) rfl⟩
theorem okq_274 : okQ r274 = true := by decide +kernel
set_option maxRecDepth 8000 in
theorem ok_274 : okQ (mget 274) = true ∧ okC (mget 274) := ⟨okq_274, memC_8 (i := 211) rfl⟩
theorem okq_275 : okQ r275 = true := by decide +kernel
set_option maxRecDepth 8000 in
theorem ok_275 : okQ (mget 275) = true ∧ okC (mget 275) := ⟨okq_275, memC_8 (i := 219) rfl⟩
theorem okq_276 : okQ r276 = true := by decide +kernel
set_option maxRecDepth 8000 in
theorem ok_276 : okQ (mget 276) = true ∧ okC (mget 276) := ⟨okq_276, memC_8 (i := 215) rfl⟩
theorem okq_277 : okQ r277 = true := by decide +kernel
set_option maxRecDepth 8000 in
theorem ok_277 : okQ (mget 277) = true ∧ okC (mget 277) := ⟨okq_277, memC_8 (i := 227) rfl⟩
theorem okq_278 : okQ r278 = true := by decide +kernel
set_option maxRecDepth 8000 in
theorem ok_278 : okQ (mget 278) = true ∧ okC (mget 278) := ⟨okq_278, memC_8 (i := 231) rfl⟩
theorem okq_279 : okQ r279 = true := by decide +kernel
set_option maxRecDepth 8000 in
theorem ok_279 : okQ (mget 279) = true ∧ okC (mget 279) := ⟨okq_279, memC_8 (i := 223) rfl⟩
theorem okq_280 : okQ r280 = true := by decide +kernel
set_option maxRecDepth 8000 in
theorem ok_280 : okQ (mget 280) = true ∧ okC (mget 280) := ⟨okq_280, memC_8 (i := 239) rfl⟩
theorem okq_281 : okQ r281 = true := by decide +kernel
set_option maxRecDepth 8000 in
theorem ok_281 : okQ (mget 281) = true ∧ okC (mget 281) := ⟨okq_281, memC_9 (i := 7) rfl⟩
theorem okq_282 : okQ r282 = true := by decide +kernel
set_option maxRecDepth 8000 in
theorem ok_282 : okQ (mget 282) = true ∧ okC (mget 282) := ⟨okq_282, memC_9 (i := 3) rfl⟩
theorem okq_283 : okQ r283 = true := by decide +kernel
set_option maxRecDepth 8000 in
theorem ok_283 : okQ (mget 283) = true ∧ okC (mget 283) := ⟨okq_283, memC_8 (i := 235) rfl⟩
theorem okq_284 : okQ r284 = true := by decide +kernel
set_option maxRecDepth 8000 in
theorem ok_284 : okQ (mget 284) = true ∧ okC (mget 284) := ⟨okq_284, memC_9 (i := 11) rfl⟩
theorem okq_285 : okQ r285 = true := by decide +kernel
set_option maxRecDepth 8000 in
theorem ok_285 : okQ (mget 285) = true ∧ okC (mget 285) := ⟨okq_285, memC_3 (i := 48) rfl⟩
theorem okq_286 : okQ r286 = true := by decide +kernel
set_option maxRecDepth 8000 in
theorem ok_286 : okQ (mget 286) = true ∧ okC (mget 286) := ⟨okq_286, memC_3 (i := 172) rfl⟩
theorem okq_287 : okQ r287 = true := by decide +kernel
set_option maxRecDepth 8000 in
theorem ok_287 : okQ (mget 287) = true ∧ okC (mget 287) := ⟨okq_287, memC_3 (i := 182) rfl⟩
theorem okq_288 : okQ r288 = true := by decide +kernel
set_option maxRecDepth 8000 in
theorem ok_288 : okQ (mget 288) = true ∧ okC (mget 288) := ⟨okq_288, memC_3 (i := 225) rfl⟩
theorem okq_289 : okQ r289 = true := by decide +kernel
set_option maxRecDepth 8000 in
theorem ok_289 : okQ (mget 289) = true ∧ okC (mget 289) := ⟨okq_289, memC_3 (i := 229) rfl⟩
theorem okq_290 : okQ r290 = true := by decide +kernel
set_option maxRecDepth 8000 in
theorem ok_290 : okQ (mget 290) = true ∧ okC (mget 290) := ⟨okq_290, memC_3 (i := 176) rfl⟩
theorem okq_291 : okQ r291 = true := by decide +kernel
set_option maxRecDepth 8000 in
theorem ok_291 : okQ (mget 291) = true ∧ okC (mget 291) := ⟨okq_291, memC_3 (i := 186) rfl⟩
theorem okq_292 : okQ r292 = true := by decide +kernel
set_option maxRecDepth 8000 in
theorem ok_292 : okQ (mget 292) = true ∧ okC (mget 292) := ⟨okq_292, memC_3 (i := 192) rfl⟩
theorem okq_293 : okQ r293 = true := by decide +kernel
set_option maxRecDepth 8000 in
theorem ok_293 : okQ (mget 293) = true ∧ okC (mget 293) := ⟨okq_293, memC_3 (i := 189) rfl⟩
theorem okq_294 : okQ r294 = true := by decide +kernel
set_option maxRecDepth 8000 in
theorem ok_294 : okQ (mget 294) = true ∧ okC (mget 294) := ⟨okq_294, memC_3 (i := 236) rfl⟩
theorem okq_295 : okQ r295 = true := by decide +kernel
set_option maxRecDepth 8000 in
theorem ok_295 : okQ (mget 295) = true ∧ okC (mget 295) := ⟨okq_295, memC_3 (i := 233) rfl⟩
theorem okq_296 : okQ r296 = true := by decide +kernel
set_option maxRecDepth 8000 in
theorem ok_296 : okQ (mget 296) = true ∧ okC (mget 296) := ⟨okq_296, memC_4 (i := 1) rfl⟩
theorem okq_297 : okQ r297 = true := by decide +kernel
set_option maxRecDepth 8000 in
theorem ok_297 : okQ (mget 297) = true ∧ okC (mget 297) := ⟨okq_297, memC_3 (i := 197) rfl⟩
