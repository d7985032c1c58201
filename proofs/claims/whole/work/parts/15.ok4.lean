theorem okq_200 : okQ r200 = true := by decide +kernel
set_option maxRecDepth 8000 in
theorem ok_200 : okQ (mget 200) = true ∧ okC (mget 200) := ⟨okq_200, memC_7 (i := 67) rfl⟩
theorem okq_201 : okQ r201 = true := by decide +kernel
set_option maxRecDepth 8000 in
theorem ok_201 : okQ (mget 201) = true ∧ okC (mget 201) := ⟨okq_201, memC_6 (i := 239) rfl⟩
theorem okq_202 : okQ r202 = true := by decide +kernel
set_option maxRecDepth 8000 in
theorem ok_202 : okQ (mget 202) = true ∧ okC (mget 202) := ⟨okq_202, memC_7 (i := 127) rfl⟩
theorem okq_203 : okQ r203 = true := by decide +kernel
set_option maxRecDepth 8000 in
theorem ok_203 : okQ (mget 203) = true ∧ okC (mget 203) := ⟨okq_203, memC_7 (i := 123) rfl⟩
theorem okq_204 : okQ r204 = true := by decide +kernel
set_option maxRecDepth 8000 in
theorem ok_204 : okQ (mget 204) = true ∧ okC (mget 204) := ⟨okq_204, memC_6 (i := 235) rfl⟩
theorem okq_205 : okQ r205 = true := by decide +kernel
set_option maxRecDepth 8000 in
theorem ok_205 : okQ (mget 205) = true ∧ okC (mget 205) := ⟨okq_205, memC_7 (i := 131) rfl⟩
theorem okq_206 : okQ r206 = true := by decide +kernel
set_option maxRecDepth 8000 in
theorem ok_206 : okQ (mget 206) = true ∧ okC (mget 206) := ⟨okq_206, memC_7 (i := 220) rfl⟩
theorem okq_207 : okQ r207 = true := by decide +kernel
set_option maxRecDepth 8000 in
theorem ok_207 : okQ (mget 207) = true ∧ okC (mget 207) := ⟨okq_207, memC_7 (i := 216) rfl⟩
theorem okq_208 : okQ r208 = true := by decide +kernel
set_option maxRecDepth 8000 in
theorem ok_208 : okQ (mget 208) = true ∧ okC (mget 208) := ⟨okq_208, memC_7 (i := 212) rfl⟩
theorem okq_209 : okQ r209 = true := by decide +kernel
set_option maxRecDepth 8000 in
theorem ok_209 : okQ (mget 209) = true ∧ okC (mget 209) := ⟨okq_209, memC_7 (i := 155) rfl⟩
theorem okq_210 : okQ r210 = true := by decide +kernel
set_option maxRecDepth 8000 in
theorem ok_210 : okQ (mget 210) = true ∧ okC (mget 210) := ⟨okq_210, memC_7 (i := 167) rfl⟩
theorem okq_211 : okQ r211 = true := by decide +kernel
set_option maxRecDepth 8000 in
theorem ok_211 : okQ (mget 211) = true ∧ okC (mget 211) := ⟨okq_211, memC_7 (i := 163) rfl⟩
theorem okq_212 : okQ r212 = true := by decide +kernel
set_option maxRecDepth 8000 in
theorem ok_212 : okQ (mget 212) = true ∧ okC (mget 212) := ⟨okq_212, memC_7 (i := 159) rfl⟩
theorem okq_213 : okQ r213 = true := by decide +kernel
set_option maxRecDepth 8000 in
theorem ok_213 : okQ (mget 213) = true ∧ okC (mget 213) := ⟨okq_213, memC_7 (i := 187) rfl⟩
theorem okq_214 : okQ r214 = true := by decide +kernel
set_option maxRecDepth 8000 in
theorem ok_214 : okQ (mget 214) = true ∧ okC (mget 214) := ⟨okq_214, memC_7 (i := 147) rfl⟩
theorem okq_215 : okQ r215 = true := by decide +kernel
set_option maxRecDepth 8000 in
theorem ok_215 : okQ (mget 215) = true ∧ okC (mget 215) := ⟨okq_215, memC_7 (i := 195) rfl⟩
theorem okq_216 : okQ r216 = true := by decide +kernel
set_option maxRecDepth 8000 in
theorem ok_216 : okQ (mget 216) = true ∧ okC (mget 216) := ⟨okq_216, memC_7 (i := 208) rfl⟩
theorem okq_217 : okQ r217 = true := by decide +kernel
set_option maxRecDepth 8000 in
theorem ok_217 : okQ (mget 217) = true ∧ okC (mget 217) := ⟨okq_217, memC_8 (i := 12) rfl⟩
theorem okq_218 : okQ r218 = true := by decide +kernel
set_option maxRecDepth 8000 in
theorem ok_218 : okQ (mget 218) = true ∧ okC (mget 218) := ⟨okq_218, memC_7 (i := 191) rfl⟩
theorem okq_219 : okQ r219 = true := by decide +kernel
set_option maxRecDepth 8000 in
theorem ok_219 : okQ (mget 219) = true ∧ okC (mget 219) := ⟨okq_219, memC_8 (i := 30) rfl⟩
theorem okq_220 : okQ r220 = true := by decide +kernel
set_option maxRecDepth 8000 in
theorem ok_220 : okQ (mget 220) = true ∧ okC (mget 220) := ⟨okq_220, memC_7 (i := 228) rfl⟩
theorem okq_221 : okQ r221 = true := by decide +kernel
set_option maxRecDepth 8000 in
theorem ok_221 : okQ (mget 221) = true ∧ okC (mget 221) := ⟨okq_221, memC_7 (i := 183) rfl⟩
theorem okq_222 : okQ r222 = true := by decide +kernel
set_option maxRecDepth 8000 in
theorem ok_222 : okQ (mget 222) = true ∧ okC (mget 222) := ⟨okq_222, memC_7 (i := 232) rfl⟩
theorem okq_223 : okQ r223 = true := by decide +kernel
set_option maxRecDepth 8000 in
theorem ok_223 : okQ (mget 223) = true ∧ okC (mget 223) := ⟨okq_223, memC_7 (i := 143) rfl⟩
theorem okq_224 : okQ r224 = true := by decide +kernel
set_option maxRecDepth 8000 in
theorem ok_224 : okQ (mget 224) = true ∧ okC (mget 224) := ⟨okq_224, memC_7 (i := 139) rfl⟩
theorem okq_225 : okQ r225 = true := by decide +kernel
set_option maxRecDepth 8000 in
theorem ok_225 : okQ (mget 225) = true ∧ okC (mget 225) := ⟨okq_225, memC_7 (i := 135) rfl⟩
theorem okq_226 : okQ r226 = true := by decide +kernel
set_option maxRecDepth 8000 in
theorem ok_226 : okQ (mget 226) = true ∧ okC (mget 226) := ⟨okq_226, memC_8 (i := 16) rfl⟩
theorem okq_227 : okQ r227 = true := by decide +kernel
set_option maxRecDepth 8000 in
theorem ok_227 : okQ (mget 227) = true ∧ okC (mget 227) := ⟨okq_227, memC_8 (i := 4) rfl⟩
theorem okq_228 : okQ r228 = true := by decide +kernel
set_option maxRecDepth 8000 in
theorem ok_228 : okQ (mget 228) = true ∧ okC (mget 228) := ⟨okq_228, memC_8 (i := 8) rfl⟩
theorem okq_229 : okQ r229 = true := by decide +kernel
set_option maxRecDepth 8000 in
theorem ok_229 : okQ (mget 229) = true ∧ okC (mget 229) := ⟨okq_229, memC_8 (i := 26) rfl⟩
theorem okq_230 : okQ r230 = true := by decide +kernel
set_option maxRecDepth 8000 in
theorem ok_230 : okQ (mget 230) = true ∧ okC (mget 230) := ⟨okq_230, memC_8 (i := 0) rfl⟩
theorem okq_231 : okQ r231 = true := by decide +kernel
set_option maxRecDepth 8000 in
theorem ok_231 : okQ (mget 231) = true ∧ okC (mget 231) := ⟨okq_231, memC_7 (i := 236) rfl⟩
theorem okq_232 : okQ r232 = true := by decide +kernel
set_option maxRecDepth 8000 in
theorem ok_232 : okQ (mget 232) = true ∧ okC (mget 232) := ⟨okq_232, memC_8 (i := 38) rfl⟩
theorem okq_233 : okQ r233 = true := by decide +kernel
set_option maxRecDepth 8000 in
theorem ok_233 : okQ (mget 233) = true ∧ okC (mget 233) := ⟨okq_233, memC_8 (i := 42) rfl⟩
theorem okq_234 : okQ r234 = true := by decide +kernel
set_option maxRecDepth 8000 in
theorem ok_234 : okQ (mget 234) = true ∧ okC (mget 234) := ⟨okq_234, memC_8 (i := 34) rfl⟩
theorem okq_235 : okQ r235 = true := by decide +kernel
set_option maxRecDepth 8000 in
theorem ok_235 : okQ (mget 235) = true ∧ okC (mget 235) := ⟨okq_235, memC_8 (i := 50) rfl⟩
theorem okq_236 : okQ r236 = true := by decide +kernel
set_option maxRecDepth 8000 in
theorem ok_236 : okQ (mget 236) = true ∧ okC (mget 236) := ⟨okq_236, memC_8 (i := 46) rfl⟩
theorem okq_237 : okQ r237 = true := by decide +kernel
set_option maxRecDepth 8000 in
theorem ok_237 : okQ (mget 237) = true ∧ okC (mget 237) := ⟨okq_237, memC_8 (i := 54) rfl⟩
theorem okq_238 : okQ r238 = true := by decide +kernel
set_option maxRecDepth 8000 in
theorem ok_238 : okQ (mget 238) = true ∧ okC (mget 238) := ⟨okq_238, memC_8 (i := 58) rfl⟩
theorem okq_239 : okQ r239 = true := by decide +kernel
set_option maxRecDepth 8000 in
theorem ok_239 : okQ (mget 239) = true ∧ okC (mget 239) := ⟨okq_239, memC_8 (i := 70) rfl⟩
theorem okq_240 : okQ r240 = true := by decide +kernel
set_option maxRecDepth 8000 in
theorem ok_240 : okQ (mget 240) = true ∧ okC (mget 240) := ⟨okq_240, memC_8 (i := 62) rfl⟩
theorem okq_241 : okQ r241 = true := by decide +kernel
set_option maxRecDepth 8000 in
theorem ok_241 : okQ (mget 241) = true ∧ okC (mget 241) := ⟨okq_241, memC_8 (i := 78) rfl⟩
theorem okq_242 : okQ r242 = true := by decide +kernel
set_option maxRecDepth 8000 in
theorem ok_242 : okQ (mget 242) = true ∧ okC (mget 242) := ⟨okq_242, memC_8 (i := 82) rfl⟩
theorem okq_243 : okQ r243 = true := by decide +kernel
set_option maxRecDepth 8000 in
theorem ok_243 : okQ (mget 243) = true ∧ okC (mget 243) := ⟨okq_243, memC_8 (i := 86) rfl⟩
theorem okq_244 : okQ r244 = true := by decide +kernel
set_option maxRecDepth 8000 in
theorem ok_244 : okQ (mget 244) = true ∧ okC (mget 244) := ⟨okq_244, memC_8 (i := 94) rfl⟩
theorem okq_245 : okQ r245 = true := by decide +kernel
set_option maxRecDepth 8000 in
theorem ok_245 : okQ (mget 245) = true ∧ okC (mget 245) := ⟨okq_245, memC_8 (i := 90) rfl⟩
theorem okq_246 : okQ r246 = true := by decide +kernel
set_option maxRecDepth 8000 in
theorem ok_246 : okQ (mget 246) = true ∧ okC (mget 246) := ⟨okq_246, memC_8 (i := 98) rfl⟩
theorem okq_247 : okQ r247 = true := by decide +kernel
set_option maxRecDepth 8000 in
theorem ok_247 : okQ (mget 247) = true ∧ okC (mget 247) := ⟨okq_247, memC_8 (i := 102) rfl⟩
theorem okq_248 : okQ r248 = true := by decide +kernel
set_option maxRecDepth 8000 in
theorem ok_248 : okQ (mget 248) = true ∧ okC (mget 248) := ⟨okq_248, memC_8 (i := 110) rfl⟩
theorem okq_249 : okQ r249 = true := by decide +kernel
set_option maxRecDepth 8000 in
theorem ok_249 : okQ (mget 249) = true ∧ okC (mget 249) := ⟨okq_249, memC_8 (i := 106) rfl⟩
