theorem okq_150 : okQ r150 = true := by decide +kernel
set_option maxRecDepth 8000 in
theorem ok_150 : okQ (mget 150) = true ∧ okC (mget 150) := ⟨okq_150, memC_5 (i := 231) rfl⟩
theorem okq_151 : okQ r151 = true := by decide +kernel
set_option maxRecDepth 8000 in
theorem ok_151 : okQ (mget 151) = true ∧ okC (mget 151) := ⟨okq_151, memC_6 (i := 14) rfl⟩
theorem okq_152 : okQ r152 = true := by decide +kernel
set_option maxRecDepth 8000 in
theorem ok_152 : okQ (mget 152) = true ∧ okC (mget 152) := ⟨okq_152, memC_2 (i := 215) rfl⟩
theorem okq_153 : okQ r153 = true := by decide +kernel
set_option maxRecDepth 8000 in
theorem ok_153 : okQ (mget 153) = true ∧ okC (mget 153) := ⟨okq_153, memC_6 (i := 219) rfl⟩
theorem okq_154 : okQ r154 = true := by decide +kernel
set_option maxRecDepth 8000 in
theorem ok_154 : okQ (mget 154) = true ∧ okC (mget 154) := ⟨okq_154, memC_7 (i := 224) rfl⟩
theorem okq_155 : okQ r155 = true := by decide +kernel
set_option maxRecDepth 8000 in
theorem ok_155 : okQ (mget 155) = true ∧ okC (mget 155) := ⟨okq_155, memC_7 (i := 171) rfl⟩
theorem okq_156 : okQ r156 = true := by decide +kernel
set_option maxRecDepth 8000 in
theorem ok_156 : okQ (mget 156) = true ∧ okC (mget 156) := ⟨okq_156, memC_7 (i := 200) rfl⟩
theorem okq_157 : okQ r157 = true := by decide +kernel
set_option maxRecDepth 8000 in
theorem ok_157 : okQ (mget 157) = true ∧ okC (mget 157) := ⟨okq_157, memC_7 (i := 204) rfl⟩
theorem okq_158 : okQ r158 = true := by decide +kernel
set_option maxRecDepth 8000 in
theorem ok_158 : okQ (mget 158) = true ∧ okC (mget 158) := ⟨okq_158, memC_7 (i := 151) rfl⟩
theorem okq_159 : okQ r159 = true := by decide +kernel
set_option maxRecDepth 8000 in
theorem ok_159 : okQ (mget 159) = true ∧ okC (mget 159) := ⟨okq_159, memC_7 (i := 179) rfl⟩
theorem okq_160 : okQ r160 = true := by decide +kernel
set_option maxRecDepth 8000 in
theorem ok_160 : okQ (mget 160) = true ∧ okC (mget 160) := ⟨okq_160, memC_6 (i := 203) rfl⟩
theorem okq_161 : okQ r161 = true := by decide +kernel
set_option maxRecDepth 8000 in
theorem ok_161 : okQ (mget 161) = true ∧ okC (mget 161) := ⟨okq_161, memC_8 (i := 66) rfl⟩
theorem okq_162 : okQ r162 = true := by decide +kernel
set_option maxRecDepth 8000 in
theorem ok_162 : okQ (mget 162) = true ∧ okC (mget 162) := ⟨okq_162, memC_8 (i := 74) rfl⟩
theorem okq_163 : okQ r163 = true := by decide +kernel
set_option maxRecDepth 8000 in
theorem ok_163 : okQ (mget 163) = true ∧ okC (mget 163) := ⟨okq_163, memC_6 (i := 207) rfl⟩
theorem okq_164 : okQ r164 = true := by decide +kernel
set_option maxRecDepth 8000 in
theorem ok_164 : okQ (mget 164) = true ∧ okC (mget 164) := ⟨okq_164, memC_8 (i := 20) rfl⟩
theorem okq_165 : okQ r165 = true := by decide +kernel
set_option maxRecDepth 8000 in
theorem ok_165 : okQ (mget 165) = true ∧ okC (mget 165) := ⟨okq_165, memC_7 (i := 175) rfl⟩
theorem okq_166 : okQ r166 = true := by decide +kernel
set_option maxRecDepth 8000 in
theorem ok_166 : okQ (mget 166) = true ∧ okC (mget 166) := ⟨okq_166, memC_6 (i := 215) rfl⟩
theorem okq_167 : okQ r167 = true := by decide +kernel
set_option maxRecDepth 8000 in
theorem ok_167 : okQ (mget 167) = true ∧ okC (mget 167) := ⟨okq_167, memC_6 (i := 211) rfl⟩
theorem okq_168 : okQ r168 = true := by decide +kernel
set_option maxRecDepth 8000 in
theorem ok_168 : okQ (mget 168) = true ∧ okC (mget 168) := ⟨okq_168, memC_6 (i := 227) rfl⟩
theorem okq_169 : okQ r169 = true := by decide +kernel
set_option maxRecDepth 8000 in
theorem ok_169 : okQ (mget 169) = true ∧ okC (mget 169) := ⟨okq_169, memC_6 (i := 223) rfl⟩
theorem okq_170 : okQ r170 = true := by decide +kernel
set_option maxRecDepth 8000 in
theorem ok_170 : okQ (mget 170) = true ∧ okC (mget 170) := ⟨okq_170, memC_6 (i := 231) rfl⟩
theorem okq_171 : okQ r171 = true := by decide +kernel
set_option maxRecDepth 8000 in
theorem ok_171 : okQ (mget 171) = true ∧ okC (mget 171) := ⟨okq_171, memC_7 (i := 7) rfl⟩
theorem okq_172 : okQ r172 = true := by decide +kernel
set_option maxRecDepth 8000 in
theorem ok_172 : okQ (mget 172) = true ∧ okC (mget 172) := ⟨okq_172, memC_7 (i := 11) rfl⟩
theorem okq_173 : okQ r173 = true := by decide +kernel
set_option maxRecDepth 8000 in
theorem ok_173 : okQ (mget 173) = true ∧ okC (mget 173) := ⟨okq_173, memC_7 (i := 23) rfl⟩
theorem okq_174 : okQ r174 = true := by decide +kernel
set_option maxRecDepth 8000 in
theorem ok_174 : okQ (mget 174) = true ∧ okC (mget 174) := ⟨okq_174, memC_7 (i := 27) rfl⟩
theorem okq_175 : okQ r175 = true := by decide +kernel
set_option maxRecDepth 8000 in
theorem ok_175 : okQ (mget 175) = true ∧ okC (mget 175) := ⟨okq_175, memC_7 (i := 15) rfl⟩
theorem okq_176 : okQ r176 = true := by decide +kernel
set_option maxRecDepth 8000 in
theorem ok_176 : okQ (mget 176) = true ∧ okC (mget 176) := ⟨okq_176, memC_7 (i := 19) rfl⟩
theorem okq_177 : okQ r177 = true := by decide +kernel
set_option maxRecDepth 8000 in
theorem ok_177 : okQ (mget 177) = true ∧ okC (mget 177) := ⟨okq_177, memC_7 (i := 3) rfl⟩
theorem okq_178 : okQ r178 = true := by decide +kernel
set_option maxRecDepth 8000 in
theorem ok_178 : okQ (mget 178) = true ∧ okC (mget 178) := ⟨okq_178, memC_7 (i := 39) rfl⟩
theorem okq_179 : okQ r179 = true := by decide +kernel
set_option maxRecDepth 8000 in
theorem ok_179 : okQ (mget 179) = true ∧ okC (mget 179) := ⟨okq_179, memC_7 (i := 35) rfl⟩
theorem okq_180 : okQ r180 = true := by decide +kernel
set_option maxRecDepth 8000 in
theorem ok_180 : okQ (mget 180) = true ∧ okC (mget 180) := ⟨okq_180, memC_7 (i := 59) rfl⟩
theorem okq_181 : okQ r181 = true := by decide +kernel
set_option maxRecDepth 8000 in
theorem ok_181 : okQ (mget 181) = true ∧ okC (mget 181) := ⟨okq_181, memC_7 (i := 99) rfl⟩
theorem okq_182 : okQ r182 = true := by decide +kernel
set_option maxRecDepth 8000 in
theorem ok_182 : okQ (mget 182) = true ∧ okC (mget 182) := ⟨okq_182, memC_7 (i := 95) rfl⟩
theorem okq_183 : okQ r183 = true := by decide +kernel
set_option maxRecDepth 8000 in
theorem ok_183 : okQ (mget 183) = true ∧ okC (mget 183) := ⟨okq_183, memC_7 (i := 91) rfl⟩
theorem okq_184 : okQ r184 = true := by decide +kernel
set_option maxRecDepth 8000 in
theorem ok_184 : okQ (mget 184) = true ∧ okC (mget 184) := ⟨okq_184, memC_7 (i := 87) rfl⟩
theorem okq_185 : okQ r185 = true := by decide +kernel
set_option maxRecDepth 8000 in
theorem ok_185 : okQ (mget 185) = true ∧ okC (mget 185) := ⟨okq_185, memC_7 (i := 83) rfl⟩
theorem okq_186 : okQ r186 = true := by decide +kernel
set_option maxRecDepth 8000 in
theorem ok_186 : okQ (mget 186) = true ∧ okC (mget 186) := ⟨okq_186, memC_7 (i := 111) rfl⟩
theorem okq_187 : okQ r187 = true := by decide +kernel
set_option maxRecDepth 8000 in
theorem ok_187 : okQ (mget 187) = true ∧ okC (mget 187) := ⟨okq_187, memC_7 (i := 107) rfl⟩
theorem okq_188 : okQ r188 = true := by decide +kernel
set_option maxRecDepth 8000 in
theorem ok_188 : okQ (mget 188) = true ∧ okC (mget 188) := ⟨okq_188, memC_7 (i := 115) rfl⟩
theorem okq_189 : okQ r189 = true := by decide +kernel
set_option maxRecDepth 8000 in
theorem ok_189 : okQ (mget 189) = true ∧ okC (mget 189) := ⟨okq_189, memC_7 (i := 103) rfl⟩
theorem okq_190 : okQ r190 = true := by decide +kernel
set_option maxRecDepth 8000 in
theorem ok_190 : okQ (mget 190) = true ∧ okC (mget 190) := ⟨okq_190, memC_7 (i := 79) rfl⟩
theorem okq_191 : okQ r191 = true := by decide +kernel
set_option maxRecDepth 8000 in
theorem ok_191 : okQ (mget 191) = true ∧ okC (mget 191) := ⟨okq_191, memC_7 (i := 75) rfl⟩
theorem okq_192 : okQ r192 = true := by decide +kernel
set_option maxRecDepth 8000 in
theorem ok_192 : okQ (mget 192) = true ∧ okC (mget 192) := ⟨okq_192, memC_7 (i := 119) rfl⟩
theorem okq_193 : okQ r193 = true := by decide +kernel
set_option maxRecDepth 8000 in
theorem ok_193 : okQ (mget 193) = true ∧ okC (mget 193) := ⟨okq_193, memC_7 (i := 47) rfl⟩
theorem okq_194 : okQ r194 = true := by decide +kernel
set_option maxRecDepth 8000 in
theorem ok_194 : okQ (mget 194) = true ∧ okC (mget 194) := ⟨okq_194, memC_7 (i := 55) rfl⟩
theorem okq_195 : okQ r195 = true := by decide +kernel
set_option maxRecDepth 8000 in
theorem ok_195 : okQ (mget 195) = true ∧ okC (mget 195) := ⟨okq_195, memC_7 (i := 43) rfl⟩
theorem okq_196 : okQ r196 = true := by decide +kernel
set_option maxRecDepth 8000 in
theorem ok_196 : okQ (mget 196) = true ∧ okC (mget 196) := ⟨okq_196, memC_7 (i := 51) rfl⟩
theorem okq_197 : okQ r197 = true := by decide +kernel
set_option maxRecDepth 8000 in
theorem ok_197 : okQ (mget 197) = true ∧ okC (mget 197) := ⟨okq_197, memC_7 (i := 31) rfl⟩
theorem okq_198 : okQ r198 = true := by decide +kernel
set_option maxRecDepth 8000 in
theorem ok_198 : okQ (mget 198) = true ∧ okC (mget 198) := ⟨okq_198, memC_7 (i := 63) rfl⟩
theorem okq_199 : okQ r199 = true := by decide +kernel
set_option maxRecDepth 8000 in
theorem ok_199 : okQ (mget 199) = true ∧ okC (mget 199) := ⟨okq_199, memC_7 (i := 71) rfl⟩
