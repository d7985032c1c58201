theorem okq_100 : okQ r100 = true := by decide +kernel
set_option maxRecDepth 8000 in
theorem ok_100 : okQ (mget 100) = true ∧ okC (mget 100) := ⟨okq_100, memC_4 (i := 144) rfl⟩
theorem okq_101 : okQ r101 = true := by decide +kernel
set_option maxRecDepth 8000 in
theorem ok_101 : okQ (mget 101) = true ∧ okC (mget 101) := ⟨okq_101, memC_4 (i := 119) rfl⟩
theorem okq_102 : okQ r102 = true := by decide +kernel
set_option maxRecDepth 8000 in
theorem ok_102 : okQ (mget 102) = true ∧ okC (mget 102) := ⟨okq_102, memC_4 (i := 126) rfl⟩
theorem okq_103 : okQ r103 = true := by decide +kernel
set_option maxRecDepth 8000 in
theorem ok_103 : okQ (mget 103) = true ∧ okC (mget 103) := ⟨okq_103, memC_2 (i := 227) rfl⟩
theorem okq_104 : okQ r104 = true := by decide +kernel
set_option maxRecDepth 8000 in
theorem ok_104 : okQ (mget 104) = true ∧ okC (mget 104) := ⟨okq_104, memC_3 (i := 18) rfl⟩
theorem okq_105 : okQ r105 = true := by decide +kernel
set_option maxRecDepth 8000 in
theorem ok_105 : okQ (mget 105) = true ∧ okC (mget 105) := ⟨okq_105, memC_4 (i := 181) rfl⟩
theorem okq_106 : okQ r106 = true := by decide +kernel
set_option maxRecDepth 8000 in
theorem ok_106 : okQ (mget 106) = true ∧ okC (mget 106) := ⟨okq_106, memC_5 (i := 204) rfl⟩
theorem okq_107 : okQ r107 = true := by decide +kernel
set_option maxRecDepth 8000 in
theorem ok_107 : okQ (mget 107) = true ∧ okC (mget 107) := ⟨okq_107, memC_5 (i := 219) rfl⟩
theorem okq_108 : okQ r108 = true := by decide +kernel
set_option maxRecDepth 8000 in
theorem ok_108 : okQ (mget 108) = true ∧ okC (mget 108) := ⟨okq_108, memC_5 (i := 208) rfl⟩
theorem okq_109 : okQ r109 = true := by decide +kernel
set_option maxRecDepth 8000 in
theorem ok_109 : okQ (mget 109) = true ∧ okC (mget 109) := ⟨okq_109, memC_5 (i := 216) rfl⟩
theorem okq_110 : okQ r110 = true := by decide +kernel
set_option maxRecDepth 8000 in
theorem ok_110 : okQ (mget 110) = true ∧ okC (mget 110) := ⟨okq_110, memC_5 (i := 212) rfl⟩
theorem okq_111 : okQ r111 = true := by decide +kernel
set_option maxRecDepth 8000 in
theorem ok_111 : okQ (mget 111) = true ∧ okC (mget 111) := ⟨okq_111, memC_2 (i := 204) rfl⟩
theorem okq_112 : okQ r112 = true := by decide +kernel
set_option maxRecDepth 8000 in
theorem ok_112 : okQ (mget 112) = true ∧ okC (mget 112) := ⟨okq_112, memC_2 (i := 212) rfl⟩
theorem okq_113 : okQ r113 = true := by decide +kernel
set_option maxRecDepth 8000 in
theorem ok_113 : okQ (mget 113) = true ∧ okC (mget 113) := ⟨okq_113, memC_2 (i := 219) rfl⟩
theorem okq_114 : okQ r114 = true := by decide +kernel
set_option maxRecDepth 8000 in
theorem ok_114 : okQ (mget 114) = true ∧ okC (mget 114) := ⟨okq_114, memC_2 (i := 223) rfl⟩
theorem okq_115 : okQ r115 = true := by decide +kernel
set_option maxRecDepth 8000 in
theorem ok_115 : okQ (mget 115) = true ∧ okC (mget 115) := ⟨okq_115, memC_3 (i := 84) rfl⟩
theorem okq_116 : okQ r116 = true := by decide +kernel
set_option maxRecDepth 8000 in
theorem ok_116 : okQ (mget 116) = true ∧ okC (mget 116) := ⟨okq_116, memC_3 (i := 116) rfl⟩
theorem okq_117 : okQ r117 = true := by decide +kernel
set_option maxRecDepth 8000 in
theorem ok_117 : okQ (mget 117) = true ∧ okC (mget 117) := ⟨okq_117, memC_3 (i := 129) rfl⟩
theorem okq_118 : okQ r118 = true := by decide +kernel
set_option maxRecDepth 8000 in
theorem ok_118 : okQ (mget 118) = true ∧ okC (mget 118) := ⟨okq_118, memC_3 (i := 133) rfl⟩
theorem okq_119 : okQ r119 = true := by decide +kernel
set_option maxRecDepth 8000 in
theorem ok_119 : okQ (mget 119) = true ∧ okC (mget 119) := ⟨okq_119, memC_4 (i := 173) rfl⟩
theorem okq_120 : okQ r120 = true := by decide +kernel
set_option maxRecDepth 8000 in
theorem ok_120 : okQ (mget 120) = true ∧ okC (mget 120) := ⟨okq_120, memC_4 (i := 177) rfl⟩
theorem okq_121 : okQ r121 = true := by decide +kernel
set_option maxRecDepth 8000 in
theorem ok_121 : okQ (mget 121) = true ∧ okC (mget 121) := ⟨okq_121, memC_4 (i := 187) rfl⟩
theorem okq_122 : okQ r122 = true := by decide +kernel
set_option maxRecDepth 8000 in
theorem ok_122 : okQ (mget 122) = true ∧ okC (mget 122) := ⟨okq_122, memC_4 (i := 199) rfl⟩
theorem okq_123 : okQ r123 = true := by decide +kernel
set_option maxRecDepth 8000 in
theorem ok_123 : okQ (mget 123) = true ∧ okC (mget 123) := ⟨okq_123, memC_4 (i := 194) rfl⟩
theorem okq_124 : okQ r124 = true := by decide +kernel
set_option maxRecDepth 8000 in
theorem ok_124 : okQ (mget 124) = true ∧ okC (mget 124) := ⟨okq_124, memC_4 (i := 203) rfl⟩
theorem okq_125 : okQ r125 = true := by decide +kernel
set_option maxRecDepth 8000 in
theorem ok_125 : okQ (mget 125) = true ∧ okC (mget 125) := ⟨okq_125, memC_4 (i := 207) rfl⟩
theorem okq_126 : okQ r126 = true := by decide +kernel
set_option maxRecDepth 8000 in
theorem ok_126 : okQ (mget 126) = true ∧ okC (mget 126) := ⟨okq_126, memC_4 (i := 220) rfl⟩
theorem okq_127 : okQ r127 = true := by decide +kernel
set_option maxRecDepth 8000 in
theorem ok_127 : okQ (mget 127) = true ∧ okC (mget 127) := ⟨okq_127, memC_4 (i := 224) rfl⟩
theorem okq_128 : okQ r128 = true := by decide +kernel
set_option maxRecDepth 8000 in
theorem ok_128 : okQ (mget 128) = true ∧ okC (mget 128) := ⟨okq_128, memC_4 (i := 228) rfl⟩
theorem okq_129 : okQ r129 = true := by decide +kernel
set_option maxRecDepth 8000 in
theorem ok_129 : okQ (mget 129) = true ∧ okC (mget 129) := ⟨okq_129, memC_4 (i := 236) rfl⟩
theorem okq_130 : okQ r130 = true := by decide +kernel
set_option maxRecDepth 8000 in
theorem ok_130 : okQ (mget 130) = true ∧ okC (mget 130) := ⟨okq_130, memC_5 (i := 12) rfl⟩
theorem okq_131 : okQ r131 = true := by decide +kernel
set_option maxRecDepth 8000 in
theorem ok_131 : okQ (mget 131) = true ∧ okC (mget 131) := ⟨okq_131, memC_5 (i := 20) rfl⟩
theorem okq_132 : okQ r132 = true := by decide +kernel
set_option maxRecDepth 8000 in
theorem ok_132 : okQ (mget 132) = true ∧ okC (mget 132) := ⟨okq_132, memC_5 (i := 28) rfl⟩
theorem okq_133 : okQ r133 = true := by decide +kernel
set_option maxRecDepth 8000 in
theorem ok_133 : okQ (mget 133) = true ∧ okC (mget 133) := ⟨okq_133, memC_5 (i := 40) rfl⟩
theorem okq_134 : okQ r134 = true := by decide +kernel
set_option maxRecDepth 8000 in
theorem ok_134 : okQ (mget 134) = true ∧ okC (mget 134) := ⟨okq_134, memC_5 (i := 60) rfl⟩
theorem okq_135 : okQ r135 = true := by decide +kernel
set_option maxRecDepth 8000 in
theorem ok_135 : okQ (mget 135) = true ∧ okC (mget 135) := ⟨okq_135, memC_5 (i := 72) rfl⟩
theorem okq_136 : okQ r136 = true := by decide +kernel
set_option maxRecDepth 8000 in
theorem ok_136 : okQ (mget 136) = true ∧ okC (mget 136) := ⟨okq_136, memC_5 (i := 118) rfl⟩
theorem okq_137 : okQ r137 = true := by decide +kernel
set_option maxRecDepth 8000 in
theorem ok_137 : okQ (mget 137) = true ∧ okC (mget 137) := ⟨okq_137, memC_5 (i := 121) rfl⟩
theorem okq_138 : okQ r138 = true := by decide +kernel
set_option maxRecDepth 8000 in
theorem ok_138 : okQ (mget 138) = true ∧ okC (mget 138) := ⟨okq_138, memC_5 (i := 130) rfl⟩
theorem okq_139 : okQ r139 = true := by decide +kernel
set_option maxRecDepth 8000 in
theorem ok_139 : okQ (mget 139) = true ∧ okC (mget 139) := ⟨okq_139, memC_5 (i := 124) rfl⟩
theorem okq_140 : okQ r140 = true := by decide +kernel
set_option maxRecDepth 8000 in
theorem ok_140 : okQ (mget 140) = true ∧ okC (mget 140) := ⟨okq_140, memC_5 (i := 127) rfl⟩
theorem okq_141 : okQ r141 = true := by decide +kernel
set_option maxRecDepth 8000 in
theorem ok_141 : okQ (mget 141) = true ∧ okC (mget 141) := ⟨okq_141, memC_5 (i := 134) rfl⟩
theorem okq_142 : okQ r142 = true := by decide +kernel
set_option maxRecDepth 8000 in
theorem ok_142 : okQ (mget 142) = true ∧ okC (mget 142) := ⟨okq_142, memC_5 (i := 138) rfl⟩
theorem okq_143 : okQ r143 = true := by decide +kernel
set_option maxRecDepth 8000 in
theorem ok_143 : okQ (mget 143) = true ∧ okC (mget 143) := ⟨okq_143, memC_5 (i := 142) rfl⟩
theorem okq_144 : okQ r144 = true := by decide +kernel
set_option maxRecDepth 8000 in
theorem ok_144 : okQ (mget 144) = true ∧ okC (mget 144) := ⟨okq_144, memC_5 (i := 166) rfl⟩
theorem okq_145 : okQ r145 = true := by decide +kernel
set_option maxRecDepth 8000 in
theorem ok_145 : okQ (mget 145) = true ∧ okC (mget 145) := ⟨okq_145, memC_5 (i := 169) rfl⟩
theorem okq_146 : okQ r146 = true := by decide +kernel
set_option maxRecDepth 8000 in
theorem ok_146 : okQ (mget 146) = true ∧ okC (mget 146) := ⟨okq_146, memC_5 (i := 177) rfl⟩
theorem okq_147 : okQ r147 = true := by decide +kernel
set_option maxRecDepth 8000 in
theorem ok_147 : okQ (mget 147) = true ∧ okC (mget 147) := ⟨okq_147, memC_5 (i := 181) rfl⟩
theorem okq_148 : okQ r148 = true := by decide +kernel
set_option maxRecDepth 8000 in
theorem ok_148 : okQ (mget 148) = true ∧ okC (mget 148) := ⟨okq_148, memC_5 (i := 200) rfl⟩
theorem okq_149 : okQ r149 = true := by decide +kernel
set_option maxRecDepth 8000 in
theorem ok_149 : okQ (mget 149) = true ∧ okC (mget 149) := ⟨okq_149, memC_5 (i := 223) rfl⟩
