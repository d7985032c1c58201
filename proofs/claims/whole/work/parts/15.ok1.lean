theorem okq_50 : okQ r50 = true := by decide +kernel
set_option maxRecDepth 8000 in
theorem ok_50 : okQ (mget 50) = true ∧ okC (mget 50) := ⟨okq_50, memC_4 (i := 60) rfl⟩
theorem okq_51 : okQ r51 = true := by decide +kernel
set_option maxRecDepth 8000 in
theorem ok_51 : okQ (mget 51) = true ∧ okC (mget 51) := ⟨okq_51, memC_4 (i := 56) rfl⟩
theorem okq_52 : okQ r52 = true := by decide +kernel
set_option maxRecDepth 8000 in
theorem ok_52 : okQ (mget 52) = true ∧ okC (mget 52) := ⟨okq_52, memC_4 (i := 106) rfl⟩
theorem okq_53 : okQ r53 = true := by decide +kernel
set_option maxRecDepth 8000 in
theorem ok_53 : okQ (mget 53) = true ∧ okC (mget 53) := ⟨okq_53, memC_4 (i := 48) rfl⟩
theorem okq_54 : okQ r54 = true := by decide +kernel
set_option maxRecDepth 8000 in
theorem ok_54 : okQ (mget 54) = true ∧ okC (mget 54) := ⟨okq_54, memC_4 (i := 52) rfl⟩
theorem okq_55 : okQ r55 = true := by decide +kernel
set_option maxRecDepth 8000 in
theorem ok_55 : okQ (mget 55) = true ∧ okC (mget 55) := ⟨okq_55, memC_4 (i := 110) rfl⟩
theorem okq_56 : okQ r56 = true := by decide +kernel
set_option maxRecDepth 8000 in
theorem ok_56 : okQ (mget 56) = true ∧ okC (mget 56) := ⟨okq_56, memC_4 (i := 77) rfl⟩
theorem okq_57 : okQ r57 = true := by decide +kernel
set_option maxRecDepth 8000 in
theorem ok_57 : okQ (mget 57) = true ∧ okC (mget 57) := ⟨okq_57, memC_4 (i := 132) rfl⟩
theorem okq_58 : okQ r58 = true := by decide +kernel
set_option maxRecDepth 8000 in
theorem ok_58 : okQ (mget 58) = true ∧ okC (mget 58) := ⟨okq_58, memC_4 (i := 136) rfl⟩
theorem okq_59 : okQ r59 = true := by decide +kernel
set_option maxRecDepth 8000 in
theorem ok_59 : okQ (mget 59) = true ∧ okC (mget 59) := ⟨okq_59, memC_6 (i := 3) rfl⟩
theorem okq_60 : okQ r60 = true := by decide +kernel
set_option maxRecDepth 8000 in
theorem ok_60 : okQ (mget 60) = true ∧ okC (mget 60) := ⟨okq_60, memC_5 (i := 24) rfl⟩
theorem okq_61 : okQ r61 = true := by decide +kernel
set_option maxRecDepth 8000 in
theorem ok_61 : okQ (mget 61) = true ∧ okC (mget 61) := ⟨okq_61, memC_5 (i := 0) rfl⟩
theorem okq_62 : okQ r62 = true := by decide +kernel
set_option maxRecDepth 8000 in
theorem ok_62 : okQ (mget 62) = true ∧ okC (mget 62) := ⟨okq_62, memC_5 (i := 4) rfl⟩
theorem okq_63 : okQ r63 = true := by decide +kernel
set_option maxRecDepth 8000 in
theorem ok_63 : okQ (mget 63) = true ∧ okC (mget 63) := ⟨okq_63, memC_5 (i := 8) rfl⟩
theorem okq_64 : okQ r64 = true := by decide +kernel
set_option maxRecDepth 8000 in
theorem ok_64 : okQ (mget 64) = true ∧ okC (mget 64) := ⟨okq_64, memC_5 (i := 32) rfl⟩
theorem okq_65 : okQ r65 = true := by decide +kernel
set_option maxRecDepth 8000 in
theorem ok_65 : okQ (mget 65) = true ∧ okC (mget 65) := ⟨okq_65, memC_5 (i := 36) rfl⟩
theorem okq_66 : okQ r66 = true := by decide +kernel
set_option maxRecDepth 8000 in
theorem ok_66 : okQ (mget 66) = true ∧ okC (mget 66) := ⟨okq_66, memC_5 (i := 185) rfl⟩
theorem okq_67 : okQ r67 = true := by decide +kernel
set_option maxRecDepth 8000 in
theorem ok_67 : okQ (mget 67) = true ∧ okC (mget 67) := ⟨okq_67, memC_5 (i := 190) rfl⟩
theorem okq_68 : okQ r68 = true := by decide +kernel
set_option maxRecDepth 8000 in
theorem ok_68 : okQ (mget 68) = true ∧ okC (mget 68) := ⟨okq_68, memC_5 (i := 196) rfl⟩
theorem okq_69 : okQ r69 = true := by decide +kernel
set_option maxRecDepth 8000 in
theorem ok_69 : okQ (mget 69) = true ∧ okC (mget 69) := ⟨okq_69, memC_5 (i := 146) rfl⟩
theorem okq_70 : okQ r70 = true := by decide +kernel
set_option maxRecDepth 8000 in
theorem ok_70 : okQ (mget 70) = true ∧ okC (mget 70) := ⟨okq_70, memC_5 (i := 162) rfl⟩
theorem okq_71 : okQ r71 = true := by decide +kernel
set_option maxRecDepth 8000 in
theorem ok_71 : okQ (mget 71) = true ∧ okC (mget 71) := ⟨okq_71, memC_5 (i := 150) rfl⟩
theorem okq_72 : okQ r72 = true := by decide +kernel
set_option maxRecDepth 8000 in
theorem ok_72 : okQ (mget 72) = true ∧ okC (mget 72) := ⟨okq_72, memC_5 (i := 154) rfl⟩
theorem okq_73 : okQ r73 = true := by decide +kernel
set_option maxRecDepth 8000 in
theorem ok_73 : okQ (mget 73) = true ∧ okC (mget 73) := ⟨okq_73, memC_5 (i := 158) rfl⟩
theorem okq_74 : okQ r74 = true := by decide +kernel
set_option maxRecDepth 8000 in
theorem ok_74 : okQ (mget 74) = true ∧ okC (mget 74) := ⟨okq_74, memC_6 (i := 7) rfl⟩
theorem okq_75 : okQ r75 = true := by decide +kernel
set_option maxRecDepth 8000 in
theorem ok_75 : okQ (mget 75) = true ∧ okC (mget 75) := ⟨okq_75, memC_4 (i := 232) rfl⟩
theorem okq_76 : okQ r76 = true := by decide +kernel
set_option maxRecDepth 8000 in
theorem ok_76 : okQ (mget 76) = true ∧ okC (mget 76) := ⟨okq_76, memC_5 (i := 16) rfl⟩
theorem okq_77 : okQ r77 = true := by decide +kernel
set_option maxRecDepth 8000 in
theorem ok_77 : okQ (mget 77) = true ∧ okC (mget 77) := ⟨okq_77, memC_5 (i := 48) rfl⟩
theorem okq_78 : okQ r78 = true := by decide +kernel
set_option maxRecDepth 8000 in
theorem ok_78 : okQ (mget 78) = true ∧ okC (mget 78) := ⟨okq_78, memC_5 (i := 52) rfl⟩
theorem okq_79 : okQ r79 = true := by decide +kernel
set_option maxRecDepth 8000 in
theorem ok_79 : okQ (mget 79) = true ∧ okC (mget 79) := ⟨okq_79, memC_5 (i := 56) rfl⟩
theorem okq_80 : okQ r80 = true := by decide +kernel
set_option maxRecDepth 8000 in
theorem ok_80 : okQ (mget 80) = true ∧ okC (mget 80) := ⟨okq_80, memC_5 (i := 44) rfl⟩
theorem okq_81 : okQ r81 = true := by decide +kernel
set_option maxRecDepth 8000 in
theorem ok_81 : okQ (mget 81) = true ∧ okC (mget 81) := ⟨okq_81, memC_5 (i := 64) rfl⟩
theorem okq_82 : okQ r82 = true := by decide +kernel
set_option maxRecDepth 8000 in
theorem ok_82 : okQ (mget 82) = true ∧ okC (mget 82) := ⟨okq_82, memC_5 (i := 68) rfl⟩
theorem okq_83 : okQ r83 = true := by decide +kernel
set_option maxRecDepth 8000 in
theorem ok_83 : okQ (mget 83) = true ∧ okC (mget 83) := ⟨okq_83, memC_5 (i := 76) rfl⟩
theorem okq_84 : okQ r84 = true := by decide +kernel
set_option maxRecDepth 8000 in
theorem ok_84 : okQ (mget 84) = true ∧ okC (mget 84) := ⟨okq_84, memC_5 (i := 80) rfl⟩
theorem okq_85 : okQ r85 = true := by decide +kernel
set_option maxRecDepth 8000 in
theorem ok_85 : okQ (mget 85) = true ∧ okC (mget 85) := ⟨okq_85, memC_5 (i := 84) rfl⟩
theorem okq_86 : okQ r86 = true := by decide +kernel
set_option maxRecDepth 8000 in
theorem ok_86 : okQ (mget 86) = true ∧ okC (mget 86) := ⟨okq_86, memC_5 (i := 88) rfl⟩
theorem okq_87 : okQ r87 = true := by decide +kernel
set_option maxRecDepth 8000 in
theorem ok_87 : okQ (mget 87) = true ∧ okC (mget 87) := ⟨okq_87, memC_5 (i := 92) rfl⟩
theorem okq_88 : okQ r88 = true := by decide +kernel
set_option maxRecDepth 8000 in
theorem ok_88 : okQ (mget 88) = true ∧ okC (mget 88) := ⟨okq_88, memC_5 (i := 96) rfl⟩
theorem okq_89 : okQ r89 = true := by decide +kernel
set_option maxRecDepth 8000 in
theorem ok_89 : okQ (mget 89) = true ∧ okC (mget 89) := ⟨okq_89, memC_5 (i := 101) rfl⟩
theorem okq_90 : okQ r90 = true := by decide +kernel
set_option maxRecDepth 8000 in
theorem ok_90 : okQ (mget 90) = true ∧ okC (mget 90) := ⟨okq_90, memC_5 (i := 105) rfl⟩
theorem okq_91 : okQ r91 = true := by decide +kernel
set_option maxRecDepth 8000 in
theorem ok_91 : okQ (mget 91) = true ∧ okC (mget 91) := ⟨okq_91, memC_5 (i := 109) rfl⟩
theorem okq_92 : okQ r92 = true := by decide +kernel
set_option maxRecDepth 8000 in
theorem ok_92 : okQ (mget 92) = true ∧ okC (mget 92) := ⟨okq_92, memC_5 (i := 113) rfl⟩
theorem okq_93 : okQ r93 = true := by decide +kernel
set_option maxRecDepth 8000 in
theorem ok_93 : okQ (mget 93) = true ∧ okC (mget 93) := ⟨okq_93, memC_5 (i := 173) rfl⟩
theorem okq_94 : okQ r94 = true := by decide +kernel
set_option maxRecDepth 8000 in
theorem ok_94 : okQ (mget 94) = true ∧ okC (mget 94) := ⟨okq_94, memC_5 (i := 235) rfl⟩
theorem okq_95 : okQ r95 = true := by decide +kernel
set_option maxRecDepth 8000 in
theorem ok_95 : okQ (mget 95) = true ∧ okC (mget 95) := ⟨okq_95, memC_3 (i := 28) rfl⟩
theorem okq_96 : okQ r96 = true := by decide +kernel
set_option maxRecDepth 8000 in
theorem ok_96 : okQ (mget 96) = true ∧ okC (mget 96) := ⟨okq_96, memC_2 (i := 231) rfl⟩
theorem okq_97 : okQ r97 = true := by decide +kernel
set_option maxRecDepth 8000 in
theorem ok_97 : okQ (mget 97) = true ∧ okC (mget 97) := ⟨okq_97, memC_4 (i := 216) rfl⟩
theorem okq_98 : okQ r98 = true := by decide +kernel
set_option maxRecDepth 8000 in
theorem ok_98 : okQ (mget 98) = true ∧ okC (mget 98) := ⟨okq_98, memC_3 (i := 106) rfl⟩
theorem okq_99 : okQ r99 = true := by decide +kernel
set_option maxRecDepth 8000 in
theorem ok_99 : okQ (mget 99) = true ∧ okC (mget 99) := ⟨okq_99, memC_3 (i := 78) rfl⟩
