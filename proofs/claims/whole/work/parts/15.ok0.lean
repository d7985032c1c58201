theorem memC_1 {i : Nat} {c : Cond} (h : tables_1_1[i]? = some c) : c ∈ lw_tbl := by
  have h9 := List.mem_of_getElem? h
  show c ∈ k2_sels lw_privs ++ tables_1
  unfold tables_1
  simp only [List.mem_append, h9, true_or, or_true]
theorem memC_2 {i : Nat} {c : Cond} (h : tables_1_2[i]? = some c) : c ∈ lw_tbl := by
  have h9 := List.mem_of_getElem? h
  show c ∈ k2_sels lw_privs ++ tables_1
  unfold tables_1
  simp only [List.mem_append, h9, true_or, or_true]
theorem memC_3 {i : Nat} {c : Cond} (h : tables_1_3[i]? = some c) : c ∈ lw_tbl := by
  have h9 := List.mem_of_getElem? h
  show c ∈ k2_sels lw_privs ++ tables_1
  unfold tables_1
  simp only [List.mem_append, h9, true_or, or_true]
theorem memC_4 {i : Nat} {c : Cond} (h : tables_1_4[i]? = some c) : c ∈ lw_tbl := by
  have h9 := List.mem_of_getElem? h
  show c ∈ k2_sels lw_privs ++ tables_1
  unfold tables_1
  simp only [List.mem_append, h9, true_or, or_true]
theorem memC_5 {i : Nat} {c : Cond} (h : tables_1_5[i]? = some c) : c ∈ lw_tbl := by
  have h9 := List.mem_of_getElem? h
  show c ∈ k2_sels lw_privs ++ tables_1
  unfold tables_1
  simp only [List.mem_append, h9, true_or, or_true]
theorem memC_6 {i : Nat} {c : Cond} (h : tables_1_6[i]? = some c) : c ∈ lw_tbl := by
  have h9 := List.mem_of_getElem? h
  show c ∈ k2_sels lw_privs ++ tables_1
  unfold tables_1
  simp only [List.mem_append, h9, true_or, or_true]
theorem memC_7 {i : Nat} {c : Cond} (h : tables_1_7[i]? = some c) : c ∈ lw_tbl := by
  have h9 := List.mem_of_getElem? h
  show c ∈ k2_sels lw_privs ++ tables_1
  unfold tables_1
  simp only [List.mem_append, h9, true_or, or_true]
theorem memC_8 {i : Nat} {c : Cond} (h : tables_1_8[i]? = some c) : c ∈ lw_tbl := by
  have h9 := List.mem_of_getElem? h
  show c ∈ k2_sels lw_privs ++ tables_1
  unfold tables_1
  simp only [List.mem_append, h9, true_or, or_true]
theorem memC_9 {i : Nat} {c : Cond} (h : tables_1_9[i]? = some c) : c ∈ lw_tbl := by
  have h9 := List.mem_of_getElem? h
  show c ∈ k2_sels lw_privs ++ tables_1
  unfold tables_1
  simp only [List.mem_append, h9, true_or, or_true]
theorem okq_0 : okQ r0 = true := by decide +kernel
set_option maxRecDepth 8000 in
theorem ok_0 : okQ (mget 0) = true ∧ okC (mget 0) := ⟨okq_0, memC_4 (i := 167) rfl⟩
theorem okq_1 : okQ r1 = true := by decide +kernel
set_option maxRecDepth 8000 in
theorem ok_1 : okQ (mget 1) = true ∧ okC (mget 1) := ⟨okq_1, memC_4 (i := 149) rfl⟩
theorem okq_2 : okQ r2 = true := by decide +kernel
set_option maxRecDepth 8000 in
theorem ok_2 : okQ (mget 2) = true ∧ okC (mget 2) := ⟨okq_2, memC_4 (i := 157) rfl⟩
theorem okq_3 : okQ r3 = true := by decide +kernel
set_option maxRecDepth 8000 in
theorem ok_3 : okQ (mget 3) = true ∧ okC (mget 3) := ⟨okq_3, memC_4 (i := 114) rfl⟩
theorem okq_4 : okQ r4 = true := by decide +kernel
set_option maxRecDepth 8000 in
theorem ok_4 : okQ (mget 4) = true ∧ okC (mget 4) := ⟨okq_4, memC_3 (i := 141) rfl⟩
theorem okq_5 : okQ r5 = true := by decide +kernel
set_option maxRecDepth 8000 in
theorem ok_5 : okQ (mget 5) = true ∧ okC (mget 5) := ⟨okq_5, memC_4 (i := 44) rfl⟩
theorem okq_6 : okQ r6 = true := by decide +kernel
set_option maxRecDepth 8000 in
theorem ok_6 : okQ (mget 6) = true ∧ okC (mget 6) := ⟨okq_6, memC_4 (i := 85) rfl⟩
theorem okq_7 : okQ r7 = true := by decide +kernel
set_option maxRecDepth 8000 in
theorem ok_7 : okQ (mget 7) = true ∧ okC (mget 7) := ⟨okq_7, memC_4 (i := 89) rfl⟩
theorem okq_8 : okQ r8 = true := by decide +kernel
set_option maxRecDepth 8000 in
theorem ok_8 : okQ (mget 8) = true ∧ okC (mget 8) := ⟨okq_8, memC_4 (i := 98) rfl⟩
theorem okq_9 : okQ r9 = true := by decide +kernel
set_option maxRecDepth 8000 in
theorem ok_9 : okQ (mget 9) = true ∧ okC (mget 9) := ⟨okq_9, memC_4 (i := 94) rfl⟩
theorem okq_10 : okQ r10 = true := by decide +kernel
set_option maxRecDepth 8000 in
theorem ok_10 : okQ (mget 10) = true ∧ okC (mget 10) := ⟨okq_10, memC_4 (i := 102) rfl⟩
theorem okq_11 : okQ r11 = true := by decide +kernel
set_option maxRecDepth 8000 in
theorem ok_11 : okQ (mget 11) = true ∧ okC (mget 11) := ⟨okq_11, memC_4 (i := 64) rfl⟩
theorem okq_12 : okQ r12 = true := by decide +kernel
set_option maxRecDepth 8000 in
theorem ok_12 : okQ (mget 12) = true ∧ okC (mget 12) := ⟨okq_12, memC_4 (i := 68) rfl⟩
theorem okq_13 : okQ r13 = true := by decide +kernel
set_option maxRecDepth 8000 in
theorem ok_13 : okQ (mget 13) = true ∧ okC (mget 13) := ⟨okq_13, memC_4 (i := 81) rfl⟩
theorem okq_14 : okQ r14 = true := by decide +kernel
set_option maxRecDepth 8000 in
theorem ok_14 : okQ (mget 14) = true ∧ okC (mget 14) := ⟨okq_14, memC_4 (i := 72) rfl⟩
theorem okq_15 : okQ r15 = true := by decide +kernel
set_option maxRecDepth 8000 in
theorem ok_15 : okQ (mget 15) = true ∧ okC (mget 15) := ⟨okq_15, memC_3 (i := 55) rfl⟩
theorem okq_16 : okQ r16 = true := by decide +kernel
set_option maxRecDepth 8000 in
theorem ok_16 : okQ (mget 16) = true ∧ okC (mget 16) := ⟨okq_16, memC_3 (i := 59) rfl⟩
theorem okq_17 : okQ r17 = true := by decide +kernel
set_option maxRecDepth 8000 in
theorem ok_17 : okQ (mget 17) = true ∧ okC (mget 17) := ⟨okq_17, memC_3 (i := 62) rfl⟩
theorem okq_18 : okQ r18 = true := by decide +kernel
set_option maxRecDepth 8000 in
theorem ok_18 : okQ (mget 18) = true ∧ okC (mget 18) := ⟨okq_18, memC_3 (i := 24) rfl⟩
theorem okq_19 : okQ r19 = true := by decide +kernel
set_option maxRecDepth 8000 in
theorem ok_19 : okQ (mget 19) = true ∧ okC (mget 19) := ⟨okq_19, memC_5 (i := 227) rfl⟩
theorem okq_20 : okQ r20 = true := by decide +kernel
set_option maxRecDepth 8000 in
theorem ok_20 : okQ (mget 20) = true ∧ okC (mget 20) := ⟨okq_20, memC_2 (i := 208) rfl⟩
theorem okq_21 : okQ r21 = true := by decide +kernel
set_option maxRecDepth 8000 in
theorem ok_21 : okQ (mget 21) = true ∧ okC (mget 21) := ⟨okq_21, memC_3 (i := 88) rfl⟩
theorem okq_22 : okQ r22 = true := by decide +kernel
set_option maxRecDepth 8000 in
theorem ok_22 : okQ (mget 22) = true ∧ okC (mget 22) := ⟨okq_22, memC_3 (i := 92) rfl⟩
theorem okq_23 : okQ r23 = true := by decide +kernel
set_option maxRecDepth 8000 in
theorem ok_23 : okQ (mget 23) = true ∧ okC (mget 23) := ⟨okq_23, memC_3 (i := 3) rfl⟩
theorem okq_24 : okQ r24 = true := by decide +kernel
set_option maxRecDepth 8000 in
theorem ok_24 : okQ (mget 24) = true ∧ okC (mget 24) := ⟨okq_24, memC_3 (i := 97) rfl⟩
theorem okq_25 : okQ r25 = true := by decide +kernel
set_option maxRecDepth 8000 in
theorem ok_25 : okQ (mget 25) = true ∧ okC (mget 25) := ⟨okq_25, memC_3 (i := 40) rfl⟩
theorem okq_26 : okQ r26 = true := by decide +kernel
set_option maxRecDepth 8000 in
theorem ok_26 : okQ (mget 26) = true ∧ okC (mget 26) := ⟨okq_26, memC_3 (i := 112) rfl⟩
theorem okq_27 : okQ r27 = true := by decide +kernel
set_option maxRecDepth 8000 in
theorem ok_27 : okQ (mget 27) = true ∧ okC (mget 27) := ⟨okq_27, memC_3 (i := 74) rfl⟩
theorem okq_28 : okQ r28 = true := by decide +kernel
set_option maxRecDepth 8000 in
theorem ok_28 : okQ (mget 28) = true ∧ okC (mget 28) := ⟨okq_28, memC_3 (i := 102) rfl⟩
theorem okq_29 : okQ r29 = true := by decide +kernel
set_option maxRecDepth 8000 in
theorem ok_29 : okQ (mget 29) = true ∧ okC (mget 29) := ⟨okq_29, memC_3 (i := 70) rfl⟩
theorem okq_30 : okQ r30 = true := by decide +kernel
set_option maxRecDepth 8000 in
theorem ok_30 : okQ (mget 30) = true ∧ okC (mget 30) := ⟨okq_30, memC_3 (i := 14) rfl⟩
theorem okq_31 : okQ r31 = true := by decide +kernel
set_option maxRecDepth 8000 in
theorem ok_31 : okQ (mget 31) = true ∧ okC (mget 31) := ⟨okq_31, memC_3 (i := 10) rfl⟩
theorem okq_32 : okQ r32 = true := by decide +kernel
set_option maxRecDepth 8000 in
theorem ok_32 : okQ (mget 32) = true ∧ okC (mget 32) := ⟨okq_32, memC_3 (i := 44) rfl⟩
theorem okq_33 : okQ r33 = true := by decide +kernel
set_option maxRecDepth 8000 in
theorem ok_33 : okQ (mget 33) = true ∧ okC (mget 33) := ⟨okq_33, memC_2 (i := 239) rfl⟩
theorem okq_34 : okQ r34 = true := by decide +kernel
set_option maxRecDepth 8000 in
theorem ok_34 : okQ (mget 34) = true ∧ okC (mget 34) := ⟨okq_34, memC_4 (i := 191) rfl⟩
theorem okq_35 : okQ r35 = true := by decide +kernel
set_option maxRecDepth 8000 in
theorem ok_35 : okQ (mget 35) = true ∧ okC (mget 35) := ⟨okq_35, memC_2 (i := 235) rfl⟩
theorem okq_36 : okQ r36 = true := by decide +kernel
set_option maxRecDepth 8000 in
theorem ok_36 : okQ (mget 36) = true ∧ okC (mget 36) := ⟨okq_36, memC_3 (i := 36) rfl⟩
theorem okq_37 : okQ r37 = true := by decide +kernel
set_option maxRecDepth 8000 in
theorem ok_37 : okQ (mget 37) = true ∧ okC (mget 37) := ⟨okq_37, memC_4 (i := 211) rfl⟩
theorem okq_38 : okQ r38 = true := by decide +kernel
set_option maxRecDepth 8000 in
theorem ok_38 : okQ (mget 38) = true ∧ okC (mget 38) := ⟨okq_38, memC_3 (i := 120) rfl⟩
theorem okq_39 : okQ r39 = true := by decide +kernel
set_option maxRecDepth 8000 in
theorem ok_39 : okQ (mget 39) = true ∧ okC (mget 39) := ⟨okq_39, memC_3 (i := 124) rfl⟩
theorem okq_40 : okQ r40 = true := by decide +kernel
set_option maxRecDepth 8000 in
theorem ok_40 : okQ (mget 40) = true ∧ okC (mget 40) := ⟨okq_40, memC_3 (i := 137) rfl⟩
theorem okq_41 : okQ r41 = true := by decide +kernel
set_option maxRecDepth 8000 in
theorem ok_41 : okQ (mget 41) = true ∧ okC (mget 41) := ⟨okq_41, memC_3 (i := 146) rfl⟩
theorem okq_42 : okQ r42 = true := by decide +kernel
set_option maxRecDepth 8000 in
theorem ok_42 : okQ (mget 42) = true ∧ okC (mget 42) := ⟨okq_42, memC_4 (i := 40) rfl⟩
theorem okq_43 : okQ r43 = true := by decide +kernel
set_option maxRecDepth 8000 in
theorem ok_43 : okQ (mget 43) = true ∧ okC (mget 43) := ⟨okq_43, memC_3 (i := 150) rfl⟩
theorem okq_44 : okQ r44 = true := by decide +kernel
set_option maxRecDepth 8000 in
theorem ok_44 : okQ (mget 44) = true ∧ okC (mget 44) := ⟨okq_44, memC_3 (i := 164) rfl⟩
theorem okq_45 : okQ r45 = true := by decide +kernel
set_option maxRecDepth 8000 in
theorem ok_45 : okQ (mget 45) = true ∧ okC (mget 45) := ⟨okq_45, memC_3 (i := 168) rfl⟩
theorem okq_46 : okQ r46 = true := by decide +kernel
set_option maxRecDepth 8000 in
theorem ok_46 : okQ (mget 46) = true ∧ okC (mget 46) := ⟨okq_46, memC_3 (i := 220) rfl⟩
theorem okq_47 : okQ r47 = true := by decide +kernel
set_option maxRecDepth 8000 in
theorem ok_47 : okQ (mget 47) = true ∧ okC (mget 47) := ⟨okq_47, memC_3 (i := 160) rfl⟩
theorem okq_48 : okQ r48 = true := by decide +kernel
set_option maxRecDepth 8000 in
theorem ok_48 : okQ (mget 48) = true ∧ okC (mget 48) := ⟨okq_48, memC_3 (i := 153) rfl⟩
theorem okq_49 : okQ r49 = true := by decide +kernel
set_option maxRecDepth 8000 in
theorem ok_49 : okQ (mget 49) = true ∧ okC (mget 49) := ⟨okq_49, memC_3 (i := 156) rfl⟩
