-- ===== PART A: goes FIRST, ahead of the names: the tables' words, and 'selects' of the private methods out of them =====
/-- a private method of a class that the tables say can be made, by its rows of tables_1 -/
def lw_okq (q : MethodName × Nat) : Prop := (q.1.cls ≠ "java/lang/invoke/MethodHandle" ∧ q.1.cls ≠ "java/lang/invoke/VarHandle") ∧ Cond.instantiable q.1.cls q.2 ∈ tables_1 ∧ Cond.privateMethod q.1 ∈ tables_1 ∧ Cond.instanceMethod q.1 ∈ tables_1
theorem lw_p0 : lw_okq (⟨"DevilsFount", "canAct", "(II)Z"⟩, 10) := ⟨⟨by decide +kernel, by decide +kernel⟩, List.mem_of_getElem? (i := 23) (by decide +kernel), List.mem_of_getElem? (i := 461) (by decide +kernel), List.mem_of_getElem? (i := 462) (by decide +kernel)⟩
theorem lw_p1 : lw_okq (⟨"DevilsFount$Press", "openShop", "()V"⟩, 7) := ⟨⟨by decide +kernel, by decide +kernel⟩, List.mem_of_getElem? (i := 186) (by decide +kernel), List.mem_of_getElem? (i := 477) (by decide +kernel), List.mem_of_getElem? (i := 478) (by decide +kernel)⟩
theorem lw_p2 : lw_okq (⟨"DevilsFount$Press", "fillBoxes", "()V"⟩, 7) := ⟨⟨by decide +kernel, by decide +kernel⟩, List.mem_of_getElem? (i := 186) (by decide +kernel), List.mem_of_getElem? (i := 481) (by decide +kernel), List.mem_of_getElem? (i := 482) (by decide +kernel)⟩
theorem lw_p3 : lw_okq (⟨"DevilsFount$Press", "countLacking", "(LDevilsFount$Words;I)I"⟩, 7) := ⟨⟨by decide +kernel, by decide +kernel⟩, List.mem_of_getElem? (i := 186) (by decide +kernel), List.mem_of_getElem? (i := 488) (by decide +kernel), List.mem_of_getElem? (i := 489) (by decide +kernel)⟩
theorem lw_p4 : lw_okq (⟨"DevilsFount$Press", "takeOut", "(LDevilsFount$Words;I)V"⟩, 7) := ⟨⟨by decide +kernel, by decide +kernel⟩, List.mem_of_getElem? (i := 186) (by decide +kernel), List.mem_of_getElem? (i := 492) (by decide +kernel), List.mem_of_getElem? (i := 493) (by decide +kernel)⟩
theorem lw_p5 : lw_okq (⟨"DevilsFount$Press", "setJob", "(I)V"⟩, 7) := ⟨⟨by decide +kernel, by decide +kernel⟩, List.mem_of_getElem? (i := 186) (by decide +kernel), List.mem_of_getElem? (i := 518) (by decide +kernel), List.mem_of_getElem? (i := 519) (by decide +kernel)⟩
theorem lw_p6 : lw_okq (⟨"DevilsFount$Press", "ask", "(ILDevilsFount$Words;I)I"⟩, 7) := ⟨⟨by decide +kernel, by decide +kernel⟩, List.mem_of_getElem? (i := 186) (by decide +kernel), List.mem_of_getElem? (i := 522) (by decide +kernel), List.mem_of_getElem? (i := 523) (by decide +kernel)⟩
theorem lw_p7 : lw_okq (⟨"DevilsFount$Law", "work", "(II[I)I"⟩, 11) := ⟨⟨by decide +kernel, by decide +kernel⟩, List.mem_of_getElem? (i := 92) (by decide +kernel), List.mem_of_getElem? (i := 537) (by decide +kernel), List.mem_of_getElem? (i := 538) (by decide +kernel)⟩
theorem lw_p8 : lw_okq (⟨"DevilsFount$Press", "record", "(III)V"⟩, 7) := ⟨⟨by decide +kernel, by decide +kernel⟩, List.mem_of_getElem? (i := 186) (by decide +kernel), List.mem_of_getElem? (i := 548) (by decide +kernel), List.mem_of_getElem? (i := 549) (by decide +kernel)⟩
theorem lw_p9 : lw_okq (⟨"DevilsFount$Press", "breakSortsOf", "(I)V"⟩, 7) := ⟨⟨by decide +kernel, by decide +kernel⟩, List.mem_of_getElem? (i := 186) (by decide +kernel), List.mem_of_getElem? (i := 552) (by decide +kernel), List.mem_of_getElem? (i := 553) (by decide +kernel)⟩
theorem lw_p10 : lw_okq (⟨"DevilsFount$Press", "change", "(I)V"⟩, 7) := ⟨⟨by decide +kernel, by decide +kernel⟩, List.mem_of_getElem? (i := 186) (by decide +kernel), List.mem_of_getElem? (i := 570) (by decide +kernel), List.mem_of_getElem? (i := 571) (by decide +kernel)⟩
theorem lw_p11 : lw_okq (⟨"DevilsFount$Press", "setJobs", "()I"⟩, 7) := ⟨⟨by decide +kernel, by decide +kernel⟩, List.mem_of_getElem? (i := 186) (by decide +kernel), List.mem_of_getElem? (i := 575) (by decide +kernel), List.mem_of_getElem? (i := 576) (by decide +kernel)⟩
theorem lw_p12 : lw_okq (⟨"DevilsFount$Press", "comesTrue", "(I)Z"⟩, 7) := ⟨⟨by decide +kernel, by decide +kernel⟩, List.mem_of_getElem? (i := 186) (by decide +kernel), List.mem_of_getElem? (i := 580) (by decide +kernel), List.mem_of_getElem? (i := 581) (by decide +kernel)⟩
theorem lw_p13 : lw_okq (⟨"DevilsFount$Press", "compose", "()V"⟩, 7) := ⟨⟨by decide +kernel, by decide +kernel⟩, List.mem_of_getElem? (i := 186) (by decide +kernel), List.mem_of_getElem? (i := 590) (by decide +kernel), List.mem_of_getElem? (i := 591) (by decide +kernel)⟩
theorem lw_p14 : lw_okq (⟨"DevilsFount$Reader", "tokenEnd", "(I)I"⟩, 14) := ⟨⟨by decide +kernel, by decide +kernel⟩, List.mem_of_getElem? (i := 31) (by decide +kernel), List.mem_of_getElem? (i := 628) (by decide +kernel), List.mem_of_getElem? (i := 629) (by decide +kernel)⟩
theorem lw_p15 : lw_okq (⟨"DevilsFount$Reader", "kindOf", "(IILjava/lang/String;)I"⟩, 14) := ⟨⟨by decide +kernel, by decide +kernel⟩, List.mem_of_getElem? (i := 31) (by decide +kernel), List.mem_of_getElem? (i := 642) (by decide +kernel), List.mem_of_getElem? (i := 643) (by decide +kernel)⟩
def lw_privs_1 : List (MethodName × Nat) := [(⟨"DevilsFount", "canAct", "(II)Z"⟩, 10), (⟨"DevilsFount$Press", "openShop", "()V"⟩, 7), (⟨"DevilsFount$Press", "fillBoxes", "()V"⟩, 7), (⟨"DevilsFount$Press", "countLacking", "(LDevilsFount$Words;I)I"⟩, 7), (⟨"DevilsFount$Press", "takeOut", "(LDevilsFount$Words;I)V"⟩, 7), (⟨"DevilsFount$Press", "setJob", "(I)V"⟩, 7), (⟨"DevilsFount$Press", "ask", "(ILDevilsFount$Words;I)I"⟩, 7), (⟨"DevilsFount$Law", "work", "(II[I)I"⟩, 11), (⟨"DevilsFount$Press", "record", "(III)V"⟩, 7), (⟨"DevilsFount$Press", "breakSortsOf", "(I)V"⟩, 7), (⟨"DevilsFount$Press", "change", "(I)V"⟩, 7), (⟨"DevilsFount$Press", "setJobs", "()I"⟩, 7), (⟨"DevilsFount$Press", "comesTrue", "(I)Z"⟩, 7), (⟨"DevilsFount$Press", "compose", "()V"⟩, 7), (⟨"DevilsFount$Reader", "tokenEnd", "(I)I"⟩, 14), (⟨"DevilsFount$Reader", "kindOf", "(IILjava/lang/String;)I"⟩, 14)]
theorem lw_r1 : ∀ q ∈ lw_privs_1, lw_okq q := List.forall_mem_cons.mpr ⟨lw_p0, List.forall_mem_cons.mpr ⟨lw_p1, List.forall_mem_cons.mpr ⟨lw_p2, List.forall_mem_cons.mpr ⟨lw_p3, List.forall_mem_cons.mpr ⟨lw_p4, List.forall_mem_cons.mpr ⟨lw_p5, List.forall_mem_cons.mpr ⟨lw_p6, List.forall_mem_cons.mpr ⟨lw_p7, List.forall_mem_cons.mpr ⟨lw_p8, List.forall_mem_cons.mpr ⟨lw_p9, List.forall_mem_cons.mpr ⟨lw_p10, List.forall_mem_cons.mpr ⟨lw_p11, List.forall_mem_cons.mpr ⟨lw_p12, List.forall_mem_cons.mpr ⟨lw_p13, List.forall_mem_cons.mpr ⟨lw_p14, List.forall_mem_cons.mpr ⟨lw_p15, fun _ h => absurd h List.not_mem_nil⟩⟩⟩⟩⟩⟩⟩⟩⟩⟩⟩⟩⟩⟩⟩⟩
theorem lw_p16 : lw_okq (⟨"DevilsFount$Reader", "keywordAt", "(IILjava/lang/String;)I"⟩, 14) := ⟨⟨by decide +kernel, by decide +kernel⟩, List.mem_of_getElem? (i := 31) (by decide +kernel), List.mem_of_getElem? (i := 646) (by decide +kernel), List.mem_of_getElem? (i := 647) (by decide +kernel)⟩
theorem lw_p17 : lw_okq (⟨"DevilsFount$Reader", "isSpelt", "(ILjava/lang/String;II)Z"⟩, 14) := ⟨⟨by decide +kernel, by decide +kernel⟩, List.mem_of_getElem? (i := 31) (by decide +kernel), List.mem_of_getElem? (i := 698) (by decide +kernel), List.mem_of_getElem? (i := 699) (by decide +kernel)⟩
theorem lw_p18 : lw_okq (⟨"DevilsFount$Reader", "addToken", "(III)V"⟩, 14) := ⟨⟨by decide +kernel, by decide +kernel⟩, List.mem_of_getElem? (i := 31) (by decide +kernel), List.mem_of_getElem? (i := 758) (by decide +kernel), List.mem_of_getElem? (i := 759) (by decide +kernel)⟩
theorem lw_p19 : lw_okq (⟨"DevilsFount$Law", "readLine", "(LDevilsFount$Reader;I)Z"⟩, 11) := ⟨⟨by decide +kernel, by decide +kernel⟩, List.mem_of_getElem? (i := 92) (by decide +kernel), List.mem_of_getElem? (i := 762) (by decide +kernel), List.mem_of_getElem? (i := 763) (by decide +kernel)⟩
theorem lw_p20 : lw_okq (⟨"DevilsFount$Reader", "isOpening", "(I)Z"⟩, 14) := ⟨⟨by decide +kernel, by decide +kernel⟩, List.mem_of_getElem? (i := 31) (by decide +kernel), List.mem_of_getElem? (i := 770) (by decide +kernel), List.mem_of_getElem? (i := 771) (by decide +kernel)⟩
theorem lw_p21 : lw_okq (⟨"DevilsFount$Law", "readSum", "(LDevilsFount$Reader;)Z"⟩, 11) := ⟨⟨by decide +kernel, by decide +kernel⟩, List.mem_of_getElem? (i := 92) (by decide +kernel), List.mem_of_getElem? (i := 782) (by decide +kernel), List.mem_of_getElem? (i := 783) (by decide +kernel)⟩
theorem lw_p22 : lw_okq (⟨"DevilsFount$Law", "readPart", "(LDevilsFount$Reader;Z)Z"⟩, 11) := ⟨⟨by decide +kernel, by decide +kernel⟩, List.mem_of_getElem? (i := 92) (by decide +kernel), List.mem_of_getElem? (i := 786) (by decide +kernel), List.mem_of_getElem? (i := 787) (by decide +kernel)⟩
theorem lw_p23 : lw_okq (⟨"DevilsFount$Law", "put", "(I)V"⟩, 11) := ⟨⟨by decide +kernel, by decide +kernel⟩, List.mem_of_getElem? (i := 92) (by decide +kernel), List.mem_of_getElem? (i := 790) (by decide +kernel), List.mem_of_getElem? (i := 791) (by decide +kernel)⟩
theorem lw_p24 : lw_okq (⟨"DevilsFount$Law", "putJoin", "(I)V"⟩, 11) := ⟨⟨by decide +kernel, by decide +kernel⟩, List.mem_of_getElem? (i := 92) (by decide +kernel), List.mem_of_getElem? (i := 799) (by decide +kernel), List.mem_of_getElem? (i := 800) (by decide +kernel)⟩
theorem lw_p25 : lw_okq (⟨"DevilsFount$Law", "readCondition", "(LDevilsFount$Reader;)Z"⟩, 11) := ⟨⟨by decide +kernel, by decide +kernel⟩, List.mem_of_getElem? (i := 92) (by decide +kernel), List.mem_of_getElem? (i := 803) (by decide +kernel), List.mem_of_getElem? (i := 804) (by decide +kernel)⟩
theorem lw_p26 : lw_okq (⟨"DevilsFount$Law", "readOpened", "(LDevilsFount$Reader;)Z"⟩, 11) := ⟨⟨by decide +kernel, by decide +kernel⟩, List.mem_of_getElem? (i := 92) (by decide +kernel), List.mem_of_getElem? (i := 807) (by decide +kernel), List.mem_of_getElem? (i := 808) (by decide +kernel)⟩
theorem lw_p27 : lw_okq (⟨"DevilsFount$Law", "hold", "(I)V"⟩, 11) := ⟨⟨by decide +kernel, by decide +kernel⟩, List.mem_of_getElem? (i := 92) (by decide +kernel), List.mem_of_getElem? (i := 812) (by decide +kernel), List.mem_of_getElem? (i := 813) (by decide +kernel)⟩
theorem lw_p28 : lw_okq (⟨"DevilsFount$Law", "readClosed", "(LDevilsFount$Reader;)V"⟩, 11) := ⟨⟨by decide +kernel, by decide +kernel⟩, List.mem_of_getElem? (i := 92) (by decide +kernel), List.mem_of_getElem? (i := 816) (by decide +kernel), List.mem_of_getElem? (i := 817) (by decide +kernel)⟩
theorem lw_p29 : lw_okq (⟨"DevilsFount$Law", "putHeld", "(I)V"⟩, 11) := ⟨⟨by decide +kernel, by decide +kernel⟩, List.mem_of_getElem? (i := 92) (by decide +kernel), List.mem_of_getElem? (i := 820) (by decide +kernel), List.mem_of_getElem? (i := 821) (by decide +kernel)⟩
theorem lw_p30 : lw_okq (⟨"DevilsFount$Words", "readLine", "(LDevilsFount$Reader;IZ)Z"⟩, 4) := ⟨⟨by decide +kernel, by decide +kernel⟩, List.mem_of_getElem? (i := 133) (by decide +kernel), List.mem_of_getElem? (i := 844) (by decide +kernel), List.mem_of_getElem? (i := 845) (by decide +kernel)⟩
theorem lw_p31 : lw_okq (⟨"DevilsFount$Changes", "readDeed", "(LDevilsFount$Reader;I)Z"⟩, 5) := ⟨⟨by decide +kernel, by decide +kernel⟩, List.mem_of_getElem? (i := 158) (by decide +kernel), List.mem_of_getElem? (i := 875) (by decide +kernel), List.mem_of_getElem? (i := 876) (by decide +kernel)⟩
def lw_privs_2 : List (MethodName × Nat) := [(⟨"DevilsFount$Reader", "keywordAt", "(IILjava/lang/String;)I"⟩, 14), (⟨"DevilsFount$Reader", "isSpelt", "(ILjava/lang/String;II)Z"⟩, 14), (⟨"DevilsFount$Reader", "addToken", "(III)V"⟩, 14), (⟨"DevilsFount$Law", "readLine", "(LDevilsFount$Reader;I)Z"⟩, 11), (⟨"DevilsFount$Reader", "isOpening", "(I)Z"⟩, 14), (⟨"DevilsFount$Law", "readSum", "(LDevilsFount$Reader;)Z"⟩, 11), (⟨"DevilsFount$Law", "readPart", "(LDevilsFount$Reader;Z)Z"⟩, 11), (⟨"DevilsFount$Law", "put", "(I)V"⟩, 11), (⟨"DevilsFount$Law", "putJoin", "(I)V"⟩, 11), (⟨"DevilsFount$Law", "readCondition", "(LDevilsFount$Reader;)Z"⟩, 11), (⟨"DevilsFount$Law", "readOpened", "(LDevilsFount$Reader;)Z"⟩, 11), (⟨"DevilsFount$Law", "hold", "(I)V"⟩, 11), (⟨"DevilsFount$Law", "readClosed", "(LDevilsFount$Reader;)V"⟩, 11), (⟨"DevilsFount$Law", "putHeld", "(I)V"⟩, 11), (⟨"DevilsFount$Words", "readLine", "(LDevilsFount$Reader;IZ)Z"⟩, 4), (⟨"DevilsFount$Changes", "readDeed", "(LDevilsFount$Reader;I)Z"⟩, 5)]
theorem lw_r2 : ∀ q ∈ lw_privs_2, lw_okq q := List.forall_mem_cons.mpr ⟨lw_p16, List.forall_mem_cons.mpr ⟨lw_p17, List.forall_mem_cons.mpr ⟨lw_p18, List.forall_mem_cons.mpr ⟨lw_p19, List.forall_mem_cons.mpr ⟨lw_p20, List.forall_mem_cons.mpr ⟨lw_p21, List.forall_mem_cons.mpr ⟨lw_p22, List.forall_mem_cons.mpr ⟨lw_p23, List.forall_mem_cons.mpr ⟨lw_p24, List.forall_mem_cons.mpr ⟨lw_p25, List.forall_mem_cons.mpr ⟨lw_p26, List.forall_mem_cons.mpr ⟨lw_p27, List.forall_mem_cons.mpr ⟨lw_p28, List.forall_mem_cons.mpr ⟨lw_p29, List.forall_mem_cons.mpr ⟨lw_p30, List.forall_mem_cons.mpr ⟨lw_p31, fun _ h => absurd h List.not_mem_nil⟩⟩⟩⟩⟩⟩⟩⟩⟩⟩⟩⟩⟩⟩⟩⟩
theorem lw_p32 : lw_okq (⟨"DevilsFount$Riddles", "countAlong", "(II)I"⟩, 5) := ⟨⟨by decide +kernel, by decide +kernel⟩, List.mem_of_getElem? (i := 259) (by decide +kernel), List.mem_of_getElem? (i := 962) (by decide +kernel), List.mem_of_getElem? (i := 963) (by decide +kernel)⟩
theorem lw_p33 : lw_okq (⟨"DevilsFount$Riddles", "standsFrom", "(IIII)Z"⟩, 5) := ⟨⟨by decide +kernel, by decide +kernel⟩, List.mem_of_getElem? (i := 259) (by decide +kernel), List.mem_of_getElem? (i := 966) (by decide +kernel), List.mem_of_getElem? (i := 967) (by decide +kernel)⟩
theorem lw_p34 : lw_okq (⟨"DevilsFount$Riddles", "reachedBy", "(II)I"⟩, 5) := ⟨⟨by decide +kernel, by decide +kernel⟩, List.mem_of_getElem? (i := 259) (by decide +kernel), List.mem_of_getElem? (i := 994) (by decide +kernel), List.mem_of_getElem? (i := 995) (by decide +kernel)⟩
theorem lw_p35 : lw_okq (⟨"DevilsFount$Row", "orderTurned", "()V"⟩, 5) := ⟨⟨by decide +kernel, by decide +kernel⟩, List.mem_of_getElem? (i := 265) (by decide +kernel), List.mem_of_getElem? (i := 1006) (by decide +kernel), List.mem_of_getElem? (i := 1007) (by decide +kernel)⟩
theorem lw_p36 : lw_okq (⟨"DevilsFount$Row", "isTurnedLess", "(II)Z"⟩, 5) := ⟨⟨by decide +kernel, by decide +kernel⟩, List.mem_of_getElem? (i := 265) (by decide +kernel), List.mem_of_getElem? (i := 1010) (by decide +kernel), List.mem_of_getElem? (i := 1011) (by decide +kernel)⟩
theorem lw_p37 : lw_okq (⟨"DevilsFount$Row", "takeToFront", "(I)I"⟩, 5) := ⟨⟨by decide +kernel, by decide +kernel⟩, List.mem_of_getElem? (i := 265) (by decide +kernel), List.mem_of_getElem? (i := 1026) (by decide +kernel), List.mem_of_getElem? (i := 1027) (by decide +kernel)⟩
theorem lw_p38 : lw_okq (⟨"DevilsFount$Row", "standsBefore", "(II)Z"⟩, 5) := ⟨⟨by decide +kernel, by decide +kernel⟩, List.mem_of_getElem? (i := 265) (by decide +kernel), List.mem_of_getElem? (i := 1038) (by decide +kernel), List.mem_of_getElem? (i := 1039) (by decide +kernel)⟩
theorem lw_p39 : lw_okq (⟨"DevilsFount$Row", "areAlike", "(III)Z"⟩, 5) := ⟨⟨by decide +kernel, by decide +kernel⟩, List.mem_of_getElem? (i := 265) (by decide +kernel), List.mem_of_getElem? (i := 1042) (by decide +kernel), List.mem_of_getElem? (i := 1043) (by decide +kernel)⟩
theorem lw_p40 : lw_okq (⟨"DevilsFount$Row", "isMirror", "(II)Z"⟩, 5) := ⟨⟨by decide +kernel, by decide +kernel⟩, List.mem_of_getElem? (i := 265) (by decide +kernel), List.mem_of_getElem? (i := 1054) (by decide +kernel), List.mem_of_getElem? (i := 1055) (by decide +kernel)⟩
theorem lw_p41 : lw_okq (⟨"DevilsFount$Row", "headLength", "(I)I"⟩, 5) := ⟨⟨by decide +kernel, by decide +kernel⟩, List.mem_of_getElem? (i := 265) (by decide +kernel), List.mem_of_getElem? (i := 1063) (by decide +kernel), List.mem_of_getElem? (i := 1064) (by decide +kernel)⟩
theorem lw_p42 : lw_okq (⟨"DevilsFount$Row", "isHead", "(II)Z"⟩, 5) := ⟨⟨by decide +kernel, by decide +kernel⟩, List.mem_of_getElem? (i := 265) (by decide +kernel), List.mem_of_getElem? (i := 1067) (by decide +kernel), List.mem_of_getElem? (i := 1068) (by decide +kernel)⟩
theorem lw_p43 : lw_okq (⟨"DevilsFount$Row", "isLessThanEnd", "(III)Z"⟩, 5) := ⟨⟨by decide +kernel, by decide +kernel⟩, List.mem_of_getElem? (i := 265) (by decide +kernel), List.mem_of_getElem? (i := 1071) (by decide +kernel), List.mem_of_getElem? (i := 1072) (by decide +kernel)⟩
theorem lw_p44 : lw_okq (⟨"DevilsFount$Ring", "build", "(I)V"⟩, 4) := ⟨⟨by decide +kernel, by decide +kernel⟩, List.mem_of_getElem? (i := 392) (by decide +kernel), List.mem_of_getElem? (i := 1108) (by decide +kernel), List.mem_of_getElem? (i := 1109) (by decide +kernel)⟩
theorem lw_p45 : lw_okq (⟨"DevilsFount$Ring", "append", "(I)V"⟩, 4) := ⟨⟨by decide +kernel, by decide +kernel⟩, List.mem_of_getElem? (i := 392) (by decide +kernel), List.mem_of_getElem? (i := 1112) (by decide +kernel), List.mem_of_getElem? (i := 1113) (by decide +kernel)⟩
theorem lw_p46 : lw_okq (⟨"DevilsFount$Ring", "next", "(II)I"⟩, 4) := ⟨⟨by decide +kernel, by decide +kernel⟩, List.mem_of_getElem? (i := 392) (by decide +kernel), List.mem_of_getElem? (i := 1116) (by decide +kernel), List.mem_of_getElem? (i := 1117) (by decide +kernel)⟩
theorem lw_p47 : lw_okq (⟨"DevilsFount$Riddles", "worthOf", "(I)I"⟩, 5) := ⟨⟨by decide +kernel, by decide +kernel⟩, List.mem_of_getElem? (i := 259) (by decide +kernel), List.mem_of_getElem? (i := 1148) (by decide +kernel), List.mem_of_getElem? (i := 1149) (by decide +kernel)⟩
def lw_privs_3 : List (MethodName × Nat) := [(⟨"DevilsFount$Riddles", "countAlong", "(II)I"⟩, 5), (⟨"DevilsFount$Riddles", "standsFrom", "(IIII)Z"⟩, 5), (⟨"DevilsFount$Riddles", "reachedBy", "(II)I"⟩, 5), (⟨"DevilsFount$Row", "orderTurned", "()V"⟩, 5), (⟨"DevilsFount$Row", "isTurnedLess", "(II)Z"⟩, 5), (⟨"DevilsFount$Row", "takeToFront", "(I)I"⟩, 5), (⟨"DevilsFount$Row", "standsBefore", "(II)Z"⟩, 5), (⟨"DevilsFount$Row", "areAlike", "(III)Z"⟩, 5), (⟨"DevilsFount$Row", "isMirror", "(II)Z"⟩, 5), (⟨"DevilsFount$Row", "headLength", "(I)I"⟩, 5), (⟨"DevilsFount$Row", "isHead", "(II)Z"⟩, 5), (⟨"DevilsFount$Row", "isLessThanEnd", "(III)Z"⟩, 5), (⟨"DevilsFount$Ring", "build", "(I)V"⟩, 4), (⟨"DevilsFount$Ring", "append", "(I)V"⟩, 4), (⟨"DevilsFount$Ring", "next", "(II)I"⟩, 4), (⟨"DevilsFount$Riddles", "worthOf", "(I)I"⟩, 5)]
theorem lw_r3 : ∀ q ∈ lw_privs_3, lw_okq q := List.forall_mem_cons.mpr ⟨lw_p32, List.forall_mem_cons.mpr ⟨lw_p33, List.forall_mem_cons.mpr ⟨lw_p34, List.forall_mem_cons.mpr ⟨lw_p35, List.forall_mem_cons.mpr ⟨lw_p36, List.forall_mem_cons.mpr ⟨lw_p37, List.forall_mem_cons.mpr ⟨lw_p38, List.forall_mem_cons.mpr ⟨lw_p39, List.forall_mem_cons.mpr ⟨lw_p40, List.forall_mem_cons.mpr ⟨lw_p41, List.forall_mem_cons.mpr ⟨lw_p42, List.forall_mem_cons.mpr ⟨lw_p43, List.forall_mem_cons.mpr ⟨lw_p44, List.forall_mem_cons.mpr ⟨lw_p45, List.forall_mem_cons.mpr ⟨lw_p46, List.forall_mem_cons.mpr ⟨lw_p47, fun _ h => absurd h List.not_mem_nil⟩⟩⟩⟩⟩⟩⟩⟩⟩⟩⟩⟩⟩⟩⟩⟩
theorem lw_p48 : lw_okq (⟨"DevilsFount$Words", "begins", "(II)Z"⟩, 4) := ⟨⟨by decide +kernel, by decide +kernel⟩, List.mem_of_getElem? (i := 133) (by decide +kernel), List.mem_of_getElem? (i := 1166) (by decide +kernel), List.mem_of_getElem? (i := 1167) (by decide +kernel)⟩
theorem lw_p49 : lw_okq (⟨"DevilsFount$Words", "headOf", "(II)I"⟩, 4) := ⟨⟨by decide +kernel, by decide +kernel⟩, List.mem_of_getElem? (i := 133) (by decide +kernel), List.mem_of_getElem? (i := 1170) (by decide +kernel), List.mem_of_getElem? (i := 1171) (by decide +kernel)⟩
theorem lw_p50 : lw_okq (⟨"DevilsFount$Words", "isWhole", "(II)Z"⟩, 4) := ⟨⟨by decide +kernel, by decide +kernel⟩, List.mem_of_getElem? (i := 133) (by decide +kernel), List.mem_of_getElem? (i := 1174) (by decide +kernel), List.mem_of_getElem? (i := 1175) (by decide +kernel)⟩
theorem lw_p51 : lw_okq (⟨"DevilsFountModel", "isLetterNumber", "(I)Z"⟩, 59) := ⟨⟨by decide +kernel, by decide +kernel⟩, List.mem_of_getElem? (i := 1217) (by decide +kernel), List.mem_of_getElem? (i := 1413) (by decide +kernel), List.mem_of_getElem? (i := 1414) (by decide +kernel)⟩
theorem lw_p52 : lw_okq (⟨"DevilsFountModel", "isIn", "(III)Z"⟩, 59) := ⟨⟨by decide +kernel, by decide +kernel⟩, List.mem_of_getElem? (i := 1217) (by decide +kernel), List.mem_of_getElem? (i := 1417) (by decide +kernel), List.mem_of_getElem? (i := 1418) (by decide +kernel)⟩
theorem lw_p53 : lw_okq (⟨"DevilsFountModel", "types", "(I)V"⟩, 59) := ⟨⟨by decide +kernel, by decide +kernel⟩, List.mem_of_getElem? (i := 1217) (by decide +kernel), List.mem_of_getElem? (i := 1425) (by decide +kernel), List.mem_of_getElem? (i := 1426) (by decide +kernel)⟩
theorem lw_p54 : lw_okq (⟨"DevilsFountModel", "readsText", "(I)I"⟩, 59) := ⟨⟨by decide +kernel, by decide +kernel⟩, List.mem_of_getElem? (i := 1217) (by decide +kernel), List.mem_of_getElem? (i := 1437) (by decide +kernel), List.mem_of_getElem? (i := 1438) (by decide +kernel)⟩
theorem lw_p55 : lw_okq (⟨"DevilsFountModel", "reads", "()V"⟩, 59) := ⟨⟨by decide +kernel, by decide +kernel⟩, List.mem_of_getElem? (i := 1217) (by decide +kernel), List.mem_of_getElem? (i := 1441) (by decide +kernel), List.mem_of_getElem? (i := 1442) (by decide +kernel)⟩
theorem lw_p56 : lw_okq (⟨"DevilsFountModel", "raw", "(I)I"⟩, 59) := ⟨⟨by decide +kernel, by decide +kernel⟩, List.mem_of_getElem? (i := 1217) (by decide +kernel), List.mem_of_getElem? (i := 1445) (by decide +kernel), List.mem_of_getElem? (i := 1446) (by decide +kernel)⟩
theorem lw_p57 : lw_okq (⟨"DevilsFountModel", "isLetter", "(I)Z"⟩, 59) := ⟨⟨by decide +kernel, by decide +kernel⟩, List.mem_of_getElem? (i := 1217) (by decide +kernel), List.mem_of_getElem? (i := 1449) (by decide +kernel), List.mem_of_getElem? (i := 1450) (by decide +kernel)⟩
theorem lw_p58 : lw_okq (⟨"DevilsFountModel", "wordAt", "(II)I"⟩, 59) := ⟨⟨by decide +kernel, by decide +kernel⟩, List.mem_of_getElem? (i := 1217) (by decide +kernel), List.mem_of_getElem? (i := 1453) (by decide +kernel), List.mem_of_getElem? (i := 1454) (by decide +kernel)⟩
theorem lw_p59 : lw_okq (⟨"DevilsFountModel", "isKeyword", "(I)Z"⟩, 59) := ⟨⟨by decide +kernel, by decide +kernel⟩, List.mem_of_getElem? (i := 1217) (by decide +kernel), List.mem_of_getElem? (i := 1457) (by decide +kernel), List.mem_of_getElem? (i := 1458) (by decide +kernel)⟩
theorem lw_p60 : lw_okq (⟨"DevilsFountModel", "isDigit", "(I)Z"⟩, 59) := ⟨⟨by decide +kernel, by decide +kernel⟩, List.mem_of_getElem? (i := 1217) (by decide +kernel), List.mem_of_getElem? (i := 1461) (by decide +kernel), List.mem_of_getElem? (i := 1462) (by decide +kernel)⟩
theorem lw_p61 : lw_okq (⟨"DevilsFountModel", "isMarkSign", "(I)Z"⟩, 59) := ⟨⟨by decide +kernel, by decide +kernel⟩, List.mem_of_getElem? (i := 1217) (by decide +kernel), List.mem_of_getElem? (i := 1465) (by decide +kernel), List.mem_of_getElem? (i := 1466) (by decide +kernel)⟩
theorem lw_p62 : lw_okq (⟨"DevilsFountModel", "readJobs", "()I"⟩, 59) := ⟨⟨by decide +kernel, by decide +kernel⟩, List.mem_of_getElem? (i := 1217) (by decide +kernel), List.mem_of_getElem? (i := 1469) (by decide +kernel), List.mem_of_getElem? (i := 1470) (by decide +kernel)⟩
theorem lw_p63 : lw_okq (⟨"DevilsFountModel", "isWord", "(I)Z"⟩, 59) := ⟨⟨by decide +kernel, by decide +kernel⟩, List.mem_of_getElem? (i := 1217) (by decide +kernel), List.mem_of_getElem? (i := 1473) (by decide +kernel), List.mem_of_getElem? (i := 1474) (by decide +kernel)⟩
def lw_privs_4 : List (MethodName × Nat) := [(⟨"DevilsFount$Words", "begins", "(II)Z"⟩, 4), (⟨"DevilsFount$Words", "headOf", "(II)I"⟩, 4), (⟨"DevilsFount$Words", "isWhole", "(II)Z"⟩, 4), (⟨"DevilsFountModel", "isLetterNumber", "(I)Z"⟩, 59), (⟨"DevilsFountModel", "isIn", "(III)Z"⟩, 59), (⟨"DevilsFountModel", "types", "(I)V"⟩, 59), (⟨"DevilsFountModel", "readsText", "(I)I"⟩, 59), (⟨"DevilsFountModel", "reads", "()V"⟩, 59), (⟨"DevilsFountModel", "raw", "(I)I"⟩, 59), (⟨"DevilsFountModel", "isLetter", "(I)Z"⟩, 59), (⟨"DevilsFountModel", "wordAt", "(II)I"⟩, 59), (⟨"DevilsFountModel", "isKeyword", "(I)Z"⟩, 59), (⟨"DevilsFountModel", "isDigit", "(I)Z"⟩, 59), (⟨"DevilsFountModel", "isMarkSign", "(I)Z"⟩, 59), (⟨"DevilsFountModel", "readJobs", "()I"⟩, 59), (⟨"DevilsFountModel", "isWord", "(I)Z"⟩, 59)]
theorem lw_r4 : ∀ q ∈ lw_privs_4, lw_okq q := List.forall_mem_cons.mpr ⟨lw_p48, List.forall_mem_cons.mpr ⟨lw_p49, List.forall_mem_cons.mpr ⟨lw_p50, List.forall_mem_cons.mpr ⟨lw_p51, List.forall_mem_cons.mpr ⟨lw_p52, List.forall_mem_cons.mpr ⟨lw_p53, List.forall_mem_cons.mpr ⟨lw_p54, List.forall_mem_cons.mpr ⟨lw_p55, List.forall_mem_cons.mpr ⟨lw_p56, List.forall_mem_cons.mpr ⟨lw_p57, List.forall_mem_cons.mpr ⟨lw_p58, List.forall_mem_cons.mpr ⟨lw_p59, List.forall_mem_cons.mpr ⟨lw_p60, List.forall_mem_cons.mpr ⟨lw_p61, List.forall_mem_cons.mpr ⟨lw_p62, List.forall_mem_cons.mpr ⟨lw_p63, fun _ h => absurd h List.not_mem_nil⟩⟩⟩⟩⟩⟩⟩⟩⟩⟩⟩⟩⟩⟩⟩⟩
theorem lw_p64 : lw_okq (⟨"DevilsFountModel", "errs", "(I)I"⟩, 59) := ⟨⟨by decide +kernel, by decide +kernel⟩, List.mem_of_getElem? (i := 1217) (by decide +kernel), List.mem_of_getElem? (i := 1477) (by decide +kernel), List.mem_of_getElem? (i := 1478) (by decide +kernel)⟩
theorem lw_p65 : lw_okq (⟨"DevilsFountModel", "readTold", "(III)I"⟩, 59) := ⟨⟨by decide +kernel, by decide +kernel⟩, List.mem_of_getElem? (i := 1217) (by decide +kernel), List.mem_of_getElem? (i := 1481) (by decide +kernel), List.mem_of_getElem? (i := 1482) (by decide +kernel)⟩
theorem lw_p66 : lw_okq (⟨"DevilsFountModel", "readNumber", "(II)I"⟩, 59) := ⟨⟨by decide +kernel, by decide +kernel⟩, List.mem_of_getElem? (i := 1217) (by decide +kernel), List.mem_of_getElem? (i := 1485) (by decide +kernel), List.mem_of_getElem? (i := 1486) (by decide +kernel)⟩
theorem lw_p67 : lw_okq (⟨"DevilsFountModel", "readPlain", "(II)I"⟩, 59) := ⟨⟨by decide +kernel, by decide +kernel⟩, List.mem_of_getElem? (i := 1217) (by decide +kernel), List.mem_of_getElem? (i := 1489) (by decide +kernel), List.mem_of_getElem? (i := 1490) (by decide +kernel)⟩
theorem lw_p68 : lw_okq (⟨"DevilsFountModel", "readMark", "(I)I"⟩, 59) := ⟨⟨by decide +kernel, by decide +kernel⟩, List.mem_of_getElem? (i := 1217) (by decide +kernel), List.mem_of_getElem? (i := 1493) (by decide +kernel), List.mem_of_getElem? (i := 1494) (by decide +kernel)⟩
theorem lw_p69 : lw_okq (⟨"DevilsFountModel", "isSign", "(I)Z"⟩, 59) := ⟨⟨by decide +kernel, by decide +kernel⟩, List.mem_of_getElem? (i := 1217) (by decide +kernel), List.mem_of_getElem? (i := 1497) (by decide +kernel), List.mem_of_getElem? (i := 1498) (by decide +kernel)⟩
theorem lw_p70 : lw_okq (⟨"DevilsFountModel", "readBook", "()I"⟩, 59) := ⟨⟨by decide +kernel, by decide +kernel⟩, List.mem_of_getElem? (i := 1217) (by decide +kernel), List.mem_of_getElem? (i := 1501) (by decide +kernel), List.mem_of_getElem? (i := 1502) (by decide +kernel)⟩
theorem lw_p71 : lw_okq (⟨"DevilsFountModel", "readChanges", "()I"⟩, 59) := ⟨⟨by decide +kernel, by decide +kernel⟩, List.mem_of_getElem? (i := 1217) (by decide +kernel), List.mem_of_getElem? (i := 1505) (by decide +kernel), List.mem_of_getElem? (i := 1506) (by decide +kernel)⟩
theorem lw_p72 : lw_okq (⟨"DevilsFountModel", "readChange", "(I)I"⟩, 59) := ⟨⟨by decide +kernel, by decide +kernel⟩, List.mem_of_getElem? (i := 1217) (by decide +kernel), List.mem_of_getElem? (i := 1509) (by decide +kernel), List.mem_of_getElem? (i := 1510) (by decide +kernel)⟩
theorem lw_p73 : lw_okq (⟨"DevilsFountModel", "readLaw", "()I"⟩, 59) := ⟨⟨by decide +kernel, by decide +kernel⟩, List.mem_of_getElem? (i := 1217) (by decide +kernel), List.mem_of_getElem? (i := 1513) (by decide +kernel), List.mem_of_getElem? (i := 1514) (by decide +kernel)⟩
theorem lw_p74 : lw_okq (⟨"DevilsFountModel", "isLineWord", "()Z"⟩, 59) := ⟨⟨by decide +kernel, by decide +kernel⟩, List.mem_of_getElem? (i := 1217) (by decide +kernel), List.mem_of_getElem? (i := 1517) (by decide +kernel), List.mem_of_getElem? (i := 1518) (by decide +kernel)⟩
theorem lw_p75 : lw_okq (⟨"DevilsFountModel", "readSum", "()I"⟩, 59) := ⟨⟨by decide +kernel, by decide +kernel⟩, List.mem_of_getElem? (i := 1217) (by decide +kernel), List.mem_of_getElem? (i := 1521) (by decide +kernel), List.mem_of_getElem? (i := 1522) (by decide +kernel)⟩
theorem lw_p76 : lw_okq (⟨"DevilsFountModel", "readProduct", "()I"⟩, 59) := ⟨⟨by decide +kernel, by decide +kernel⟩, List.mem_of_getElem? (i := 1217) (by decide +kernel), List.mem_of_getElem? (i := 1525) (by decide +kernel), List.mem_of_getElem? (i := 1526) (by decide +kernel)⟩
theorem lw_p77 : lw_okq (⟨"DevilsFountModel", "readUnit", "()I"⟩, 59) := ⟨⟨by decide +kernel, by decide +kernel⟩, List.mem_of_getElem? (i := 1217) (by decide +kernel), List.mem_of_getElem? (i := 1529) (by decide +kernel), List.mem_of_getElem? (i := 1530) (by decide +kernel)⟩
theorem lw_p78 : lw_okq (⟨"DevilsFountModel", "canAsk", "(I)Z"⟩, 59) := ⟨⟨by decide +kernel, by decide +kernel⟩, List.mem_of_getElem? (i := 1217) (by decide +kernel), List.mem_of_getElem? (i := 1533) (by decide +kernel), List.mem_of_getElem? (i := 1534) (by decide +kernel)⟩
theorem lw_p79 : lw_okq (⟨"DevilsFountModel", "emits", "(II)V"⟩, 59) := ⟨⟨by decide +kernel, by decide +kernel⟩, List.mem_of_getElem? (i := 1217) (by decide +kernel), List.mem_of_getElem? (i := 1537) (by decide +kernel), List.mem_of_getElem? (i := 1538) (by decide +kernel)⟩
def lw_privs_5 : List (MethodName × Nat) := [(⟨"DevilsFountModel", "errs", "(I)I"⟩, 59), (⟨"DevilsFountModel", "readTold", "(III)I"⟩, 59), (⟨"DevilsFountModel", "readNumber", "(II)I"⟩, 59), (⟨"DevilsFountModel", "readPlain", "(II)I"⟩, 59), (⟨"DevilsFountModel", "readMark", "(I)I"⟩, 59), (⟨"DevilsFountModel", "isSign", "(I)Z"⟩, 59), (⟨"DevilsFountModel", "readBook", "()I"⟩, 59), (⟨"DevilsFountModel", "readChanges", "()I"⟩, 59), (⟨"DevilsFountModel", "readChange", "(I)I"⟩, 59), (⟨"DevilsFountModel", "readLaw", "()I"⟩, 59), (⟨"DevilsFountModel", "isLineWord", "()Z"⟩, 59), (⟨"DevilsFountModel", "readSum", "()I"⟩, 59), (⟨"DevilsFountModel", "readProduct", "()I"⟩, 59), (⟨"DevilsFountModel", "readUnit", "()I"⟩, 59), (⟨"DevilsFountModel", "canAsk", "(I)Z"⟩, 59), (⟨"DevilsFountModel", "emits", "(II)V"⟩, 59)]
theorem lw_r5 : ∀ q ∈ lw_privs_5, lw_okq q := List.forall_mem_cons.mpr ⟨lw_p64, List.forall_mem_cons.mpr ⟨lw_p65, List.forall_mem_cons.mpr ⟨lw_p66, List.forall_mem_cons.mpr ⟨lw_p67, List.forall_mem_cons.mpr ⟨lw_p68, List.forall_mem_cons.mpr ⟨lw_p69, List.forall_mem_cons.mpr ⟨lw_p70, List.forall_mem_cons.mpr ⟨lw_p71, List.forall_mem_cons.mpr ⟨lw_p72, List.forall_mem_cons.mpr ⟨lw_p73, List.forall_mem_cons.mpr ⟨lw_p74, List.forall_mem_cons.mpr ⟨lw_p75, List.forall_mem_cons.mpr ⟨lw_p76, List.forall_mem_cons.mpr ⟨lw_p77, List.forall_mem_cons.mpr ⟨lw_p78, List.forall_mem_cons.mpr ⟨lw_p79, fun _ h => absurd h List.not_mem_nil⟩⟩⟩⟩⟩⟩⟩⟩⟩⟩⟩⟩⟩⟩⟩⟩
theorem lw_p80 : lw_okq (⟨"DevilsFountModel", "readAny", "()I"⟩, 59) := ⟨⟨by decide +kernel, by decide +kernel⟩, List.mem_of_getElem? (i := 1217) (by decide +kernel), List.mem_of_getElem? (i := 1541) (by decide +kernel), List.mem_of_getElem? (i := 1542) (by decide +kernel)⟩
theorem lw_p81 : lw_okq (⟨"DevilsFountModel", "waits", "(I)V"⟩, 59) := ⟨⟨by decide +kernel, by decide +kernel⟩, List.mem_of_getElem? (i := 1217) (by decide +kernel), List.mem_of_getElem? (i := 1545) (by decide +kernel), List.mem_of_getElem? (i := 1546) (by decide +kernel)⟩
theorem lw_p82 : lw_okq (⟨"DevilsFountModel", "readCompared", "()I"⟩, 59) := ⟨⟨by decide +kernel, by decide +kernel⟩, List.mem_of_getElem? (i := 1217) (by decide +kernel), List.mem_of_getElem? (i := 1549) (by decide +kernel), List.mem_of_getElem? (i := 1550) (by decide +kernel)⟩
theorem lw_p83 : lw_okq (⟨"DevilsFountModel", "settles", "(I)V"⟩, 59) := ⟨⟨by decide +kernel, by decide +kernel⟩, List.mem_of_getElem? (i := 1217) (by decide +kernel), List.mem_of_getElem? (i := 1553) (by decide +kernel), List.mem_of_getElem? (i := 1554) (by decide +kernel)⟩
theorem lw_p84 : lw_okq (⟨"DevilsFountModel", "takesLaw", "(I)V"⟩, 59) := ⟨⟨by decide +kernel, by decide +kernel⟩, List.mem_of_getElem? (i := 1217) (by decide +kernel), List.mem_of_getElem? (i := 1557) (by decide +kernel), List.mem_of_getElem? (i := 1558) (by decide +kernel)⟩
theorem lw_p85 : lw_okq (⟨"DevilsFountModel", "takesOther", "(II)V"⟩, 59) := ⟨⟨by decide +kernel, by decide +kernel⟩, List.mem_of_getElem? (i := 1217) (by decide +kernel), List.mem_of_getElem? (i := 1561) (by decide +kernel), List.mem_of_getElem? (i := 1562) (by decide +kernel)⟩
theorem lw_p86 : lw_okq (⟨"DevilsFountModel", "takesWord", "(II)V"⟩, 59) := ⟨⟨by decide +kernel, by decide +kernel⟩, List.mem_of_getElem? (i := 1217) (by decide +kernel), List.mem_of_getElem? (i := 1565) (by decide +kernel), List.mem_of_getElem? (i := 1566) (by decide +kernel)⟩
theorem lw_p87 : lw_okq (⟨"DevilsFountModel", "canAct", "(II)Z"⟩, 59) := ⟨⟨by decide +kernel, by decide +kernel⟩, List.mem_of_getElem? (i := 1217) (by decide +kernel), List.mem_of_getElem? (i := 1577) (by decide +kernel), List.mem_of_getElem? (i := 1578) (by decide +kernel)⟩
theorem lw_p88 : lw_okq (⟨"DevilsFountModel", "canPrint", "(I)Z"⟩, 59) := ⟨⟨by decide +kernel, by decide +kernel⟩, List.mem_of_getElem? (i := 1217) (by decide +kernel), List.mem_of_getElem? (i := 1581) (by decide +kernel), List.mem_of_getElem? (i := 1582) (by decide +kernel)⟩
theorem lw_p89 : lw_okq (⟨"DevilsFountModel", "isPrinted", "(I)Z"⟩, 59) := ⟨⟨by decide +kernel, by decide +kernel⟩, List.mem_of_getElem? (i := 1217) (by decide +kernel), List.mem_of_getElem? (i := 1585) (by decide +kernel), List.mem_of_getElem? (i := 1586) (by decide +kernel)⟩
theorem lw_p90 : lw_okq (⟨"DevilsFountModel", "has", "(II)Z"⟩, 59) := ⟨⟨by decide +kernel, by decide +kernel⟩, List.mem_of_getElem? (i := 1217) (by decide +kernel), List.mem_of_getElem? (i := 1589) (by decide +kernel), List.mem_of_getElem? (i := 1590) (by decide +kernel)⟩
theorem lw_p91 : lw_okq (⟨"DevilsFountModel", "fillsBoxes", "()V"⟩, 59) := ⟨⟨by decide +kernel, by decide +kernel⟩, List.mem_of_getElem? (i := 1217) (by decide +kernel), List.mem_of_getElem? (i := 1593) (by decide +kernel), List.mem_of_getElem? (i := 1594) (by decide +kernel)⟩
theorem lw_p92 : lw_okq (⟨"DevilsFountModel", "lacks", "(I)I"⟩, 59) := ⟨⟨by decide +kernel, by decide +kernel⟩, List.mem_of_getElem? (i := 1217) (by decide +kernel), List.mem_of_getElem? (i := 1597) (by decide +kernel), List.mem_of_getElem? (i := 1598) (by decide +kernel)⟩
theorem lw_p93 : lw_okq (⟨"DevilsFountModel", "needs", "(II)I"⟩, 59) := ⟨⟨by decide +kernel, by decide +kernel⟩, List.mem_of_getElem? (i := 1217) (by decide +kernel), List.mem_of_getElem? (i := 1601) (by decide +kernel), List.mem_of_getElem? (i := 1602) (by decide +kernel)⟩
theorem lw_p94 : lw_okq (⟨"DevilsFountModel", "letterAt", "(II)I"⟩, 59) := ⟨⟨by decide +kernel, by decide +kernel⟩, List.mem_of_getElem? (i := 1217) (by decide +kernel), List.mem_of_getElem? (i := 1605) (by decide +kernel), List.mem_of_getElem? (i := 1606) (by decide +kernel)⟩
theorem lw_p95 : lw_okq (⟨"DevilsFountModel", "greater", "(II)I"⟩, 59) := ⟨⟨by decide +kernel, by decide +kernel⟩, List.mem_of_getElem? (i := 1217) (by decide +kernel), List.mem_of_getElem? (i := 1609) (by decide +kernel), List.mem_of_getElem? (i := 1610) (by decide +kernel)⟩
def lw_privs_6 : List (MethodName × Nat) := [(⟨"DevilsFountModel", "readAny", "()I"⟩, 59), (⟨"DevilsFountModel", "waits", "(I)V"⟩, 59), (⟨"DevilsFountModel", "readCompared", "()I"⟩, 59), (⟨"DevilsFountModel", "settles", "(I)V"⟩, 59), (⟨"DevilsFountModel", "takesLaw", "(I)V"⟩, 59), (⟨"DevilsFountModel", "takesOther", "(II)V"⟩, 59), (⟨"DevilsFountModel", "takesWord", "(II)V"⟩, 59), (⟨"DevilsFountModel", "canAct", "(II)Z"⟩, 59), (⟨"DevilsFountModel", "canPrint", "(I)Z"⟩, 59), (⟨"DevilsFountModel", "isPrinted", "(I)Z"⟩, 59), (⟨"DevilsFountModel", "has", "(II)Z"⟩, 59), (⟨"DevilsFountModel", "fillsBoxes", "()V"⟩, 59), (⟨"DevilsFountModel", "lacks", "(I)I"⟩, 59), (⟨"DevilsFountModel", "needs", "(II)I"⟩, 59), (⟨"DevilsFountModel", "letterAt", "(II)I"⟩, 59), (⟨"DevilsFountModel", "greater", "(II)I"⟩, 59)]
theorem lw_r6 : ∀ q ∈ lw_privs_6, lw_okq q := List.forall_mem_cons.mpr ⟨lw_p80, List.forall_mem_cons.mpr ⟨lw_p81, List.forall_mem_cons.mpr ⟨lw_p82, List.forall_mem_cons.mpr ⟨lw_p83, List.forall_mem_cons.mpr ⟨lw_p84, List.forall_mem_cons.mpr ⟨lw_p85, List.forall_mem_cons.mpr ⟨lw_p86, List.forall_mem_cons.mpr ⟨lw_p87, List.forall_mem_cons.mpr ⟨lw_p88, List.forall_mem_cons.mpr ⟨lw_p89, List.forall_mem_cons.mpr ⟨lw_p90, List.forall_mem_cons.mpr ⟨lw_p91, List.forall_mem_cons.mpr ⟨lw_p92, List.forall_mem_cons.mpr ⟨lw_p93, List.forall_mem_cons.mpr ⟨lw_p94, List.forall_mem_cons.mpr ⟨lw_p95, fun _ h => absurd h List.not_mem_nil⟩⟩⟩⟩⟩⟩⟩⟩⟩⟩⟩⟩⟩⟩⟩⟩
theorem lw_p96 : lw_okq (⟨"DevilsFountModel", "daring", "()I"⟩, 59) := ⟨⟨by decide +kernel, by decide +kernel⟩, List.mem_of_getElem? (i := 1217) (by decide +kernel), List.mem_of_getElem? (i := 1613) (by decide +kernel), List.mem_of_getElem? (i := 1614) (by decide +kernel)⟩
theorem lw_p97 : lw_okq (⟨"DevilsFountModel", "keepsAhead", "()V"⟩, 59) := ⟨⟨by decide +kernel, by decide +kernel⟩, List.mem_of_getElem? (i := 1217) (by decide +kernel), List.mem_of_getElem? (i := 1617) (by decide +kernel), List.mem_of_getElem? (i := 1618) (by decide +kernel)⟩
theorem lw_p98 : lw_okq (⟨"DevilsFountModel", "isSet", "(I)I"⟩, 59) := ⟨⟨by decide +kernel, by decide +kernel⟩, List.mem_of_getElem? (i := 1217) (by decide +kernel), List.mem_of_getElem? (i := 1621) (by decide +kernel), List.mem_of_getElem? (i := 1622) (by decide +kernel)⟩
theorem lw_p99 : lw_okq (⟨"DevilsFountModel", "comesOut", "(I)V"⟩, 59) := ⟨⟨by decide +kernel, by decide +kernel⟩, List.mem_of_getElem? (i := 1217) (by decide +kernel), List.mem_of_getElem? (i := 1625) (by decide +kernel), List.mem_of_getElem? (i := 1626) (by decide +kernel)⟩
theorem lw_p100 : lw_okq (⟨"DevilsFountModel", "breaksOf", "(I)I"⟩, 59) := ⟨⟨by decide +kernel, by decide +kernel⟩, List.mem_of_getElem? (i := 1217) (by decide +kernel), List.mem_of_getElem? (i := 1629) (by decide +kernel), List.mem_of_getElem? (i := 1630) (by decide +kernel)⟩
theorem lw_p101 : lw_okq (⟨"DevilsFountModel", "asks", "(I)V"⟩, 59) := ⟨⟨by decide +kernel, by decide +kernel⟩, List.mem_of_getElem? (i := 1217) (by decide +kernel), List.mem_of_getElem? (i := 1633) (by decide +kernel), List.mem_of_getElem? (i := 1634) (by decide +kernel)⟩
theorem lw_p102 : lw_okq (⟨"DevilsFountModel", "lesser", "(II)I"⟩, 59) := ⟨⟨by decide +kernel, by decide +kernel⟩, List.mem_of_getElem? (i := 1217) (by decide +kernel), List.mem_of_getElem? (i := 1638) (by decide +kernel), List.mem_of_getElem? (i := 1639) (by decide +kernel)⟩
theorem lw_p103 : lw_okq (⟨"DevilsFountModel", "onesOf", "(I)I"⟩, 59) := ⟨⟨by decide +kernel, by decide +kernel⟩, List.mem_of_getElem? (i := 1217) (by decide +kernel), List.mem_of_getElem? (i := 1642) (by decide +kernel), List.mem_of_getElem? (i := 1643) (by decide +kernel)⟩
theorem lw_p104 : lw_okq (⟨"DevilsFountModel", "lawTells", "(III)I"⟩, 59) := ⟨⟨by decide +kernel, by decide +kernel⟩, List.mem_of_getElem? (i := 1217) (by decide +kernel), List.mem_of_getElem? (i := 1646) (by decide +kernel), List.mem_of_getElem? (i := 1647) (by decide +kernel)⟩
theorem lw_p105 : lw_okq (⟨"DevilsFountModel", "lineOf", "(I)I"⟩, 59) := ⟨⟨by decide +kernel, by decide +kernel⟩, List.mem_of_getElem? (i := 1217) (by decide +kernel), List.mem_of_getElem? (i := 1650) (by decide +kernel), List.mem_of_getElem? (i := 1651) (by decide +kernel)⟩
theorem lw_p106 : lw_okq (⟨"DevilsFountModel", "runs", "(III)I"⟩, 59) := ⟨⟨by decide +kernel, by decide +kernel⟩, List.mem_of_getElem? (i := 1217) (by decide +kernel), List.mem_of_getElem? (i := 1654) (by decide +kernel), List.mem_of_getElem? (i := 1655) (by decide +kernel)⟩
theorem lw_p107 : lw_okq (⟨"DevilsFountModel", "twoOf", "(III)I"⟩, 59) := ⟨⟨by decide +kernel, by decide +kernel⟩, List.mem_of_getElem? (i := 1217) (by decide +kernel), List.mem_of_getElem? (i := 1658) (by decide +kernel), List.mem_of_getElem? (i := 1659) (by decide +kernel)⟩
theorem lw_p108 : lw_okq (⟨"DevilsFountModel", "held", "(III)I"⟩, 59) := ⟨⟨by decide +kernel, by decide +kernel⟩, List.mem_of_getElem? (i := 1217) (by decide +kernel), List.mem_of_getElem? (i := 1662) (by decide +kernel), List.mem_of_getElem? (i := 1663) (by decide +kernel)⟩
theorem lw_p109 : lw_okq (⟨"DevilsFountModel", "notes", "(III)V"⟩, 59) := ⟨⟨by decide +kernel, by decide +kernel⟩, List.mem_of_getElem? (i := 1217) (by decide +kernel), List.mem_of_getElem? (i := 1666) (by decide +kernel), List.mem_of_getElem? (i := 1667) (by decide +kernel)⟩
theorem lw_p110 : lw_okq (⟨"DevilsFountModel", "breaksUp", "(II)V"⟩, 59) := ⟨⟨by decide +kernel, by decide +kernel⟩, List.mem_of_getElem? (i := 1217) (by decide +kernel), List.mem_of_getElem? (i := 1670) (by decide +kernel), List.mem_of_getElem? (i := 1671) (by decide +kernel)⟩
theorem lw_p111 : lw_okq (⟨"DevilsFountModel", "goesBy", "()I"⟩, 59) := ⟨⟨by decide +kernel, by decide +kernel⟩, List.mem_of_getElem? (i := 1217) (by decide +kernel), List.mem_of_getElem? (i := 1678) (by decide +kernel), List.mem_of_getElem? (i := 1679) (by decide +kernel)⟩
def lw_privs_7 : List (MethodName × Nat) := [(⟨"DevilsFountModel", "daring", "()I"⟩, 59), (⟨"DevilsFountModel", "keepsAhead", "()V"⟩, 59), (⟨"DevilsFountModel", "isSet", "(I)I"⟩, 59), (⟨"DevilsFountModel", "comesOut", "(I)V"⟩, 59), (⟨"DevilsFountModel", "breaksOf", "(I)I"⟩, 59), (⟨"DevilsFountModel", "asks", "(I)V"⟩, 59), (⟨"DevilsFountModel", "lesser", "(II)I"⟩, 59), (⟨"DevilsFountModel", "onesOf", "(I)I"⟩, 59), (⟨"DevilsFountModel", "lawTells", "(III)I"⟩, 59), (⟨"DevilsFountModel", "lineOf", "(I)I"⟩, 59), (⟨"DevilsFountModel", "runs", "(III)I"⟩, 59), (⟨"DevilsFountModel", "twoOf", "(III)I"⟩, 59), (⟨"DevilsFountModel", "held", "(III)I"⟩, 59), (⟨"DevilsFountModel", "notes", "(III)V"⟩, 59), (⟨"DevilsFountModel", "breaksUp", "(II)V"⟩, 59), (⟨"DevilsFountModel", "goesBy", "()I"⟩, 59)]
theorem lw_r7 : ∀ q ∈ lw_privs_7, lw_okq q := List.forall_mem_cons.mpr ⟨lw_p96, List.forall_mem_cons.mpr ⟨lw_p97, List.forall_mem_cons.mpr ⟨lw_p98, List.forall_mem_cons.mpr ⟨lw_p99, List.forall_mem_cons.mpr ⟨lw_p100, List.forall_mem_cons.mpr ⟨lw_p101, List.forall_mem_cons.mpr ⟨lw_p102, List.forall_mem_cons.mpr ⟨lw_p103, List.forall_mem_cons.mpr ⟨lw_p104, List.forall_mem_cons.mpr ⟨lw_p105, List.forall_mem_cons.mpr ⟨lw_p106, List.forall_mem_cons.mpr ⟨lw_p107, List.forall_mem_cons.mpr ⟨lw_p108, List.forall_mem_cons.mpr ⟨lw_p109, List.forall_mem_cons.mpr ⟨lw_p110, List.forall_mem_cons.mpr ⟨lw_p111, fun _ h => absurd h List.not_mem_nil⟩⟩⟩⟩⟩⟩⟩⟩⟩⟩⟩⟩⟩⟩⟩⟩
theorem lw_p112 : lw_okq (⟨"DevilsFountModel", "comes", "(I)V"⟩, 59) := ⟨⟨by decide +kernel, by decide +kernel⟩, List.mem_of_getElem? (i := 1217) (by decide +kernel), List.mem_of_getElem? (i := 1682) (by decide +kernel), List.mem_of_getElem? (i := 1683) (by decide +kernel)⟩
theorem lw_p113 : lw_okq (⟨"DevilsFountModel", "jobsSet", "()I"⟩, 59) := ⟨⟨by decide +kernel, by decide +kernel⟩, List.mem_of_getElem? (i := 1217) (by decide +kernel), List.mem_of_getElem? (i := 1686) (by decide +kernel), List.mem_of_getElem? (i := 1687) (by decide +kernel)⟩
theorem lw_p114 : lw_okq (⟨"DevilsFountModel", "setsOf", "(I)I"⟩, 59) := ⟨⟨by decide +kernel, by decide +kernel⟩, List.mem_of_getElem? (i := 1217) (by decide +kernel), List.mem_of_getElem? (i := 1690) (by decide +kernel), List.mem_of_getElem? (i := 1691) (by decide +kernel)⟩
theorem lw_p115 : lw_okq (⟨"DevilsFountModel", "happens", "(I)Z"⟩, 59) := ⟨⟨by decide +kernel, by decide +kernel⟩, List.mem_of_getElem? (i := 1217) (by decide +kernel), List.mem_of_getElem? (i := 1694) (by decide +kernel), List.mem_of_getElem? (i := 1695) (by decide +kernel)⟩
theorem lw_p116 : lw_okq (⟨"DevilsFountModel", "draw", "(I)I"⟩, 59) := ⟨⟨by decide +kernel, by decide +kernel⟩, List.mem_of_getElem? (i := 1217) (by decide +kernel), List.mem_of_getElem? (i := 1698) (by decide +kernel), List.mem_of_getElem? (i := 1699) (by decide +kernel)⟩
theorem lw_p117 : lw_okq (⟨"DevilsFountModel", "devilSets", "()V"⟩, 59) := ⟨⟨by decide +kernel, by decide +kernel⟩, List.mem_of_getElem? (i := 1217) (by decide +kernel), List.mem_of_getElem? (i := 1704) (by decide +kernel), List.mem_of_getElem? (i := 1705) (by decide +kernel)⟩
theorem lw_p118 : lw_okq (⟨"DevilsFountModel", "daresOf", "(I)I"⟩, 59) := ⟨⟨by decide +kernel, by decide +kernel⟩, List.mem_of_getElem? (i := 1217) (by decide +kernel), List.mem_of_getElem? (i := 1708) (by decide +kernel), List.mem_of_getElem? (i := 1709) (by decide +kernel)⟩
theorem lw_p119 : lw_okq (⟨"DevilsFountModel", "standsInJobs", "(I)I"⟩, 59) := ⟨⟨by decide +kernel, by decide +kernel⟩, List.mem_of_getElem? (i := 1217) (by decide +kernel), List.mem_of_getElem? (i := 1716) (by decide +kernel), List.mem_of_getElem? (i := 1717) (by decide +kernel)⟩
theorem lw_p120 : lw_okq (⟨"DevilsFountModel", "standsInBook", "(I)I"⟩, 59) := ⟨⟨by decide +kernel, by decide +kernel⟩, List.mem_of_getElem? (i := 1217) (by decide +kernel), List.mem_of_getElem? (i := 1720) (by decide +kernel), List.mem_of_getElem? (i := 1721) (by decide +kernel)⟩
theorem lw_p121 : lw_okq (⟨"DevilsFountModel", "letterOrNone", "(II)I"⟩, 59) := ⟨⟨by decide +kernel, by decide +kernel⟩, List.mem_of_getElem? (i := 1217) (by decide +kernel), List.mem_of_getElem? (i := 1728) (by decide +kernel), List.mem_of_getElem? (i := 1729) (by decide +kernel)⟩
theorem lw_p122 : lw_okq (⟨"DevilsFountModel", "thinks", "()V"⟩, 59) := ⟨⟨by decide +kernel, by decide +kernel⟩, List.mem_of_getElem? (i := 1217) (by decide +kernel), List.mem_of_getElem? (i := 1744) (by decide +kernel), List.mem_of_getElem? (i := 1745) (by decide +kernel)⟩
theorem lw_p123 : lw_okq (⟨"DevilsFountModel", "allSorts", "()I"⟩, 59) := ⟨⟨by decide +kernel, by decide +kernel⟩, List.mem_of_getElem? (i := 1217) (by decide +kernel), List.mem_of_getElem? (i := 1748) (by decide +kernel), List.mem_of_getElem? (i := 1749) (by decide +kernel)⟩
theorem lw_p124 : lw_okq (⟨"DevilsFountModel", "endsThought", "()V"⟩, 59) := ⟨⟨by decide +kernel, by decide +kernel⟩, List.mem_of_getElem? (i := 1217) (by decide +kernel), List.mem_of_getElem? (i := 1752) (by decide +kernel), List.mem_of_getElem? (i := 1753) (by decide +kernel)⟩
theorem lw_p125 : lw_okq (⟨"DevilsFountModel", "stands", "(IIII)Z"⟩, 59) := ⟨⟨by decide +kernel, by decide +kernel⟩, List.mem_of_getElem? (i := 1217) (by decide +kernel), List.mem_of_getElem? (i := 1772) (by decide +kernel), List.mem_of_getElem? (i := 1773) (by decide +kernel)⟩
theorem lw_p126 : lw_okq (⟨"DevilsFountModel", "doFit", "(II)Z"⟩, 59) := ⟨⟨by decide +kernel, by decide +kernel⟩, List.mem_of_getElem? (i := 1217) (by decide +kernel), List.mem_of_getElem? (i := 1788) (by decide +kernel), List.mem_of_getElem? (i := 1789) (by decide +kernel)⟩
theorem lw_p127 : lw_okq (⟨"DevilsFountModel", "placeOf", "(I)I"⟩, 59) := ⟨⟨by decide +kernel, by decide +kernel⟩, List.mem_of_getElem? (i := 1217) (by decide +kernel), List.mem_of_getElem? (i := 1796) (by decide +kernel), List.mem_of_getElem? (i := 1797) (by decide +kernel)⟩
def lw_privs_8 : List (MethodName × Nat) := [(⟨"DevilsFountModel", "comes", "(I)V"⟩, 59), (⟨"DevilsFountModel", "jobsSet", "()I"⟩, 59), (⟨"DevilsFountModel", "setsOf", "(I)I"⟩, 59), (⟨"DevilsFountModel", "happens", "(I)Z"⟩, 59), (⟨"DevilsFountModel", "draw", "(I)I"⟩, 59), (⟨"DevilsFountModel", "devilSets", "()V"⟩, 59), (⟨"DevilsFountModel", "daresOf", "(I)I"⟩, 59), (⟨"DevilsFountModel", "standsInJobs", "(I)I"⟩, 59), (⟨"DevilsFountModel", "standsInBook", "(I)I"⟩, 59), (⟨"DevilsFountModel", "letterOrNone", "(II)I"⟩, 59), (⟨"DevilsFountModel", "thinks", "()V"⟩, 59), (⟨"DevilsFountModel", "allSorts", "()I"⟩, 59), (⟨"DevilsFountModel", "endsThought", "()V"⟩, 59), (⟨"DevilsFountModel", "stands", "(IIII)Z"⟩, 59), (⟨"DevilsFountModel", "doFit", "(II)Z"⟩, 59), (⟨"DevilsFountModel", "placeOf", "(I)I"⟩, 59)]
theorem lw_r8 : ∀ q ∈ lw_privs_8, lw_okq q := List.forall_mem_cons.mpr ⟨lw_p112, List.forall_mem_cons.mpr ⟨lw_p113, List.forall_mem_cons.mpr ⟨lw_p114, List.forall_mem_cons.mpr ⟨lw_p115, List.forall_mem_cons.mpr ⟨lw_p116, List.forall_mem_cons.mpr ⟨lw_p117, List.forall_mem_cons.mpr ⟨lw_p118, List.forall_mem_cons.mpr ⟨lw_p119, List.forall_mem_cons.mpr ⟨lw_p120, List.forall_mem_cons.mpr ⟨lw_p121, List.forall_mem_cons.mpr ⟨lw_p122, List.forall_mem_cons.mpr ⟨lw_p123, List.forall_mem_cons.mpr ⟨lw_p124, List.forall_mem_cons.mpr ⟨lw_p125, List.forall_mem_cons.mpr ⟨lw_p126, List.forall_mem_cons.mpr ⟨lw_p127, fun _ h => absurd h List.not_mem_nil⟩⟩⟩⟩⟩⟩⟩⟩⟩⟩⟩⟩⟩⟩⟩⟩
theorem lw_p128 : lw_okq (⟨"DevilsFountModel", "compares", "(II)I"⟩, 59) := ⟨⟨by decide +kernel, by decide +kernel⟩, List.mem_of_getElem? (i := 1217) (by decide +kernel), List.mem_of_getElem? (i := 1800) (by decide +kernel), List.mem_of_getElem? (i := 1801) (by decide +kernel)⟩
theorem lw_p129 : lw_okq (⟨"DevilsFountModel", "pieces", "()I"⟩, 59) := ⟨⟨by decide +kernel, by decide +kernel⟩, List.mem_of_getElem? (i := 1217) (by decide +kernel), List.mem_of_getElem? (i := 1812) (by decide +kernel), List.mem_of_getElem? (i := 1813) (by decide +kernel)⟩
theorem lw_p130 : lw_okq (⟨"DevilsFountModel", "areAlike", "(III)Z"⟩, 59) := ⟨⟨by decide +kernel, by decide +kernel⟩, List.mem_of_getElem? (i := 1217) (by decide +kernel), List.mem_of_getElem? (i := 1816) (by decide +kernel), List.mem_of_getElem? (i := 1817) (by decide +kernel)⟩
theorem lw_p131 : lw_okq (⟨"DevilsFountModel", "border", "()I"⟩, 59) := ⟨⟨by decide +kernel, by decide +kernel⟩, List.mem_of_getElem? (i := 1217) (by decide +kernel), List.mem_of_getElem? (i := 1820) (by decide +kernel), List.mem_of_getElem? (i := 1821) (by decide +kernel)⟩
theorem lw_p132 : lw_okq (⟨"DevilsFountModel", "mirrors", "()I"⟩, 59) := ⟨⟨by decide +kernel, by decide +kernel⟩, List.mem_of_getElem? (i := 1217) (by decide +kernel), List.mem_of_getElem? (i := 1824) (by decide +kernel), List.mem_of_getElem? (i := 1825) (by decide +kernel)⟩
theorem lw_p133 : lw_okq (⟨"DevilsFountModel", "readsAlike", "(II)Z"⟩, 59) := ⟨⟨by decide +kernel, by decide +kernel⟩, List.mem_of_getElem? (i := 1217) (by decide +kernel), List.mem_of_getElem? (i := 1828) (by decide +kernel), List.mem_of_getElem? (i := 1829) (by decide +kernel)⟩
theorem lw_p134 : lw_okq (⟨"DevilsFountModel", "heads", "()I"⟩, 59) := ⟨⟨by decide +kernel, by decide +kernel⟩, List.mem_of_getElem? (i := 1217) (by decide +kernel), List.mem_of_getElem? (i := 1832) (by decide +kernel), List.mem_of_getElem? (i := 1833) (by decide +kernel)⟩
theorem lw_p135 : lw_okq (⟨"DevilsFountModel", "isHead", "(II)Z"⟩, 59) := ⟨⟨by decide +kernel, by decide +kernel⟩, List.mem_of_getElem? (i := 1217) (by decide +kernel), List.mem_of_getElem? (i := 1836) (by decide +kernel), List.mem_of_getElem? (i := 1837) (by decide +kernel)⟩
theorem lw_p136 : lw_okq (⟨"DevilsFountModel", "isLess", "(III)Z"⟩, 59) := ⟨⟨by decide +kernel, by decide +kernel⟩, List.mem_of_getElem? (i := 1217) (by decide +kernel), List.mem_of_getElem? (i := 1840) (by decide +kernel), List.mem_of_getElem? (i := 1841) (by decide +kernel)⟩
theorem lw_p137 : lw_okq (⟨"DevilsFountModel", "sevenOf", "(I)I"⟩, 59) := ⟨⟨by decide +kernel, by decide +kernel⟩, List.mem_of_getElem? (i := 1217) (by decide +kernel), List.mem_of_getElem? (i := 1848) (by decide +kernel), List.mem_of_getElem? (i := 1849) (by decide +kernel)⟩
theorem lw_p138 : lw_okq (⟨"DevilsFountModel", "bitOf", "(II)I"⟩, 59) := ⟨⟨by decide +kernel, by decide +kernel⟩, List.mem_of_getElem? (i := 1217) (by decide +kernel), List.mem_of_getElem? (i := 1852) (by decide +kernel), List.mem_of_getElem? (i := 1853) (by decide +kernel)⟩
theorem lw_p139 : lw_okq (⟨"DevilsFountModel", "wrongPlace", "(I)I"⟩, 59) := ⟨⟨by decide +kernel, by decide +kernel⟩, List.mem_of_getElem? (i := 1217) (by decide +kernel), List.mem_of_getElem? (i := 1856) (by decide +kernel), List.mem_of_getElem? (i := 1857) (by decide +kernel)⟩
theorem lw_p140 : lw_okq (⟨"DevilsFountModel", "fourOf", "(I)I"⟩, 59) := ⟨⟨by decide +kernel, by decide +kernel⟩, List.mem_of_getElem? (i := 1217) (by decide +kernel), List.mem_of_getElem? (i := 1860) (by decide +kernel), List.mem_of_getElem? (i := 1861) (by decide +kernel)⟩
theorem lw_p141 : lw_okq (⟨"DevilsFountModel", "highestOf", "(I)I"⟩, 59) := ⟨⟨by decide +kernel, by decide +kernel⟩, List.mem_of_getElem? (i := 1217) (by decide +kernel), List.mem_of_getElem? (i := 1869) (by decide +kernel), List.mem_of_getElem? (i := 1870) (by decide +kernel)⟩
theorem lw_p142 : lw_okq (⟨"DevilsFountModel", "laysRing", "(I)V"⟩, 59) := ⟨⟨by decide +kernel, by decide +kernel⟩, List.mem_of_getElem? (i := 1217) (by decide +kernel), List.mem_of_getElem? (i := 1877) (by decide +kernel), List.mem_of_getElem? (i := 1878) (by decide +kernel)⟩
theorem lw_p143 : lw_okq (⟨"DevilsFountModel", "takesKey", "(I)I"⟩, 59) := ⟨⟨by decide +kernel, by decide +kernel⟩, List.mem_of_getElem? (i := 1217) (by decide +kernel), List.mem_of_getElem? (i := 1885) (by decide +kernel), List.mem_of_getElem? (i := 1886) (by decide +kernel)⟩
def lw_privs_9 : List (MethodName × Nat) := [(⟨"DevilsFountModel", "compares", "(II)I"⟩, 59), (⟨"DevilsFountModel", "pieces", "()I"⟩, 59), (⟨"DevilsFountModel", "areAlike", "(III)Z"⟩, 59), (⟨"DevilsFountModel", "border", "()I"⟩, 59), (⟨"DevilsFountModel", "mirrors", "()I"⟩, 59), (⟨"DevilsFountModel", "readsAlike", "(II)Z"⟩, 59), (⟨"DevilsFountModel", "heads", "()I"⟩, 59), (⟨"DevilsFountModel", "isHead", "(II)Z"⟩, 59), (⟨"DevilsFountModel", "isLess", "(III)Z"⟩, 59), (⟨"DevilsFountModel", "sevenOf", "(I)I"⟩, 59), (⟨"DevilsFountModel", "bitOf", "(II)I"⟩, 59), (⟨"DevilsFountModel", "wrongPlace", "(I)I"⟩, 59), (⟨"DevilsFountModel", "fourOf", "(I)I"⟩, 59), (⟨"DevilsFountModel", "highestOf", "(I)I"⟩, 59), (⟨"DevilsFountModel", "laysRing", "(I)V"⟩, 59), (⟨"DevilsFountModel", "takesKey", "(I)I"⟩, 59)]
theorem lw_r9 : ∀ q ∈ lw_privs_9, lw_okq q := List.forall_mem_cons.mpr ⟨lw_p128, List.forall_mem_cons.mpr ⟨lw_p129, List.forall_mem_cons.mpr ⟨lw_p130, List.forall_mem_cons.mpr ⟨lw_p131, List.forall_mem_cons.mpr ⟨lw_p132, List.forall_mem_cons.mpr ⟨lw_p133, List.forall_mem_cons.mpr ⟨lw_p134, List.forall_mem_cons.mpr ⟨lw_p135, List.forall_mem_cons.mpr ⟨lw_p136, List.forall_mem_cons.mpr ⟨lw_p137, List.forall_mem_cons.mpr ⟨lw_p138, List.forall_mem_cons.mpr ⟨lw_p139, List.forall_mem_cons.mpr ⟨lw_p140, List.forall_mem_cons.mpr ⟨lw_p141, List.forall_mem_cons.mpr ⟨lw_p142, List.forall_mem_cons.mpr ⟨lw_p143, fun _ h => absurd h List.not_mem_nil⟩⟩⟩⟩⟩⟩⟩⟩⟩⟩⟩⟩⟩⟩⟩⟩
theorem lw_p144 : lw_okq (⟨"DevilsFountModel", "worthOf", "(II)I"⟩, 59) := ⟨⟨by decide +kernel, by decide +kernel⟩, List.mem_of_getElem? (i := 1217) (by decide +kernel), List.mem_of_getElem? (i := 1897) (by decide +kernel), List.mem_of_getElem? (i := 1898) (by decide +kernel)⟩
theorem lw_p145 : lw_okq (⟨"DevilsFountModel", "kindOfBeginning", "(I)I"⟩, 59) := ⟨⟨by decide +kernel, by decide +kernel⟩, List.mem_of_getElem? (i := 1217) (by decide +kernel), List.mem_of_getElem? (i := 1905) (by decide +kernel), List.mem_of_getElem? (i := 1906) (by decide +kernel)⟩
theorem lw_p146 : lw_okq (⟨"DevilsFountModel", "goodLetter", "(I)I"⟩, 59) := ⟨⟨by decide +kernel, by decide +kernel⟩, List.mem_of_getElem? (i := 1217) (by decide +kernel), List.mem_of_getElem? (i := 1909) (by decide +kernel), List.mem_of_getElem? (i := 1910) (by decide +kernel)⟩
theorem lw_p147 : lw_okq (⟨"DevilsFountModel", "keeps", "(I)I"⟩, 59) := ⟨⟨by decide +kernel, by decide +kernel⟩, List.mem_of_getElem? (i := 1217) (by decide +kernel), List.mem_of_getElem? (i := 1917) (by decide +kernel), List.mem_of_getElem? (i := 1918) (by decide +kernel)⟩
theorem lw_p148 : lw_okq (⟨"DevilsFountModel", "keepsTold", "()V"⟩, 59) := ⟨⟨by decide +kernel, by decide +kernel⟩, List.mem_of_getElem? (i := 1217) (by decide +kernel), List.mem_of_getElem? (i := 1921) (by decide +kernel), List.mem_of_getElem? (i := 1922) (by decide +kernel)⟩
theorem lw_p149 : lw_okq (⟨"DevilsFountModel", "keepsLaw", "()V"⟩, 59) := ⟨⟨by decide +kernel, by decide +kernel⟩, List.mem_of_getElem? (i := 1217) (by decide +kernel), List.mem_of_getElem? (i := 1925) (by decide +kernel), List.mem_of_getElem? (i := 1926) (by decide +kernel)⟩
def lw_privs_10 : List (MethodName × Nat) := [(⟨"DevilsFountModel", "worthOf", "(II)I"⟩, 59), (⟨"DevilsFountModel", "kindOfBeginning", "(I)I"⟩, 59), (⟨"DevilsFountModel", "goodLetter", "(I)I"⟩, 59), (⟨"DevilsFountModel", "keeps", "(I)I"⟩, 59), (⟨"DevilsFountModel", "keepsTold", "()V"⟩, 59), (⟨"DevilsFountModel", "keepsLaw", "()V"⟩, 59)]
theorem lw_r10 : ∀ q ∈ lw_privs_10, lw_okq q := List.forall_mem_cons.mpr ⟨lw_p144, List.forall_mem_cons.mpr ⟨lw_p145, List.forall_mem_cons.mpr ⟨lw_p146, List.forall_mem_cons.mpr ⟨lw_p147, List.forall_mem_cons.mpr ⟨lw_p148, List.forall_mem_cons.mpr ⟨lw_p149, fun _ h => absurd h List.not_mem_nil⟩⟩⟩⟩⟩⟩
def lw_privs : List (MethodName × Nat) := lw_privs_1 ++ (lw_privs_2 ++ (lw_privs_3 ++ (lw_privs_4 ++ (lw_privs_5 ++ (lw_privs_6 ++ (lw_privs_7 ++ (lw_privs_8 ++ (lw_privs_9 ++ (lw_privs_10)))))))))
def lw_tbl : List Cond := k2_sels lw_privs ++ tables_1
theorem lw_privs_ok : ∀ q ∈ lw_privs, lw_okq q := by
  show ∀ q ∈ lw_privs_1 ++ (lw_privs_2 ++ (lw_privs_3 ++ (lw_privs_4 ++ (lw_privs_5 ++ (lw_privs_6 ++ (lw_privs_7 ++ (lw_privs_8 ++ (lw_privs_9 ++ (lw_privs_10))))))))), lw_okq q
  exact List.forall_mem_append.mpr ⟨lw_r1, List.forall_mem_append.mpr ⟨lw_r2, List.forall_mem_append.mpr ⟨lw_r3, List.forall_mem_append.mpr ⟨lw_r4, List.forall_mem_append.mpr ⟨lw_r5, List.forall_mem_append.mpr ⟨lw_r6, List.forall_mem_append.mpr ⟨lw_r7, List.forall_mem_append.mpr ⟨lw_r8, List.forall_mem_append.mpr ⟨lw_r9, lw_r10⟩⟩⟩⟩⟩⟩⟩⟩⟩
-- ===== end of PART A; then your names; then what follows =====
theorem bs_pos {C : String} {T : u_T} {N : Nat} (ps : List Nat) (h : ((List.range N).all fun k => decide (lw_tbl[ps.getD k 0]? = some (u_lay C T k))) = true) : ∀ w ∈ u_ws C T N, w ∈ lw_tbl := by
  intro w hw
  obtain ⟨k, hk, rfl⟩ := List.mem_map.mp hw
  have := List.all_eq_true.mp h k hk
  exact List.mem_of_getElem? (of_decide_eq_true this)
def TX0 : u_T := fun k => match k with
  | 0 => ("DevilsFount$Changes", "count", "I", false)
  | 1 => ("DevilsFount$Changes", "days", "[I", true)
  | 2 => ("DevilsFount$Changes", "deeds", "[I", true)
  | 3 => ("DevilsFount$Changes", "letters", "[I", true)
  | _ => ("DevilsFount$Changes", "amounts", "[I", true)
def tyX0 : Nat → FieldType := fun k => match k with
  | 0 => .int
  | 1 => .array .int
  | 2 => .array .int
  | 3 => .array .int
  | _ => .array .int
theorem nmX0 : ∀ a, a < 5 → ∀ b, b < 5 → a ≠ b → (TX0 a).2.1 ≠ (TX0 b).2.1 := by decide +kernel
theorem tyX0_ok : ∀ k, k < 5 → parseFieldDescriptor (TX0 k).2.2.1 = some (tyX0 k) := by decide +kernel
theorem inqX0 : ∀ w ∈ u_ws "DevilsFount$Changes" TX0 5, w ∈ lw_tbl := bs_pos [324, 326, 328, 330, 332] (by decide +kernel)
def TX1 : u_T := fun k => match k with
  | 0 => ("DevilsFount$Law", "count", "I", false)
  | 1 => ("DevilsFount$Law", "asked", "[I", true)
  | 2 => ("DevilsFount$Law", "begins", "[I", true)
  | 3 => ("DevilsFount$Law", "conditions", "[I", true)
  | 4 => ("DevilsFount$Law", "ends", "[I", true)
  | 5 => ("DevilsFount$Law", "code", "[I", true)
  | 6 => ("DevilsFount$Law", "used", "I", false)
  | 7 => ("DevilsFount$Law", "held", "[I", true)
  | 8 => ("DevilsFount$Law", "holding", "I", false)
  | 9 => ("DevilsFount$Law", "open", "I", false)
  | _ => ("DevilsFount$Law", "stack", "[I", true)
def tyX1 : Nat → FieldType := fun k => match k with
  | 0 => .int
  | 1 => .array .int
  | 2 => .array .int
  | 3 => .array .int
  | 4 => .array .int
  | 5 => .array .int
  | 6 => .int
  | 7 => .array .int
  | 8 => .int
  | 9 => .int
  | _ => .array .int
theorem nmX1 : ∀ a, a < 11 → ∀ b, b < 11 → a ≠ b → (TX1 a).2.1 ≠ (TX1 b).2.1 := by decide +kernel
theorem tyX1_ok : ∀ k, k < 11 → parseFieldDescriptor (TX1 k).2.2.1 = some (tyX1 k) := by decide +kernel
theorem inqX1 : ∀ w ∈ u_ws "DevilsFount$Law" TX1 11, w ∈ lw_tbl := bs_pos [259, 261, 263, 265, 267, 269, 271, 273, 275, 277, 279] (by decide +kernel)
def TX2 : u_T := fun k => match k with
  | 0 => ("DevilsFount$Past", "kept", "[LDevilsFount$Standing;", true)
  | 1 => ("DevilsFount$Past", "next", "I", false)
  | _ => ("DevilsFount$Past", "count", "I", false)
def tyX2 : Nat → FieldType := fun k => match k with
  | 0 => .array (.object "DevilsFount$Standing")
  | 1 => .int
  | _ => .int
theorem nmX2 : ∀ a, a < 3 → ∀ b, b < 3 → a ≠ b → (TX2 a).2.1 ≠ (TX2 b).2.1 := by decide +kernel
theorem tyX2_ok : ∀ k, k < 3 → parseFieldDescriptor (TX2 k).2.2.1 = some (tyX2 k) := by decide +kernel
theorem inqX2 : ∀ w ∈ u_ws "DevilsFount$Past" TX2 3, w ∈ lw_tbl := bs_pos [534, 536, 538] (by decide +kernel)
def TX3 : u_T := fun k => match k with
  | 0 => ("DevilsFount$Press", "shop", "LDevilsFount$Shop;", true)
  | 1 => ("DevilsFount$Press", "thought", "LDevilsFount$Standing;", true)
  | 2 => ("DevilsFount$Press", "boxes", "[I", true)
  | 3 => ("DevilsFount$Press", "facts", "[I", true)
  | 4 => ("DevilsFount$Press", "breaking", "[I", true)
  | 5 => ("DevilsFount$Press", "now", "LDevilsFount$Standing;", false)
  | _ => ("DevilsFount$Press", "thinking", "Z", false)
def tyX3 : Nat → FieldType := fun k => match k with
  | 0 => .object "DevilsFount$Shop"
  | 1 => .object "DevilsFount$Standing"
  | 2 => .array .int
  | 3 => .array .int
  | 4 => .array .int
  | 5 => .object "DevilsFount$Standing"
  | _ => .boolean
theorem nmX3 : ∀ a, a < 7 → ∀ b, b < 7 → a ≠ b → (TX3 a).2.1 ≠ (TX3 b).2.1 := by decide +kernel
theorem tyX3_ok : ∀ k, k < 7 → parseFieldDescriptor (TX3 k).2.2.1 = some (tyX3 k) := by decide +kernel
theorem inqX3 : ∀ w ∈ u_ws "DevilsFount$Press" TX3 7, w ∈ lw_tbl := bs_pos [504, 506, 508, 510, 512, 514, 516] (by decide +kernel)
def TX4 : u_T := fun k => match k with
  | 0 => ("DevilsFount$Reader", "tape", "[I", true)
  | 1 => ("DevilsFount$Reader", "length", "I", false)
  | 2 => ("DevilsFount$Reader", "kinds", "[I", true)
  | 3 => ("DevilsFount$Reader", "places", "[I", true)
  | 4 => ("DevilsFount$Reader", "sizes", "[I", true)
  | 5 => ("DevilsFount$Reader", "tokens", "I", false)
  | 6 => ("DevilsFount$Reader", "at", "I", false)
  | 7 => ("DevilsFount$Reader", "kind", "I", false)
  | 8 => ("DevilsFount$Reader", "opening", "I", false)
  | 9 => ("DevilsFount$Reader", "number", "I", false)
  | 10 => ("DevilsFount$Reader", "wordPlace", "I", false)
  | 11 => ("DevilsFount$Reader", "wordLength", "I", false)
  | 12 => ("DevilsFount$Reader", "faultKind", "I", false)
  | _ => ("DevilsFount$Reader", "faultPlace", "I", false)
def tyX4 : Nat → FieldType := fun k => match k with
  | 0 => .array .int
  | 1 => .int
  | 2 => .array .int
  | 3 => .array .int
  | 4 => .array .int
  | 5 => .int
  | 6 => .int
  | 7 => .int
  | 8 => .int
  | 9 => .int
  | 10 => .int
  | 11 => .int
  | 12 => .int
  | _ => .int
theorem nmX4 : ∀ a, a < 14 → ∀ b, b < 14 → a ≠ b → (TX4 a).2.1 ≠ (TX4 b).2.1 := by decide +kernel
theorem tyX4_ok : ∀ k, k < 14 → parseFieldDescriptor (TX4 k).2.2.1 = some (tyX4 k) := by decide +kernel
theorem inqX4 : ∀ w ∈ u_ws "DevilsFount$Reader" TX4 14, w ∈ lw_tbl := bs_pos [211, 213, 215, 217, 219, 221, 223, 225, 227, 229, 231, 233, 235, 237] (by decide +kernel)
def TX5 : u_T := fun k => match k with
  | 0 => ("DevilsFount$Riddles", "told", "LDevilsFount$Row;", true)
  | 1 => ("DevilsFount$Riddles", "places", "[I", true)
  | 2 => ("DevilsFount$Riddles", "signs", "[I", true)
  | 3 => ("DevilsFount$Riddles", "signCount", "I", false)
  | _ => ("DevilsFount$Riddles", "worths", "[I", true)
def tyX5 : Nat → FieldType := fun k => match k with
  | 0 => .object "DevilsFount$Row"
  | 1 => .array .int
  | 2 => .array .int
  | 3 => .int
  | _ => .array .int
theorem nmX5 : ∀ a, a < 5 → ∀ b, b < 5 → a ≠ b → (TX5 a).2.1 ≠ (TX5 b).2.1 := by decide +kernel
theorem tyX5_ok : ∀ k, k < 5 → parseFieldDescriptor (TX5 k).2.2.1 = some (tyX5 k) := by decide +kernel
theorem inqX5 : ∀ w ∈ u_ws "DevilsFount$Riddles" TX5 5, w ∈ lw_tbl := bs_pos [448, 450, 452, 454, 456] (by decide +kernel)
def TX6 : u_T := fun k => match k with
  | 0 => ("DevilsFount$Ring", "order", "I", false)
  | 1 => ("DevilsFount$Ring", "bits", "[I", true)
  | 2 => ("DevilsFount$Ring", "filled", "I", false)
  | _ => ("DevilsFount$Ring", "head", "[I", true)
def tyX6 : Nat → FieldType := fun k => match k with
  | 0 => .int
  | 1 => .array .int
  | 2 => .int
  | _ => .array .int
theorem nmX6 : ∀ a, a < 4 → ∀ b, b < 4 → a ≠ b → (TX6 a).2.1 ≠ (TX6 b).2.1 := by decide +kernel
theorem tyX6_ok : ∀ k, k < 4 → parseFieldDescriptor (TX6 k).2.2.1 = some (tyX6 k) := by decide +kernel
theorem inqX6 : ∀ w ∈ u_ws "DevilsFount$Ring" TX6 4, w ∈ lw_tbl := bs_pos [551, 553, 555, 557] (by decide +kernel)
def TX7 : u_T := fun k => match k with
  | 0 => ("DevilsFount$Row", "letters", "[I", true)
  | 1 => ("DevilsFount$Row", "length", "I", false)
  | 2 => ("DevilsFount$Row", "turnedStarts", "[I", true)
  | 3 => ("DevilsFount$Row", "shelf", "[I", true)
  | _ => ("DevilsFount$Row", "fewest", "[I", true)
def tyX7 : Nat → FieldType := fun k => match k with
  | 0 => .array .int
  | 1 => .int
  | 2 => .array .int
  | 3 => .array .int
  | _ => .array .int
theorem nmX7 : ∀ a, a < 5 → ∀ b, b < 5 → a ≠ b → (TX7 a).2.1 ≠ (TX7 b).2.1 := by decide +kernel
theorem tyX7_ok : ∀ k, k < 5 → parseFieldDescriptor (TX7 k).2.2.1 = some (tyX7 k) := by decide +kernel
theorem inqX7 : ∀ w ∈ u_ws "DevilsFount$Row" TX7 5, w ∈ lw_tbl := bs_pos [428, 430, 432, 434, 436] (by decide +kernel)
def TX8 : u_T := fun k => match k with
  | 0 => ("DevilsFount$Shop", "standing", "LDevilsFount$Standing;", true)
  | 1 => ("DevilsFount$Shop", "law", "LDevilsFount$Law;", true)
  | 2 => ("DevilsFount$Shop", "jobs", "LDevilsFount$Words;", true)
  | 3 => ("DevilsFount$Shop", "book", "LDevilsFount$Words;", true)
  | 4 => ("DevilsFount$Shop", "changes", "LDevilsFount$Changes;", true)
  | 5 => ("DevilsFount$Shop", "riddles", "LDevilsFount$Riddles;", true)
  | _ => ("DevilsFount$Shop", "trayRows", "[I", true)
def tyX8 : Nat → FieldType := fun k => match k with
  | 0 => .object "DevilsFount$Standing"
  | 1 => .object "DevilsFount$Law"
  | 2 => .object "DevilsFount$Words"
  | 3 => .object "DevilsFount$Words"
  | 4 => .object "DevilsFount$Changes"
  | 5 => .object "DevilsFount$Riddles"
  | _ => .array .int
theorem nmX8 : ∀ a, a < 7 → ∀ b, b < 7 → a ≠ b → (TX8 a).2.1 ≠ (TX8 b).2.1 := by decide +kernel
theorem tyX8_ok : ∀ k, k < 7 → parseFieldDescriptor (TX8 k).2.2.1 = some (tyX8 k) := by decide +kernel
theorem inqX8 : ∀ w ∈ u_ws "DevilsFount$Shop" TX8 7, w ∈ lw_tbl := bs_pos [479, 481, 483, 485, 487, 489, 491] (by decide +kernel)
def TX9 : u_T := fun k => match k with
  | 0 => ("DevilsFount$Standing", "sorts", "[I", true)
  | 1 => ("DevilsFount$Standing", "broken", "[I", true)
  | 2 => ("DevilsFount$Standing", "printed", "I", false)
  | 3 => ("DevilsFount$Standing", "daring", "I", false)
  | 4 => ("DevilsFount$Standing", "said", "I", false)
  | 5 => ("DevilsFount$Standing", "done", "I", false)
  | 6 => ("DevilsFount$Standing", "blanks", "I", false)
  | 7 => ("DevilsFount$Standing", "day", "I", false)
  | 8 => ("DevilsFount$Standing", "state", "I", false)
  | _ => ("DevilsFount$Standing", "trayLines", "I", false)
def tyX9 : Nat → FieldType := fun k => match k with
  | 0 => .array .int
  | 1 => .array .int
  | 2 => .int
  | 3 => .int
  | 4 => .int
  | 5 => .int
  | 6 => .int
  | 7 => .int
  | 8 => .int
  | _ => .int
theorem nmX9 : ∀ a, a < 10 → ∀ b, b < 10 → a ≠ b → (TX9 a).2.1 ≠ (TX9 b).2.1 := by decide +kernel
theorem tyX9_ok : ∀ k, k < 10 → parseFieldDescriptor (TX9 k).2.2.1 = some (tyX9 k) := by decide +kernel
theorem inqX9 : ∀ w ∈ u_ws "DevilsFount$Standing" TX9 10, w ∈ lw_tbl := bs_pos [381, 383, 385, 387, 389, 391, 393, 395, 397, 399] (by decide +kernel)
def TX10 : u_T := fun k => match k with
  | 0 => ("DevilsFount$Words", "count", "I", false)
  | 1 => ("DevilsFount$Words", "days", "[I", true)
  | 2 => ("DevilsFount$Words", "lengths", "[I", true)
  | _ => ("DevilsFount$Words", "letters", "[I", true)
def tyX10 : Nat → FieldType := fun k => match k with
  | 0 => .int
  | 1 => .array .int
  | 2 => .array .int
  | _ => .array .int
theorem nmX10 : ∀ a, a < 4 → ∀ b, b < 4 → a ≠ b → (TX10 a).2.1 ≠ (TX10 b).2.1 := by decide +kernel
theorem tyX10_ok : ∀ k, k < 4 → parseFieldDescriptor (TX10 k).2.2.1 = some (tyX10 k) := by decide +kernel
theorem inqX10 : ∀ w ∈ u_ws "DevilsFount$Words" TX10 4, w ∈ lw_tbl := bs_pos [298, 300, 302, 304] (by decide +kernel)
def TX11 : u_T := fun k => match k with
  | 0 => ("DevilsFount", "reader", "LDevilsFount$Reader;", true)
  | 1 => ("DevilsFount", "draftLaw", "LDevilsFount$Law;", true)
  | 2 => ("DevilsFount", "draftWords", "LDevilsFount$Words;", true)
  | 3 => ("DevilsFount", "draftChanges", "LDevilsFount$Changes;", true)
  | 4 => ("DevilsFount", "press", "LDevilsFount$Press;", true)
  | 5 => ("DevilsFount", "shop", "LDevilsFount$Shop;", true)
  | 6 => ("DevilsFount", "picture", "LDevilsFount$Shop;", true)
  | 7 => ("DevilsFount", "pictured", "Z", false)
  | 8 => ("DevilsFount", "past", "LDevilsFount$Past;", true)
  | _ => ("DevilsFount", "rings", "LDevilsFount$Ring;", true)
def tyX11 : Nat → FieldType := fun k => match k with
  | 0 => .object "DevilsFount$Reader"
  | 1 => .object "DevilsFount$Law"
  | 2 => .object "DevilsFount$Words"
  | 3 => .object "DevilsFount$Changes"
  | 4 => .object "DevilsFount$Press"
  | 5 => .object "DevilsFount$Shop"
  | 6 => .object "DevilsFount$Shop"
  | 7 => .boolean
  | 8 => .object "DevilsFount$Past"
  | _ => .object "DevilsFount$Ring"
theorem nmX11 : ∀ a, a < 10 → ∀ b, b < 10 → a ≠ b → (TX11 a).2.1 ≠ (TX11 b).2.1 := by decide +kernel
theorem tyX11_ok : ∀ k, k < 10 → parseFieldDescriptor (TX11 k).2.2.1 = some (tyX11 k) := by decide +kernel
theorem inqX11 : ∀ w ∈ u_ws "DevilsFount" TX11 10, w ∈ lw_tbl := bs_pos [570, 572, 574, 576, 578, 580, 582, 584, 586, 588] (by decide +kernel)
def TX12 : u_T := fun k => match k with
  | 0 => ("DevilsFountModel", "told", "I", false)
  | 1 => ("DevilsFountModel", "now", "[I", true)
  | 2 => ("DevilsFountModel", "rows", "[I", true)
  | 3 => ("DevilsFountModel", "undoable", "I", false)
  | 4 => ("DevilsFountModel", "waiting", "[I", true)
  | 5 => ("DevilsFountModel", "isThought", "Z", false)
  | 6 => ("DevilsFountModel", "book", "[I", true)
  | 7 => ("DevilsFountModel", "tape", "[I", true)
  | 8 => ("DevilsFountModel", "taped", "I", false)
  | 9 => ("DevilsFountModel", "spot", "I", false)
  | 10 => ("DevilsFountModel", "from", "I", false)
  | 11 => ("DevilsFountModel", "token", "I", false)
  | 12 => ("DevilsFountModel", "value", "I", false)
  | 13 => ("DevilsFountModel", "words", "[I", true)
  | 14 => ("DevilsFountModel", "kindNow", "I", false)
  | 15 => ("DevilsFountModel", "lineMany", "[I", true)
  | 16 => ("DevilsFountModel", "lineWord", "[I", true)
  | 17 => ("DevilsFountModel", "lineFrom", "[I", true)
  | 18 => ("DevilsFountModel", "lineWhen", "[I", true)
  | 19 => ("DevilsFountModel", "lineTo", "[I", true)
  | 20 => ("DevilsFountModel", "op", "[I", true)
  | 21 => ("DevilsFountModel", "arg", "[I", true)
  | 22 => ("DevilsFountModel", "which", "I", false)
  | 23 => ("DevilsFountModel", "codes", "I", false)
  | 24 => ("DevilsFountModel", "open", "I", false)
  | 25 => ("DevilsFountModel", "pending", "[I", true)
  | 26 => ("DevilsFountModel", "pendings", "I", false)
  | 27 => ("DevilsFountModel", "readFault", "I", false)
  | 28 => ("DevilsFountModel", "readPlace", "I", false)
  | 29 => ("DevilsFountModel", "faultKind", "I", false)
  | 30 => ("DevilsFountModel", "faultPlace", "I", false)
  | 31 => ("DevilsFountModel", "jobMany", "I", false)
  | 32 => ("DevilsFountModel", "bookMany", "I", false)
  | 33 => ("DevilsFountModel", "wordLong", "[I", true)
  | 34 => ("DevilsFountModel", "letters", "[I", true)
  | 35 => ("DevilsFountModel", "jobDay", "[I", true)
  | 36 => ("DevilsFountModel", "changeMany", "I", false)
  | 37 => ("DevilsFountModel", "changes", "[I", true)
  | 38 => ("DevilsFountModel", "asked", "[I", true)
  | 39 => ("DevilsFountModel", "stack", "[I", true)
  | 40 => ("DevilsFountModel", "boxes", "[I", true)
  | 41 => ("DevilsFountModel", "breakNow", "[I", true)
  | 42 => ("DevilsFountModel", "rowMany", "I", false)
  | 43 => ("DevilsFountModel", "row", "[I", true)
  | 44 => ("DevilsFountModel", "places", "[I", true)
  | 45 => ("DevilsFountModel", "waysBy", "[I", true)
  | 46 => ("DevilsFountModel", "signMany", "I", false)
  | 47 => ("DevilsFountModel", "signs", "[I", true)
  | 48 => ("DevilsFountModel", "fitsBy", "[I", true)
  | 49 => ("DevilsFountModel", "order", "[I", true)
  | 50 => ("DevilsFountModel", "ringBits", "[I", true)
  | 51 => ("DevilsFountModel", "headBits", "[I", true)
  | 52 => ("DevilsFountModel", "keyOf", "[I", true)
  | 53 => ("DevilsFountModel", "worth", "[I", true)
  | 54 => ("DevilsFountModel", "doesWin", "[I", true)
  | 55 => ("DevilsFountModel", "isTaking", "Z", false)
  | 56 => ("DevilsFountModel", "hasImage", "Z", false)
  | 57 => ("DevilsFountModel", "keptAt", "I", false)
  | _ => ("DevilsFountModel", "images", "[I", true)
def tyX12 : Nat → FieldType := fun k => match k with
  | 0 => .int
  | 1 => .array .int
  | 2 => .array .int
  | 3 => .int
  | 4 => .array .int
  | 5 => .boolean
  | 6 => .array .int
  | 7 => .array .int
  | 8 => .int
  | 9 => .int
  | 10 => .int
  | 11 => .int
  | 12 => .int
  | 13 => .array .int
  | 14 => .int
  | 15 => .array .int
  | 16 => .array .int
  | 17 => .array .int
  | 18 => .array .int
  | 19 => .array .int
  | 20 => .array .int
  | 21 => .array .int
  | 22 => .int
  | 23 => .int
  | 24 => .int
  | 25 => .array .int
  | 26 => .int
  | 27 => .int
  | 28 => .int
  | 29 => .int
  | 30 => .int
  | 31 => .int
  | 32 => .int
  | 33 => .array .int
  | 34 => .array .int
  | 35 => .array .int
  | 36 => .int
  | 37 => .array .int
  | 38 => .array .int
  | 39 => .array .int
  | 40 => .array .int
  | 41 => .array .int
  | 42 => .int
  | 43 => .array .int
  | 44 => .array .int
  | 45 => .array .int
  | 46 => .int
  | 47 => .array .int
  | 48 => .array .int
  | 49 => .array .int
  | 50 => .array .int
  | 51 => .array .int
  | 52 => .array .int
  | 53 => .array .int
  | 54 => .array .int
  | 55 => .boolean
  | 56 => .boolean
  | 57 => .int
  | _ => .array .int
theorem nmX12 : ∀ a, a < 59 → ∀ b, b < 59 → a ≠ b → (TX12 a).2.1 ≠ (TX12 b).2.1 := by decide +kernel
theorem tyX12_ok : ∀ k, k < 59 → parseFieldDescriptor (TX12 k).2.2.1 = some (tyX12 k) := by decide +kernel
theorem inqX12 : ∀ w ∈ u_ws "DevilsFountModel" TX12 59, w ∈ lw_tbl := bs_pos [1431, 1433, 1435, 1437, 1439, 1441, 1443, 1445, 1447, 1449, 1451, 1453, 1455, 1457, 1459, 1461, 1463, 1465, 1467, 1469, 1471, 1473, 1475, 1477, 1479, 1481, 1483, 1485, 1487, 1489, 1491, 1493, 1495, 1497, 1499, 1501, 1503, 1505, 1507, 1509, 1511, 1513, 1515, 1517, 1519, 1521, 1523, 1525, 1527, 1529, 1531, 1533, 1535, 1537, 1539, 1541, 1543, 1545, 1547] (by decide +kernel)
abbrev clsL : List vw_C := [("DevilsFount$Changes", TX0, 5), ("DevilsFount$Law", TX1, 11), ("DevilsFount$Past", TX2, 3), ("DevilsFount$Press", TX3, 7), ("DevilsFount$Reader", TX4, 14), ("DevilsFount$Riddles", TX5, 5), ("DevilsFount$Ring", TX6, 4), ("DevilsFount$Row", TX7, 5), ("DevilsFount$Shop", TX8, 7), ("DevilsFount$Standing", TX9, 10), ("DevilsFount$Words", TX10, 4), ("DevilsFount", TX11, 10), ("DevilsFountModel", TX12, 59)]
