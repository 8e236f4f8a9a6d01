-- ===== PART A: goes FIRST, ahead of the names: the tables' words, and 'selects' of the private methods out of them =====
/-- a private method of a class that the tables say can be made, by its rows of tables_1 -/
def lw_okq (q : MethodName × Nat) : Prop := (q.1.cls ≠ "java/lang/invoke/MethodHandle" ∧ q.1.cls ≠ "java/lang/invoke/VarHandle") ∧ Cond.instantiable q.1.cls q.2 ∈ tables_1 ∧ Cond.privateMethod q.1 ∈ tables_1 ∧ Cond.instanceMethod q.1 ∈ tables_1
theorem lw_p0 : lw_okq (⟨"CoughParts$Text", "putPlainLaw", "(III)V"⟩, 13) := ⟨⟨by decide +kernel, by decide +kernel⟩, List.mem_of_getElem? (i := 54) (by decide +kernel), List.mem_of_getElem? (i := 67) (by decide +kernel), List.mem_of_getElem? (i := 68) (by decide +kernel)⟩
theorem lw_p1 : lw_okq (⟨"CoughParts$Scanner", "skipBlanks", "()V"⟩, 6) := ⟨⟨by decide +kernel, by decide +kernel⟩, List.mem_of_getElem? (i := 150) (by decide +kernel), List.mem_of_getElem? (i := 466) (by decide +kernel), List.mem_of_getElem? (i := 467) (by decide +kernel)⟩
theorem lw_p2 : lw_okq (⟨"CoughParts$Scanner", "scanToken", "()I"⟩, 6) := ⟨⟨by decide +kernel, by decide +kernel⟩, List.mem_of_getElem? (i := 150) (by decide +kernel), List.mem_of_getElem? (i := 477) (by decide +kernel), List.mem_of_getElem? (i := 478) (by decide +kernel)⟩
theorem lw_p3 : lw_okq (⟨"CoughParts$Scanner", "scanLetters", "()I"⟩, 6) := ⟨⟨by decide +kernel, by decide +kernel⟩, List.mem_of_getElem? (i := 150) (by decide +kernel), List.mem_of_getElem? (i := 484) (by decide +kernel), List.mem_of_getElem? (i := 485) (by decide +kernel)⟩
theorem lw_p4 : lw_okq (⟨"CoughParts$Scanner", "scanDigits", "()I"⟩, 6) := ⟨⟨by decide +kernel, by decide +kernel⟩, List.mem_of_getElem? (i := 150) (by decide +kernel), List.mem_of_getElem? (i := 547) (by decide +kernel), List.mem_of_getElem? (i := 548) (by decide +kernel)⟩
theorem lw_p5 : lw_okq (⟨"CoughParts$Reader", "kindNow", "()I"⟩, 14) := ⟨⟨by decide +kernel, by decide +kernel⟩, List.mem_of_getElem? (i := 48) (by decide +kernel), List.mem_of_getElem? (i := 614) (by decide +kernel), List.mem_of_getElem? (i := 615) (by decide +kernel)⟩
theorem lw_p6 : lw_okq (⟨"CoughParts$Reader", "readTell", "()Z"⟩, 14) := ⟨⟨by decide +kernel, by decide +kernel⟩, List.mem_of_getElem? (i := 48) (by decide +kernel), List.mem_of_getElem? (i := 618) (by decide +kernel), List.mem_of_getElem? (i := 619) (by decide +kernel)⟩
theorem lw_p7 : lw_okq (⟨"CoughParts$Reader", "readMinute", "()Z"⟩, 14) := ⟨⟨by decide +kernel, by decide +kernel⟩, List.mem_of_getElem? (i := 48) (by decide +kernel), List.mem_of_getElem? (i := 622) (by decide +kernel), List.mem_of_getElem? (i := 623) (by decide +kernel)⟩
theorem lw_p8 : lw_okq (⟨"CoughParts$Reader", "fail", "(I)Z"⟩, 14) := ⟨⟨by decide +kernel, by decide +kernel⟩, List.mem_of_getElem? (i := 48) (by decide +kernel), List.mem_of_getElem? (i := 626) (by decide +kernel), List.mem_of_getElem? (i := 627) (by decide +kernel)⟩
theorem lw_p9 : lw_okq (⟨"CoughParts$Reader", "take", "(I)Z"⟩, 14) := ⟨⟨by decide +kernel, by decide +kernel⟩, List.mem_of_getElem? (i := 48) (by decide +kernel), List.mem_of_getElem? (i := 630) (by decide +kernel), List.mem_of_getElem? (i := 631) (by decide +kernel)⟩
theorem lw_p10 : lw_okq (⟨"CoughParts$Reader", "takeNumber", "(I)Z"⟩, 14) := ⟨⟨by decide +kernel, by decide +kernel⟩, List.mem_of_getElem? (i := 48) (by decide +kernel), List.mem_of_getElem? (i := 634) (by decide +kernel), List.mem_of_getElem? (i := 635) (by decide +kernel)⟩
theorem lw_p11 : lw_okq (⟨"CoughParts$Reader", "failLater", "(I)V"⟩, 14) := ⟨⟨by decide +kernel, by decide +kernel⟩, List.mem_of_getElem? (i := 48) (by decide +kernel), List.mem_of_getElem? (i := 638) (by decide +kernel), List.mem_of_getElem? (i := 639) (by decide +kernel)⟩
theorem lw_p12 : lw_okq (⟨"CoughParts$Reader", "readFamily", "()Z"⟩, 14) := ⟨⟨by decide +kernel, by decide +kernel⟩, List.mem_of_getElem? (i := 48) (by decide +kernel), List.mem_of_getElem? (i := 642) (by decide +kernel), List.mem_of_getElem? (i := 643) (by decide +kernel)⟩
theorem lw_p13 : lw_okq (⟨"CoughParts$Reader", "familyNamed", "(J)I"⟩, 14) := ⟨⟨by decide +kernel, by decide +kernel⟩, List.mem_of_getElem? (i := 48) (by decide +kernel), List.mem_of_getElem? (i := 646) (by decide +kernel), List.mem_of_getElem? (i := 647) (by decide +kernel)⟩
theorem lw_p14 : lw_okq (⟨"CoughParts$Reader", "readLease", "()Z"⟩, 14) := ⟨⟨by decide +kernel, by decide +kernel⟩, List.mem_of_getElem? (i := 48) (by decide +kernel), List.mem_of_getElem? (i := 650) (by decide +kernel), List.mem_of_getElem? (i := 651) (by decide +kernel)⟩
theorem lw_p15 : lw_okq (⟨"CoughParts$Reader", "readLaw", "(I)Z"⟩, 14) := ⟨⟨by decide +kernel, by decide +kernel⟩, List.mem_of_getElem? (i := 48) (by decide +kernel), List.mem_of_getElem? (i := 657) (by decide +kernel), List.mem_of_getElem? (i := 658) (by decide +kernel)⟩
def lw_privs_1 : List (MethodName × Nat) := [(⟨"CoughParts$Text", "putPlainLaw", "(III)V"⟩, 13), (⟨"CoughParts$Scanner", "skipBlanks", "()V"⟩, 6), (⟨"CoughParts$Scanner", "scanToken", "()I"⟩, 6), (⟨"CoughParts$Scanner", "scanLetters", "()I"⟩, 6), (⟨"CoughParts$Scanner", "scanDigits", "()I"⟩, 6), (⟨"CoughParts$Reader", "kindNow", "()I"⟩, 14), (⟨"CoughParts$Reader", "readTell", "()Z"⟩, 14), (⟨"CoughParts$Reader", "readMinute", "()Z"⟩, 14), (⟨"CoughParts$Reader", "fail", "(I)Z"⟩, 14), (⟨"CoughParts$Reader", "take", "(I)Z"⟩, 14), (⟨"CoughParts$Reader", "takeNumber", "(I)Z"⟩, 14), (⟨"CoughParts$Reader", "failLater", "(I)V"⟩, 14), (⟨"CoughParts$Reader", "readFamily", "()Z"⟩, 14), (⟨"CoughParts$Reader", "familyNamed", "(J)I"⟩, 14), (⟨"CoughParts$Reader", "readLease", "()Z"⟩, 14), (⟨"CoughParts$Reader", "readLaw", "(I)Z"⟩, 14)]
theorem lw_r1 : ∀ q ∈ lw_privs_1, lw_okq q := List.forall_mem_cons.mpr ⟨lw_p0, List.forall_mem_cons.mpr ⟨lw_p1, List.forall_mem_cons.mpr ⟨lw_p2, List.forall_mem_cons.mpr ⟨lw_p3, List.forall_mem_cons.mpr ⟨lw_p4, List.forall_mem_cons.mpr ⟨lw_p5, List.forall_mem_cons.mpr ⟨lw_p6, List.forall_mem_cons.mpr ⟨lw_p7, List.forall_mem_cons.mpr ⟨lw_p8, List.forall_mem_cons.mpr ⟨lw_p9, List.forall_mem_cons.mpr ⟨lw_p10, List.forall_mem_cons.mpr ⟨lw_p11, List.forall_mem_cons.mpr ⟨lw_p12, List.forall_mem_cons.mpr ⟨lw_p13, List.forall_mem_cons.mpr ⟨lw_p14, List.forall_mem_cons.mpr ⟨lw_p15, fun _ h => absurd h List.not_mem_nil⟩⟩⟩⟩⟩⟩⟩⟩⟩⟩⟩⟩⟩⟩⟩⟩
theorem lw_p16 : lw_okq (⟨"CoughParts$Reader", "readSum", "()Z"⟩, 14) := ⟨⟨by decide +kernel, by decide +kernel⟩, List.mem_of_getElem? (i := 48) (by decide +kernel), List.mem_of_getElem? (i := 662) (by decide +kernel), List.mem_of_getElem? (i := 663) (by decide +kernel)⟩
theorem lw_p17 : lw_okq (⟨"CoughParts$Reader", "goesOnSum", "(IZ)Z"⟩, 14) := ⟨⟨by decide +kernel, by decide +kernel⟩, List.mem_of_getElem? (i := 48) (by decide +kernel), List.mem_of_getElem? (i := 666) (by decide +kernel), List.mem_of_getElem? (i := 667) (by decide +kernel)⟩
theorem lw_p18 : lw_okq (⟨"CoughParts$Reader", "putPending", "(I)V"⟩, 14) := ⟨⟨by decide +kernel, by decide +kernel⟩, List.mem_of_getElem? (i := 48) (by decide +kernel), List.mem_of_getElem? (i := 676) (by decide +kernel), List.mem_of_getElem? (i := 677) (by decide +kernel)⟩
theorem lw_p19 : lw_okq (⟨"CoughParts$Reader", "push", "(I)V"⟩, 14) := ⟨⟨by decide +kernel, by decide +kernel⟩, List.mem_of_getElem? (i := 48) (by decide +kernel), List.mem_of_getElem? (i := 681) (by decide +kernel), List.mem_of_getElem? (i := 682) (by decide +kernel)⟩
theorem lw_p20 : lw_okq (⟨"CoughParts$Reader", "putUnit", "(I)V"⟩, 14) := ⟨⟨by decide +kernel, by decide +kernel⟩, List.mem_of_getElem? (i := 48) (by decide +kernel), List.mem_of_getElem? (i := 686) (by decide +kernel), List.mem_of_getElem? (i := 687) (by decide +kernel)⟩
theorem lw_p21 : lw_okq (⟨"CoughParts$Reader", "readSetting", "(I)Z"⟩, 14) := ⟨⟨by decide +kernel, by decide +kernel⟩, List.mem_of_getElem? (i := 48) (by decide +kernel), List.mem_of_getElem? (i := 694) (by decide +kernel), List.mem_of_getElem? (i := 695) (by decide +kernel)⟩
theorem lw_p22 : lw_okq (⟨"CoughParts", "isMinute", "(I)Z"⟩, 11) := ⟨⟨by decide +kernel, by decide +kernel⟩, List.mem_of_getElem? (i := 24) (by decide +kernel), List.mem_of_getElem? (i := 719) (by decide +kernel), List.mem_of_getElem? (i := 720) (by decide +kernel)⟩
theorem lw_p23 : lw_okq (⟨"CoughParts$Laws", "setVars", "(LCoughParts$State;III)V"⟩, 3) := ⟨⟨by decide +kernel, by decide +kernel⟩, List.mem_of_getElem? (i := 264) (by decide +kernel), List.mem_of_getElem? (i := 731) (by decide +kernel), List.mem_of_getElem? (i := 732) (by decide +kernel)⟩
theorem lw_p24 : lw_okq (⟨"CoughParts$Laws", "resultOf", "(I)I"⟩, 3) := ⟨⟨by decide +kernel, by decide +kernel⟩, List.mem_of_getElem? (i := 264) (by decide +kernel), List.mem_of_getElem? (i := 735) (by decide +kernel), List.mem_of_getElem? (i := 736) (by decide +kernel)⟩
theorem lw_p25 : lw_okq (⟨"CoughParts", "isFamily", "(I)Z"⟩, 11) := ⟨⟨by decide +kernel, by decide +kernel⟩, List.mem_of_getElem? (i := 24) (by decide +kernel), List.mem_of_getElem? (i := 757) (by decide +kernel), List.mem_of_getElem? (i := 758) (by decide +kernel)⟩
theorem lw_p26 : lw_okq (⟨"CoughParts", "give", "(IZ)Z"⟩, 11) := ⟨⟨by decide +kernel, by decide +kernel⟩, List.mem_of_getElem? (i := 24) (by decide +kernel), List.mem_of_getElem? (i := 832) (by decide +kernel), List.mem_of_getElem? (i := 833) (by decide +kernel)⟩
theorem lw_p27 : lw_okq (⟨"CoughParts$Preacher", "preachWeek", "(LCoughParts$State;I)V"⟩, 2) := ⟨⟨by decide +kernel, by decide +kernel⟩, List.mem_of_getElem? (i := 319) (by decide +kernel), List.mem_of_getElem? (i := 848) (by decide +kernel), List.mem_of_getElem? (i := 849) (by decide +kernel)⟩
theorem lw_p28 : lw_okq (⟨"CoughParts$Preacher", "payWorth", "(LCoughParts$State;II)V"⟩, 2) := ⟨⟨by decide +kernel, by decide +kernel⟩, List.mem_of_getElem? (i := 319) (by decide +kernel), List.mem_of_getElem? (i := 852) (by decide +kernel), List.mem_of_getElem? (i := 853) (by decide +kernel)⟩
theorem lw_p29 : lw_okq (⟨"CoughParts$Chances", "weighFalls", "()V"⟩, 9) := ⟨⟨by decide +kernel, by decide +kernel⟩, List.mem_of_getElem? (i := 280) (by decide +kernel), List.mem_of_getElem? (i := 880) (by decide +kernel), List.mem_of_getElem? (i := 881) (by decide +kernel)⟩
theorem lw_p30 : lw_okq (⟨"CoughParts", "haveIn", "(LCoughParts$State;I)I"⟩, 11) := ⟨⟨by decide +kernel, by decide +kernel⟩, List.mem_of_getElem? (i := 24) (by decide +kernel), List.mem_of_getElem? (i := 912) (by decide +kernel), List.mem_of_getElem? (i := 913) (by decide +kernel)⟩
theorem lw_p31 : lw_okq (⟨"CoughParts$Chances", "carryWays", "(III)V"⟩, 9) := ⟨⟨by decide +kernel, by decide +kernel⟩, List.mem_of_getElem? (i := 280) (by decide +kernel), List.mem_of_getElem? (i := 942) (by decide +kernel), List.mem_of_getElem? (i := 943) (by decide +kernel)⟩
def lw_privs_2 : List (MethodName × Nat) := [(⟨"CoughParts$Reader", "readSum", "()Z"⟩, 14), (⟨"CoughParts$Reader", "goesOnSum", "(IZ)Z"⟩, 14), (⟨"CoughParts$Reader", "putPending", "(I)V"⟩, 14), (⟨"CoughParts$Reader", "push", "(I)V"⟩, 14), (⟨"CoughParts$Reader", "putUnit", "(I)V"⟩, 14), (⟨"CoughParts$Reader", "readSetting", "(I)Z"⟩, 14), (⟨"CoughParts", "isMinute", "(I)Z"⟩, 11), (⟨"CoughParts$Laws", "setVars", "(LCoughParts$State;III)V"⟩, 3), (⟨"CoughParts$Laws", "resultOf", "(I)I"⟩, 3), (⟨"CoughParts", "isFamily", "(I)Z"⟩, 11), (⟨"CoughParts", "give", "(IZ)Z"⟩, 11), (⟨"CoughParts$Preacher", "preachWeek", "(LCoughParts$State;I)V"⟩, 2), (⟨"CoughParts$Preacher", "payWorth", "(LCoughParts$State;II)V"⟩, 2), (⟨"CoughParts$Chances", "weighFalls", "()V"⟩, 9), (⟨"CoughParts", "haveIn", "(LCoughParts$State;I)I"⟩, 11), (⟨"CoughParts$Chances", "carryWays", "(III)V"⟩, 9)]
theorem lw_r2 : ∀ q ∈ lw_privs_2, lw_okq q := List.forall_mem_cons.mpr ⟨lw_p16, List.forall_mem_cons.mpr ⟨lw_p17, List.forall_mem_cons.mpr ⟨lw_p18, List.forall_mem_cons.mpr ⟨lw_p19, List.forall_mem_cons.mpr ⟨lw_p20, List.forall_mem_cons.mpr ⟨lw_p21, List.forall_mem_cons.mpr ⟨lw_p22, List.forall_mem_cons.mpr ⟨lw_p23, List.forall_mem_cons.mpr ⟨lw_p24, List.forall_mem_cons.mpr ⟨lw_p25, List.forall_mem_cons.mpr ⟨lw_p26, List.forall_mem_cons.mpr ⟨lw_p27, List.forall_mem_cons.mpr ⟨lw_p28, List.forall_mem_cons.mpr ⟨lw_p29, List.forall_mem_cons.mpr ⟨lw_p30, List.forall_mem_cons.mpr ⟨lw_p31, fun _ h => absurd h List.not_mem_nil⟩⟩⟩⟩⟩⟩⟩⟩⟩⟩⟩⟩⟩⟩⟩⟩
theorem lw_p32 : lw_okq (⟨"CoughParts", "haveAfterChange", "(III)I"⟩, 11) := ⟨⟨by decide +kernel, by decide +kernel⟩, List.mem_of_getElem? (i := 24) (by decide +kernel), List.mem_of_getElem? (i := 955) (by decide +kernel), List.mem_of_getElem? (i := 956) (by decide +kernel)⟩
theorem lw_p33 : lw_okq (⟨"CoughParts$Coverage", "partsOn", "(LCoughParts$State;II)I"⟩, 3) := ⟨⟨by decide +kernel, by decide +kernel⟩, List.mem_of_getElem? (i := 332) (by decide +kernel), List.mem_of_getElem? (i := 976) (by decide +kernel), List.mem_of_getElem? (i := 977) (by decide +kernel)⟩
theorem lw_p34 : lw_okq (⟨"CoughParts", "mattersThereAre", "()I"⟩, 11) := ⟨⟨by decide +kernel, by decide +kernel⟩, List.mem_of_getElem? (i := 24) (by decide +kernel), List.mem_of_getElem? (i := 994) (by decide +kernel), List.mem_of_getElem? (i := 995) (by decide +kernel)⟩
theorem lw_p35 : lw_okq (⟨"CoughParts", "gainByOneMore", "(II)I"⟩, 11) := ⟨⟨by decide +kernel, by decide +kernel⟩, List.mem_of_getElem? (i := 24) (by decide +kernel), List.mem_of_getElem? (i := 1008) (by decide +kernel), List.mem_of_getElem? (i := 1009) (by decide +kernel)⟩
theorem lw_p36 : lw_okq (⟨"CoughParts", "choicesOf", "(I)I"⟩, 11) := ⟨⟨by decide +kernel, by decide +kernel⟩, List.mem_of_getElem? (i := 24) (by decide +kernel), List.mem_of_getElem? (i := 1021) (by decide +kernel), List.mem_of_getElem? (i := 1022) (by decide +kernel)⟩
theorem lw_p37 : lw_okq (⟨"CoughParts", "answerTo", "(II)I"⟩, 11) := ⟨⟨by decide +kernel, by decide +kernel⟩, List.mem_of_getElem? (i := 24) (by decide +kernel), List.mem_of_getElem? (i := 1025) (by decide +kernel), List.mem_of_getElem? (i := 1026) (by decide +kernel)⟩
theorem lw_p38 : lw_okq (⟨"CoughParts", "haveAfter", "(III)I"⟩, 11) := ⟨⟨by decide +kernel, by decide +kernel⟩, List.mem_of_getElem? (i := 24) (by decide +kernel), List.mem_of_getElem? (i := 1029) (by decide +kernel), List.mem_of_getElem? (i := 1030) (by decide +kernel)⟩
theorem lw_p39 : lw_okq (⟨"CoughParts", "tryWeeks", "(II)V"⟩, 11) := ⟨⟨by decide +kernel, by decide +kernel⟩, List.mem_of_getElem? (i := 24) (by decide +kernel), List.mem_of_getElem? (i := 1055) (by decide +kernel), List.mem_of_getElem? (i := 1056) (by decide +kernel)⟩
theorem lw_p40 : lw_okq (⟨"CoughParts$Witness", "agrees", "(II)Z"⟩, 11) := ⟨⟨by decide +kernel, by decide +kernel⟩, List.mem_of_getElem? (i := 348) (by decide +kernel), List.mem_of_getElem? (i := 1096) (by decide +kernel), List.mem_of_getElem? (i := 1097) (by decide +kernel)⟩
theorem lw_p41 : lw_okq (⟨"CoughParts$Witness", "addSet", "(I)V"⟩, 11) := ⟨⟨by decide +kernel, by decide +kernel⟩, List.mem_of_getElem? (i := 348) (by decide +kernel), List.mem_of_getElem? (i := 1101) (by decide +kernel), List.mem_of_getElem? (i := 1102) (by decide +kernel)⟩
theorem lw_p42 : lw_okq (⟨"CoughParts$State", "sumFrom", "(I)I"⟩, 1) := ⟨⟨by decide +kernel, by decide +kernel⟩, List.mem_of_getElem? (i := 226) (by decide +kernel), List.mem_of_getElem? (i := 1143) (by decide +kernel), List.mem_of_getElem? (i := 1144) (by decide +kernel)⟩
theorem lw_p43 : lw_okq (⟨"CoughParts", "sureCoughs", "()I"⟩, 11) := ⟨⟨by decide +kernel, by decide +kernel⟩, List.mem_of_getElem? (i := 24) (by decide +kernel), List.mem_of_getElem? (i := 1151) (by decide +kernel), List.mem_of_getElem? (i := 1152) (by decide +kernel)⟩
theorem lw_p44 : lw_okq (⟨"CoughParts", "allQuarters", "()I"⟩, 11) := ⟨⟨by decide +kernel, by decide +kernel⟩, List.mem_of_getElem? (i := 24) (by decide +kernel), List.mem_of_getElem? (i := 1155) (by decide +kernel), List.mem_of_getElem? (i := 1156) (by decide +kernel)⟩
theorem lw_p45 : lw_okq (⟨"CoughParts", "familiesWithoutLease", "()I"⟩, 11) := ⟨⟨by decide +kernel, by decide +kernel⟩, List.mem_of_getElem? (i := 24) (by decide +kernel), List.mem_of_getElem? (i := 1159) (by decide +kernel), List.mem_of_getElem? (i := 1160) (by decide +kernel)⟩
theorem lw_p46 : lw_okq (⟨"CoughParts", "allZeal", "()I"⟩, 11) := ⟨⟨by decide +kernel, by decide +kernel⟩, List.mem_of_getElem? (i := 24) (by decide +kernel), List.mem_of_getElem? (i := 1163) (by decide +kernel), List.mem_of_getElem? (i := 1164) (by decide +kernel)⟩
theorem lw_p47 : lw_okq (⟨"CoughPartsModel", "plain", "(I)V"⟩, 64) := ⟨⟨by decide +kernel, by decide +kernel⟩, List.mem_of_getElem? (i := 1167) (by decide +kernel), List.mem_of_getElem? (i := 1173) (by decide +kernel), List.mem_of_getElem? (i := 1174) (by decide +kernel)⟩
def lw_privs_3 : List (MethodName × Nat) := [(⟨"CoughParts", "haveAfterChange", "(III)I"⟩, 11), (⟨"CoughParts$Coverage", "partsOn", "(LCoughParts$State;II)I"⟩, 3), (⟨"CoughParts", "mattersThereAre", "()I"⟩, 11), (⟨"CoughParts", "gainByOneMore", "(II)I"⟩, 11), (⟨"CoughParts", "choicesOf", "(I)I"⟩, 11), (⟨"CoughParts", "answerTo", "(II)I"⟩, 11), (⟨"CoughParts", "haveAfter", "(III)I"⟩, 11), (⟨"CoughParts", "tryWeeks", "(II)V"⟩, 11), (⟨"CoughParts$Witness", "agrees", "(II)Z"⟩, 11), (⟨"CoughParts$Witness", "addSet", "(I)V"⟩, 11), (⟨"CoughParts$State", "sumFrom", "(I)I"⟩, 1), (⟨"CoughParts", "sureCoughs", "()I"⟩, 11), (⟨"CoughParts", "allQuarters", "()I"⟩, 11), (⟨"CoughParts", "familiesWithoutLease", "()I"⟩, 11), (⟨"CoughParts", "allZeal", "()I"⟩, 11), (⟨"CoughPartsModel", "plain", "(I)V"⟩, 64)]
theorem lw_r3 : ∀ q ∈ lw_privs_3, lw_okq q := List.forall_mem_cons.mpr ⟨lw_p32, List.forall_mem_cons.mpr ⟨lw_p33, List.forall_mem_cons.mpr ⟨lw_p34, List.forall_mem_cons.mpr ⟨lw_p35, List.forall_mem_cons.mpr ⟨lw_p36, List.forall_mem_cons.mpr ⟨lw_p37, List.forall_mem_cons.mpr ⟨lw_p38, List.forall_mem_cons.mpr ⟨lw_p39, List.forall_mem_cons.mpr ⟨lw_p40, List.forall_mem_cons.mpr ⟨lw_p41, List.forall_mem_cons.mpr ⟨lw_p42, List.forall_mem_cons.mpr ⟨lw_p43, List.forall_mem_cons.mpr ⟨lw_p44, List.forall_mem_cons.mpr ⟨lw_p45, List.forall_mem_cons.mpr ⟨lw_p46, List.forall_mem_cons.mpr ⟨lw_p47, fun _ h => absurd h List.not_mem_nil⟩⟩⟩⟩⟩⟩⟩⟩⟩⟩⟩⟩⟩⟩⟩⟩
theorem lw_p48 : lw_okq (⟨"CoughPartsModel", "begins", "()V"⟩, 64) := ⟨⟨by decide +kernel, by decide +kernel⟩, List.mem_of_getElem? (i := 1167) (by decide +kernel), List.mem_of_getElem? (i := 1184) (by decide +kernel), List.mem_of_getElem? (i := 1185) (by decide +kernel)⟩
theorem lw_p49 : lw_okq (⟨"CoughPartsModel", "many", "()I"⟩, 64) := ⟨⟨by decide +kernel, by decide +kernel⟩, List.mem_of_getElem? (i := 1167) (by decide +kernel), List.mem_of_getElem? (i := 1188) (by decide +kernel), List.mem_of_getElem? (i := 1189) (by decide +kernel)⟩
theorem lw_p50 : lw_okq (⟨"CoughPartsModel", "keepsRow", "()V"⟩, 64) := ⟨⟨by decide +kernel, by decide +kernel⟩, List.mem_of_getElem? (i := 1167) (by decide +kernel), List.mem_of_getElem? (i := 1192) (by decide +kernel), List.mem_of_getElem? (i := 1193) (by decide +kernel)⟩
theorem lw_p51 : lw_okq (⟨"CoughPartsModel", "put", "(I)V"⟩, 64) := ⟨⟨by decide +kernel, by decide +kernel⟩, List.mem_of_getElem? (i := 1167) (by decide +kernel), List.mem_of_getElem? (i := 1392) (by decide +kernel), List.mem_of_getElem? (i := 1393) (by decide +kernel)⟩
theorem lw_p52 : lw_okq (⟨"CoughPartsModel", "cut", "()V"⟩, 64) := ⟨⟨by decide +kernel, by decide +kernel⟩, List.mem_of_getElem? (i := 1167) (by decide +kernel), List.mem_of_getElem? (i := 1404) (by decide +kernel), List.mem_of_getElem? (i := 1405) (by decide +kernel)⟩
theorem lw_p53 : lw_okq (⟨"CoughPartsModel", "byteAt", "(I)I"⟩, 64) := ⟨⟨by decide +kernel, by decide +kernel⟩, List.mem_of_getElem? (i := 1167) (by decide +kernel), List.mem_of_getElem? (i := 1408) (by decide +kernel), List.mem_of_getElem? (i := 1409) (by decide +kernel)⟩
theorem lw_p54 : lw_okq (⟨"CoughPartsModel", "token", "(IIIJ)V"⟩, 64) := ⟨⟨by decide +kernel, by decide +kernel⟩, List.mem_of_getElem? (i := 1167) (by decide +kernel), List.mem_of_getElem? (i := 1412) (by decide +kernel), List.mem_of_getElem? (i := 1413) (by decide +kernel)⟩
theorem lw_p55 : lw_okq (⟨"CoughPartsModel", "sign", "(III)I"⟩, 64) := ⟨⟨by decide +kernel, by decide +kernel⟩, List.mem_of_getElem? (i := 1167) (by decide +kernel), List.mem_of_getElem? (i := 1422) (by decide +kernel), List.mem_of_getElem? (i := 1423) (by decide +kernel)⟩
theorem lw_p56 : lw_okq (⟨"CoughPartsModel", "is", "(I)Z"⟩, 64) := ⟨⟨by decide +kernel, by decide +kernel⟩, List.mem_of_getElem? (i := 1167) (by decide +kernel), List.mem_of_getElem? (i := 1426) (by decide +kernel), List.mem_of_getElem? (i := 1427) (by decide +kernel)⟩
theorem lw_p57 : lw_okq (⟨"CoughPartsModel", "tellOne", "()V"⟩, 64) := ⟨⟨by decide +kernel, by decide +kernel⟩, List.mem_of_getElem? (i := 1167) (by decide +kernel), List.mem_of_getElem? (i := 1430) (by decide +kernel), List.mem_of_getElem? (i := 1431) (by decide +kernel)⟩
theorem lw_p58 : lw_okq (⟨"CoughPartsModel", "roomFor", "(II)V"⟩, 64) := ⟨⟨by decide +kernel, by decide +kernel⟩, List.mem_of_getElem? (i := 1167) (by decide +kernel), List.mem_of_getElem? (i := 1434) (by decide +kernel), List.mem_of_getElem? (i := 1435) (by decide +kernel)⟩
theorem lw_p59 : lw_okq (⟨"CoughPartsModel", "fail", "(I)V"⟩, 64) := ⟨⟨by decide +kernel, by decide +kernel⟩, List.mem_of_getElem? (i := 1167) (by decide +kernel), List.mem_of_getElem? (i := 1438) (by decide +kernel), List.mem_of_getElem? (i := 1439) (by decide +kernel)⟩
theorem lw_p60 : lw_okq (⟨"CoughPartsModel", "goesOn", "()V"⟩, 64) := ⟨⟨by decide +kernel, by decide +kernel⟩, List.mem_of_getElem? (i := 1167) (by decide +kernel), List.mem_of_getElem? (i := 1442) (by decide +kernel), List.mem_of_getElem? (i := 1443) (by decide +kernel)⟩
theorem lw_p61 : lw_okq (⟨"CoughPartsModel", "bounded", "(II)I"⟩, 64) := ⟨⟨by decide +kernel, by decide +kernel⟩, List.mem_of_getElem? (i := 1167) (by decide +kernel), List.mem_of_getElem? (i := 1446) (by decide +kernel), List.mem_of_getElem? (i := 1447) (by decide +kernel)⟩
theorem lw_p62 : lw_okq (⟨"CoughPartsModel", "wrong", "(II)V"⟩, 64) := ⟨⟨by decide +kernel, by decide +kernel⟩, List.mem_of_getElem? (i := 1167) (by decide +kernel), List.mem_of_getElem? (i := 1450) (by decide +kernel), List.mem_of_getElem? (i := 1451) (by decide +kernel)⟩
theorem lw_p63 : lw_okq (⟨"CoughPartsModel", "must", "(I)V"⟩, 64) := ⟨⟨by decide +kernel, by decide +kernel⟩, List.mem_of_getElem? (i := 1167) (by decide +kernel), List.mem_of_getElem? (i := 1454) (by decide +kernel), List.mem_of_getElem? (i := 1455) (by decide +kernel)⟩
def lw_privs_4 : List (MethodName × Nat) := [(⟨"CoughPartsModel", "begins", "()V"⟩, 64), (⟨"CoughPartsModel", "many", "()I"⟩, 64), (⟨"CoughPartsModel", "keepsRow", "()V"⟩, 64), (⟨"CoughPartsModel", "put", "(I)V"⟩, 64), (⟨"CoughPartsModel", "cut", "()V"⟩, 64), (⟨"CoughPartsModel", "byteAt", "(I)I"⟩, 64), (⟨"CoughPartsModel", "token", "(IIIJ)V"⟩, 64), (⟨"CoughPartsModel", "sign", "(III)I"⟩, 64), (⟨"CoughPartsModel", "is", "(I)Z"⟩, 64), (⟨"CoughPartsModel", "tellOne", "()V"⟩, 64), (⟨"CoughPartsModel", "roomFor", "(II)V"⟩, 64), (⟨"CoughPartsModel", "fail", "(I)V"⟩, 64), (⟨"CoughPartsModel", "goesOn", "()V"⟩, 64), (⟨"CoughPartsModel", "bounded", "(II)I"⟩, 64), (⟨"CoughPartsModel", "wrong", "(II)V"⟩, 64), (⟨"CoughPartsModel", "must", "(I)V"⟩, 64)]
theorem lw_r4 : ∀ q ∈ lw_privs_4, lw_okq q := List.forall_mem_cons.mpr ⟨lw_p48, List.forall_mem_cons.mpr ⟨lw_p49, List.forall_mem_cons.mpr ⟨lw_p50, List.forall_mem_cons.mpr ⟨lw_p51, List.forall_mem_cons.mpr ⟨lw_p52, List.forall_mem_cons.mpr ⟨lw_p53, List.forall_mem_cons.mpr ⟨lw_p54, List.forall_mem_cons.mpr ⟨lw_p55, List.forall_mem_cons.mpr ⟨lw_p56, List.forall_mem_cons.mpr ⟨lw_p57, List.forall_mem_cons.mpr ⟨lw_p58, List.forall_mem_cons.mpr ⟨lw_p59, List.forall_mem_cons.mpr ⟨lw_p60, List.forall_mem_cons.mpr ⟨lw_p61, List.forall_mem_cons.mpr ⟨lw_p62, List.forall_mem_cons.mpr ⟨lw_p63, fun _ h => absurd h List.not_mem_nil⟩⟩⟩⟩⟩⟩⟩⟩⟩⟩⟩⟩⟩⟩⟩⟩
theorem lw_p64 : lw_okq (⟨"CoughPartsModel", "tellFamily", "()V"⟩, 64) := ⟨⟨by decide +kernel, by decide +kernel⟩, List.mem_of_getElem? (i := 1167) (by decide +kernel), List.mem_of_getElem? (i := 1458) (by decide +kernel), List.mem_of_getElem? (i := 1459) (by decide +kernel)⟩
theorem lw_p65 : lw_okq (⟨"CoughPartsModel", "numberOf", "(I)I"⟩, 64) := ⟨⟨by decide +kernel, by decide +kernel⟩, List.mem_of_getElem? (i := 1167) (by decide +kernel), List.mem_of_getElem? (i := 1462) (by decide +kernel), List.mem_of_getElem? (i := 1463) (by decide +kernel)⟩
theorem lw_p66 : lw_okq (⟨"CoughPartsModel", "tellLease", "()V"⟩, 64) := ⟨⟨by decide +kernel, by decide +kernel⟩, List.mem_of_getElem? (i := 1167) (by decide +kernel), List.mem_of_getElem? (i := 1466) (by decide +kernel), List.mem_of_getElem? (i := 1467) (by decide +kernel)⟩
theorem lw_p67 : lw_okq (⟨"CoughPartsModel", "toldInt", "(I)I"⟩, 64) := ⟨⟨by decide +kernel, by decide +kernel⟩, List.mem_of_getElem? (i := 1167) (by decide +kernel), List.mem_of_getElem? (i := 1470) (by decide +kernel), List.mem_of_getElem? (i := 1471) (by decide +kernel)⟩
theorem lw_p68 : lw_okq (⟨"CoughPartsModel", "tellLaw", "(I)V"⟩, 64) := ⟨⟨by decide +kernel, by decide +kernel⟩, List.mem_of_getElem? (i := 1167) (by decide +kernel), List.mem_of_getElem? (i := 1474) (by decide +kernel), List.mem_of_getElem? (i := 1475) (by decide +kernel)⟩
theorem lw_p69 : lw_okq (⟨"CoughPartsModel", "expression", "()V"⟩, 64) := ⟨⟨by decide +kernel, by decide +kernel⟩, List.mem_of_getElem? (i := 1167) (by decide +kernel), List.mem_of_getElem? (i := 1478) (by decide +kernel), List.mem_of_getElem? (i := 1479) (by decide +kernel)⟩
theorem lw_p70 : lw_okq (⟨"CoughPartsModel", "unit", "()V"⟩, 64) := ⟨⟨by decide +kernel, by decide +kernel⟩, List.mem_of_getElem? (i := 1167) (by decide +kernel), List.mem_of_getElem? (i := 1482) (by decide +kernel), List.mem_of_getElem? (i := 1483) (by decide +kernel)⟩
theorem lw_p71 : lw_okq (⟨"CoughPartsModel", "emit", "(II)V"⟩, 64) := ⟨⟨by decide +kernel, by decide +kernel⟩, List.mem_of_getElem? (i := 1167) (by decide +kernel), List.mem_of_getElem? (i := 1486) (by decide +kernel), List.mem_of_getElem? (i := 1487) (by decide +kernel)⟩
theorem lw_p72 : lw_okq (⟨"CoughPartsModel", "comesOut", "(Z)V"⟩, 64) := ⟨⟨by decide +kernel, by decide +kernel⟩, List.mem_of_getElem? (i := 1167) (by decide +kernel), List.mem_of_getElem? (i := 1490) (by decide +kernel), List.mem_of_getElem? (i := 1491) (by decide +kernel)⟩
theorem lw_p73 : lw_okq (⟨"CoughPartsModel", "term", "()V"⟩, 64) := ⟨⟨by decide +kernel, by decide +kernel⟩, List.mem_of_getElem? (i := 1167) (by decide +kernel), List.mem_of_getElem? (i := 1494) (by decide +kernel), List.mem_of_getElem? (i := 1495) (by decide +kernel)⟩
theorem lw_p74 : lw_okq (⟨"CoughPartsModel", "isMinute", "(I)Z"⟩, 64) := ⟨⟨by decide +kernel, by decide +kernel⟩, List.mem_of_getElem? (i := 1167) (by decide +kernel), List.mem_of_getElem? (i := 1506) (by decide +kernel), List.mem_of_getElem? (i := 1507) (by decide +kernel)⟩
theorem lw_p75 : lw_okq (⟨"CoughPartsModel", "copies", "()V"⟩, 64) := ⟨⟨by decide +kernel, by decide +kernel⟩, List.mem_of_getElem? (i := 1167) (by decide +kernel), List.mem_of_getElem? (i := 1513) (by decide +kernel), List.mem_of_getElem? (i := 1514) (by decide +kernel)⟩
theorem lw_p76 : lw_okq (⟨"CoughPartsModel", "coughsOf", "(I)I"⟩, 64) := ⟨⟨by decide +kernel, by decide +kernel⟩, List.mem_of_getElem? (i := 1167) (by decide +kernel), List.mem_of_getElem? (i := 1517) (by decide +kernel), List.mem_of_getElem? (i := 1518) (by decide +kernel)⟩
theorem lw_p77 : lw_okq (⟨"CoughPartsModel", "looks", "()V"⟩, 64) := ⟨⟨by decide +kernel, by decide +kernel⟩, List.mem_of_getElem? (i := 1167) (by decide +kernel), List.mem_of_getElem? (i := 1521) (by decide +kernel), List.mem_of_getElem? (i := 1522) (by decide +kernel)⟩
theorem lw_p78 : lw_okq (⟨"CoughPartsModel", "lawTells", "(II)I"⟩, 64) := ⟨⟨by decide +kernel, by decide +kernel⟩, List.mem_of_getElem? (i := 1167) (by decide +kernel), List.mem_of_getElem? (i := 1525) (by decide +kernel), List.mem_of_getElem? (i := 1526) (by decide +kernel)⟩
theorem lw_p79 : lw_okq (⟨"CoughPartsModel", "termOf", "(II)I"⟩, 64) := ⟨⟨by decide +kernel, by decide +kernel⟩, List.mem_of_getElem? (i := 1167) (by decide +kernel), List.mem_of_getElem? (i := 1529) (by decide +kernel), List.mem_of_getElem? (i := 1530) (by decide +kernel)⟩
def lw_privs_5 : List (MethodName × Nat) := [(⟨"CoughPartsModel", "tellFamily", "()V"⟩, 64), (⟨"CoughPartsModel", "numberOf", "(I)I"⟩, 64), (⟨"CoughPartsModel", "tellLease", "()V"⟩, 64), (⟨"CoughPartsModel", "toldInt", "(I)I"⟩, 64), (⟨"CoughPartsModel", "tellLaw", "(I)V"⟩, 64), (⟨"CoughPartsModel", "expression", "()V"⟩, 64), (⟨"CoughPartsModel", "unit", "()V"⟩, 64), (⟨"CoughPartsModel", "emit", "(II)V"⟩, 64), (⟨"CoughPartsModel", "comesOut", "(Z)V"⟩, 64), (⟨"CoughPartsModel", "term", "()V"⟩, 64), (⟨"CoughPartsModel", "isMinute", "(I)Z"⟩, 64), (⟨"CoughPartsModel", "copies", "()V"⟩, 64), (⟨"CoughPartsModel", "coughsOf", "(I)I"⟩, 64), (⟨"CoughPartsModel", "looks", "()V"⟩, 64), (⟨"CoughPartsModel", "lawTells", "(II)I"⟩, 64), (⟨"CoughPartsModel", "termOf", "(II)I"⟩, 64)]
theorem lw_r5 : ∀ q ∈ lw_privs_5, lw_okq q := List.forall_mem_cons.mpr ⟨lw_p64, List.forall_mem_cons.mpr ⟨lw_p65, List.forall_mem_cons.mpr ⟨lw_p66, List.forall_mem_cons.mpr ⟨lw_p67, List.forall_mem_cons.mpr ⟨lw_p68, List.forall_mem_cons.mpr ⟨lw_p69, List.forall_mem_cons.mpr ⟨lw_p70, List.forall_mem_cons.mpr ⟨lw_p71, List.forall_mem_cons.mpr ⟨lw_p72, List.forall_mem_cons.mpr ⟨lw_p73, List.forall_mem_cons.mpr ⟨lw_p74, List.forall_mem_cons.mpr ⟨lw_p75, List.forall_mem_cons.mpr ⟨lw_p76, List.forall_mem_cons.mpr ⟨lw_p77, List.forall_mem_cons.mpr ⟨lw_p78, List.forall_mem_cons.mpr ⟨lw_p79, fun _ h => absurd h List.not_mem_nil⟩⟩⟩⟩⟩⟩⟩⟩⟩⟩⟩⟩⟩⟩⟩⟩
theorem lw_p80 : lw_okq (⟨"CoughPartsModel", "coughsNow", "()I"⟩, 64) := ⟨⟨by decide +kernel, by decide +kernel⟩, List.mem_of_getElem? (i := 1167) (by decide +kernel), List.mem_of_getElem? (i := 1536) (by decide +kernel), List.mem_of_getElem? (i := 1537) (by decide +kernel)⟩
theorem lw_p81 : lw_okq (⟨"CoughPartsModel", "lotOf", "(I)I"⟩, 64) := ⟨⟨by decide +kernel, by decide +kernel⟩, List.mem_of_getElem? (i := 1167) (by decide +kernel), List.mem_of_getElem? (i := 1540) (by decide +kernel), List.mem_of_getElem? (i := 1541) (by decide +kernel)⟩
theorem lw_p82 : lw_okq (⟨"CoughPartsModel", "isFamily", "(I)Z"⟩, 64) := ⟨⟨by decide +kernel, by decide +kernel⟩, List.mem_of_getElem? (i := 1167) (by decide +kernel), List.mem_of_getElem? (i := 1552) (by decide +kernel), List.mem_of_getElem? (i := 1553) (by decide +kernel)⟩
theorem lw_p83 : lw_okq (⟨"CoughPartsModel", "partBits", "(I)I"⟩, 64) := ⟨⟨by decide +kernel, by decide +kernel⟩, List.mem_of_getElem? (i := 1167) (by decide +kernel), List.mem_of_getElem? (i := 1556) (by decide +kernel), List.mem_of_getElem? (i := 1557) (by decide +kernel)⟩
theorem lw_p84 : lw_okq (⟨"CoughPartsModel", "rentsOf", "(I)I"⟩, 64) := ⟨⟨by decide +kernel, by decide +kernel⟩, List.mem_of_getElem? (i := 1167) (by decide +kernel), List.mem_of_getElem? (i := 1560) (by decide +kernel), List.mem_of_getElem? (i := 1561) (by decide +kernel)⟩
theorem lw_p85 : lw_okq (⟨"CoughPartsModel", "looksAt", "(II)V"⟩, 64) := ⟨⟨by decide +kernel, by decide +kernel⟩, List.mem_of_getElem? (i := 1167) (by decide +kernel), List.mem_of_getElem? (i := 1567) (by decide +kernel), List.mem_of_getElem? (i := 1568) (by decide +kernel)⟩
theorem lw_p86 : lw_okq (⟨"CoughPartsModel", "curesOf", "(I)I"⟩, 64) := ⟨⟨by decide +kernel, by decide +kernel⟩, List.mem_of_getElem? (i := 1167) (by decide +kernel), List.mem_of_getElem? (i := 1571) (by decide +kernel), List.mem_of_getElem? (i := 1572) (by decide +kernel)⟩
theorem lw_p87 : lw_okq (⟨"CoughPartsModel", "worthOf", "(III)I"⟩, 64) := ⟨⟨by decide +kernel, by decide +kernel⟩, List.mem_of_getElem? (i := 1167) (by decide +kernel), List.mem_of_getElem? (i := 1586) (by decide +kernel), List.mem_of_getElem? (i := 1587) (by decide +kernel)⟩
theorem lw_p88 : lw_okq (⟨"CoughPartsModel", "changesFor", "(II)V"⟩, 64) := ⟨⟨by decide +kernel, by decide +kernel⟩, List.mem_of_getElem? (i := 1167) (by decide +kernel), List.mem_of_getElem? (i := 1594) (by decide +kernel), List.mem_of_getElem? (i := 1595) (by decide +kernel)⟩
theorem lw_p89 : lw_okq (⟨"CoughPartsModel", "records", "()V"⟩, 64) := ⟨⟨by decide +kernel, by decide +kernel⟩, List.mem_of_getElem? (i := 1167) (by decide +kernel), List.mem_of_getElem? (i := 1598) (by decide +kernel), List.mem_of_getElem? (i := 1599) (by decide +kernel)⟩
theorem lw_p90 : lw_okq (⟨"CoughPartsModel", "does", "(II)V"⟩, 64) := ⟨⟨by decide +kernel, by decide +kernel⟩, List.mem_of_getElem? (i := 1167) (by decide +kernel), List.mem_of_getElem? (i := 1606) (by decide +kernel), List.mem_of_getElem? (i := 1607) (by decide +kernel)⟩
theorem lw_p91 : lw_okq (⟨"CoughPartsModel", "given", "(IZ)Z"⟩, 64) := ⟨⟨by decide +kernel, by decide +kernel⟩, List.mem_of_getElem? (i := 1167) (by decide +kernel), List.mem_of_getElem? (i := 1614) (by decide +kernel), List.mem_of_getElem? (i := 1615) (by decide +kernel)⟩
theorem lw_p92 : lw_okq (⟨"CoughPartsModel", "goes", "(I)V"⟩, 64) := ⟨⟨by decide +kernel, by decide +kernel⟩, List.mem_of_getElem? (i := 1167) (by decide +kernel), List.mem_of_getElem? (i := 1629) (by decide +kernel), List.mem_of_getElem? (i := 1630) (by decide +kernel)⟩
theorem lw_p93 : lw_okq (⟨"CoughPartsModel", "weekGoes", "()V"⟩, 64) := ⟨⟨by decide +kernel, by decide +kernel⟩, List.mem_of_getElem? (i := 1167) (by decide +kernel), List.mem_of_getElem? (i := 1633) (by decide +kernel), List.mem_of_getElem? (i := 1634) (by decide +kernel)⟩
theorem lw_p94 : lw_okq (⟨"CoughPartsModel", "partsBy", "(I)I"⟩, 64) := ⟨⟨by decide +kernel, by decide +kernel⟩, List.mem_of_getElem? (i := 1167) (by decide +kernel), List.mem_of_getElem? (i := 1640) (by decide +kernel), List.mem_of_getElem? (i := 1641) (by decide +kernel)⟩
theorem lw_p95 : lw_okq (⟨"CoughPartsModel", "copiesFalls", "()V"⟩, 64) := ⟨⟨by decide +kernel, by decide +kernel⟩, List.mem_of_getElem? (i := 1167) (by decide +kernel), List.mem_of_getElem? (i := 1652) (by decide +kernel), List.mem_of_getElem? (i := 1653) (by decide +kernel)⟩
def lw_privs_6 : List (MethodName × Nat) := [(⟨"CoughPartsModel", "coughsNow", "()I"⟩, 64), (⟨"CoughPartsModel", "lotOf", "(I)I"⟩, 64), (⟨"CoughPartsModel", "isFamily", "(I)Z"⟩, 64), (⟨"CoughPartsModel", "partBits", "(I)I"⟩, 64), (⟨"CoughPartsModel", "rentsOf", "(I)I"⟩, 64), (⟨"CoughPartsModel", "looksAt", "(II)V"⟩, 64), (⟨"CoughPartsModel", "curesOf", "(I)I"⟩, 64), (⟨"CoughPartsModel", "worthOf", "(III)I"⟩, 64), (⟨"CoughPartsModel", "changesFor", "(II)V"⟩, 64), (⟨"CoughPartsModel", "records", "()V"⟩, 64), (⟨"CoughPartsModel", "does", "(II)V"⟩, 64), (⟨"CoughPartsModel", "given", "(IZ)Z"⟩, 64), (⟨"CoughPartsModel", "goes", "(I)V"⟩, 64), (⟨"CoughPartsModel", "weekGoes", "()V"⟩, 64), (⟨"CoughPartsModel", "partsBy", "(I)I"⟩, 64), (⟨"CoughPartsModel", "copiesFalls", "()V"⟩, 64)]
theorem lw_r6 : ∀ q ∈ lw_privs_6, lw_okq q := List.forall_mem_cons.mpr ⟨lw_p80, List.forall_mem_cons.mpr ⟨lw_p81, List.forall_mem_cons.mpr ⟨lw_p82, List.forall_mem_cons.mpr ⟨lw_p83, List.forall_mem_cons.mpr ⟨lw_p84, List.forall_mem_cons.mpr ⟨lw_p85, List.forall_mem_cons.mpr ⟨lw_p86, List.forall_mem_cons.mpr ⟨lw_p87, List.forall_mem_cons.mpr ⟨lw_p88, List.forall_mem_cons.mpr ⟨lw_p89, List.forall_mem_cons.mpr ⟨lw_p90, List.forall_mem_cons.mpr ⟨lw_p91, List.forall_mem_cons.mpr ⟨lw_p92, List.forall_mem_cons.mpr ⟨lw_p93, List.forall_mem_cons.mpr ⟨lw_p94, List.forall_mem_cons.mpr ⟨lw_p95, fun _ h => absurd h List.not_mem_nil⟩⟩⟩⟩⟩⟩⟩⟩⟩⟩⟩⟩⟩⟩⟩⟩
theorem lw_p96 : lw_okq (⟨"CoughPartsModel", "fillsFalls", "()V"⟩, 64) := ⟨⟨by decide +kernel, by decide +kernel⟩, List.mem_of_getElem? (i := 1167) (by decide +kernel), List.mem_of_getElem? (i := 1656) (by decide +kernel), List.mem_of_getElem? (i := 1657) (by decide +kernel)⟩
theorem lw_p97 : lw_okq (⟨"CoughPartsModel", "oddsOf", "(I)I"⟩, 64) := ⟨⟨by decide +kernel, by decide +kernel⟩, List.mem_of_getElem? (i := 1167) (by decide +kernel), List.mem_of_getElem? (i := 1663) (by decide +kernel), List.mem_of_getElem? (i := 1664) (by decide +kernel)⟩
theorem lw_p98 : lw_okq (⟨"CoughPartsModel", "valueOf", "(II)I"⟩, 64) := ⟨⟨by decide +kernel, by decide +kernel⟩, List.mem_of_getElem? (i := 1167) (by decide +kernel), List.mem_of_getElem? (i := 1675) (by decide +kernel), List.mem_of_getElem? (i := 1676) (by decide +kernel)⟩
theorem lw_p99 : lw_okq (⟨"CoughPartsModel", "haveOf", "(I)I"⟩, 64) := ⟨⟨by decide +kernel, by decide +kernel⟩, List.mem_of_getElem? (i := 1167) (by decide +kernel), List.mem_of_getElem? (i := 1683) (by decide +kernel), List.mem_of_getElem? (i := 1684) (by decide +kernel)⟩
theorem lw_p100 : lw_okq (⟨"CoughPartsModel", "goesWith", "(II)V"⟩, 64) := ⟨⟨by decide +kernel, by decide +kernel⟩, List.mem_of_getElem? (i := 1167) (by decide +kernel), List.mem_of_getElem? (i := 1703) (by decide +kernel), List.mem_of_getElem? (i := 1704) (by decide +kernel)⟩
theorem lw_p101 : lw_okq (⟨"CoughPartsModel", "moreBy", "(II)I"⟩, 64) := ⟨⟨by decide +kernel, by decide +kernel⟩, List.mem_of_getElem? (i := 1167) (by decide +kernel), List.mem_of_getElem? (i := 1719) (by decide +kernel), List.mem_of_getElem? (i := 1720) (by decide +kernel)⟩
theorem lw_p102 : lw_okq (⟨"CoughPartsModel", "sweetFor", "(II)I"⟩, 64) := ⟨⟨by decide +kernel, by decide +kernel⟩, List.mem_of_getElem? (i := 1167) (by decide +kernel), List.mem_of_getElem? (i := 1732) (by decide +kernel), List.mem_of_getElem? (i := 1733) (by decide +kernel)⟩
theorem lw_p103 : lw_okq (⟨"CoughPartsModel", "copiesGame", "(II)V"⟩, 64) := ⟨⟨by decide +kernel, by decide +kernel⟩, List.mem_of_getElem? (i := 1167) (by decide +kernel), List.mem_of_getElem? (i := 1736) (by decide +kernel), List.mem_of_getElem? (i := 1737) (by decide +kernel)⟩
theorem lw_p104 : lw_okq (⟨"CoughPartsModel", "fillsHits", "(I)V"⟩, 64) := ⟨⟨by decide +kernel, by decide +kernel⟩, List.mem_of_getElem? (i := 1167) (by decide +kernel), List.mem_of_getElem? (i := 1759) (by decide +kernel), List.mem_of_getElem? (i := 1760) (by decide +kernel)⟩
theorem lw_p105 : lw_okq (⟨"CoughPartsModel", "canBe", "(I)Z"⟩, 64) := ⟨⟨by decide +kernel, by decide +kernel⟩, List.mem_of_getElem? (i := 1167) (by decide +kernel), List.mem_of_getElem? (i := 1763) (by decide +kernel), List.mem_of_getElem? (i := 1764) (by decide +kernel)⟩
theorem lw_p106 : lw_okq (⟨"CoughPartsModel", "partsOn", "(II)I"⟩, 64) := ⟨⟨by decide +kernel, by decide +kernel⟩, List.mem_of_getElem? (i := 1167) (by decide +kernel), List.mem_of_getElem? (i := 1767) (by decide +kernel), List.mem_of_getElem? (i := 1768) (by decide +kernel)⟩
theorem lw_p107 : lw_okq (⟨"CoughPartsModel", "isIn", "(I)Z"⟩, 64) := ⟨⟨by decide +kernel, by decide +kernel⟩, List.mem_of_getElem? (i := 1167) (by decide +kernel), List.mem_of_getElem? (i := 1771) (by decide +kernel), List.mem_of_getElem? (i := 1772) (by decide +kernel)⟩
theorem lw_p108 : lw_okq (⟨"CoughPartsModel", "isSo", "(II)Z"⟩, 64) := ⟨⟨by decide +kernel, by decide +kernel⟩, List.mem_of_getElem? (i := 1167) (by decide +kernel), List.mem_of_getElem? (i := 1803) (by decide +kernel), List.mem_of_getElem? (i := 1804) (by decide +kernel)⟩
theorem lw_p109 : lw_okq (⟨"CoughPartsModel", "sumNow", "(II)I"⟩, 64) := ⟨⟨by decide +kernel, by decide +kernel⟩, List.mem_of_getElem? (i := 1167) (by decide +kernel), List.mem_of_getElem? (i := 1823) (by decide +kernel), List.mem_of_getElem? (i := 1824) (by decide +kernel)⟩
def lw_privs_7 : List (MethodName × Nat) := [(⟨"CoughPartsModel", "fillsFalls", "()V"⟩, 64), (⟨"CoughPartsModel", "oddsOf", "(I)I"⟩, 64), (⟨"CoughPartsModel", "valueOf", "(II)I"⟩, 64), (⟨"CoughPartsModel", "haveOf", "(I)I"⟩, 64), (⟨"CoughPartsModel", "goesWith", "(II)V"⟩, 64), (⟨"CoughPartsModel", "moreBy", "(II)I"⟩, 64), (⟨"CoughPartsModel", "sweetFor", "(II)I"⟩, 64), (⟨"CoughPartsModel", "copiesGame", "(II)V"⟩, 64), (⟨"CoughPartsModel", "fillsHits", "(I)V"⟩, 64), (⟨"CoughPartsModel", "canBe", "(I)Z"⟩, 64), (⟨"CoughPartsModel", "partsOn", "(II)I"⟩, 64), (⟨"CoughPartsModel", "isIn", "(I)Z"⟩, 64), (⟨"CoughPartsModel", "isSo", "(II)Z"⟩, 64), (⟨"CoughPartsModel", "sumNow", "(II)I"⟩, 64)]
theorem lw_r7 : ∀ q ∈ lw_privs_7, lw_okq q := List.forall_mem_cons.mpr ⟨lw_p96, List.forall_mem_cons.mpr ⟨lw_p97, List.forall_mem_cons.mpr ⟨lw_p98, List.forall_mem_cons.mpr ⟨lw_p99, List.forall_mem_cons.mpr ⟨lw_p100, List.forall_mem_cons.mpr ⟨lw_p101, List.forall_mem_cons.mpr ⟨lw_p102, List.forall_mem_cons.mpr ⟨lw_p103, List.forall_mem_cons.mpr ⟨lw_p104, List.forall_mem_cons.mpr ⟨lw_p105, List.forall_mem_cons.mpr ⟨lw_p106, List.forall_mem_cons.mpr ⟨lw_p107, List.forall_mem_cons.mpr ⟨lw_p108, List.forall_mem_cons.mpr ⟨lw_p109, fun _ h => absurd h List.not_mem_nil⟩⟩⟩⟩⟩⟩⟩⟩⟩⟩⟩⟩⟩⟩
def lw_privs : List (MethodName × Nat) := lw_privs_1 ++ (lw_privs_2 ++ (lw_privs_3 ++ (lw_privs_4 ++ (lw_privs_5 ++ (lw_privs_6 ++ (lw_privs_7))))))
def lw_tbl : List Cond := k2_sels lw_privs ++ tables_1
theorem lw_privs_ok : ∀ q ∈ lw_privs, lw_okq q := by
  show ∀ q ∈ lw_privs_1 ++ (lw_privs_2 ++ (lw_privs_3 ++ (lw_privs_4 ++ (lw_privs_5 ++ (lw_privs_6 ++ (lw_privs_7)))))), lw_okq q
  exact List.forall_mem_append.mpr ⟨lw_r1, List.forall_mem_append.mpr ⟨lw_r2, List.forall_mem_append.mpr ⟨lw_r3, List.forall_mem_append.mpr ⟨lw_r4, List.forall_mem_append.mpr ⟨lw_r5, List.forall_mem_append.mpr ⟨lw_r6, lw_r7⟩⟩⟩⟩⟩⟩
def RX0 : String := "CoughParts$Chances"
def TX0 : u_T := fun k => match k with
  | 0 => ("CoughParts$Chances", "text", "LCoughParts$Text;", true)
  | 1 => ("CoughParts$Chances", "laws", "LCoughParts$Laws;", true)
  | 2 => ("CoughParts$Chances", "quarters", "[I", true)
  | 3 => ("CoughParts$Chances", "falls", "[I", true)
  | 4 => ("CoughParts$Chances", "ways", "[I", true)
  | 5 => ("CoughParts$Chances", "nextWays", "[I", true)
  | 6 => ("CoughParts$Chances", "cases", "I", false)
  | 7 => ("CoughParts$Chances", "always", "I", false)
  | _ => ("CoughParts$Chances", "maybe", "I", false)
def tyX0 : Nat → FieldType := fun k => match k with
  | 0 => .object "CoughParts$Text"
  | 1 => .object "CoughParts$Laws"
  | 2 => .array .int
  | 3 => .array .int
  | 4 => .array .int
  | 5 => .array .int
  | 6 => .int
  | 7 => .int
  | _ => .int
abbrev wsX00 : List Cond := u_ws RX0 TX0 9
theorem nmX0 : ∀ a, a < 9 → ∀ b, b < 9 → a ≠ b → (TX0 a).2.1 ≠ (TX0 b).2.1 := by decide +kernel
theorem tyX0_ok : ∀ k, k < 9 → parseFieldDescriptor (TX0 k).2.2.1 = some (tyX0 k) := by decide +kernel
abbrev cX0_init : ByteArray := prog_2_method_1_code
def yX0_init : MethodName := ⟨RX0, "<init>", "(LCoughParts$Text;LCoughParts$Laws;)V"⟩
abbrev cX0_weigh : ByteArray := prog_2_method_2_code
def yX0_weigh : MethodName := ⟨RX0, "weigh", "(LCoughParts$State;)V"⟩
abbrev cX0_weighFalls : ByteArray := prog_2_method_3_code
def yX0_weighFalls : MethodName := ⟨RX0, "weighFalls", "()V"⟩
abbrev cX0_partBehind : ByteArray := prog_2_method_4_code
def yX0_partBehind : MethodName := ⟨RX0, "partBehind", "(I)I"⟩
abbrev cX0_partIn : ByteArray := prog_2_method_5_code
def yX0_partIn : MethodName := ⟨RX0, "partIn", "(II)I"⟩
abbrev cX0_casesIn : ByteArray := prog_2_method_6_code
def yX0_casesIn : MethodName := ⟨RX0, "casesIn", "(II)I"⟩
abbrev cX0_casesOfParts : ByteArray := prog_2_method_7_code
def yX0_casesOfParts : MethodName := ⟨RX0, "casesOfParts", "(I)I"⟩
abbrev cX0_valueOf : ByteArray := prog_2_method_8_code
def yX0_valueOf : MethodName := ⟨RX0, "valueOf", "(LCoughParts$State;II)I"⟩
abbrev cX0_haveOf : ByteArray := prog_2_method_9_code
def yX0_haveOf : MethodName := ⟨RX0, "haveOf", "(LCoughParts$State;I)I"⟩
abbrev cX0_casesTogether : ByteArray := prog_2_method_10_code
def yX0_casesTogether : MethodName := ⟨RX0, "casesTogether", "(II)I"⟩
abbrev cX0_casesHolding : ByteArray := prog_2_method_11_code
def yX0_casesHolding : MethodName := ⟨RX0, "casesHolding", "(II)I"⟩
abbrev cX0_carryWays : ByteArray := prog_2_method_12_code
def yX0_carryWays : MethodName := ⟨RX0, "carryWays", "(III)V"⟩
def RX1 : String := "CoughParts$Coverage"
def TX1 : u_T := fun k => match k with
  | 0 => ("CoughParts$Coverage", "text", "LCoughParts$Text;", true)
  | 1 => ("CoughParts$Coverage", "chances", "LCoughParts$Chances;", true)
  | _ => ("CoughParts$Coverage", "seen", "[Z", true)
def tyX1 : Nat → FieldType := fun k => match k with
  | 0 => .object "CoughParts$Text"
  | 1 => .object "CoughParts$Chances"
  | _ => .array .boolean
abbrev wsX10 : List Cond := u_ws RX1 TX1 3
theorem nmX1 : ∀ a, a < 3 → ∀ b, b < 3 → a ≠ b → (TX1 a).2.1 ≠ (TX1 b).2.1 := by decide +kernel
theorem tyX1_ok : ∀ k, k < 3 → parseFieldDescriptor (TX1 k).2.2.1 = some (tyX1 k) := by decide +kernel
abbrev cX1_init : ByteArray := prog_3_method_1_code
def yX1_init : MethodName := ⟨RX1, "<init>", "(LCoughParts$Text;LCoughParts$Chances;)V"⟩
abbrev cX1_look : ByteArray := prog_3_method_2_code
def yX1_look : MethodName := ⟨RX1, "look", "(LCoughParts$State;I)V"⟩
abbrev cX1_partsOn : ByteArray := prog_3_method_3_code
def yX1_partsOn : MethodName := ⟨RX1, "partsOn", "(LCoughParts$State;II)I"⟩
abbrev cX1_isMetBy : ByteArray := prog_3_method_4_code
def yX1_isMetBy : MethodName := ⟨RX1, "isMetBy", "(I)Z"⟩
abbrev cX1_fewestParts : ByteArray := prog_3_method_5_code
def yX1_fewestParts : MethodName := ⟨RX1, "fewestParts", "()I"⟩
def RX2 : String := "CoughParts$Laws"
def TX2 : u_T := fun k => match k with
  | 0 => ("CoughParts$Laws", "text", "LCoughParts$Text;", true)
  | 1 => ("CoughParts$Laws", "vars", "[I", true)
  | _ => ("CoughParts$Laws", "stack", "[I", true)
def tyX2 : Nat → FieldType := fun k => match k with
  | 0 => .object "CoughParts$Text"
  | 1 => .array .int
  | _ => .array .int
abbrev wsX20 : List Cond := u_ws RX2 TX2 3
theorem nmX2 : ∀ a, a < 3 → ∀ b, b < 3 → a ≠ b → (TX2 a).2.1 ≠ (TX2 b).2.1 := by decide +kernel
theorem tyX2_ok : ∀ k, k < 3 → parseFieldDescriptor (TX2 k).2.2.1 = some (tyX2 k) := by decide +kernel
abbrev cX2_init : ByteArray := prog_4_method_1_code
def yX2_init : MethodName := ⟨RX2, "<init>", "(LCoughParts$Text;)V"⟩
abbrev cX2_quartersOf : ByteArray := prog_4_method_2_code
def yX2_quartersOf : MethodName := ⟨RX2, "quartersOf", "(LCoughParts$State;I)I"⟩
abbrev cX2_worthTo : ByteArray := prog_4_method_3_code
def yX2_worthTo : MethodName := ⟨RX2, "worthTo", "(LCoughParts$State;III)I"⟩
abbrev cX2_rentOf : ByteArray := prog_4_method_4_code
def yX2_rentOf : MethodName := ⟨RX2, "rentOf", "(LCoughParts$State;I)I"⟩
abbrev cX2_cureFor : ByteArray := prog_4_method_5_code
def yX2_cureFor : MethodName := ⟨RX2, "cureFor", "(LCoughParts$State;I)I"⟩
abbrev cX2_setVars : ByteArray := prog_4_method_6_code
def yX2_setVars : MethodName := ⟨RX2, "setVars", "(LCoughParts$State;III)V"⟩
abbrev cX2_resultOf : ByteArray := prog_4_method_7_code
def yX2_resultOf : MethodName := ⟨RX2, "resultOf", "(I)I"⟩
def RX3 : String := "CoughParts$Past"
def TX3 : u_T := fun k => match k with
  | 0 => ("CoughParts$Past", "before", "[I", true)
  | 1 => ("CoughParts$Past", "slots", "[I", true)
  | 2 => ("CoughParts$Past", "held", "[Z", true)
  | 3 => ("CoughParts$Past", "next", "I", false)
  | _ => ("CoughParts$Past", "things", "I", false)
def tyX3 : Nat → FieldType := fun k => match k with
  | 0 => .array .int
  | 1 => .array .int
  | 2 => .array .boolean
  | 3 => .int
  | _ => .int
abbrev wsX30 : List Cond := u_ws RX3 TX3 5
theorem nmX3 : ∀ a, a < 5 → ∀ b, b < 5 → a ≠ b → (TX3 a).2.1 ≠ (TX3 b).2.1 := by decide +kernel
theorem tyX3_ok : ∀ k, k < 5 → parseFieldDescriptor (TX3 k).2.2.1 = some (tyX3 k) := by decide +kernel
abbrev cX3_init : ByteArray := prog_5_method_1_code
def yX3_init : MethodName := ⟨RX3, "<init>", "()V"⟩
abbrev cX3_keep : ByteArray := prog_5_method_2_code
def yX3_keep : MethodName := ⟨RX3, "keep", "(LCoughParts$State;)V"⟩
abbrev cX3_takeBack : ByteArray := prog_5_method_3_code
def yX3_takeBack : MethodName := ⟨RX3, "takeBack", "(LCoughParts$State;)Z"⟩
abbrev cX3_clearThings : ByteArray := prog_5_method_4_code
def yX3_clearThings : MethodName := ⟨RX3, "clearThings", "()V"⟩
abbrev cX3_clearSlots : ByteArray := prog_5_method_5_code
def yX3_clearSlots : MethodName := ⟨RX3, "clearSlots", "()V"⟩
abbrev cX3_putInSlot : ByteArray := prog_5_method_6_code
def yX3_putInSlot : MethodName := ⟨RX3, "putInSlot", "(ILCoughParts$State;)Z"⟩
abbrev cX3_getFromSlot : ByteArray := prog_5_method_7_code
def yX3_getFromSlot : MethodName := ⟨RX3, "getFromSlot", "(ILCoughParts$State;)Z"⟩
abbrev cX3_slotsHeld : ByteArray := prog_5_method_8_code
def yX3_slotsHeld : MethodName := ⟨RX3, "slotsHeld", "()I"⟩
def RX4 : String := "CoughParts$Preacher"
def TX4 : u_T := fun k => match k with
  | 0 => ("CoughParts$Preacher", "text", "LCoughParts$Text;", true)
  | _ => ("CoughParts$Preacher", "laws", "LCoughParts$Laws;", true)
def tyX4 : Nat → FieldType := fun k => match k with
  | 0 => .object "CoughParts$Text"
  | _ => .object "CoughParts$Laws"
abbrev wsX40 : List Cond := u_ws RX4 TX4 2
theorem nmX4 : ∀ a, a < 2 → ∀ b, b < 2 → a ≠ b → (TX4 a).2.1 ≠ (TX4 b).2.1 := by decide +kernel
theorem tyX4_ok : ∀ k, k < 2 → parseFieldDescriptor (TX4 k).2.2.1 = some (tyX4 k) := by decide +kernel
abbrev cX4_init : ByteArray := prog_6_method_1_code
def yX4_init : MethodName := ⟨RX4, "<init>", "(LCoughParts$Text;LCoughParts$Laws;)V"⟩
abbrev cX4_coughsBehind : ByteArray := prog_6_method_2_code
def yX4_coughsBehind : MethodName := ⟨RX4, "coughsBehind", "(LCoughParts$State;II)Z"⟩
abbrev cX4_preachWeeks : ByteArray := prog_6_method_3_code
def yX4_preachWeeks : MethodName := ⟨RX4, "preachWeeks", "(LCoughParts$State;II)V"⟩
abbrev cX4_preachWeek : ByteArray := prog_6_method_4_code
def yX4_preachWeek : MethodName := ⟨RX4, "preachWeek", "(LCoughParts$State;I)V"⟩
abbrev cX4_payWorth : ByteArray := prog_6_method_5_code
def yX4_payWorth : MethodName := ⟨RX4, "payWorth", "(LCoughParts$State;II)V"⟩
abbrev cX4_lotOfFour : ByteArray := prog_6_method_6_code
def yX4_lotOfFour : MethodName := ⟨RX4, "lotOfFour", "(II)I"⟩
abbrev cX4_stir : ByteArray := prog_6_method_7_code
def yX4_stir : MethodName := ⟨RX4, "stir", "(II)I"⟩
def RX5 : String := "CoughParts$Reader"
def TX5 : u_T := fun k => match k with
  | 0 => ("CoughParts$Reader", "draft", "LCoughParts$Text;", true)
  | 1 => ("CoughParts$Reader", "faultPlace", "I", false)
  | 2 => ("CoughParts$Reader", "scanner", "LCoughParts$Scanner;", true)
  | 3 => ("CoughParts$Reader", "names", "[J", true)
  | 4 => ("CoughParts$Reader", "pending", "[I", true)
  | 5 => ("CoughParts$Reader", "leases", "I", false)
  | 6 => ("CoughParts$Reader", "pendings", "I", false)
  | 7 => ("CoughParts$Reader", "open", "I", false)
  | 8 => ("CoughParts$Reader", "at", "I", false)
  | 9 => ("CoughParts$Reader", "taken", "J", false)
  | 10 => ("CoughParts$Reader", "takenPlace", "I", false)
  | 11 => ("CoughParts$Reader", "fault", "I", false)
  | 12 => ("CoughParts$Reader", "laterFault", "I", false)
  | _ => ("CoughParts$Reader", "laterPlace", "I", false)
def tyX5 : Nat → FieldType := fun k => match k with
  | 0 => .object "CoughParts$Text"
  | 1 => .int
  | 2 => .object "CoughParts$Scanner"
  | 3 => .array .long
  | 4 => .array .int
  | 5 => .int
  | 6 => .int
  | 7 => .int
  | 8 => .int
  | 9 => .long
  | 10 => .int
  | 11 => .int
  | 12 => .int
  | _ => .int
abbrev wsX50 : List Cond := u_ws RX5 TX5 14
theorem nmX5 : ∀ a, a < 14 → ∀ b, b < 14 → a ≠ b → (TX5 a).2.1 ≠ (TX5 b).2.1 := by decide +kernel
theorem tyX5_ok : ∀ k, k < 14 → parseFieldDescriptor (TX5 k).2.2.1 = some (tyX5 k) := by decide +kernel
abbrev cX5_init : ByteArray := prog_7_method_1_code
def yX5_init : MethodName := ⟨RX5, "<init>", "(LCoughParts$Tape;)V"⟩
abbrev cX5_readAll : ByteArray := prog_7_method_2_code
def yX5_readAll : MethodName := ⟨RX5, "readAll", "()I"⟩
abbrev cX5_readTell : ByteArray := prog_7_method_3_code
def yX5_readTell : MethodName := ⟨RX5, "readTell", "()Z"⟩
abbrev cX5_readMinute : ByteArray := prog_7_method_4_code
def yX5_readMinute : MethodName := ⟨RX5, "readMinute", "()Z"⟩
abbrev cX5_readFamily : ByteArray := prog_7_method_5_code
def yX5_readFamily : MethodName := ⟨RX5, "readFamily", "()Z"⟩
abbrev cX5_readLease : ByteArray := prog_7_method_6_code
def yX5_readLease : MethodName := ⟨RX5, "readLease", "()Z"⟩
abbrev cX5_readSetting : ByteArray := prog_7_method_7_code
def yX5_readSetting : MethodName := ⟨RX5, "readSetting", "(I)Z"⟩
abbrev cX5_readLaw : ByteArray := prog_7_method_8_code
def yX5_readLaw : MethodName := ⟨RX5, "readLaw", "(I)Z"⟩
abbrev cX5_readSum : ByteArray := prog_7_method_9_code
def yX5_readSum : MethodName := ⟨RX5, "readSum", "()Z"⟩
abbrev cX5_goesOnSum : ByteArray := prog_7_method_10_code
def yX5_goesOnSum : MethodName := ⟨RX5, "goesOnSum", "(IZ)Z"⟩
abbrev cX5_putUnit : ByteArray := prog_7_method_11_code
def yX5_putUnit : MethodName := ⟨RX5, "putUnit", "(I)V"⟩
abbrev cX5_push : ByteArray := prog_7_method_12_code
def yX5_push : MethodName := ⟨RX5, "push", "(I)V"⟩
abbrev cX5_putPending : ByteArray := prog_7_method_13_code
def yX5_putPending : MethodName := ⟨RX5, "putPending", "(I)V"⟩
abbrev cX5_rankOf : ByteArray := prog_7_method_14_code
def yX5_rankOf : MethodName := ⟨RX5, "rankOf", "(I)I"⟩
abbrev cX5_isVar : ByteArray := prog_7_method_15_code
def yX5_isVar : MethodName := ⟨RX5, "isVar", "(I)Z"⟩
abbrev cX5_familyNamed : ByteArray := prog_7_method_16_code
def yX5_familyNamed : MethodName := ⟨RX5, "familyNamed", "(J)I"⟩
abbrev cX5_kindNow : ByteArray := prog_7_method_17_code
def yX5_kindNow : MethodName := ⟨RX5, "kindNow", "()I"⟩
abbrev cX5_take : ByteArray := prog_7_method_18_code
def yX5_take : MethodName := ⟨RX5, "take", "(I)Z"⟩
abbrev cX5_takeNumber : ByteArray := prog_7_method_19_code
def yX5_takeNumber : MethodName := ⟨RX5, "takeNumber", "(I)Z"⟩
abbrev cX5_fail : ByteArray := prog_7_method_20_code
def yX5_fail : MethodName := ⟨RX5, "fail", "(I)Z"⟩
abbrev cX5_failLater : ByteArray := prog_7_method_21_code
def yX5_failLater : MethodName := ⟨RX5, "failLater", "(I)V"⟩
def RX6 : String := "CoughParts$Scanner"
def TX6 : u_T := fun k => match k with
  | 0 => ("CoughParts$Scanner", "kinds", "[I", true)
  | 1 => ("CoughParts$Scanner", "places", "[I", true)
  | 2 => ("CoughParts$Scanner", "values", "[J", true)
  | 3 => ("CoughParts$Scanner", "tape", "LCoughParts$Tape;", true)
  | 4 => ("CoughParts$Scanner", "next", "I", false)
  | _ => ("CoughParts$Scanner", "value", "J", false)
def tyX6 : Nat → FieldType := fun k => match k with
  | 0 => .array .int
  | 1 => .array .int
  | 2 => .array .long
  | 3 => .object "CoughParts$Tape"
  | 4 => .int
  | _ => .long
abbrev wsX60 : List Cond := u_ws RX6 TX6 6
theorem nmX6 : ∀ a, a < 6 → ∀ b, b < 6 → a ≠ b → (TX6 a).2.1 ≠ (TX6 b).2.1 := by decide +kernel
theorem tyX6_ok : ∀ k, k < 6 → parseFieldDescriptor (TX6 k).2.2.1 = some (tyX6 k) := by decide +kernel
abbrev cX6_init : ByteArray := prog_8_method_1_code
def yX6_init : MethodName := ⟨RX6, "<init>", "(LCoughParts$Tape;)V"⟩
abbrev cX6_scan : ByteArray := prog_8_method_2_code
def yX6_scan : MethodName := ⟨RX6, "scan", "()V"⟩
abbrev cX6_skipBlanks : ByteArray := prog_8_method_3_code
def yX6_skipBlanks : MethodName := ⟨RX6, "skipBlanks", "()V"⟩
abbrev cX6_scanToken : ByteArray := prog_8_method_4_code
def yX6_scanToken : MethodName := ⟨RX6, "scanToken", "()I"⟩
abbrev cX6_scanLetters : ByteArray := prog_8_method_5_code
def yX6_scanLetters : MethodName := ⟨RX6, "scanLetters", "()I"⟩
abbrev cX6_scanDigits : ByteArray := prog_8_method_6_code
def yX6_scanDigits : MethodName := ⟨RX6, "scanDigits", "()I"⟩
abbrev cX6_kindOf : ByteArray := prog_8_method_7_code
def yX6_kindOf : MethodName := ⟨RX6, "kindOf", "(J)I"⟩
abbrev cX6_withLetter : ByteArray := prog_8_method_8_code
def yX6_withLetter : MethodName := ⟨RX6, "withLetter", "(JI)J"⟩
abbrev cX6_isBlank : ByteArray := prog_8_method_9_code
def yX6_isBlank : MethodName := ⟨RX6, "isBlank", "(I)Z"⟩
abbrev cX6_isLetter : ByteArray := prog_8_method_10_code
def yX6_isLetter : MethodName := ⟨RX6, "isLetter", "(I)Z"⟩
abbrev cX6_isDigit : ByteArray := prog_8_method_11_code
def yX6_isDigit : MethodName := ⟨RX6, "isDigit", "(I)Z"⟩
def RX7 : String := "CoughParts$State"
def TX7 : u_T := fun k => match k with
  | _ => ("CoughParts$State", "cells", "[I", true)
def tyX7 : Nat → FieldType := fun k => match k with
  | _ => .array .int
abbrev wsX70 : List Cond := u_ws RX7 TX7 1
theorem nmX7 : ∀ a, a < 1 → ∀ b, b < 1 → a ≠ b → (TX7 a).2.1 ≠ (TX7 b).2.1 := by decide +kernel
theorem tyX7_ok : ∀ k, k < 1 → parseFieldDescriptor (TX7 k).2.2.1 = some (tyX7 k) := by decide +kernel
abbrev cX7_init : ByteArray := prog_9_method_1_code
def yX7_init : MethodName := ⟨RX7, "<init>", "()V"⟩
abbrev cX7_begin : ByteArray := prog_9_method_2_code
def yX7_begin : MethodName := ⟨RX7, "begin", "(LCoughParts$Text;)V"⟩
abbrev cX7_copyFrom : ByteArray := prog_9_method_3_code
def yX7_copyFrom : MethodName := ⟨RX7, "copyFrom", "(LCoughParts$State;)V"⟩
abbrev cX7_matterOf : ByteArray := prog_9_method_4_code
def yX7_matterOf : MethodName := ⟨RX7, "matterOf", "(I)I"⟩
abbrev cX7_exchange : ByteArray := prog_9_method_5_code
def yX7_exchange : MethodName := ⟨RX7, "exchange", "(II)V"⟩
abbrev cX7_ownerOf : ByteArray := prog_9_method_6_code
def yX7_ownerOf : MethodName := ⟨RX7, "ownerOf", "(I)I"⟩
abbrev cX7_setOwner : ByteArray := prog_9_method_7_code
def yX7_setOwner : MethodName := ⟨RX7, "setOwner", "(II)V"⟩
abbrev cX7_partsOf : ByteArray := prog_9_method_8_code
def yX7_partsOf : MethodName := ⟨RX7, "partsOf", "(I)I"⟩
abbrev cX7_gainedBy : ByteArray := prog_9_method_9_code
def yX7_gainedBy : MethodName := ⟨RX7, "gainedBy", "(I)I"⟩
abbrev cX7_paidBy : ByteArray := prog_9_method_10_code
def yX7_paidBy : MethodName := ⟨RX7, "paidBy", "(I)I"⟩
abbrev cX7_profitOf : ByteArray := prog_9_method_11_code
def yX7_profitOf : MethodName := ⟨RX7, "profitOf", "(I)I"⟩
abbrev cX7_gainedByAll : ByteArray := prog_9_method_12_code
def yX7_gainedByAll : MethodName := ⟨RX7, "gainedByAll", "()I"⟩
abbrev cX7_paidByAll : ByteArray := prog_9_method_13_code
def yX7_paidByAll : MethodName := ⟨RX7, "paidByAll", "()I"⟩
abbrev cX7_sumFrom : ByteArray := prog_9_method_14_code
def yX7_sumFrom : MethodName := ⟨RX7, "sumFrom", "(I)I"⟩
def RX8 : String := "CoughParts$Tape"
def TX8 : u_T := fun k => match k with
  | 0 => ("CoughParts$Tape", "bytes", "[B", true)
  | _ => ("CoughParts$Tape", "length", "I", false)
def tyX8 : Nat → FieldType := fun k => match k with
  | 0 => .array .byte
  | _ => .int
abbrev wsX80 : List Cond := u_ws RX8 TX8 2
theorem nmX8 : ∀ a, a < 2 → ∀ b, b < 2 → a ≠ b → (TX8 a).2.1 ≠ (TX8 b).2.1 := by decide +kernel
theorem tyX8_ok : ∀ k, k < 2 → parseFieldDescriptor (TX8 k).2.2.1 = some (tyX8 k) := by decide +kernel
abbrev cX8_init : ByteArray := prog_10_method_1_code
def yX8_init : MethodName := ⟨RX8, "<init>", "()V"⟩
abbrev cX8_hasRoomFor : ByteArray := prog_10_method_2_code
def yX8_hasRoomFor : MethodName := ⟨RX8, "hasRoomFor", "(I)Z"⟩
abbrev cX8_putInt : ByteArray := prog_10_method_3_code
def yX8_putInt : MethodName := ⟨RX8, "putInt", "(I)V"⟩
abbrev cX8_byteAt : ByteArray := prog_10_method_4_code
def yX8_byteAt : MethodName := ⟨RX8, "byteAt", "(I)I"⟩
def RX9 : String := "CoughParts$Text"
def TX9 : u_T := fun k => match k with
  | 0 => ("CoughParts$Text", "minutes", "I", false)
  | 1 => ("CoughParts$Text", "families", "I", false)
  | 2 => ("CoughParts$Text", "dust", "I", false)
  | 3 => ("CoughParts$Text", "syrup", "I", false)
  | 4 => ("CoughParts$Text", "seed", "I", false)
  | 5 => ("CoughParts$Text", "codes", "I", false)
  | 6 => ("CoughParts$Text", "matters", "[I", true)
  | 7 => ("CoughParts$Text", "zeal", "[I", true)
  | 8 => ("CoughParts$Text", "love", "[I", true)
  | 9 => ("CoughParts$Text", "owners", "[I", true)
  | 10 => ("CoughParts$Text", "starts", "[I", true)
  | 11 => ("CoughParts$Text", "operations", "[I", true)
  | _ => ("CoughParts$Text", "numbers", "[I", true)
def tyX9 : Nat → FieldType := fun k => match k with
  | 0 => .int
  | 1 => .int
  | 2 => .int
  | 3 => .int
  | 4 => .int
  | 5 => .int
  | 6 => .array .int
  | 7 => .array .int
  | 8 => .array .int
  | 9 => .array .int
  | 10 => .array .int
  | 11 => .array .int
  | _ => .array .int
abbrev wsX90 : List Cond := u_ws RX9 TX9 13
theorem nmX9 : ∀ a, a < 13 → ∀ b, b < 13 → a ≠ b → (TX9 a).2.1 ≠ (TX9 b).2.1 := by decide +kernel
theorem tyX9_ok : ∀ k, k < 13 → parseFieldDescriptor (TX9 k).2.2.1 = some (tyX9 k) := by decide +kernel
abbrev cX9_init : ByteArray := prog_11_method_1_code
def yX9_init : MethodName := ⟨RX9, "<init>", "()V"⟩
abbrev cX9_empty : ByteArray := prog_11_method_2_code
def yX9_empty : MethodName := ⟨RX9, "empty", "()V"⟩
abbrev cX9_copyFrom : ByteArray := prog_11_method_3_code
def yX9_copyFrom : MethodName := ⟨RX9, "copyFrom", "(LCoughParts$Text;)V"⟩
abbrev cX9_startLaw : ByteArray := prog_11_method_4_code
def yX9_startLaw : MethodName := ⟨RX9, "startLaw", "(I)V"⟩
abbrev cX9_putCode : ByteArray := prog_11_method_5_code
def yX9_putCode : MethodName := ⟨RX9, "putCode", "(II)V"⟩
abbrev cX9_aimHere : ByteArray := prog_11_method_6_code
def yX9_aimHere : MethodName := ⟨RX9, "aimHere", "(I)V"⟩
abbrev cX9_putPlainLaw : ByteArray := prog_11_method_7_code
def yX9_putPlainLaw : MethodName := ⟨RX9, "putPlainLaw", "(III)V"⟩
def RX10 : String := "CoughParts$Witness"
def TX10 : u_T := fun k => match k with
  | 0 => ("CoughParts$Witness", "text", "LCoughParts$Text;", true)
  | 1 => ("CoughParts$Witness", "chances", "LCoughParts$Chances;", true)
  | 2 => ("CoughParts$Witness", "minutes", "[I", true)
  | 3 => ("CoughParts$Witness", "parts", "[I", true)
  | 4 => ("CoughParts$Witness", "so", "[Z", true)
  | 5 => ("CoughParts$Witness", "behind", "[I", true)
  | 6 => ("CoughParts$Witness", "size", "I", false)
  | 7 => ("CoughParts$Witness", "left", "I", false)
  | 8 => ("CoughParts$Witness", "least", "I", false)
  | 9 => ("CoughParts$Witness", "inAll", "I", false)
  | _ => ("CoughParts$Witness", "inNone", "I", false)
def tyX10 : Nat → FieldType := fun k => match k with
  | 0 => .object "CoughParts$Text"
  | 1 => .object "CoughParts$Chances"
  | 2 => .array .int
  | 3 => .array .int
  | 4 => .array .boolean
  | 5 => .array .int
  | 6 => .int
  | 7 => .int
  | 8 => .int
  | 9 => .int
  | _ => .int
abbrev wsX100 : List Cond := u_ws RX10 TX10 11
theorem nmX10 : ∀ a, a < 11 → ∀ b, b < 11 → a ≠ b → (TX10 a).2.1 ≠ (TX10 b).2.1 := by decide +kernel
theorem tyX10_ok : ∀ k, k < 11 → parseFieldDescriptor (TX10 k).2.2.1 = some (tyX10 k) := by decide +kernel
abbrev cX10_init : ByteArray := prog_12_method_1_code
def yX10_init : MethodName := ⟨RX10, "<init>", "(LCoughParts$Text;LCoughParts$Chances;)V"⟩
abbrev cX10_add : ByteArray := prog_12_method_2_code
def yX10_add : MethodName := ⟨RX10, "add", "(IIZ)I"⟩
abbrev cX10_sift : ByteArray := prog_12_method_3_code
def yX10_sift : MethodName := ⟨RX10, "sift", "(LCoughParts$State;I)V"⟩
abbrev cX10_agrees : ByteArray := prog_12_method_4_code
def yX10_agrees : MethodName := ⟨RX10, "agrees", "(II)Z"⟩
abbrev cX10_addSet : ByteArray := prog_12_method_5_code
def yX10_addSet : MethodName := ⟨RX10, "addSet", "(I)V"⟩
abbrev cX10_bestQuestion : ByteArray := prog_12_method_6_code
def yX10_bestQuestion : MethodName := ⟨RX10, "bestQuestion", "()I"⟩
def RX11 : String := "CoughParts"
def TX11 : u_T := fun k => match k with
  | 0 => ("CoughParts", "tape", "LCoughParts$Tape;", true)
  | 1 => ("CoughParts", "reader", "LCoughParts$Reader;", true)
  | 2 => ("CoughParts", "text", "LCoughParts$Text;", true)
  | 3 => ("CoughParts", "state", "LCoughParts$State;", true)
  | 4 => ("CoughParts", "trial", "LCoughParts$State;", true)
  | 5 => ("CoughParts", "past", "LCoughParts$Past;", true)
  | 6 => ("CoughParts", "laws", "LCoughParts$Laws;", true)
  | 7 => ("CoughParts", "chances", "LCoughParts$Chances;", true)
  | 8 => ("CoughParts", "preacher", "LCoughParts$Preacher;", true)
  | 9 => ("CoughParts", "coverage", "LCoughParts$Coverage;", true)
  | _ => ("CoughParts", "witness", "LCoughParts$Witness;", true)
def tyX11 : Nat → FieldType := fun k => match k with
  | 0 => .object "CoughParts$Tape"
  | 1 => .object "CoughParts$Reader"
  | 2 => .object "CoughParts$Text"
  | 3 => .object "CoughParts$State"
  | 4 => .object "CoughParts$State"
  | 5 => .object "CoughParts$Past"
  | 6 => .object "CoughParts$Laws"
  | 7 => .object "CoughParts$Chances"
  | 8 => .object "CoughParts$Preacher"
  | 9 => .object "CoughParts$Coverage"
  | _ => .object "CoughParts$Witness"
abbrev wsX110 : List Cond := u_ws RX11 TX11 11
theorem nmX11 : ∀ a, a < 11 → ∀ b, b < 11 → a ≠ b → (TX11 a).2.1 ≠ (TX11 b).2.1 := by decide +kernel
theorem tyX11_ok : ∀ k, k < 11 → parseFieldDescriptor (TX11 k).2.2.1 = some (tyX11 k) := by decide +kernel
abbrev cX11_init : ByteArray := prog_1_method_1_code
def yX11_init : MethodName := ⟨RX11, "<init>", "()V"⟩
abbrev cX11_feed : ByteArray := prog_1_method_2_code
def yX11_feed : MethodName := ⟨RX11, "feed", "(IIIII)I"⟩
abbrev cX11_back : ByteArray := prog_1_method_3_code
def yX11_back : MethodName := ⟨RX11, "back", "(I)I"⟩
abbrev cX11_read : ByteArray := prog_1_method_4_code
def yX11_read : MethodName := ⟨RX11, "read", "()I"⟩
abbrev cX11_place : ByteArray := prog_1_method_5_code
def yX11_place : MethodName := ⟨RX11, "place", "()I"⟩
abbrev cX11_minute : ByteArray := prog_1_method_6_code
def yX11_minute : MethodName := ⟨RX11, "minute", "(II)I"⟩
abbrev cX11_family : ByteArray := prog_1_method_7_code
def yX11_family : MethodName := ⟨RX11, "family", "(II)I"⟩
abbrev cX11_lease : ByteArray := prog_1_method_8_code
def yX11_lease : MethodName := ⟨RX11, "lease", "(I)I"⟩
abbrev cX11_worth : ByteArray := prog_1_method_9_code
def yX11_worth : MethodName := ⟨RX11, "worth", "(III)I"⟩
abbrev cX11_change : ByteArray := prog_1_method_10_code
def yX11_change : MethodName := ⟨RX11, "change", "(II)Z"⟩
abbrev cX11_let : ByteArray := prog_1_method_11_code
def yX11_let : MethodName := ⟨RX11, "let", "(II)Z"⟩
abbrev cX11_syrup : ByteArray := prog_1_method_12_code
def yX11_syrup : MethodName := ⟨RX11, "syrup", "(Z)Z"⟩
abbrev cX11_dust : ByteArray := prog_1_method_13_code
def yX11_dust : MethodName := ⟨RX11, "dust", "(Z)Z"⟩
abbrev cX11_weeks : ByteArray := prog_1_method_14_code
def yX11_weeks : MethodName := ⟨RX11, "weeks", "(I)I"⟩
abbrev cX11_undo : ByteArray := prog_1_method_15_code
def yX11_undo : MethodName := ⟨RX11, "undo", "()Z"⟩
abbrev cX11_odds : ByteArray := prog_1_method_16_code
def yX11_odds : MethodName := ⟨RX11, "odds", "(I)I"⟩
abbrev cX11_falls : ByteArray := prog_1_method_17_code
def yX11_falls : MethodName := ⟨RX11, "falls", "(II)I"⟩
abbrev cX11_value : ByteArray := prog_1_method_18_code
def yX11_value : MethodName := ⟨RX11, "value", "(II)I"⟩
abbrev cX11_have : ByteArray := prog_1_method_19_code
def yX11_have : MethodName := ⟨RX11, "have", "(I)I"⟩
abbrev cX11_mode : ByteArray := prog_1_method_20_code
def yX11_mode : MethodName := ⟨RX11, "mode", "(II)I"⟩
abbrev cX11_mean : ByteArray := prog_1_method_21_code
def yX11_mean : MethodName := ⟨RX11, "mean", "()I"⟩
abbrev cX11_both : ByteArray := prog_1_method_22_code
def yX11_both : MethodName := ⟨RX11, "both", "(II)I"⟩
abbrev cX11_with : ByteArray := prog_1_method_23_code
def yX11_with : MethodName := ⟨RX11, "with", "(II)I"⟩
abbrev cX11_buy : ByteArray := prog_1_method_24_code
def yX11_buy : MethodName := ⟨RX11, "buy", "(II)I"⟩
abbrev cX11_swap : ByteArray := prog_1_method_25_code
def yX11_swap : MethodName := ⟨RX11, "swap", "(II)I"⟩
abbrev cX11_sure : ByteArray := prog_1_method_26_code
def yX11_sure : MethodName := ⟨RX11, "sure", "(II)I"⟩
abbrev cX11_cover : ByteArray := prog_1_method_27_code
def yX11_cover : MethodName := ⟨RX11, "cover", "(II)I"⟩
abbrev cX11_pepper : ByteArray := prog_1_method_28_code
def yX11_pepper : MethodName := ⟨RX11, "pepper", "(I)I"⟩
abbrev cX11_soothes : ByteArray := prog_1_method_29_code
def yX11_soothes : MethodName := ⟨RX11, "soothes", "(I)I"⟩
abbrev cX11_game : ByteArray := prog_1_method_30_code
def yX11_game : MethodName := ⟨RX11, "game", "(III)I"⟩
abbrev cX11_cure : ByteArray := prog_1_method_31_code
def yX11_cure : MethodName := ⟨RX11, "cure", "()I"⟩
abbrev cX11_richest : ByteArray := prog_1_method_32_code
def yX11_richest : MethodName := ⟨RX11, "richest", "(I)I"⟩
abbrev cX11_likely : ByteArray := prog_1_method_33_code
def yX11_likely : MethodName := ⟨RX11, "likely", "(I)I"⟩
abbrev cX11_gains : ByteArray := prog_1_method_34_code
def yX11_gains : MethodName := ⟨RX11, "gains", "(II)I"⟩
abbrev cX11_partsIn : ByteArray := prog_1_method_35_code
def yX11_partsIn : MethodName := ⟨RX11, "partsIn", "(I)I"⟩
abbrev cX11_year : ByteArray := prog_1_method_36_code
def yX11_year : MethodName := ⟨RX11, "year", "(III)I"⟩
abbrev cX11_tell : ByteArray := prog_1_method_37_code
def yX11_tell : MethodName := ⟨RX11, "tell", "(IIZ)I"⟩
abbrev cX11_forget : ByteArray := prog_1_method_38_code
def yX11_forget : MethodName := ⟨RX11, "forget", "()I"⟩
abbrev cX11_when : ByteArray := prog_1_method_39_code
def yX11_when : MethodName := ⟨RX11, "when", "(II)I"⟩
abbrev cX11_ask : ByteArray := prog_1_method_40_code
def yX11_ask : MethodName := ⟨RX11, "ask", "(I)I"⟩
abbrev cX11_hold : ByteArray := prog_1_method_41_code
def yX11_hold : MethodName := ⟨RX11, "hold", "(I)Z"⟩
abbrev cX11_restore : ByteArray := prog_1_method_42_code
def yX11_restore : MethodName := ⟨RX11, "restore", "(I)Z"⟩
abbrev cX11_count : ByteArray := prog_1_method_43_code
def yX11_count : MethodName := ⟨RX11, "count", "(I)I"⟩
abbrev cX11_within : ByteArray := prog_1_method_44_code
def yX11_within : MethodName := ⟨RX11, "within", "(III)Z"⟩
abbrev cX11_isPart : ByteArray := prog_1_method_45_code
def yX11_isPart : MethodName := ⟨RX11, "isPart", "(I)Z"⟩
abbrev cX11_isMatter : ByteArray := prog_1_method_46_code
def yX11_isMatter : MethodName := ⟨RX11, "isMatter", "(I)Z"⟩
abbrev cX11_isMinute : ByteArray := prog_1_method_47_code
def yX11_isMinute : MethodName := ⟨RX11, "isMinute", "(I)Z"⟩
abbrev cX11_isFamily : ByteArray := prog_1_method_48_code
def yX11_isFamily : MethodName := ⟨RX11, "isFamily", "(I)Z"⟩
abbrev cX11_give : ByteArray := prog_1_method_49_code
def yX11_give : MethodName := ⟨RX11, "give", "(IZ)Z"⟩
abbrev cX11_haveIn : ByteArray := prog_1_method_50_code
def yX11_haveIn : MethodName := ⟨RX11, "haveIn", "(LCoughParts$State;I)I"⟩
abbrev cX11_haveAfterChange : ByteArray := prog_1_method_51_code
def yX11_haveAfterChange : MethodName := ⟨RX11, "haveAfterChange", "(III)I"⟩
abbrev cX11_haveAfter : ByteArray := prog_1_method_52_code
def yX11_haveAfter : MethodName := ⟨RX11, "haveAfter", "(III)I"⟩
abbrev cX11_gainByOneMore : ByteArray := prog_1_method_53_code
def yX11_gainByOneMore : MethodName := ⟨RX11, "gainByOneMore", "(II)I"⟩
abbrev cX11_choicesOf : ByteArray := prog_1_method_54_code
def yX11_choicesOf : MethodName := ⟨RX11, "choicesOf", "(I)I"⟩
abbrev cX11_answerTo : ByteArray := prog_1_method_55_code
def yX11_answerTo : MethodName := ⟨RX11, "answerTo", "(II)I"⟩
abbrev cX11_tryWeeks : ByteArray := prog_1_method_56_code
def yX11_tryWeeks : MethodName := ⟨RX11, "tryWeeks", "(II)V"⟩
abbrev cX11_mattersThereAre : ByteArray := prog_1_method_57_code
def yX11_mattersThereAre : MethodName := ⟨RX11, "mattersThereAre", "()I"⟩
abbrev cX11_sureCoughs : ByteArray := prog_1_method_58_code
def yX11_sureCoughs : MethodName := ⟨RX11, "sureCoughs", "()I"⟩
abbrev cX11_allQuarters : ByteArray := prog_1_method_59_code
def yX11_allQuarters : MethodName := ⟨RX11, "allQuarters", "()I"⟩
abbrev cX11_familiesWithoutLease : ByteArray := prog_1_method_60_code
def yX11_familiesWithoutLease : MethodName := ⟨RX11, "familiesWithoutLease", "()I"⟩
abbrev cX11_allZeal : ByteArray := prog_1_method_61_code
def yX11_allZeal : MethodName := ⟨RX11, "allZeal", "()I"⟩
def RX12 : String := "CoughPartsModel"
def TX12 : u_T := fun k => match k with
  | 0 => ("CoughPartsModel", "thrown", "I", false)
  | 1 => ("CoughPartsModel", "tape", "[B", true)
  | 2 => ("CoughPartsModel", "taped", "I", false)
  | 3 => ("CoughPartsModel", "text", "[B", true)
  | 4 => ("CoughPartsModel", "size", "I", false)
  | 5 => ("CoughPartsModel", "tKind", "[I", true)
  | 6 => ("CoughPartsModel", "tPlace", "[I", true)
  | 7 => ("CoughPartsModel", "tValue", "[I", true)
  | 8 => ("CoughPartsModel", "tName", "[J", true)
  | 9 => ("CoughPartsModel", "keys", "[J", true)
  | 10 => ("CoughPartsModel", "tokens", "I", false)
  | 11 => ("CoughPartsModel", "t", "I", false)
  | 12 => ("CoughPartsModel", "open", "I", false)
  | 13 => ("CoughPartsModel", "fault", "I", false)
  | 14 => ("CoughPartsModel", "faultPlace", "I", false)
  | 15 => ("CoughPartsModel", "worst", "I", false)
  | 16 => ("CoughPartsModel", "worstPlace", "I", false)
  | 17 => ("CoughPartsModel", "place", "I", false)
  | 18 => ("CoughPartsModel", "live", "I", false)
  | 19 => ("CoughPartsModel", "side", "I", false)
  | 20 => ("CoughPartsModel", "minutes", "[I", true)
  | 21 => ("CoughPartsModel", "matterTold", "[I", true)
  | 22 => ("CoughPartsModel", "nameOf", "[J", true)
  | 23 => ("CoughPartsModel", "families", "[I", true)
  | 24 => ("CoughPartsModel", "zealOf", "[I", true)
  | 25 => ("CoughPartsModel", "loveOf", "[I", true)
  | 26 => ("CoughPartsModel", "leaseTold", "[I", true)
  | 27 => ("CoughPartsModel", "leases", "[I", true)
  | 28 => ("CoughPartsModel", "dustTold", "[I", true)
  | 29 => ("CoughPartsModel", "syrupTold", "[I", true)
  | 30 => ("CoughPartsModel", "seed", "[I", true)
  | 31 => ("CoughPartsModel", "lawFirst", "[I", true)
  | 32 => ("CoughPartsModel", "lawLast", "[I", true)
  | 33 => ("CoughPartsModel", "branches", "I", false)
  | 34 => ("CoughPartsModel", "hasTest", "[Z", true)
  | 35 => ("CoughPartsModel", "testFrom", "[I", true)
  | 36 => ("CoughPartsModel", "testMid", "[I", true)
  | 37 => ("CoughPartsModel", "testTo", "[I", true)
  | 38 => ("CoughPartsModel", "termTo", "[I", true)
  | 39 => ("CoughPartsModel", "codes", "I", false)
  | 40 => ("CoughPartsModel", "code", "[I", true)
  | 41 => ("CoughPartsModel", "codeInt", "[I", true)
  | 42 => ("CoughPartsModel", "waits", "[I", true)
  | 43 => ("CoughPartsModel", "waiting", "I", false)
  | 44 => ("CoughPartsModel", "variables", "[I", true)
  | 45 => ("CoughPartsModel", "pile", "[I", true)
  | 46 => ("CoughPartsModel", "isBroken", "Z", false)
  | 47 => ("CoughPartsModel", "now", "[I", true)
  | 48 => ("CoughPartsModel", "row", "[I", true)
  | 49 => ("CoughPartsModel", "lots", "I", false)
  | 50 => ("CoughPartsModel", "undos", "I", false)
  | 51 => ("CoughPartsModel", "history", "[I", true)
  | 52 => ("CoughPartsModel", "chance", "[I", true)
  | 53 => ("CoughPartsModel", "fallsBy", "[I", true)
  | 54 => ("CoughPartsModel", "withBy", "[I", true)
  | 55 => ("CoughPartsModel", "withThen", "[I", true)
  | 56 => ("CoughPartsModel", "hitOf", "[I", true)
  | 57 => ("CoughPartsModel", "tolds", "I", false)
  | 58 => ("CoughPartsModel", "toldMinute", "[I", true)
  | 59 => ("CoughPartsModel", "toldPart", "[I", true)
  | 60 => ("CoughPartsModel", "toldSo", "[Z", true)
  | 61 => ("CoughPartsModel", "coughedIn", "[I", true)
  | 62 => ("CoughPartsModel", "isHeld", "[Z", true)
  | _ => ("CoughPartsModel", "heldRows", "[I", true)
def tyX12 : Nat → FieldType := fun k => match k with
  | 0 => .int
  | 1 => .array .byte
  | 2 => .int
  | 3 => .array .byte
  | 4 => .int
  | 5 => .array .int
  | 6 => .array .int
  | 7 => .array .int
  | 8 => .array .long
  | 9 => .array .long
  | 10 => .int
  | 11 => .int
  | 12 => .int
  | 13 => .int
  | 14 => .int
  | 15 => .int
  | 16 => .int
  | 17 => .int
  | 18 => .int
  | 19 => .int
  | 20 => .array .int
  | 21 => .array .int
  | 22 => .array .long
  | 23 => .array .int
  | 24 => .array .int
  | 25 => .array .int
  | 26 => .array .int
  | 27 => .array .int
  | 28 => .array .int
  | 29 => .array .int
  | 30 => .array .int
  | 31 => .array .int
  | 32 => .array .int
  | 33 => .int
  | 34 => .array .boolean
  | 35 => .array .int
  | 36 => .array .int
  | 37 => .array .int
  | 38 => .array .int
  | 39 => .int
  | 40 => .array .int
  | 41 => .array .int
  | 42 => .array .int
  | 43 => .int
  | 44 => .array .int
  | 45 => .array .int
  | 46 => .boolean
  | 47 => .array .int
  | 48 => .array .int
  | 49 => .int
  | 50 => .int
  | 51 => .array .int
  | 52 => .array .int
  | 53 => .array .int
  | 54 => .array .int
  | 55 => .array .int
  | 56 => .array .int
  | 57 => .int
  | 58 => .array .int
  | 59 => .array .int
  | 60 => .array .boolean
  | 61 => .array .int
  | 62 => .array .boolean
  | _ => .array .int
abbrev wsX120 : List Cond := u_ws RX12 TX12 64
theorem nmX12 : ∀ a, a < 64 → ∀ b, b < 64 → a ≠ b → (TX12 a).2.1 ≠ (TX12 b).2.1 := by decide +kernel
theorem tyX12_ok : ∀ k, k < 64 → parseFieldDescriptor (TX12 k).2.2.1 = some (tyX12 k) := by decide +kernel
abbrev cX12_init : ByteArray := prog_14_method_2_code
def yX12_init : MethodName := ⟨RX12, "<init>", "()V"⟩
abbrev cX12_feed : ByteArray := prog_14_method_3_code
def yX12_feed : MethodName := ⟨RX12, "feed", "(IIIII)I"⟩
abbrev cX12_put : ByteArray := prog_14_method_4_code
def yX12_put : MethodName := ⟨RX12, "put", "(I)V"⟩
abbrev cX12_back : ByteArray := prog_14_method_5_code
def yX12_back : MethodName := ⟨RX12, "back", "(I)I"⟩
abbrev cX12_byteAt : ByteArray := prog_14_method_6_code
def yX12_byteAt : MethodName := ⟨RX12, "byteAt", "(I)I"⟩
abbrev cX12_isDigit : ByteArray := prog_14_method_7_code
def yX12_isDigit : MethodName := ⟨RX12, "isDigit", "(I)Z"⟩
abbrev cX12_isLetter : ByteArray := prog_14_method_8_code
def yX12_isLetter : MethodName := ⟨RX12, "isLetter", "(I)Z"⟩
abbrev cX12_appends : ByteArray := prog_14_method_9_code
def yX12_appends : MethodName := ⟨RX12, "appends", "(JI)J"⟩
abbrev cX12_word : ByteArray := prog_14_method_10_code
def yX12_word : MethodName := ⟨RX12, "word", "(IIIIIII)J"⟩
abbrev cX12_token : ByteArray := prog_14_method_11_code
def yX12_token : MethodName := ⟨RX12, "token", "(IIIJ)V"⟩
abbrev cX12_cut : ByteArray := prog_14_method_12_code
def yX12_cut : MethodName := ⟨RX12, "cut", "()V"⟩
abbrev cX12_sign : ByteArray := prog_14_method_13_code
def yX12_sign : MethodName := ⟨RX12, "sign", "(III)I"⟩
abbrev cX12_is : ByteArray := prog_14_method_14_code
def yX12_is : MethodName := ⟨RX12, "is", "(I)Z"⟩
abbrev cX12_fail : ByteArray := prog_14_method_15_code
def yX12_fail : MethodName := ⟨RX12, "fail", "(I)V"⟩
abbrev cX12_wrong : ByteArray := prog_14_method_16_code
def yX12_wrong : MethodName := ⟨RX12, "wrong", "(II)V"⟩
abbrev cX12_goesOn : ByteArray := prog_14_method_17_code
def yX12_goesOn : MethodName := ⟨RX12, "goesOn", "()V"⟩
abbrev cX12_must : ByteArray := prog_14_method_18_code
def yX12_must : MethodName := ⟨RX12, "must", "(I)V"⟩
abbrev cX12_plain : ByteArray := prog_14_method_19_code
def yX12_plain : MethodName := ⟨RX12, "plain", "(I)V"⟩
abbrev cX12_read : ByteArray := prog_14_method_20_code
def yX12_read : MethodName := ⟨RX12, "read", "()I"⟩
abbrev cX12_place : ByteArray := prog_14_method_21_code
def yX12_place : MethodName := ⟨RX12, "place", "()I"⟩
abbrev cX12_roomFor : ByteArray := prog_14_method_22_code
def yX12_roomFor : MethodName := ⟨RX12, "roomFor", "(II)V"⟩
abbrev cX12_toldInt : ByteArray := prog_14_method_23_code
def yX12_toldInt : MethodName := ⟨RX12, "toldInt", "(I)I"⟩
abbrev cX12_tellOne : ByteArray := prog_14_method_24_code
def yX12_tellOne : MethodName := ⟨RX12, "tellOne", "()V"⟩
abbrev cX12_numberOf : ByteArray := prog_14_method_25_code
def yX12_numberOf : MethodName := ⟨RX12, "numberOf", "(I)I"⟩
abbrev cX12_bounded : ByteArray := prog_14_method_26_code
def yX12_bounded : MethodName := ⟨RX12, "bounded", "(II)I"⟩
abbrev cX12_tellFamily : ByteArray := prog_14_method_27_code
def yX12_tellFamily : MethodName := ⟨RX12, "tellFamily", "()V"⟩
abbrev cX12_tellLease : ByteArray := prog_14_method_28_code
def yX12_tellLease : MethodName := ⟨RX12, "tellLease", "()V"⟩
abbrev cX12_tellLaw : ByteArray := prog_14_method_29_code
def yX12_tellLaw : MethodName := ⟨RX12, "tellLaw", "(I)V"⟩
abbrev cX12_term : ByteArray := prog_14_method_30_code
def yX12_term : MethodName := ⟨RX12, "term", "()V"⟩
abbrev cX12_emit : ByteArray := prog_14_method_31_code
def yX12_emit : MethodName := ⟨RX12, "emit", "(II)V"⟩
abbrev cX12_comesOut : ByteArray := prog_14_method_32_code
def yX12_comesOut : MethodName := ⟨RX12, "comesOut", "(Z)V"⟩
abbrev cX12_expression : ByteArray := prog_14_method_33_code
def yX12_expression : MethodName := ⟨RX12, "expression", "()V"⟩
abbrev cX12_unit : ByteArray := prog_14_method_34_code
def yX12_unit : MethodName := ⟨RX12, "unit", "()V"⟩
abbrev cX12_termOf : ByteArray := prog_14_method_35_code
def yX12_termOf : MethodName := ⟨RX12, "termOf", "(II)I"⟩
abbrev cX12_in : ByteArray := prog_14_method_36_code
def yX12_in : MethodName := ⟨RX12, "in", "(III)Z"⟩
abbrev cX12_within : ByteArray := prog_14_method_37_code
def yX12_within : MethodName := ⟨RX12, "within", "(III)I"⟩
abbrev cX12_bits : ByteArray := prog_14_method_38_code
def yX12_bits : MethodName := ⟨RX12, "bits", "(I)I"⟩
abbrev cX12_many : ByteArray := prog_14_method_39_code
def yX12_many : MethodName := ⟨RX12, "many", "()I"⟩
abbrev cX12_isMinute : ByteArray := prog_14_method_40_code
def yX12_isMinute : MethodName := ⟨RX12, "isMinute", "(I)Z"⟩
abbrev cX12_isFamily : ByteArray := prog_14_method_41_code
def yX12_isFamily : MethodName := ⟨RX12, "isFamily", "(I)Z"⟩
abbrev cX12_isPart : ByteArray := prog_14_method_42_code
def yX12_isPart : MethodName := ⟨RX12, "isPart", "(I)Z"⟩
abbrev cX12_begins : ByteArray := prog_14_method_43_code
def yX12_begins : MethodName := ⟨RX12, "begins", "()V"⟩
abbrev cX12_keepsRow : ByteArray := prog_14_method_44_code
def yX12_keepsRow : MethodName := ⟨RX12, "keepsRow", "()V"⟩
abbrev cX12_copies : ByteArray := prog_14_method_45_code
def yX12_copies : MethodName := ⟨RX12, "copies", "()V"⟩
abbrev cX12_mixed : ByteArray := prog_14_method_46_code
def yX12_mixed : MethodName := ⟨RX12, "mixed", "(II)I"⟩
abbrev cX12_lotOf : ByteArray := prog_14_method_47_code
def yX12_lotOf : MethodName := ⟨RX12, "lotOf", "(I)I"⟩
abbrev cX12_lawTells : ByteArray := prog_14_method_48_code
def yX12_lawTells : MethodName := ⟨RX12, "lawTells", "(II)I"⟩
abbrev cX12_looks : ByteArray := prog_14_method_49_code
def yX12_looks : MethodName := ⟨RX12, "looks", "()V"⟩
abbrev cX12_coughsOf : ByteArray := prog_14_method_50_code
def yX12_coughsOf : MethodName := ⟨RX12, "coughsOf", "(I)I"⟩
abbrev cX12_looksAt : ByteArray := prog_14_method_51_code
def yX12_looksAt : MethodName := ⟨RX12, "looksAt", "(II)V"⟩
abbrev cX12_worthOf : ByteArray := prog_14_method_52_code
def yX12_worthOf : MethodName := ⟨RX12, "worthOf", "(III)I"⟩
abbrev cX12_partBits : ByteArray := prog_14_method_53_code
def yX12_partBits : MethodName := ⟨RX12, "partBits", "(I)I"⟩
abbrev cX12_rentsOf : ByteArray := prog_14_method_54_code
def yX12_rentsOf : MethodName := ⟨RX12, "rentsOf", "(I)I"⟩
abbrev cX12_curesOf : ByteArray := prog_14_method_55_code
def yX12_curesOf : MethodName := ⟨RX12, "curesOf", "(I)I"⟩
abbrev cX12_partBy : ByteArray := prog_14_method_56_code
def yX12_partBy : MethodName := ⟨RX12, "partBy", "(II)I"⟩
abbrev cX12_partsBy : ByteArray := prog_14_method_57_code
def yX12_partsBy : MethodName := ⟨RX12, "partsBy", "(I)I"⟩
abbrev cX12_coughsNow : ByteArray := prog_14_method_58_code
def yX12_coughsNow : MethodName := ⟨RX12, "coughsNow", "()I"⟩
abbrev cX12_weekGoes : ByteArray := prog_14_method_59_code
def yX12_weekGoes : MethodName := ⟨RX12, "weekGoes", "()V"⟩
abbrev cX12_goes : ByteArray := prog_14_method_60_code
def yX12_goes : MethodName := ⟨RX12, "goes", "(I)V"⟩
abbrev cX12_minute : ByteArray := prog_14_method_61_code
def yX12_minute : MethodName := ⟨RX12, "minute", "(II)I"⟩
abbrev cX12_family : ByteArray := prog_14_method_62_code
def yX12_family : MethodName := ⟨RX12, "family", "(II)I"⟩
abbrev cX12_lease : ByteArray := prog_14_method_63_code
def yX12_lease : MethodName := ⟨RX12, "lease", "(I)I"⟩
abbrev cX12_worth : ByteArray := prog_14_method_64_code
def yX12_worth : MethodName := ⟨RX12, "worth", "(III)I"⟩
abbrev cX12_records : ByteArray := prog_14_method_65_code
def yX12_records : MethodName := ⟨RX12, "records", "()V"⟩
abbrev cX12_does : ByteArray := prog_14_method_66_code
def yX12_does : MethodName := ⟨RX12, "does", "(II)V"⟩
abbrev cX12_changesFor : ByteArray := prog_14_method_67_code
def yX12_changesFor : MethodName := ⟨RX12, "changesFor", "(II)V"⟩
abbrev cX12_change : ByteArray := prog_14_method_68_code
def yX12_change : MethodName := ⟨RX12, "change", "(II)Z"⟩
abbrev cX12_let : ByteArray := prog_14_method_69_code
def yX12_let : MethodName := ⟨RX12, "let", "(II)Z"⟩
abbrev cX12_given : ByteArray := prog_14_method_70_code
def yX12_given : MethodName := ⟨RX12, "given", "(IZ)Z"⟩
abbrev cX12_syrup : ByteArray := prog_14_method_71_code
def yX12_syrup : MethodName := ⟨RX12, "syrup", "(Z)Z"⟩
abbrev cX12_dust : ByteArray := prog_14_method_72_code
def yX12_dust : MethodName := ⟨RX12, "dust", "(Z)Z"⟩
abbrev cX12_isLong : ByteArray := prog_14_method_73_code
def yX12_isLong : MethodName := ⟨RX12, "isLong", "(I)Z"⟩
abbrev cX12_weeks : ByteArray := prog_14_method_74_code
def yX12_weeks : MethodName := ⟨RX12, "weeks", "(I)I"⟩
abbrev cX12_undo : ByteArray := prog_14_method_75_code
def yX12_undo : MethodName := ⟨RX12, "undo", "()Z"⟩
abbrev cX12_power : ByteArray := prog_14_method_76_code
def yX12_power : MethodName := ⟨RX12, "power", "(I)I"⟩
abbrev cX12_fillsFalls : ByteArray := prog_14_method_77_code
def yX12_fillsFalls : MethodName := ⟨RX12, "fillsFalls", "()V"⟩
abbrev cX12_copiesFalls : ByteArray := prog_14_method_78_code
def yX12_copiesFalls : MethodName := ⟨RX12, "copiesFalls", "()V"⟩
abbrev cX12_oddsOf : ByteArray := prog_14_method_79_code
def yX12_oddsOf : MethodName := ⟨RX12, "oddsOf", "(I)I"⟩
abbrev cX12_odds : ByteArray := prog_14_method_80_code
def yX12_odds : MethodName := ⟨RX12, "odds", "(I)I"⟩
abbrev cX12_falls : ByteArray := prog_14_method_81_code
def yX12_falls : MethodName := ⟨RX12, "falls", "(II)I"⟩
abbrev cX12_valueOf : ByteArray := prog_14_method_82_code
def yX12_valueOf : MethodName := ⟨RX12, "valueOf", "(II)I"⟩
abbrev cX12_value : ByteArray := prog_14_method_83_code
def yX12_value : MethodName := ⟨RX12, "value", "(II)I"⟩
abbrev cX12_haveOf : ByteArray := prog_14_method_84_code
def yX12_haveOf : MethodName := ⟨RX12, "haveOf", "(I)I"⟩
abbrev cX12_have : ByteArray := prog_14_method_85_code
def yX12_have : MethodName := ⟨RX12, "have", "(I)I"⟩
abbrev cX12_mode : ByteArray := prog_14_method_86_code
def yX12_mode : MethodName := ⟨RX12, "mode", "(II)I"⟩
abbrev cX12_mean : ByteArray := prog_14_method_87_code
def yX12_mean : MethodName := ⟨RX12, "mean", "()I"⟩
abbrev cX12_both : ByteArray := prog_14_method_88_code
def yX12_both : MethodName := ⟨RX12, "both", "(II)I"⟩
abbrev cX12_goesWith : ByteArray := prog_14_method_89_code
def yX12_goesWith : MethodName := ⟨RX12, "goesWith", "(II)V"⟩
abbrev cX12_with : ByteArray := prog_14_method_90_code
def yX12_with : MethodName := ⟨RX12, "with", "(II)I"⟩
abbrev cX12_buy : ByteArray := prog_14_method_91_code
def yX12_buy : MethodName := ⟨RX12, "buy", "(II)I"⟩
abbrev cX12_swap : ByteArray := prog_14_method_92_code
def yX12_swap : MethodName := ⟨RX12, "swap", "(II)I"⟩
abbrev cX12_moreBy : ByteArray := prog_14_method_93_code
def yX12_moreBy : MethodName := ⟨RX12, "moreBy", "(II)I"⟩
abbrev cX12_pepper : ByteArray := prog_14_method_94_code
def yX12_pepper : MethodName := ⟨RX12, "pepper", "(I)I"⟩
abbrev cX12_soothes : ByteArray := prog_14_method_95_code
def yX12_soothes : MethodName := ⟨RX12, "soothes", "(I)I"⟩
abbrev cX12_copiesGame : ByteArray := prog_14_method_96_code
def yX12_copiesGame : MethodName := ⟨RX12, "copiesGame", "(II)V"⟩
abbrev cX12_sweetFor : ByteArray := prog_14_method_97_code
def yX12_sweetFor : MethodName := ⟨RX12, "sweetFor", "(II)I"⟩
abbrev cX12_game : ByteArray := prog_14_method_98_code
def yX12_game : MethodName := ⟨RX12, "game", "(III)I"⟩
abbrev cX12_cure : ByteArray := prog_14_method_99_code
def yX12_cure : MethodName := ⟨RX12, "cure", "()I"⟩
abbrev cX12_richest : ByteArray := prog_14_method_100_code
def yX12_richest : MethodName := ⟨RX12, "richest", "(I)I"⟩
abbrev cX12_likely : ByteArray := prog_14_method_101_code
def yX12_likely : MethodName := ⟨RX12, "likely", "(I)I"⟩
abbrev cX12_canBe : ByteArray := prog_14_method_102_code
def yX12_canBe : MethodName := ⟨RX12, "canBe", "(I)Z"⟩
abbrev cX12_partsOn : ByteArray := prog_14_method_103_code
def yX12_partsOn : MethodName := ⟨RX12, "partsOn", "(II)I"⟩
abbrev cX12_fillsHits : ByteArray := prog_14_method_104_code
def yX12_fillsHits : MethodName := ⟨RX12, "fillsHits", "(I)V"⟩
abbrev cX12_isIn : ByteArray := prog_14_method_105_code
def yX12_isIn : MethodName := ⟨RX12, "isIn", "(I)Z"⟩
abbrev cX12_isMatter : ByteArray := prog_14_method_106_code
def yX12_isMatter : MethodName := ⟨RX12, "isMatter", "(I)Z"⟩
abbrev cX12_sure : ByteArray := prog_14_method_107_code
def yX12_sure : MethodName := ⟨RX12, "sure", "(II)I"⟩
abbrev cX12_cover : ByteArray := prog_14_method_108_code
def yX12_cover : MethodName := ⟨RX12, "cover", "(II)I"⟩
abbrev cX12_gains : ByteArray := prog_14_method_109_code
def yX12_gains : MethodName := ⟨RX12, "gains", "(II)I"⟩
abbrev cX12_partsIn : ByteArray := prog_14_method_110_code
def yX12_partsIn : MethodName := ⟨RX12, "partsIn", "(I)I"⟩
abbrev cX12_year : ByteArray := prog_14_method_111_code
def yX12_year : MethodName := ⟨RX12, "year", "(III)I"⟩
abbrev cX12_tell : ByteArray := prog_14_method_112_code
def yX12_tell : MethodName := ⟨RX12, "tell", "(IIZ)I"⟩
abbrev cX12_forget : ByteArray := prog_14_method_113_code
def yX12_forget : MethodName := ⟨RX12, "forget", "()I"⟩
abbrev cX12_isSo : ByteArray := prog_14_method_114_code
def yX12_isSo : MethodName := ⟨RX12, "isSo", "(II)Z"⟩
abbrev cX12_when : ByteArray := prog_14_method_115_code
def yX12_when : MethodName := ⟨RX12, "when", "(II)I"⟩
abbrev cX12_ask : ByteArray := prog_14_method_116_code
def yX12_ask : MethodName := ⟨RX12, "ask", "(I)I"⟩
abbrev cX12_hold : ByteArray := prog_14_method_117_code
def yX12_hold : MethodName := ⟨RX12, "hold", "(I)Z"⟩
abbrev cX12_restore : ByteArray := prog_14_method_118_code
def yX12_restore : MethodName := ⟨RX12, "restore", "(I)Z"⟩
abbrev cX12_sumNow : ByteArray := prog_14_method_119_code
def yX12_sumNow : MethodName := ⟨RX12, "sumNow", "(II)I"⟩
abbrev cX12_count : ByteArray := prog_14_method_120_code
def yX12_count : MethodName := ⟨RX12, "count", "(I)I"⟩
def RJx145de : String := "java/io/Serializable"
def TJx145de : u_T := fun k => match k with
  | _ => ("", "", "", false)
def tyJx145de : Nat → FieldType := fun k => match k with
  | _ => .int
abbrev wsJx145de0 : List Cond := u_ws RJx145de TJx145de 0
theorem nmJx145de : ∀ a, a < 0 → ∀ b, b < 0 → a ≠ b → (TJx145de a).2.1 ≠ (TJx145de b).2.1 := by decide +kernel
theorem tyJx145de_ok : ∀ k, k < 0 → parseFieldDescriptor (TJx145de k).2.2.1 = some (tyJx145de k) := by decide +kernel
def RJx9f9b0 : String := "java/lang/CharSequence"
def TJx9f9b0 : u_T := fun k => match k with
  | _ => ("", "", "", false)
def tyJx9f9b0 : Nat → FieldType := fun k => match k with
  | _ => .int
abbrev wsJx9f9b00 : List Cond := u_ws RJx9f9b0 TJx9f9b0 0
theorem nmJx9f9b0 : ∀ a, a < 0 → ∀ b, b < 0 → a ≠ b → (TJx9f9b0 a).2.1 ≠ (TJx9f9b0 b).2.1 := by decide +kernel
theorem tyJx9f9b0_ok : ∀ k, k < 0 → parseFieldDescriptor (TJx9f9b0 k).2.2.1 = some (tyJx9f9b0 k) := by decide +kernel
def RJ11 : String := "java/lang/Character"
def TJ11 : u_T := fun k => match k with
  | _ => ("", "", "", false)
def tyJ11 : Nat → FieldType := fun k => match k with
  | _ => .int
abbrev wsJ110 : List Cond := u_ws RJ11 TJ11 0
theorem nmJ11 : ∀ a, a < 0 → ∀ b, b < 0 → a ≠ b → (TJ11 a).2.1 ≠ (TJ11 b).2.1 := by decide +kernel
theorem tyJ11_ok : ∀ k, k < 0 → parseFieldDescriptor (TJ11 k).2.2.1 = some (tyJ11 k) := by decide +kernel
abbrev cJ11_isValidCodePoint_9a6ad : ByteArray := prog_15_method_11_code
def yJ11_isValidCodePoint_9a6ad : MethodName := ⟨RJ11, "isValidCodePoint", "(I)Z"⟩
abbrev cJ11_highSurrogate_5068e : ByteArray := prog_15_method_28_code
def yJ11_highSurrogate_5068e : MethodName := ⟨RJ11, "highSurrogate", "(I)C"⟩
abbrev cJ11_lowSurrogate_5068e : ByteArray := prog_15_method_29_code
def yJ11_lowSurrogate_5068e : MethodName := ⟨RJ11, "lowSurrogate", "(I)C"⟩
def RJxb160c : String := "java/lang/Comparable"
def TJxb160c : u_T := fun k => match k with
  | _ => ("", "", "", false)
def tyJxb160c : Nat → FieldType := fun k => match k with
  | _ => .int
abbrev wsJxb160c0 : List Cond := u_ws RJxb160c TJxb160c 0
theorem nmJxb160c : ∀ a, a < 0 → ∀ b, b < 0 → a ≠ b → (TJxb160c a).2.1 ≠ (TJxb160c b).2.1 := by decide +kernel
theorem tyJxb160c_ok : ∀ k, k < 0 → parseFieldDescriptor (TJxb160c k).2.2.1 = some (tyJxb160c k) := by decide +kernel
def RJ6 : String := "java/lang/Integer"
def TJ6 : u_T := fun k => match k with
  | _ => ("", "", "", false)
def tyJ6 : Nat → FieldType := fun k => match k with
  | _ => .int
abbrev wsJ60 : List Cond := u_ws RJ6 TJ6 0
theorem nmJ6 : ∀ a, a < 0 → ∀ b, b < 0 → a ≠ b → (TJ6 a).2.1 ≠ (TJ6 b).2.1 := by decide +kernel
theorem tyJ6_ok : ∀ k, k < 0 → parseFieldDescriptor (TJ6 k).2.2.1 = some (tyJ6 k) := by decide +kernel
abbrev cJ6_bitCount_0f7a4 : ByteArray := prog_16_method_49_code
def yJ6_bitCount_0f7a4 : MethodName := ⟨RJ6, "bitCount", "(I)I"⟩
def RJ9 : String := "java/lang/Math"
def TJ9 : u_T := fun k => match k with
  | _ => ("", "", "", false)
def tyJ9 : Nat → FieldType := fun k => match k with
  | _ => .int
abbrev wsJ90 : List Cond := u_ws RJ9 TJ9 0
theorem nmJ9 : ∀ a, a < 0 → ∀ b, b < 0 → a ≠ b → (TJ9 a).2.1 ≠ (TJ9 b).2.1 := by decide +kernel
theorem tyJ9_ok : ∀ k, k < 0 → parseFieldDescriptor (TJ9 k).2.2.1 = some (tyJ9 k) := by decide +kernel
abbrev cJ9_max_7cf53 : ByteArray := prog_17_method_65_code
def yJ9_max_7cf53 : MethodName := ⟨RJ9, "max", "(II)I"⟩
abbrev cJ9_min_7cf53 : ByteArray := prog_17_method_69_code
def yJ9_min_7cf53 : MethodName := ⟨RJ9, "min", "(II)I"⟩
def RJ0 : String := "java/lang/String"
def TJ0 : u_T := fun k => match k with
  | _ => ("", "", "", false)
def tyJ0 : Nat → FieldType := fun k => match k with
  | _ => .int
abbrev wsJ00 : List Cond := u_ws RJ0 TJ0 0
theorem nmJ0 : ∀ a, a < 0 → ∀ b, b < 0 → a ≠ b → (TJ0 a).2.1 ≠ (TJ0 b).2.1 := by decide +kernel
theorem tyJ0_ok : ∀ k, k < 0 → parseFieldDescriptor (TJ0 k).2.2.1 = some (tyJ0 k) := by decide +kernel
abbrev cJ0_length_8abf5 : ByteArray := prog_18_method_54_code
def yJ0_length_8abf5 : MethodName := ⟨RJ0, "length", "()I"⟩
abbrev cJ0_charAt_5068e : ByteArray := prog_18_method_56_code
def yJ0_charAt_5068e : MethodName := ⟨RJ0, "charAt", "(I)C"⟩
abbrev cJ0_indexOf_0f7a4 : ByteArray := prog_18_method_79_code
def yJ0_indexOf_0f7a4 : MethodName := ⟨RJ0, "indexOf", "(I)I"⟩
abbrev cJ0_indexOf_7cf53 : ByteArray := prog_18_method_80_code
def yJ0_indexOf_7cf53 : MethodName := ⟨RJ0, "indexOf", "(II)I"⟩
abbrev cJ0_coder_7d493 : ByteArray := prog_18_method_152_code
def yJ0_coder_7d493 : MethodName := ⟨RJ0, "coder", "()B"⟩
abbrev cJ0_isLatin1_aae02 : ByteArray := prog_18_method_154_code
def yJ0_isLatin1_aae02 : MethodName := ⟨RJ0, "isLatin1", "()Z"⟩
abbrev cJ0_checkIndex_df160 : ByteArray := prog_18_method_155_code
def yJ0_checkIndex_df160 : MethodName := ⟨RJ0, "checkIndex", "(II)V"⟩
abbrev cJ0_checkBoundsBeginEnd_23922 : ByteArray := prog_18_method_158_code
def yJ0_checkBoundsBeginEnd_23922 : MethodName := ⟨RJ0, "checkBoundsBeginEnd", "(III)V"⟩
def RJ1 : String := "java/lang/StringLatin1"
def TJ1 : u_T := fun k => match k with
  | _ => ("", "", "", false)
def tyJ1 : Nat → FieldType := fun k => match k with
  | _ => .int
abbrev wsJ10 : List Cond := u_ws RJ1 TJ1 0
theorem nmJ1 : ∀ a, a < 0 → ∀ b, b < 0 → a ≠ b → (TJ1 a).2.1 ≠ (TJ1 b).2.1 := by decide +kernel
theorem tyJ1_ok : ∀ k, k < 0 → parseFieldDescriptor (TJ1 k).2.2.1 = some (tyJ1 k) := by decide +kernel
abbrev cJ1_charAt_3b067 : ByteArray := prog_19_method_2_code
def yJ1_charAt_3b067 : MethodName := ⟨RJ1, "charAt", "([BI)C"⟩
abbrev cJ1_canEncode_9a6ad : ByteArray := prog_19_method_4_code
def yJ1_canEncode_9a6ad : MethodName := ⟨RJ1, "canEncode", "(I)Z"⟩
abbrev cJ1_indexOf_4cfef : ByteArray := prog_19_method_22_code
def yJ1_indexOf_4cfef : MethodName := ⟨RJ1, "indexOf", "([BIII)I"⟩
abbrev cJ1_indexOfChar_4cfef : ByteArray := prog_19_method_23_code
def yJ1_indexOfChar_4cfef : MethodName := ⟨RJ1, "indexOfChar", "([BIII)I"⟩
def RJ2 : String := "java/lang/StringUTF16"
def TJ2 : u_T := fun k => match k with
  | _ => ("", "", "", false)
def tyJ2 : Nat → FieldType := fun k => match k with
  | _ => .int
abbrev wsJ20 : List Cond := u_ws RJ2 TJ2 0
theorem nmJ2 : ∀ a, a < 0 → ∀ b, b < 0 → a ≠ b → (TJ2 a).2.1 ≠ (TJ2 b).2.1 := by decide +kernel
theorem tyJ2_ok : ∀ k, k < 0 → parseFieldDescriptor (TJ2 k).2.2.1 = some (tyJ2 k) := by decide +kernel
abbrev cJ2_getChar_3b067 : ByteArray := prog_20_method_5_code
def yJ2_getChar_3b067 : MethodName := ⟨RJ2, "getChar", "([BI)C"⟩
abbrev cJ2_length_9d52b : ByteArray := prog_20_method_6_code
def yJ2_length_9d52b : MethodName := ⟨RJ2, "length", "([B)I"⟩
abbrev cJ2_indexOf_4cfef : ByteArray := prog_20_method_40_code
def yJ2_indexOf_4cfef : MethodName := ⟨RJ2, "indexOf", "([BIII)I"⟩
abbrev cJ2_indexOfChar_4cfef : ByteArray := prog_20_method_47_code
def yJ2_indexOfChar_4cfef : MethodName := ⟨RJ2, "indexOfChar", "([BIII)I"⟩
abbrev cJ2_indexOfCharUnsafe_4cfef : ByteArray := prog_20_method_48_code
def yJ2_indexOfCharUnsafe_4cfef : MethodName := ⟨RJ2, "indexOfCharUnsafe", "([BIII)I"⟩
abbrev cJ2_indexOfSupplementary_4cfef : ByteArray := prog_20_method_49_code
def yJ2_indexOfSupplementary_4cfef : MethodName := ⟨RJ2, "indexOfSupplementary", "([BIII)I"⟩
abbrev cJ2_charAt_3b067 : ByteArray := prog_20_method_83_code
def yJ2_charAt_3b067 : MethodName := ⟨RJ2, "charAt", "([BI)C"⟩
abbrev cJ2_checkIndex_2214a : ByteArray := prog_20_method_91_code
def yJ2_checkIndex_2214a : MethodName := ⟨RJ2, "checkIndex", "(I[B)V"⟩
abbrev cJ2_checkBoundsBeginEnd_d044e : ByteArray := prog_20_method_93_code
def yJ2_checkBoundsBeginEnd_d044e : MethodName := ⟨RJ2, "checkBoundsBeginEnd", "(II[B)V"⟩
def RJ10 : String := "java/lang/System"
def TJ10 : u_T := fun k => match k with
  | _ => ("", "", "", false)
def tyJ10 : Nat → FieldType := fun k => match k with
  | _ => .int
abbrev wsJ100 : List Cond := u_ws RJ10 TJ10 0
theorem nmJ10 : ∀ a, a < 0 → ∀ b, b < 0 → a ≠ b → (TJ10 a).2.1 ≠ (TJ10 b).2.1 := by decide +kernel
theorem tyJ10_ok : ∀ k, k < 0 → parseFieldDescriptor (TJ10 k).2.2.1 = some (tyJ10 k) := by decide +kernel
def RJxfd54e : String := "java/lang/constant/Constable"
def TJxfd54e : u_T := fun k => match k with
  | _ => ("", "", "", false)
def tyJxfd54e : Nat → FieldType := fun k => match k with
  | _ => .int
abbrev wsJxfd54e0 : List Cond := u_ws RJxfd54e TJxfd54e 0
theorem nmJxfd54e : ∀ a, a < 0 → ∀ b, b < 0 → a ≠ b → (TJxfd54e a).2.1 ≠ (TJxfd54e b).2.1 := by decide +kernel
theorem tyJxfd54e_ok : ∀ k, k < 0 → parseFieldDescriptor (TJxfd54e k).2.2.1 = some (tyJxfd54e k) := by decide +kernel
def RJx3cf43 : String := "java/lang/constant/ConstantDesc"
def TJx3cf43 : u_T := fun k => match k with
  | _ => ("", "", "", false)
def tyJx3cf43 : Nat → FieldType := fun k => match k with
  | _ => .int
abbrev wsJx3cf430 : List Cond := u_ws RJx3cf43 TJx3cf43 0
theorem nmJx3cf43 : ∀ a, a < 0 → ∀ b, b < 0 → a ≠ b → (TJx3cf43 a).2.1 ≠ (TJx3cf43 b).2.1 := by decide +kernel
theorem tyJx3cf43_ok : ∀ k, k < 0 → parseFieldDescriptor (TJx3cf43 k).2.2.1 = some (tyJx3cf43 k) := by decide +kernel
def RJ7 : String := "java/util/Arrays"
def TJ7 : u_T := fun k => match k with
  | _ => ("", "", "", false)
def tyJ7 : Nat → FieldType := fun k => match k with
  | _ => .int
abbrev wsJ70 : List Cond := u_ws RJ7 TJ7 0
theorem nmJ7 : ∀ a, a < 0 → ∀ b, b < 0 → a ≠ b → (TJ7 a).2.1 ≠ (TJ7 b).2.1 := by decide +kernel
theorem tyJ7_ok : ∀ k, k < 0 → parseFieldDescriptor (TJ7 k).2.2.1 = some (tyJ7 k) := by decide +kernel
abbrev cJ7_fill_53178 : ByteArray := prog_22_method_103_code
def yJ7_fill_53178 : MethodName := ⟨RJ7, "fill", "([II)V"⟩
def RJ3 : String := "jdk/internal/util/Preconditions"
def TJ3 : u_T := fun k => match k with
  | _ => ("", "", "", false)
def tyJ3 : Nat → FieldType := fun k => match k with
  | _ => .int
abbrev wsJ30 : List Cond := u_ws RJ3 TJ3 0
theorem nmJ3 : ∀ a, a < 0 → ∀ b, b < 0 → a ≠ b → (TJ3 a).2.1 ≠ (TJ3 b).2.1 := by decide +kernel
theorem tyJ3_ok : ∀ k, k < 0 → parseFieldDescriptor (TJ3 k).2.2.1 = some (tyJ3 k) := by decide +kernel
abbrev cJ3_checkIndex_8e157 : ByteArray := prog_23_method_11_code
def yJ3_checkIndex_8e157 : MethodName := ⟨RJ3, "checkIndex", "(IILjava/util/function/BiFunction;)I"⟩
abbrev cJ3_checkFromToIndex_8c36e : ByteArray := prog_23_method_12_code
def yJ3_checkFromToIndex_8c36e : MethodName := ⟨RJ3, "checkFromToIndex", "(IIILjava/util/function/BiFunction;)I"⟩
def RL : String := "CoughPartsLaw"
abbrev cL_law : ByteArray := code
def yL_law : MethodName := ⟨RL, "law", "([I)Z"⟩
