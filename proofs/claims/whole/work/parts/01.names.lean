-- ===== PART A: goes FIRST, ahead of the names: the tables' words, and 'selects' of the private methods out of them =====
/-- a private method of a class that the tables say can be made, by its rows of tables_1 -/
def lw_okq (q : MethodName × Nat) : Prop := (q.1.cls ≠ "java/lang/invoke/MethodHandle" ∧ q.1.cls ≠ "java/lang/invoke/VarHandle") ∧ Cond.instantiable q.1.cls q.2 ∈ tables_1 ∧ Cond.privateMethod q.1 ∈ tables_1 ∧ Cond.instanceMethod q.1 ∈ tables_1
theorem lw_p0 : lw_okq (⟨"JigsawHole$Laws", "setConstant", "(II)V"⟩, 5) := ⟨⟨by decide +kernel, by decide +kernel⟩, List.mem_of_getElem? (i := 72) (by decide +kernel), List.mem_of_getElem? (i := 108) (by decide +kernel), List.mem_of_getElem? (i := 109) (by decide +kernel)⟩
theorem lw_p1 : lw_okq (⟨"JigsawHole$Tape", "skipBlanks", "(I)I"⟩, 5) := ⟨⟨by decide +kernel, by decide +kernel⟩, List.mem_of_getElem? (i := 31) (by decide +kernel), List.mem_of_getElem? (i := 412) (by decide +kernel), List.mem_of_getElem? (i := 413) (by decide +kernel)⟩
theorem lw_p2 : lw_okq (⟨"JigsawHole$Tape", "scanToken", "(II)I"⟩, 5) := ⟨⟨by decide +kernel, by decide +kernel⟩, List.mem_of_getElem? (i := 31) (by decide +kernel), List.mem_of_getElem? (i := 419) (by decide +kernel), List.mem_of_getElem? (i := 420) (by decide +kernel)⟩
theorem lw_p3 : lw_okq (⟨"JigsawHole$Tape", "scanLetters", "(II)I"⟩, 5) := ⟨⟨by decide +kernel, by decide +kernel⟩, List.mem_of_getElem? (i := 31) (by decide +kernel), List.mem_of_getElem? (i := 426) (by decide +kernel), List.mem_of_getElem? (i := 427) (by decide +kernel)⟩
theorem lw_p4 : lw_okq (⟨"JigsawHole$Tape", "kindOfLetters", "(II)I"⟩, 5) := ⟨⟨by decide +kernel, by decide +kernel⟩, List.mem_of_getElem? (i := 31) (by decide +kernel), List.mem_of_getElem? (i := 430) (by decide +kernel), List.mem_of_getElem? (i := 431) (by decide +kernel)⟩
theorem lw_p5 : lw_okq (⟨"JigsawHole$Tape", "scanDigits", "(II)I"⟩, 5) := ⟨⟨by decide +kernel, by decide +kernel⟩, List.mem_of_getElem? (i := 31) (by decide +kernel), List.mem_of_getElem? (i := 486) (by decide +kernel), List.mem_of_getElem? (i := 487) (by decide +kernel)⟩
theorem lw_p6 : lw_okq (⟨"JigsawHole$Reader", "kind", "()I"⟩, 10) := ⟨⟨by decide +kernel, by decide +kernel⟩, List.mem_of_getElem? (i := 60) (by decide +kernel), List.mem_of_getElem? (i := 499) (by decide +kernel), List.mem_of_getElem? (i := 500) (by decide +kernel)⟩
theorem lw_p7 : lw_okq (⟨"JigsawHole$Reader", "readRow", "()V"⟩, 10) := ⟨⟨by decide +kernel, by decide +kernel⟩, List.mem_of_getElem? (i := 60) (by decide +kernel), List.mem_of_getElem? (i := 503) (by decide +kernel), List.mem_of_getElem? (i := 504) (by decide +kernel)⟩
theorem lw_p8 : lw_okq (⟨"JigsawHole$Reader", "fail", "(I)V"⟩, 10) := ⟨⟨by decide +kernel, by decide +kernel⟩, List.mem_of_getElem? (i := 60) (by decide +kernel), List.mem_of_getElem? (i := 507) (by decide +kernel), List.mem_of_getElem? (i := 508) (by decide +kernel)⟩
theorem lw_p9 : lw_okq (⟨"JigsawHole$Reader", "accept", "(I)Z"⟩, 10) := ⟨⟨by decide +kernel, by decide +kernel⟩, List.mem_of_getElem? (i := 60) (by decide +kernel), List.mem_of_getElem? (i := 511) (by decide +kernel), List.mem_of_getElem? (i := 512) (by decide +kernel)⟩
theorem lw_p10 : lw_okq (⟨"JigsawHole$Reader", "addRow", "(I)V"⟩, 10) := ⟨⟨by decide +kernel, by decide +kernel⟩, List.mem_of_getElem? (i := 60) (by decide +kernel), List.mem_of_getElem? (i := 515) (by decide +kernel), List.mem_of_getElem? (i := 516) (by decide +kernel)⟩
theorem lw_p11 : lw_okq (⟨"JigsawHole$Reader", "mark", "(II)V"⟩, 10) := ⟨⟨by decide +kernel, by decide +kernel⟩, List.mem_of_getElem? (i := 60) (by decide +kernel), List.mem_of_getElem? (i := 523) (by decide +kernel), List.mem_of_getElem? (i := 524) (by decide +kernel)⟩
theorem lw_p12 : lw_okq (⟨"JigsawHole$Reader", "readKnob", "()V"⟩, 10) := ⟨⟨by decide +kernel, by decide +kernel⟩, List.mem_of_getElem? (i := 60) (by decide +kernel), List.mem_of_getElem? (i := 527) (by decide +kernel), List.mem_of_getElem? (i := 528) (by decide +kernel)⟩
theorem lw_p13 : lw_okq (⟨"JigsawHole$Reader", "number", "(I)I"⟩, 10) := ⟨⟨by decide +kernel, by decide +kernel⟩, List.mem_of_getElem? (i := 60) (by decide +kernel), List.mem_of_getElem? (i := 531) (by decide +kernel), List.mem_of_getElem? (i := 532) (by decide +kernel)⟩
theorem lw_p14 : lw_okq (⟨"JigsawHole$Reader", "signedNumber", "()I"⟩, 10) := ⟨⟨by decide +kernel, by decide +kernel⟩, List.mem_of_getElem? (i := 60) (by decide +kernel), List.mem_of_getElem? (i := 535) (by decide +kernel), List.mem_of_getElem? (i := 536) (by decide +kernel)⟩
theorem lw_p15 : lw_okq (⟨"JigsawHole$Reader", "readSpare", "()V"⟩, 10) := ⟨⟨by decide +kernel, by decide +kernel⟩, List.mem_of_getElem? (i := 60) (by decide +kernel), List.mem_of_getElem? (i := 539) (by decide +kernel), List.mem_of_getElem? (i := 540) (by decide +kernel)⟩
def lw_privs_1 : List (MethodName × Nat) := [(⟨"JigsawHole$Laws", "setConstant", "(II)V"⟩, 5), (⟨"JigsawHole$Tape", "skipBlanks", "(I)I"⟩, 5), (⟨"JigsawHole$Tape", "scanToken", "(II)I"⟩, 5), (⟨"JigsawHole$Tape", "scanLetters", "(II)I"⟩, 5), (⟨"JigsawHole$Tape", "kindOfLetters", "(II)I"⟩, 5), (⟨"JigsawHole$Tape", "scanDigits", "(II)I"⟩, 5), (⟨"JigsawHole$Reader", "kind", "()I"⟩, 10), (⟨"JigsawHole$Reader", "readRow", "()V"⟩, 10), (⟨"JigsawHole$Reader", "fail", "(I)V"⟩, 10), (⟨"JigsawHole$Reader", "accept", "(I)Z"⟩, 10), (⟨"JigsawHole$Reader", "addRow", "(I)V"⟩, 10), (⟨"JigsawHole$Reader", "mark", "(II)V"⟩, 10), (⟨"JigsawHole$Reader", "readKnob", "()V"⟩, 10), (⟨"JigsawHole$Reader", "number", "(I)I"⟩, 10), (⟨"JigsawHole$Reader", "signedNumber", "()I"⟩, 10), (⟨"JigsawHole$Reader", "readSpare", "()V"⟩, 10)]
theorem lw_r1 : ∀ q ∈ lw_privs_1, lw_okq q := List.forall_mem_cons.mpr ⟨lw_p0, List.forall_mem_cons.mpr ⟨lw_p1, List.forall_mem_cons.mpr ⟨lw_p2, List.forall_mem_cons.mpr ⟨lw_p3, List.forall_mem_cons.mpr ⟨lw_p4, List.forall_mem_cons.mpr ⟨lw_p5, List.forall_mem_cons.mpr ⟨lw_p6, List.forall_mem_cons.mpr ⟨lw_p7, List.forall_mem_cons.mpr ⟨lw_p8, List.forall_mem_cons.mpr ⟨lw_p9, List.forall_mem_cons.mpr ⟨lw_p10, List.forall_mem_cons.mpr ⟨lw_p11, List.forall_mem_cons.mpr ⟨lw_p12, List.forall_mem_cons.mpr ⟨lw_p13, List.forall_mem_cons.mpr ⟨lw_p14, List.forall_mem_cons.mpr ⟨lw_p15, fun _ h => absurd h List.not_mem_nil⟩⟩⟩⟩⟩⟩⟩⟩⟩⟩⟩⟩⟩⟩⟩⟩
theorem lw_p16 : lw_okq (⟨"JigsawHole$Reader", "addSpareName", "(I)V"⟩, 10) := ⟨⟨by decide +kernel, by decide +kernel⟩, List.mem_of_getElem? (i := 60) (by decide +kernel), List.mem_of_getElem? (i := 543) (by decide +kernel), List.mem_of_getElem? (i := 544) (by decide +kernel)⟩
theorem lw_p17 : lw_okq (⟨"JigsawHole$Reader", "readLaw", "(I)V"⟩, 10) := ⟨⟨by decide +kernel, by decide +kernel⟩, List.mem_of_getElem? (i := 60) (by decide +kernel), List.mem_of_getElem? (i := 552) (by decide +kernel), List.mem_of_getElem? (i := 553) (by decide +kernel)⟩
theorem lw_p18 : lw_okq (⟨"JigsawHole$Reader", "readSum", "(I)V"⟩, 10) := ⟨⟨by decide +kernel, by decide +kernel⟩, List.mem_of_getElem? (i := 60) (by decide +kernel), List.mem_of_getElem? (i := 556) (by decide +kernel), List.mem_of_getElem? (i := 557) (by decide +kernel)⟩
theorem lw_p19 : lw_okq (⟨"JigsawHole$Reader", "readProduct", "(I)V"⟩, 10) := ⟨⟨by decide +kernel, by decide +kernel⟩, List.mem_of_getElem? (i := 60) (by decide +kernel), List.mem_of_getElem? (i := 560) (by decide +kernel), List.mem_of_getElem? (i := 561) (by decide +kernel)⟩
theorem lw_p20 : lw_okq (⟨"JigsawHole$Reader", "readUnit", "(I)V"⟩, 10) := ⟨⟨by decide +kernel, by decide +kernel⟩, List.mem_of_getElem? (i := 60) (by decide +kernel), List.mem_of_getElem? (i := 564) (by decide +kernel), List.mem_of_getElem? (i := 565) (by decide +kernel)⟩
theorem lw_p21 : lw_okq (⟨"JigsawHole$Reader", "readOneNumber", "(II)I"⟩, 10) := ⟨⟨by decide +kernel, by decide +kernel⟩, List.mem_of_getElem? (i := 60) (by decide +kernel), List.mem_of_getElem? (i := 573) (by decide +kernel), List.mem_of_getElem? (i := 574) (by decide +kernel)⟩
theorem lw_p22 : lw_okq (⟨"JigsawHole$Reader", "knobsAstray", "()Z"⟩, 10) := ⟨⟨by decide +kernel, by decide +kernel⟩, List.mem_of_getElem? (i := 60) (by decide +kernel), List.mem_of_getElem? (i := 577) (by decide +kernel), List.mem_of_getElem? (i := 578) (by decide +kernel)⟩
theorem lw_p23 : lw_okq (⟨"JigsawHole$Calendar", "endDay", "(LJigsawHole$State;I)V"⟩, 3) := ⟨⟨by decide +kernel, by decide +kernel⟩, List.mem_of_getElem? (i := 292) (by decide +kernel), List.mem_of_getElem? (i := 783) (by decide +kernel), List.mem_of_getElem? (i := 784) (by decide +kernel)⟩
theorem lw_p24 : lw_okq (⟨"JigsawHole$Table", "fitsHole", "(III)Z"⟩, 9) := ⟨⟨by decide +kernel, by decide +kernel⟩, List.mem_of_getElem? (i := 66) (by decide +kernel), List.mem_of_getElem? (i := 836) (by decide +kernel), List.mem_of_getElem? (i := 837) (by decide +kernel)⟩
theorem lw_p25 : lw_okq (⟨"JigsawHole$Paths", "start", "(II)V"⟩, 7) := ⟨⟨by decide +kernel, by decide +kernel⟩, List.mem_of_getElem? (i := 264) (by decide +kernel), List.mem_of_getElem? (i := 893) (by decide +kernel), List.mem_of_getElem? (i := 894) (by decide +kernel)⟩
theorem lw_p26 : lw_okq (⟨"JigsawHole$Paths", "closeNearest", "()I"⟩, 7) := ⟨⟨by decide +kernel, by decide +kernel⟩, List.mem_of_getElem? (i := 264) (by decide +kernel), List.mem_of_getElem? (i := 900) (by decide +kernel), List.mem_of_getElem? (i := 901) (by decide +kernel)⟩
theorem lw_p27 : lw_okq (⟨"JigsawHole$Paths", "goOverCell", "(I)V"⟩, 7) := ⟨⟨by decide +kernel, by decide +kernel⟩, List.mem_of_getElem? (i := 264) (by decide +kernel), List.mem_of_getElem? (i := 929) (by decide +kernel), List.mem_of_getElem? (i := 930) (by decide +kernel)⟩
theorem lw_p28 : lw_okq (⟨"JigsawHole$Clues", "turnsOf", "(II)I"⟩, 5) := ⟨⟨by decide +kernel, by decide +kernel⟩, List.mem_of_getElem? (i := 335) (by decide +kernel), List.mem_of_getElem? (i := 1010) (by decide +kernel), List.mem_of_getElem? (i := 1011) (by decide +kernel)⟩
theorem lw_p29 : lw_okq (⟨"JigsawHole$Clues", "isSo", "(III)Z"⟩, 5) := ⟨⟨by decide +kernel, by decide +kernel⟩, List.mem_of_getElem? (i := 335) (by decide +kernel), List.mem_of_getElem? (i := 1014) (by decide +kernel), List.mem_of_getElem? (i := 1015) (by decide +kernel)⟩
theorem lw_p30 : lw_okq (⟨"JigsawHole$Clues", "worstOf", "(II)I"⟩, 5) := ⟨⟨by decide +kernel, by decide +kernel⟩, List.mem_of_getElem? (i := 335) (by decide +kernel), List.mem_of_getElem? (i := 1036) (by decide +kernel), List.mem_of_getElem? (i := 1037) (by decide +kernel)⟩
theorem lw_p31 : lw_okq (⟨"JigsawHoleModel", "plain", "(I)V"⟩, 65) := ⟨⟨by decide +kernel, by decide +kernel⟩, List.mem_of_getElem? (i := 1072) (by decide +kernel), List.mem_of_getElem? (i := 1078) (by decide +kernel), List.mem_of_getElem? (i := 1079) (by decide +kernel)⟩
def lw_privs_2 : List (MethodName × Nat) := [(⟨"JigsawHole$Reader", "addSpareName", "(I)V"⟩, 10), (⟨"JigsawHole$Reader", "readLaw", "(I)V"⟩, 10), (⟨"JigsawHole$Reader", "readSum", "(I)V"⟩, 10), (⟨"JigsawHole$Reader", "readProduct", "(I)V"⟩, 10), (⟨"JigsawHole$Reader", "readUnit", "(I)V"⟩, 10), (⟨"JigsawHole$Reader", "readOneNumber", "(II)I"⟩, 10), (⟨"JigsawHole$Reader", "knobsAstray", "()Z"⟩, 10), (⟨"JigsawHole$Calendar", "endDay", "(LJigsawHole$State;I)V"⟩, 3), (⟨"JigsawHole$Table", "fitsHole", "(III)Z"⟩, 9), (⟨"JigsawHole$Paths", "start", "(II)V"⟩, 7), (⟨"JigsawHole$Paths", "closeNearest", "()I"⟩, 7), (⟨"JigsawHole$Paths", "goOverCell", "(I)V"⟩, 7), (⟨"JigsawHole$Clues", "turnsOf", "(II)I"⟩, 5), (⟨"JigsawHole$Clues", "isSo", "(III)Z"⟩, 5), (⟨"JigsawHole$Clues", "worstOf", "(II)I"⟩, 5), (⟨"JigsawHoleModel", "plain", "(I)V"⟩, 65)]
theorem lw_r2 : ∀ q ∈ lw_privs_2, lw_okq q := List.forall_mem_cons.mpr ⟨lw_p16, List.forall_mem_cons.mpr ⟨lw_p17, List.forall_mem_cons.mpr ⟨lw_p18, List.forall_mem_cons.mpr ⟨lw_p19, List.forall_mem_cons.mpr ⟨lw_p20, List.forall_mem_cons.mpr ⟨lw_p21, List.forall_mem_cons.mpr ⟨lw_p22, List.forall_mem_cons.mpr ⟨lw_p23, List.forall_mem_cons.mpr ⟨lw_p24, List.forall_mem_cons.mpr ⟨lw_p25, List.forall_mem_cons.mpr ⟨lw_p26, List.forall_mem_cons.mpr ⟨lw_p27, List.forall_mem_cons.mpr ⟨lw_p28, List.forall_mem_cons.mpr ⟨lw_p29, List.forall_mem_cons.mpr ⟨lw_p30, List.forall_mem_cons.mpr ⟨lw_p31, fun _ h => absurd h List.not_mem_nil⟩⟩⟩⟩⟩⟩⟩⟩⟩⟩⟩⟩⟩⟩⟩⟩
theorem lw_p32 : lw_okq (⟨"JigsawHoleModel", "begins", "()V"⟩, 65) := ⟨⟨by decide +kernel, by decide +kernel⟩, List.mem_of_getElem? (i := 1072) (by decide +kernel), List.mem_of_getElem? (i := 1089) (by decide +kernel), List.mem_of_getElem? (i := 1090) (by decide +kernel)⟩
theorem lw_p33 : lw_okq (⟨"JigsawHoleModel", "keepsRow", "()V"⟩, 65) := ⟨⟨by decide +kernel, by decide +kernel⟩, List.mem_of_getElem? (i := 1072) (by decide +kernel), List.mem_of_getElem? (i := 1093) (by decide +kernel), List.mem_of_getElem? (i := 1094) (by decide +kernel)⟩
theorem lw_p34 : lw_okq (⟨"JigsawHoleModel", "put", "(I)V"⟩, 65) := ⟨⟨by decide +kernel, by decide +kernel⟩, List.mem_of_getElem? (i := 1072) (by decide +kernel), List.mem_of_getElem? (i := 1298) (by decide +kernel), List.mem_of_getElem? (i := 1299) (by decide +kernel)⟩
theorem lw_p35 : lw_okq (⟨"JigsawHoleModel", "cut", "()V"⟩, 65) := ⟨⟨by decide +kernel, by decide +kernel⟩, List.mem_of_getElem? (i := 1072) (by decide +kernel), List.mem_of_getElem? (i := 1310) (by decide +kernel), List.mem_of_getElem? (i := 1311) (by decide +kernel)⟩
theorem lw_p36 : lw_okq (⟨"JigsawHoleModel", "byteAt", "(I)I"⟩, 65) := ⟨⟨by decide +kernel, by decide +kernel⟩, List.mem_of_getElem? (i := 1072) (by decide +kernel), List.mem_of_getElem? (i := 1314) (by decide +kernel), List.mem_of_getElem? (i := 1315) (by decide +kernel)⟩
theorem lw_p37 : lw_okq (⟨"JigsawHoleModel", "token", "(IIIJ)V"⟩, 65) := ⟨⟨by decide +kernel, by decide +kernel⟩, List.mem_of_getElem? (i := 1072) (by decide +kernel), List.mem_of_getElem? (i := 1318) (by decide +kernel), List.mem_of_getElem? (i := 1319) (by decide +kernel)⟩
theorem lw_p38 : lw_okq (⟨"JigsawHoleModel", "sign", "(III)I"⟩, 65) := ⟨⟨by decide +kernel, by decide +kernel⟩, List.mem_of_getElem? (i := 1072) (by decide +kernel), List.mem_of_getElem? (i := 1328) (by decide +kernel), List.mem_of_getElem? (i := 1329) (by decide +kernel)⟩
theorem lw_p39 : lw_okq (⟨"JigsawHoleModel", "is", "(I)Z"⟩, 65) := ⟨⟨by decide +kernel, by decide +kernel⟩, List.mem_of_getElem? (i := 1072) (by decide +kernel), List.mem_of_getElem? (i := 1332) (by decide +kernel), List.mem_of_getElem? (i := 1333) (by decide +kernel)⟩
theorem lw_p40 : lw_okq (⟨"JigsawHoleModel", "tellOne", "()V"⟩, 65) := ⟨⟨by decide +kernel, by decide +kernel⟩, List.mem_of_getElem? (i := 1072) (by decide +kernel), List.mem_of_getElem? (i := 1336) (by decide +kernel), List.mem_of_getElem? (i := 1337) (by decide +kernel)⟩
theorem lw_p41 : lw_okq (⟨"JigsawHoleModel", "roomFor", "(II)V"⟩, 65) := ⟨⟨by decide +kernel, by decide +kernel⟩, List.mem_of_getElem? (i := 1072) (by decide +kernel), List.mem_of_getElem? (i := 1340) (by decide +kernel), List.mem_of_getElem? (i := 1341) (by decide +kernel)⟩
theorem lw_p42 : lw_okq (⟨"JigsawHoleModel", "fail", "(I)V"⟩, 65) := ⟨⟨by decide +kernel, by decide +kernel⟩, List.mem_of_getElem? (i := 1072) (by decide +kernel), List.mem_of_getElem? (i := 1344) (by decide +kernel), List.mem_of_getElem? (i := 1345) (by decide +kernel)⟩
theorem lw_p43 : lw_okq (⟨"JigsawHoleModel", "goesOn", "()V"⟩, 65) := ⟨⟨by decide +kernel, by decide +kernel⟩, List.mem_of_getElem? (i := 1072) (by decide +kernel), List.mem_of_getElem? (i := 1348) (by decide +kernel), List.mem_of_getElem? (i := 1349) (by decide +kernel)⟩
theorem lw_p44 : lw_okq (⟨"JigsawHoleModel", "tellRow", "()V"⟩, 65) := ⟨⟨by decide +kernel, by decide +kernel⟩, List.mem_of_getElem? (i := 1072) (by decide +kernel), List.mem_of_getElem? (i := 1352) (by decide +kernel), List.mem_of_getElem? (i := 1353) (by decide +kernel)⟩
theorem lw_p45 : lw_okq (⟨"JigsawHoleModel", "must", "(I)V"⟩, 65) := ⟨⟨by decide +kernel, by decide +kernel⟩, List.mem_of_getElem? (i := 1072) (by decide +kernel), List.mem_of_getElem? (i := 1356) (by decide +kernel), List.mem_of_getElem? (i := 1357) (by decide +kernel)⟩
theorem lw_p46 : lw_okq (⟨"JigsawHoleModel", "wrong", "(II)V"⟩, 65) := ⟨⟨by decide +kernel, by decide +kernel⟩, List.mem_of_getElem? (i := 1072) (by decide +kernel), List.mem_of_getElem? (i := 1366) (by decide +kernel), List.mem_of_getElem? (i := 1367) (by decide +kernel)⟩
theorem lw_p47 : lw_okq (⟨"JigsawHoleModel", "tellKnob", "()V"⟩, 65) := ⟨⟨by decide +kernel, by decide +kernel⟩, List.mem_of_getElem? (i := 1072) (by decide +kernel), List.mem_of_getElem? (i := 1370) (by decide +kernel), List.mem_of_getElem? (i := 1371) (by decide +kernel)⟩
def lw_privs_3 : List (MethodName × Nat) := [(⟨"JigsawHoleModel", "begins", "()V"⟩, 65), (⟨"JigsawHoleModel", "keepsRow", "()V"⟩, 65), (⟨"JigsawHoleModel", "put", "(I)V"⟩, 65), (⟨"JigsawHoleModel", "cut", "()V"⟩, 65), (⟨"JigsawHoleModel", "byteAt", "(I)I"⟩, 65), (⟨"JigsawHoleModel", "token", "(IIIJ)V"⟩, 65), (⟨"JigsawHoleModel", "sign", "(III)I"⟩, 65), (⟨"JigsawHoleModel", "is", "(I)Z"⟩, 65), (⟨"JigsawHoleModel", "tellOne", "()V"⟩, 65), (⟨"JigsawHoleModel", "roomFor", "(II)V"⟩, 65), (⟨"JigsawHoleModel", "fail", "(I)V"⟩, 65), (⟨"JigsawHoleModel", "goesOn", "()V"⟩, 65), (⟨"JigsawHoleModel", "tellRow", "()V"⟩, 65), (⟨"JigsawHoleModel", "must", "(I)V"⟩, 65), (⟨"JigsawHoleModel", "wrong", "(II)V"⟩, 65), (⟨"JigsawHoleModel", "tellKnob", "()V"⟩, 65)]
theorem lw_r3 : ∀ q ∈ lw_privs_3, lw_okq q := List.forall_mem_cons.mpr ⟨lw_p32, List.forall_mem_cons.mpr ⟨lw_p33, List.forall_mem_cons.mpr ⟨lw_p34, List.forall_mem_cons.mpr ⟨lw_p35, List.forall_mem_cons.mpr ⟨lw_p36, List.forall_mem_cons.mpr ⟨lw_p37, List.forall_mem_cons.mpr ⟨lw_p38, List.forall_mem_cons.mpr ⟨lw_p39, List.forall_mem_cons.mpr ⟨lw_p40, List.forall_mem_cons.mpr ⟨lw_p41, List.forall_mem_cons.mpr ⟨lw_p42, List.forall_mem_cons.mpr ⟨lw_p43, List.forall_mem_cons.mpr ⟨lw_p44, List.forall_mem_cons.mpr ⟨lw_p45, List.forall_mem_cons.mpr ⟨lw_p46, List.forall_mem_cons.mpr ⟨lw_p47, fun _ h => absurd h List.not_mem_nil⟩⟩⟩⟩⟩⟩⟩⟩⟩⟩⟩⟩⟩⟩⟩⟩
theorem lw_p48 : lw_okq (⟨"JigsawHoleModel", "bounded", "(II)I"⟩, 65) := ⟨⟨by decide +kernel, by decide +kernel⟩, List.mem_of_getElem? (i := 1072) (by decide +kernel), List.mem_of_getElem? (i := 1374) (by decide +kernel), List.mem_of_getElem? (i := 1375) (by decide +kernel)⟩
theorem lw_p49 : lw_okq (⟨"JigsawHoleModel", "toldKnob", "()I"⟩, 65) := ⟨⟨by decide +kernel, by decide +kernel⟩, List.mem_of_getElem? (i := 1072) (by decide +kernel), List.mem_of_getElem? (i := 1378) (by decide +kernel), List.mem_of_getElem? (i := 1379) (by decide +kernel)⟩
theorem lw_p50 : lw_okq (⟨"JigsawHoleModel", "tellSpare", "()V"⟩, 65) := ⟨⟨by decide +kernel, by decide +kernel⟩, List.mem_of_getElem? (i := 1072) (by decide +kernel), List.mem_of_getElem? (i := 1382) (by decide +kernel), List.mem_of_getElem? (i := 1383) (by decide +kernel)⟩
theorem lw_p51 : lw_okq (⟨"JigsawHoleModel", "tellLaw", "(I)V"⟩, 65) := ⟨⟨by decide +kernel, by decide +kernel⟩, List.mem_of_getElem? (i := 1072) (by decide +kernel), List.mem_of_getElem? (i := 1386) (by decide +kernel), List.mem_of_getElem? (i := 1387) (by decide +kernel)⟩
theorem lw_p52 : lw_okq (⟨"JigsawHoleModel", "expression", "()V"⟩, 65) := ⟨⟨by decide +kernel, by decide +kernel⟩, List.mem_of_getElem? (i := 1072) (by decide +kernel), List.mem_of_getElem? (i := 1390) (by decide +kernel), List.mem_of_getElem? (i := 1391) (by decide +kernel)⟩
theorem lw_p53 : lw_okq (⟨"JigsawHoleModel", "unit", "()V"⟩, 65) := ⟨⟨by decide +kernel, by decide +kernel⟩, List.mem_of_getElem? (i := 1072) (by decide +kernel), List.mem_of_getElem? (i := 1394) (by decide +kernel), List.mem_of_getElem? (i := 1395) (by decide +kernel)⟩
theorem lw_p54 : lw_okq (⟨"JigsawHoleModel", "emit", "(II)V"⟩, 65) := ⟨⟨by decide +kernel, by decide +kernel⟩, List.mem_of_getElem? (i := 1072) (by decide +kernel), List.mem_of_getElem? (i := 1398) (by decide +kernel), List.mem_of_getElem? (i := 1399) (by decide +kernel)⟩
theorem lw_p55 : lw_okq (⟨"JigsawHoleModel", "comesOut", "(Z)V"⟩, 65) := ⟨⟨by decide +kernel, by decide +kernel⟩, List.mem_of_getElem? (i := 1072) (by decide +kernel), List.mem_of_getElem? (i := 1402) (by decide +kernel), List.mem_of_getElem? (i := 1403) (by decide +kernel)⟩
theorem lw_p56 : lw_okq (⟨"JigsawHoleModel", "term", "()V"⟩, 65) := ⟨⟨by decide +kernel, by decide +kernel⟩, List.mem_of_getElem? (i := 1072) (by decide +kernel), List.mem_of_getElem? (i := 1406) (by decide +kernel), List.mem_of_getElem? (i := 1407) (by decide +kernel)⟩
theorem lw_p57 : lw_okq (⟨"JigsawHoleModel", "isTable", "()Z"⟩, 65) := ⟨⟨by decide +kernel, by decide +kernel⟩, List.mem_of_getElem? (i := 1072) (by decide +kernel), List.mem_of_getElem? (i := 1410) (by decide +kernel), List.mem_of_getElem? (i := 1411) (by decide +kernel)⟩
theorem lw_p58 : lw_okq (⟨"JigsawHoleModel", "isCell", "(II)Z"⟩, 65) := ⟨⟨by decide +kernel, by decide +kernel⟩, List.mem_of_getElem? (i := 1072) (by decide +kernel), List.mem_of_getElem? (i := 1422) (by decide +kernel), List.mem_of_getElem? (i := 1423) (by decide +kernel)⟩
theorem lw_p59 : lw_okq (⟨"JigsawHoleModel", "copies", "()V"⟩, 65) := ⟨⟨by decide +kernel, by decide +kernel⟩, List.mem_of_getElem? (i := 1072) (by decide +kernel), List.mem_of_getElem? (i := 1429) (by decide +kernel), List.mem_of_getElem? (i := 1430) (by decide +kernel)⟩
theorem lw_p60 : lw_okq (⟨"JigsawHoleModel", "landAt", "(I)I"⟩, 65) := ⟨⟨by decide +kernel, by decide +kernel⟩, List.mem_of_getElem? (i := 1072) (by decide +kernel), List.mem_of_getElem? (i := 1433) (by decide +kernel), List.mem_of_getElem? (i := 1434) (by decide +kernel)⟩
theorem lw_p61 : lw_okq (⟨"JigsawHoleModel", "doesLie", "(I)Z"⟩, 65) := ⟨⟨by decide +kernel, by decide +kernel⟩, List.mem_of_getElem? (i := 1072) (by decide +kernel), List.mem_of_getElem? (i := 1437) (by decide +kernel), List.mem_of_getElem? (i := 1438) (by decide +kernel)⟩
theorem lw_p62 : lw_okq (⟨"JigsawHoleModel", "fitsNext", "(I)I"⟩, 65) := ⟨⟨by decide +kernel, by decide +kernel⟩, List.mem_of_getElem? (i := 1072) (by decide +kernel), List.mem_of_getElem? (i := 1441) (by decide +kernel), List.mem_of_getElem? (i := 1442) (by decide +kernel)⟩
theorem lw_p63 : lw_okq (⟨"JigsawHoleModel", "areJoinedOver", "(II)Z"⟩, 65) := ⟨⟨by decide +kernel, by decide +kernel⟩, List.mem_of_getElem? (i := 1072) (by decide +kernel), List.mem_of_getElem? (i := 1445) (by decide +kernel), List.mem_of_getElem? (i := 1446) (by decide +kernel)⟩
def lw_privs_4 : List (MethodName × Nat) := [(⟨"JigsawHoleModel", "bounded", "(II)I"⟩, 65), (⟨"JigsawHoleModel", "toldKnob", "()I"⟩, 65), (⟨"JigsawHoleModel", "tellSpare", "()V"⟩, 65), (⟨"JigsawHoleModel", "tellLaw", "(I)V"⟩, 65), (⟨"JigsawHoleModel", "expression", "()V"⟩, 65), (⟨"JigsawHoleModel", "unit", "()V"⟩, 65), (⟨"JigsawHoleModel", "emit", "(II)V"⟩, 65), (⟨"JigsawHoleModel", "comesOut", "(Z)V"⟩, 65), (⟨"JigsawHoleModel", "term", "()V"⟩, 65), (⟨"JigsawHoleModel", "isTable", "()Z"⟩, 65), (⟨"JigsawHoleModel", "isCell", "(II)Z"⟩, 65), (⟨"JigsawHoleModel", "copies", "()V"⟩, 65), (⟨"JigsawHoleModel", "landAt", "(I)I"⟩, 65), (⟨"JigsawHoleModel", "doesLie", "(I)Z"⟩, 65), (⟨"JigsawHoleModel", "fitsNext", "(I)I"⟩, 65), (⟨"JigsawHoleModel", "areJoinedOver", "(II)Z"⟩, 65)]
theorem lw_r4 : ∀ q ∈ lw_privs_4, lw_okq q := List.forall_mem_cons.mpr ⟨lw_p48, List.forall_mem_cons.mpr ⟨lw_p49, List.forall_mem_cons.mpr ⟨lw_p50, List.forall_mem_cons.mpr ⟨lw_p51, List.forall_mem_cons.mpr ⟨lw_p52, List.forall_mem_cons.mpr ⟨lw_p53, List.forall_mem_cons.mpr ⟨lw_p54, List.forall_mem_cons.mpr ⟨lw_p55, List.forall_mem_cons.mpr ⟨lw_p56, List.forall_mem_cons.mpr ⟨lw_p57, List.forall_mem_cons.mpr ⟨lw_p58, List.forall_mem_cons.mpr ⟨lw_p59, List.forall_mem_cons.mpr ⟨lw_p60, List.forall_mem_cons.mpr ⟨lw_p61, List.forall_mem_cons.mpr ⟨lw_p62, List.forall_mem_cons.mpr ⟨lw_p63, fun _ h => absurd h List.not_mem_nil⟩⟩⟩⟩⟩⟩⟩⟩⟩⟩⟩⟩⟩⟩⟩⟩
theorem lw_p64 : lw_okq (⟨"JigsawHoleModel", "overTo", "(II)I"⟩, 65) := ⟨⟨by decide +kernel, by decide +kernel⟩, List.mem_of_getElem? (i := 1072) (by decide +kernel), List.mem_of_getElem? (i := 1449) (by decide +kernel), List.mem_of_getElem? (i := 1450) (by decide +kernel)⟩
theorem lw_p65 : lw_okq (⟨"JigsawHoleModel", "doFit", "(II)Z"⟩, 65) := ⟨⟨by decide +kernel, by decide +kernel⟩, List.mem_of_getElem? (i := 1072) (by decide +kernel), List.mem_of_getElem? (i := 1453) (by decide +kernel), List.mem_of_getElem? (i := 1454) (by decide +kernel)⟩
theorem lw_p66 : lw_okq (⟨"JigsawHoleModel", "knobOf", "(II)I"⟩, 65) := ⟨⟨by decide +kernel, by decide +kernel⟩, List.mem_of_getElem? (i := 1072) (by decide +kernel), List.mem_of_getElem? (i := 1457) (by decide +kernel), List.mem_of_getElem? (i := 1458) (by decide +kernel)⟩
theorem lw_p67 : lw_okq (⟨"JigsawHoleModel", "isHole", "(I)Z"⟩, 65) := ⟨⟨by decide +kernel, by decide +kernel⟩, List.mem_of_getElem? (i := 1072) (by decide +kernel), List.mem_of_getElem? (i := 1461) (by decide +kernel), List.mem_of_getElem? (i := 1462) (by decide +kernel)⟩
theorem lw_p68 : lw_okq (⟨"JigsawHoleModel", "turned", "(III)I"⟩, 65) := ⟨⟨by decide +kernel, by decide +kernel⟩, List.mem_of_getElem? (i := 1072) (by decide +kernel), List.mem_of_getElem? (i := 1465) (by decide +kernel), List.mem_of_getElem? (i := 1466) (by decide +kernel)⟩
theorem lw_p69 : lw_okq (⟨"JigsawHoleModel", "fallsAt", "(I)I"⟩, 65) := ⟨⟨by decide +kernel, by decide +kernel⟩, List.mem_of_getElem? (i := 1072) (by decide +kernel), List.mem_of_getElem? (i := 1469) (by decide +kernel), List.mem_of_getElem? (i := 1470) (by decide +kernel)⟩
theorem lw_p70 : lw_okq (⟨"JigsawHoleModel", "looksAt", "(I)V"⟩, 65) := ⟨⟨by decide +kernel, by decide +kernel⟩, List.mem_of_getElem? (i := 1072) (by decide +kernel), List.mem_of_getElem? (i := 1473) (by decide +kernel), List.mem_of_getElem? (i := 1474) (by decide +kernel)⟩
theorem lw_p71 : lw_okq (⟨"JigsawHoleModel", "looks", "()V"⟩, 65) := ⟨⟨by decide +kernel, by decide +kernel⟩, List.mem_of_getElem? (i := 1072) (by decide +kernel), List.mem_of_getElem? (i := 1477) (by decide +kernel), List.mem_of_getElem? (i := 1478) (by decide +kernel)⟩
theorem lw_p72 : lw_okq (⟨"JigsawHoleModel", "lawTells", "(II)I"⟩, 65) := ⟨⟨by decide +kernel, by decide +kernel⟩, List.mem_of_getElem? (i := 1072) (by decide +kernel), List.mem_of_getElem? (i := 1481) (by decide +kernel), List.mem_of_getElem? (i := 1482) (by decide +kernel)⟩
theorem lw_p73 : lw_okq (⟨"JigsawHoleModel", "termOf", "(II)I"⟩, 65) := ⟨⟨by decide +kernel, by decide +kernel⟩, List.mem_of_getElem? (i := 1072) (by decide +kernel), List.mem_of_getElem? (i := 1485) (by decide +kernel), List.mem_of_getElem? (i := 1486) (by decide +kernel)⟩
theorem lw_p74 : lw_okq (⟨"JigsawHoleModel", "hasKnobs", "(I)Z"⟩, 65) := ⟨⟨by decide +kernel, by decide +kernel⟩, List.mem_of_getElem? (i := 1072) (by decide +kernel), List.mem_of_getElem? (i := 1499) (by decide +kernel), List.mem_of_getElem? (i := 1500) (by decide +kernel)⟩
theorem lw_p75 : lw_okq (⟨"JigsawHoleModel", "isSpare", "(I)Z"⟩, 65) := ⟨⟨by decide +kernel, by decide +kernel⟩, List.mem_of_getElem? (i := 1072) (by decide +kernel), List.mem_of_getElem? (i := 1507) (by decide +kernel), List.mem_of_getElem? (i := 1508) (by decide +kernel)⟩
theorem lw_p76 : lw_okq (⟨"JigsawHoleModel", "isThere", "(I)Z"⟩, 65) := ⟨⟨by decide +kernel, by decide +kernel⟩, List.mem_of_getElem? (i := 1072) (by decide +kernel), List.mem_of_getElem? (i := 1515) (by decide +kernel), List.mem_of_getElem? (i := 1516) (by decide +kernel)⟩
theorem lw_p77 : lw_okq (⟨"JigsawHoleModel", "liesOf", "(I)I"⟩, 65) := ⟨⟨by decide +kernel, by decide +kernel⟩, List.mem_of_getElem? (i := 1072) (by decide +kernel), List.mem_of_getElem? (i := 1519) (by decide +kernel), List.mem_of_getElem? (i := 1520) (by decide +kernel)⟩
theorem lw_p78 : lw_okq (⟨"JigsawHoleModel", "isOf", "(II)Z"⟩, 65) := ⟨⟨by decide +kernel, by decide +kernel⟩, List.mem_of_getElem? (i := 1072) (by decide +kernel), List.mem_of_getElem? (i := 1523) (by decide +kernel), List.mem_of_getElem? (i := 1524) (by decide +kernel)⟩
theorem lw_p79 : lw_okq (⟨"JigsawHoleModel", "fillsParts", "(I)V"⟩, 65) := ⟨⟨by decide +kernel, by decide +kernel⟩, List.mem_of_getElem? (i := 1072) (by decide +kernel), List.mem_of_getElem? (i := 1527) (by decide +kernel), List.mem_of_getElem? (i := 1528) (by decide +kernel)⟩
def lw_privs_5 : List (MethodName × Nat) := [(⟨"JigsawHoleModel", "overTo", "(II)I"⟩, 65), (⟨"JigsawHoleModel", "doFit", "(II)Z"⟩, 65), (⟨"JigsawHoleModel", "knobOf", "(II)I"⟩, 65), (⟨"JigsawHoleModel", "isHole", "(I)Z"⟩, 65), (⟨"JigsawHoleModel", "turned", "(III)I"⟩, 65), (⟨"JigsawHoleModel", "fallsAt", "(I)I"⟩, 65), (⟨"JigsawHoleModel", "looksAt", "(I)V"⟩, 65), (⟨"JigsawHoleModel", "looks", "()V"⟩, 65), (⟨"JigsawHoleModel", "lawTells", "(II)I"⟩, 65), (⟨"JigsawHoleModel", "termOf", "(II)I"⟩, 65), (⟨"JigsawHoleModel", "hasKnobs", "(I)Z"⟩, 65), (⟨"JigsawHoleModel", "isSpare", "(I)Z"⟩, 65), (⟨"JigsawHoleModel", "isThere", "(I)Z"⟩, 65), (⟨"JigsawHoleModel", "liesOf", "(I)I"⟩, 65), (⟨"JigsawHoleModel", "isOf", "(II)Z"⟩, 65), (⟨"JigsawHoleModel", "fillsParts", "(I)V"⟩, 65)]
theorem lw_r5 : ∀ q ∈ lw_privs_5, lw_okq q := List.forall_mem_cons.mpr ⟨lw_p64, List.forall_mem_cons.mpr ⟨lw_p65, List.forall_mem_cons.mpr ⟨lw_p66, List.forall_mem_cons.mpr ⟨lw_p67, List.forall_mem_cons.mpr ⟨lw_p68, List.forall_mem_cons.mpr ⟨lw_p69, List.forall_mem_cons.mpr ⟨lw_p70, List.forall_mem_cons.mpr ⟨lw_p71, List.forall_mem_cons.mpr ⟨lw_p72, List.forall_mem_cons.mpr ⟨lw_p73, List.forall_mem_cons.mpr ⟨lw_p74, List.forall_mem_cons.mpr ⟨lw_p75, List.forall_mem_cons.mpr ⟨lw_p76, List.forall_mem_cons.mpr ⟨lw_p77, List.forall_mem_cons.mpr ⟨lw_p78, List.forall_mem_cons.mpr ⟨lw_p79, fun _ h => absurd h List.not_mem_nil⟩⟩⟩⟩⟩⟩⟩⟩⟩⟩⟩⟩⟩⟩⟩⟩
theorem lw_p80 : lw_okq (⟨"JigsawHoleModel", "taxOf", "(I)I"⟩, 65) := ⟨⟨by decide +kernel, by decide +kernel⟩, List.mem_of_getElem? (i := 1072) (by decide +kernel), List.mem_of_getElem? (i := 1531) (by decide +kernel), List.mem_of_getElem? (i := 1532) (by decide +kernel)⟩
theorem lw_p81 : lw_okq (⟨"JigsawHoleModel", "isWet", "()Z"⟩, 65) := ⟨⟨by decide +kernel, by decide +kernel⟩, List.mem_of_getElem? (i := 1072) (by decide +kernel), List.mem_of_getElem? (i := 1539) (by decide +kernel), List.mem_of_getElem? (i := 1540) (by decide +kernel)⟩
theorem lw_p82 : lw_okq (⟨"JigsawHoleModel", "canLay", "(I)Z"⟩, 65) := ⟨⟨by decide +kernel, by decide +kernel⟩, List.mem_of_getElem? (i := 1072) (by decide +kernel), List.mem_of_getElem? (i := 1543) (by decide +kernel), List.mem_of_getElem? (i := 1544) (by decide +kernel)⟩
theorem lw_p83 : lw_okq (⟨"JigsawHoleModel", "clashBits", "(I)I"⟩, 65) := ⟨⟨by decide +kernel, by decide +kernel⟩, List.mem_of_getElem? (i := 1072) (by decide +kernel), List.mem_of_getElem? (i := 1547) (by decide +kernel), List.mem_of_getElem? (i := 1548) (by decide +kernel)⟩
theorem lw_p84 : lw_okq (⟨"JigsawHoleModel", "records", "()V"⟩, 65) := ⟨⟨by decide +kernel, by decide +kernel⟩, List.mem_of_getElem? (i := 1072) (by decide +kernel), List.mem_of_getElem? (i := 1551) (by decide +kernel), List.mem_of_getElem? (i := 1552) (by decide +kernel)⟩
theorem lw_p85 : lw_okq (⟨"JigsawHoleModel", "isPressed", "(I)Z"⟩, 65) := ⟨⟨by decide +kernel, by decide +kernel⟩, List.mem_of_getElem? (i := 1072) (by decide +kernel), List.mem_of_getElem? (i := 1563) (by decide +kernel), List.mem_of_getElem? (i := 1564) (by decide +kernel)⟩
theorem lw_p86 : lw_okq (⟨"JigsawHoleModel", "goes", "(I)V"⟩, 65) := ⟨⟨by decide +kernel, by decide +kernel⟩, List.mem_of_getElem? (i := 1072) (by decide +kernel), List.mem_of_getElem? (i := 1574) (by decide +kernel), List.mem_of_getElem? (i := 1575) (by decide +kernel)⟩
theorem lw_p87 : lw_okq (⟨"JigsawHoleModel", "dayGoes", "()V"⟩, 65) := ⟨⟨by decide +kernel, by decide +kernel⟩, List.mem_of_getElem? (i := 1072) (by decide +kernel), List.mem_of_getElem? (i := 1578) (by decide +kernel), List.mem_of_getElem? (i := 1579) (by decide +kernel)⟩
theorem lw_p88 : lw_okq (⟨"JigsawHoleModel", "isKnock", "()Z"⟩, 65) := ⟨⟨by decide +kernel, by decide +kernel⟩, List.mem_of_getElem? (i := 1072) (by decide +kernel), List.mem_of_getElem? (i := 1582) (by decide +kernel), List.mem_of_getElem? (i := 1583) (by decide +kernel)⟩
theorem lw_p89 : lw_okq (⟨"JigsawHoleModel", "lotOf", "(I)I"⟩, 65) := ⟨⟨by decide +kernel, by decide +kernel⟩, List.mem_of_getElem? (i := 1072) (by decide +kernel), List.mem_of_getElem? (i := 1586) (by decide +kernel), List.mem_of_getElem? (i := 1587) (by decide +kernel)⟩
theorem lw_p90 : lw_okq (⟨"JigsawHoleModel", "calledAt", "(II)I"⟩, 65) := ⟨⟨by decide +kernel, by decide +kernel⟩, List.mem_of_getElem? (i := 1072) (by decide +kernel), List.mem_of_getElem? (i := 1606) (by decide +kernel), List.mem_of_getElem? (i := 1607) (by decide +kernel)⟩
theorem lw_p91 : lw_okq (⟨"JigsawHoleModel", "wouldFit", "(III)Z"⟩, 65) := ⟨⟨by decide +kernel, by decide +kernel⟩, List.mem_of_getElem? (i := 1072) (by decide +kernel), List.mem_of_getElem? (i := 1614) (by decide +kernel), List.mem_of_getElem? (i := 1615) (by decide +kernel)⟩
theorem lw_p92 : lw_okq (⟨"JigsawHoleModel", "wayOver", "(II)I"⟩, 65) := ⟨⟨by decide +kernel, by decide +kernel⟩, List.mem_of_getElem? (i := 1072) (by decide +kernel), List.mem_of_getElem? (i := 1638) (by decide +kernel), List.mem_of_getElem? (i := 1639) (by decide +kernel)⟩
theorem lw_p93 : lw_okq (⟨"JigsawHoleModel", "isPiece", "(II)Z"⟩, 65) := ⟨⟨by decide +kernel, by decide +kernel⟩, List.mem_of_getElem? (i := 1072) (by decide +kernel), List.mem_of_getElem? (i := 1651) (by decide +kernel), List.mem_of_getElem? (i := 1652) (by decide +kernel)⟩
theorem lw_p94 : lw_okq (⟨"JigsawHoleModel", "isRowSet", "(II)Z"⟩, 65) := ⟨⟨by decide +kernel, by decide +kernel⟩, List.mem_of_getElem? (i := 1072) (by decide +kernel), List.mem_of_getElem? (i := 1659) (by decide +kernel), List.mem_of_getElem? (i := 1660) (by decide +kernel)⟩
theorem lw_p95 : lw_okq (⟨"JigsawHoleModel", "areRowSets", "(III)Z"⟩, 65) := ⟨⟨by decide +kernel, by decide +kernel⟩, List.mem_of_getElem? (i := 1072) (by decide +kernel), List.mem_of_getElem? (i := 1666) (by decide +kernel), List.mem_of_getElem? (i := 1667) (by decide +kernel)⟩
def lw_privs_6 : List (MethodName × Nat) := [(⟨"JigsawHoleModel", "taxOf", "(I)I"⟩, 65), (⟨"JigsawHoleModel", "isWet", "()Z"⟩, 65), (⟨"JigsawHoleModel", "canLay", "(I)Z"⟩, 65), (⟨"JigsawHoleModel", "clashBits", "(I)I"⟩, 65), (⟨"JigsawHoleModel", "records", "()V"⟩, 65), (⟨"JigsawHoleModel", "isPressed", "(I)Z"⟩, 65), (⟨"JigsawHoleModel", "goes", "(I)V"⟩, 65), (⟨"JigsawHoleModel", "dayGoes", "()V"⟩, 65), (⟨"JigsawHoleModel", "isKnock", "()Z"⟩, 65), (⟨"JigsawHoleModel", "lotOf", "(I)I"⟩, 65), (⟨"JigsawHoleModel", "calledAt", "(II)I"⟩, 65), (⟨"JigsawHoleModel", "wouldFit", "(III)Z"⟩, 65), (⟨"JigsawHoleModel", "wayOver", "(II)I"⟩, 65), (⟨"JigsawHoleModel", "isPiece", "(II)Z"⟩, 65), (⟨"JigsawHoleModel", "isRowSet", "(II)Z"⟩, 65), (⟨"JigsawHoleModel", "areRowSets", "(III)Z"⟩, 65)]
theorem lw_r6 : ∀ q ∈ lw_privs_6, lw_okq q := List.forall_mem_cons.mpr ⟨lw_p80, List.forall_mem_cons.mpr ⟨lw_p81, List.forall_mem_cons.mpr ⟨lw_p82, List.forall_mem_cons.mpr ⟨lw_p83, List.forall_mem_cons.mpr ⟨lw_p84, List.forall_mem_cons.mpr ⟨lw_p85, List.forall_mem_cons.mpr ⟨lw_p86, List.forall_mem_cons.mpr ⟨lw_p87, List.forall_mem_cons.mpr ⟨lw_p88, List.forall_mem_cons.mpr ⟨lw_p89, List.forall_mem_cons.mpr ⟨lw_p90, List.forall_mem_cons.mpr ⟨lw_p91, List.forall_mem_cons.mpr ⟨lw_p92, List.forall_mem_cons.mpr ⟨lw_p93, List.forall_mem_cons.mpr ⟨lw_p94, List.forall_mem_cons.mpr ⟨lw_p95, fun _ h => absurd h List.not_mem_nil⟩⟩⟩⟩⟩⟩⟩⟩⟩⟩⟩⟩⟩⟩⟩⟩
theorem lw_p96 : lw_okq (⟨"JigsawHoleModel", "sizeOfPart", "(I)I"⟩, 65) := ⟨⟨by decide +kernel, by decide +kernel⟩, List.mem_of_getElem? (i := 1072) (by decide +kernel), List.mem_of_getElem? (i := 1674) (by decide +kernel), List.mem_of_getElem? (i := 1675) (by decide +kernel)⟩
theorem lw_p97 : lw_okq (⟨"JigsawHoleModel", "isSo", "(II)Z"⟩, 65) := ⟨⟨by decide +kernel, by decide +kernel⟩, List.mem_of_getElem? (i := 1072) (by decide +kernel), List.mem_of_getElem? (i := 1718) (by decide +kernel), List.mem_of_getElem? (i := 1719) (by decide +kernel)⟩
def lw_privs_7 : List (MethodName × Nat) := [(⟨"JigsawHoleModel", "sizeOfPart", "(I)I"⟩, 65), (⟨"JigsawHoleModel", "isSo", "(II)Z"⟩, 65)]
theorem lw_r7 : ∀ q ∈ lw_privs_7, lw_okq q := List.forall_mem_cons.mpr ⟨lw_p96, List.forall_mem_cons.mpr ⟨lw_p97, fun _ h => absurd h List.not_mem_nil⟩⟩
def lw_privs : List (MethodName × Nat) := lw_privs_1 ++ (lw_privs_2 ++ (lw_privs_3 ++ (lw_privs_4 ++ (lw_privs_5 ++ (lw_privs_6 ++ (lw_privs_7))))))
def lw_tbl : List Cond := k2_sels lw_privs ++ tables_1
theorem lw_privs_ok : ∀ q ∈ lw_privs, lw_okq q := by
  show ∀ q ∈ lw_privs_1 ++ (lw_privs_2 ++ (lw_privs_3 ++ (lw_privs_4 ++ (lw_privs_5 ++ (lw_privs_6 ++ (lw_privs_7)))))), lw_okq q
  exact List.forall_mem_append.mpr ⟨lw_r1, List.forall_mem_append.mpr ⟨lw_r2, List.forall_mem_append.mpr ⟨lw_r3, List.forall_mem_append.mpr ⟨lw_r4, List.forall_mem_append.mpr ⟨lw_r5, List.forall_mem_append.mpr ⟨lw_r6, lw_r7⟩⟩⟩⟩⟩⟩
def RX0 : String := "JigsawHole$Board"
def TX0 : u_T := fun k => match k with
  | 0 => ("JigsawHole$Board", "table", "LJigsawHole$Table;", true)
  | _ => ("JigsawHole$Board", "queue", "[I", true)
def tyX0 : Nat → FieldType := fun k => match k with
  | 0 => .object "JigsawHole$Table"
  | _ => .array .int
abbrev wsX00 : List Cond := u_ws RX0 TX0 2
theorem nmX0 : ∀ a, a < 2 → ∀ b, b < 2 → a ≠ b → (TX0 a).2.1 ≠ (TX0 b).2.1 := by decide +kernel
theorem tyX0_ok : ∀ k, k < 2 → parseFieldDescriptor (TX0 k).2.2.1 = some (tyX0 k) := by decide +kernel
def RX1 : String := "JigsawHole$Calendar"
def TX1 : u_T := fun k => match k with
  | 0 => ("JigsawHole$Calendar", "table", "LJigsawHole$Table;", true)
  | 1 => ("JigsawHole$Calendar", "board", "LJigsawHole$Board;", true)
  | _ => ("JigsawHole$Calendar", "rules", "LJigsawHole$Rules;", true)
def tyX1 : Nat → FieldType := fun k => match k with
  | 0 => .object "JigsawHole$Table"
  | 1 => .object "JigsawHole$Board"
  | _ => .object "JigsawHole$Rules"
abbrev wsX10 : List Cond := u_ws RX1 TX1 3
theorem nmX1 : ∀ a, a < 3 → ∀ b, b < 3 → a ≠ b → (TX1 a).2.1 ≠ (TX1 b).2.1 := by decide +kernel
theorem tyX1_ok : ∀ k, k < 3 → parseFieldDescriptor (TX1 k).2.2.1 = some (tyX1 k) := by decide +kernel
def RX2 : String := "JigsawHole$Clues"
def TX2 : u_T := fun k => match k with
  | 0 => ("JigsawHole$Clues", "table", "LJigsawHole$Table;", true)
  | 1 => ("JigsawHole$Clues", "sides", "[I", true)
  | 2 => ("JigsawHole$Clues", "knobs", "[I", true)
  | 3 => ("JigsawHole$Clues", "told", "I", false)
  | _ => ("JigsawHole$Clues", "left", "[I", true)
def tyX2 : Nat → FieldType := fun k => match k with
  | 0 => .object "JigsawHole$Table"
  | 1 => .array .int
  | 2 => .array .int
  | 3 => .int
  | _ => .array .int
abbrev wsX20 : List Cond := u_ws RX2 TX2 5
theorem nmX2 : ∀ a, a < 5 → ∀ b, b < 5 → a ≠ b → (TX2 a).2.1 ≠ (TX2 b).2.1 := by decide +kernel
theorem tyX2_ok : ∀ k, k < 5 → parseFieldDescriptor (TX2 k).2.2.1 = some (tyX2 k) := by decide +kernel
def RX3 : String := "JigsawHole$Laws"
def TX3 : u_T := fun k => match k with
  | 0 => ("JigsawHole$Laws", "code", "[I", true)
  | 1 => ("JigsawHole$Laws", "size", "I", false)
  | 2 => ("JigsawHole$Laws", "starts", "[I", true)
  | 3 => ("JigsawHole$Laws", "vars", "[I", true)
  | _ => ("JigsawHole$Laws", "stack", "[I", true)
def tyX3 : Nat → FieldType := fun k => match k with
  | 0 => .array .int
  | 1 => .int
  | 2 => .array .int
  | 3 => .array .int
  | _ => .array .int
abbrev wsX30 : List Cond := u_ws RX3 TX3 5
theorem nmX3 : ∀ a, a < 5 → ∀ b, b < 5 → a ≠ b → (TX3 a).2.1 ≠ (TX3 b).2.1 := by decide +kernel
theorem tyX3_ok : ∀ k, k < 5 → parseFieldDescriptor (TX3 k).2.2.1 = some (tyX3 k) := by decide +kernel
def RX4 : String := "JigsawHole$Past"
def TX4 : u_T := fun k => match k with
  | 0 => ("JigsawHole$Past", "done", "[LJigsawHole$State;", true)
  | 1 => ("JigsawHole$Past", "undoable", "I", false)
  | 2 => ("JigsawHole$Past", "nextDone", "I", false)
  | 3 => ("JigsawHole$Past", "slots", "[LJigsawHole$State;", true)
  | _ => ("JigsawHole$Past", "filled", "I", false)
def tyX4 : Nat → FieldType := fun k => match k with
  | 0 => .array (.object "JigsawHole$State")
  | 1 => .int
  | 2 => .int
  | 3 => .array (.object "JigsawHole$State")
  | _ => .int
abbrev wsX40 : List Cond := u_ws RX4 TX4 5
theorem nmX4 : ∀ a, a < 5 → ∀ b, b < 5 → a ≠ b → (TX4 a).2.1 ≠ (TX4 b).2.1 := by decide +kernel
theorem tyX4_ok : ∀ k, k < 5 → parseFieldDescriptor (TX4 k).2.2.1 = some (tyX4 k) := by decide +kernel
def RX5 : String := "JigsawHole$Paths"
def TX5 : u_T := fun k => match k with
  | 0 => ("JigsawHole$Paths", "table", "LJigsawHole$Table;", true)
  | 1 => ("JigsawHole$Paths", "board", "LJigsawHole$Board;", true)
  | 2 => ("JigsawHole$Paths", "rules", "LJigsawHole$Rules;", true)
  | 3 => ("JigsawHole$Paths", "sums", "[I", true)
  | 4 => ("JigsawHole$Paths", "open", "I", false)
  | 5 => ("JigsawHole$Paths", "best", "[I", true)
  | _ => ("JigsawHole$Paths", "next", "[I", true)
def tyX5 : Nat → FieldType := fun k => match k with
  | 0 => .object "JigsawHole$Table"
  | 1 => .object "JigsawHole$Board"
  | 2 => .object "JigsawHole$Rules"
  | 3 => .array .int
  | 4 => .int
  | 5 => .array .int
  | _ => .array .int
abbrev wsX50 : List Cond := u_ws RX5 TX5 7
theorem nmX5 : ∀ a, a < 7 → ∀ b, b < 7 → a ≠ b → (TX5 a).2.1 ≠ (TX5 b).2.1 := by decide +kernel
theorem tyX5_ok : ∀ k, k < 7 → parseFieldDescriptor (TX5 k).2.2.1 = some (tyX5 k) := by decide +kernel
def RX6 : String := "JigsawHole$Reader"
def TX6 : u_T := fun k => match k with
  | 0 => ("JigsawHole$Reader", "tape", "LJigsawHole$Tape;", true)
  | 1 => ("JigsawHole$Reader", "draft", "LJigsawHole$Table;", true)
  | 2 => ("JigsawHole$Reader", "at", "I", false)
  | 3 => ("JigsawHole$Reader", "fault", "I", false)
  | 4 => ("JigsawHole$Reader", "faultPlace", "I", false)
  | 5 => ("JigsawHole$Reader", "slight", "I", false)
  | 6 => ("JigsawHole$Reader", "slightPlace", "I", false)
  | 7 => ("JigsawHole$Reader", "knobsTold", "I", false)
  | 8 => ("JigsawHole$Reader", "cellsTold", "I", false)
  | _ => ("JigsawHole$Reader", "spareTokens", "[I", true)
def tyX6 : Nat → FieldType := fun k => match k with
  | 0 => .object "JigsawHole$Tape"
  | 1 => .object "JigsawHole$Table"
  | 2 => .int
  | 3 => .int
  | 4 => .int
  | 5 => .int
  | 6 => .int
  | 7 => .int
  | 8 => .int
  | _ => .array .int
abbrev wsX60 : List Cond := u_ws RX6 TX6 10
theorem nmX6 : ∀ a, a < 10 → ∀ b, b < 10 → a ≠ b → (TX6 a).2.1 ≠ (TX6 b).2.1 := by decide +kernel
theorem tyX6_ok : ∀ k, k < 10 → parseFieldDescriptor (TX6 k).2.2.1 = some (tyX6 k) := by decide +kernel
def RX7 : String := "JigsawHole$Rules"
def TX7 : u_T := fun k => match k with
  | 0 => ("JigsawHole$Rules", "table", "LJigsawHole$Table;", true)
  | 1 => ("JigsawHole$Rules", "board", "LJigsawHole$Board;", true)
  | _ => ("JigsawHole$Rules", "laws", "LJigsawHole$Laws;", true)
def tyX7 : Nat → FieldType := fun k => match k with
  | 0 => .object "JigsawHole$Table"
  | 1 => .object "JigsawHole$Board"
  | _ => .object "JigsawHole$Laws"
abbrev wsX70 : List Cond := u_ws RX7 TX7 3
theorem nmX7 : ∀ a, a < 3 → ∀ b, b < 3 → a ≠ b → (TX7 a).2.1 ≠ (TX7 b).2.1 := by decide +kernel
theorem tyX7_ok : ∀ k, k < 3 → parseFieldDescriptor (TX7 k).2.2.1 = some (tyX7 k) := by decide +kernel
def RX8 : String := "JigsawHole$State"
def TX8 : u_T := fun k => match k with
  | 0 => ("JigsawHole$State", "within", "[I", true)
  | 1 => ("JigsawHole$State", "day", "I", false)
  | 2 => ("JigsawHole$State", "paid", "I", false)
  | _ => ("JigsawHole$State", "took", "I", false)
def tyX8 : Nat → FieldType := fun k => match k with
  | 0 => .array .int
  | 1 => .int
  | 2 => .int
  | _ => .int
abbrev wsX80 : List Cond := u_ws RX8 TX8 4
theorem nmX8 : ∀ a, a < 4 → ∀ b, b < 4 → a ≠ b → (TX8 a).2.1 ≠ (TX8 b).2.1 := by decide +kernel
theorem tyX8_ok : ∀ k, k < 4 → parseFieldDescriptor (TX8 k).2.2.1 = some (tyX8 k) := by decide +kernel
def RX9 : String := "JigsawHole$Table"
def TX9 : u_T := fun k => match k with
  | 0 => ("JigsawHole$Table", "across", "I", false)
  | 1 => ("JigsawHole$Table", "down", "I", false)
  | 2 => ("JigsawHole$Table", "spareCount", "I", false)
  | 3 => ("JigsawHole$Table", "knocks", "I", false)
  | 4 => ("JigsawHole$Table", "seed", "I", false)
  | 5 => ("JigsawHole$Table", "lands", "[I", true)
  | 6 => ("JigsawHole$Table", "knobs", "[I", true)
  | 7 => ("JigsawHole$Table", "spareKnobs", "[I", true)
  | _ => ("JigsawHole$Table", "laws", "LJigsawHole$Laws;", true)
def tyX9 : Nat → FieldType := fun k => match k with
  | 0 => .int
  | 1 => .int
  | 2 => .int
  | 3 => .int
  | 4 => .int
  | 5 => .array .int
  | 6 => .array .int
  | 7 => .array .int
  | _ => .object "JigsawHole$Laws"
abbrev wsX90 : List Cond := u_ws RX9 TX9 9
theorem nmX9 : ∀ a, a < 9 → ∀ b, b < 9 → a ≠ b → (TX9 a).2.1 ≠ (TX9 b).2.1 := by decide +kernel
theorem tyX9_ok : ∀ k, k < 9 → parseFieldDescriptor (TX9 k).2.2.1 = some (tyX9 k) := by decide +kernel
def RX10 : String := "JigsawHole$Tape"
def TX10 : u_T := fun k => match k with
  | 0 => ("JigsawHole$Tape", "bytes", "[B", true)
  | 1 => ("JigsawHole$Tape", "length", "I", false)
  | 2 => ("JigsawHole$Tape", "kinds", "[I", true)
  | 3 => ("JigsawHole$Tape", "places", "[I", true)
  | _ => ("JigsawHole$Tape", "values", "[I", true)
def tyX10 : Nat → FieldType := fun k => match k with
  | 0 => .array .byte
  | 1 => .int
  | 2 => .array .int
  | 3 => .array .int
  | _ => .array .int
abbrev wsX100 : List Cond := u_ws RX10 TX10 5
theorem nmX10 : ∀ a, a < 5 → ∀ b, b < 5 → a ≠ b → (TX10 a).2.1 ≠ (TX10 b).2.1 := by decide +kernel
theorem tyX10_ok : ∀ k, k < 5 → parseFieldDescriptor (TX10 k).2.2.1 = some (tyX10 k) := by decide +kernel
def RX11 : String := "JigsawHole"
def TX11 : u_T := fun k => match k with
  | 0 => ("JigsawHole", "tape", "LJigsawHole$Tape;", true)
  | 1 => ("JigsawHole", "reader", "LJigsawHole$Reader;", true)
  | 2 => ("JigsawHole", "table", "LJigsawHole$Table;", true)
  | 3 => ("JigsawHole", "now", "LJigsawHole$State;", true)
  | 4 => ("JigsawHole", "would", "LJigsawHole$State;", true)
  | 5 => ("JigsawHole", "board", "LJigsawHole$Board;", true)
  | 6 => ("JigsawHole", "rules", "LJigsawHole$Rules;", true)
  | 7 => ("JigsawHole", "paths", "LJigsawHole$Paths;", true)
  | 8 => ("JigsawHole", "calendar", "LJigsawHole$Calendar;", true)
  | 9 => ("JigsawHole", "past", "LJigsawHole$Past;", true)
  | _ => ("JigsawHole", "clues", "LJigsawHole$Clues;", true)
def tyX11 : Nat → FieldType := fun k => match k with
  | 0 => .object "JigsawHole$Tape"
  | 1 => .object "JigsawHole$Reader"
  | 2 => .object "JigsawHole$Table"
  | 3 => .object "JigsawHole$State"
  | 4 => .object "JigsawHole$State"
  | 5 => .object "JigsawHole$Board"
  | 6 => .object "JigsawHole$Rules"
  | 7 => .object "JigsawHole$Paths"
  | 8 => .object "JigsawHole$Calendar"
  | 9 => .object "JigsawHole$Past"
  | _ => .object "JigsawHole$Clues"
abbrev wsX110 : List Cond := u_ws RX11 TX11 11
theorem nmX11 : ∀ a, a < 11 → ∀ b, b < 11 → a ≠ b → (TX11 a).2.1 ≠ (TX11 b).2.1 := by decide +kernel
theorem tyX11_ok : ∀ k, k < 11 → parseFieldDescriptor (TX11 k).2.2.1 = some (tyX11 k) := by decide +kernel
def RX12 : String := "JigsawHoleModel"
def TX12 : u_T := fun k => match k with
  | 0 => ("JigsawHoleModel", "thrown", "I", false)
  | 1 => ("JigsawHoleModel", "tape", "[B", true)
  | 2 => ("JigsawHoleModel", "taped", "I", false)
  | 3 => ("JigsawHoleModel", "text", "[B", true)
  | 4 => ("JigsawHoleModel", "size", "I", false)
  | 5 => ("JigsawHoleModel", "tKind", "[I", true)
  | 6 => ("JigsawHoleModel", "tPlace", "[I", true)
  | 7 => ("JigsawHoleModel", "tValue", "[I", true)
  | 8 => ("JigsawHoleModel", "tName", "[J", true)
  | 9 => ("JigsawHoleModel", "keys", "[J", true)
  | 10 => ("JigsawHoleModel", "tokens", "I", false)
  | 11 => ("JigsawHoleModel", "t", "I", false)
  | 12 => ("JigsawHoleModel", "open", "I", false)
  | 13 => ("JigsawHoleModel", "fault", "I", false)
  | 14 => ("JigsawHoleModel", "faultPlace", "I", false)
  | 15 => ("JigsawHoleModel", "worst", "I", false)
  | 16 => ("JigsawHoleModel", "worstPlace", "I", false)
  | 17 => ("JigsawHoleModel", "place", "I", false)
  | 18 => ("JigsawHoleModel", "live", "I", false)
  | 19 => ("JigsawHoleModel", "side", "I", false)
  | 20 => ("JigsawHoleModel", "names", "I", false)
  | 21 => ("JigsawHoleModel", "nameOf", "[J", true)
  | 22 => ("JigsawHoleModel", "width", "[I", true)
  | 23 => ("JigsawHoleModel", "rows", "[I", true)
  | 24 => ("JigsawHoleModel", "landTold", "[I", true)
  | 25 => ("JigsawHoleModel", "knobTold", "[I", true)
  | 26 => ("JigsawHoleModel", "knobs", "[I", true)
  | 27 => ("JigsawHoleModel", "knobAt", "[I", true)
  | 28 => ("JigsawHoleModel", "spareMany", "[I", true)
  | 29 => ("JigsawHoleModel", "spareOf", "[I", true)
  | 30 => ("JigsawHoleModel", "knocks", "[I", true)
  | 31 => ("JigsawHoleModel", "seed", "[I", true)
  | 32 => ("JigsawHoleModel", "lawFirst", "[I", true)
  | 33 => ("JigsawHoleModel", "lawLast", "[I", true)
  | 34 => ("JigsawHoleModel", "branches", "I", false)
  | 35 => ("JigsawHoleModel", "hasTest", "[Z", true)
  | 36 => ("JigsawHoleModel", "testFrom", "[I", true)
  | 37 => ("JigsawHoleModel", "testMid", "[I", true)
  | 38 => ("JigsawHoleModel", "testTo", "[I", true)
  | 39 => ("JigsawHoleModel", "termTo", "[I", true)
  | 40 => ("JigsawHoleModel", "codes", "I", false)
  | 41 => ("JigsawHoleModel", "code", "[I", true)
  | 42 => ("JigsawHoleModel", "codeInt", "[I", true)
  | 43 => ("JigsawHoleModel", "waits", "[I", true)
  | 44 => ("JigsawHoleModel", "waiting", "I", false)
  | 45 => ("JigsawHoleModel", "variables", "[I", true)
  | 46 => ("JigsawHoleModel", "pile", "[I", true)
  | 47 => ("JigsawHoleModel", "isBroken", "Z", false)
  | 48 => ("JigsawHoleModel", "now", "[I", true)
  | 49 => ("JigsawHoleModel", "row", "[I", true)
  | 50 => ("JigsawHoleModel", "lots", "I", false)
  | 51 => ("JigsawHoleModel", "partOf", "[I", true)
  | 52 => ("JigsawHoleModel", "parts", "I", false)
  | 53 => ("JigsawHoleModel", "wentNow", "[Z", true)
  | 54 => ("JigsawHoleModel", "undos", "I", false)
  | 55 => ("JigsawHoleModel", "history", "[I", true)
  | 56 => ("JigsawHoleModel", "farOf", "[I", true)
  | 57 => ("JigsawHoleModel", "mostBy", "[I", true)
  | 58 => ("JigsawHoleModel", "mostThen", "[I", true)
  | 59 => ("JigsawHoleModel", "tolds", "I", false)
  | 60 => ("JigsawHoleModel", "toldSide", "[I", true)
  | 61 => ("JigsawHoleModel", "toldKnobs", "[I", true)
  | 62 => ("JigsawHoleModel", "waysBy", "[I", true)
  | 63 => ("JigsawHoleModel", "isHeld", "[Z", true)
  | _ => ("JigsawHoleModel", "heldRows", "[I", true)
def tyX12 : Nat → FieldType := fun k => match k with
  | 0 => .int
  | 1 => .array .byte
  | 2 => .int
  | 3 => .array .byte
  | 4 => .int
  | 5 => .array .int
  | 6 => .array .int
  | 7 => .array .int
  | 8 => .array .long
  | 9 => .array .long
  | 10 => .int
  | 11 => .int
  | 12 => .int
  | 13 => .int
  | 14 => .int
  | 15 => .int
  | 16 => .int
  | 17 => .int
  | 18 => .int
  | 19 => .int
  | 20 => .int
  | 21 => .array .long
  | 22 => .array .int
  | 23 => .array .int
  | 24 => .array .int
  | 25 => .array .int
  | 26 => .array .int
  | 27 => .array .int
  | 28 => .array .int
  | 29 => .array .int
  | 30 => .array .int
  | 31 => .array .int
  | 32 => .array .int
  | 33 => .array .int
  | 34 => .int
  | 35 => .array .boolean
  | 36 => .array .int
  | 37 => .array .int
  | 38 => .array .int
  | 39 => .array .int
  | 40 => .int
  | 41 => .array .int
  | 42 => .array .int
  | 43 => .array .int
  | 44 => .int
  | 45 => .array .int
  | 46 => .array .int
  | 47 => .boolean
  | 48 => .array .int
  | 49 => .array .int
  | 50 => .int
  | 51 => .array .int
  | 52 => .int
  | 53 => .array .boolean
  | 54 => .int
  | 55 => .array .int
  | 56 => .array .int
  | 57 => .array .int
  | 58 => .array .int
  | 59 => .int
  | 60 => .array .int
  | 61 => .array .int
  | 62 => .array .int
  | 63 => .array .boolean
  | _ => .array .int
abbrev wsX120 : List Cond := u_ws RX12 TX12 65
theorem nmX12 : ∀ a, a < 65 → ∀ b, b < 65 → a ≠ b → (TX12 a).2.1 ≠ (TX12 b).2.1 := by decide +kernel
theorem tyX12_ok : ∀ k, k < 65 → parseFieldDescriptor (TX12 k).2.2.1 = some (tyX12 k) := by decide +kernel
abbrev vwCl : List vw_C := [(RX0, TX0, 2), (RX1, TX1, 3), (RX2, TX2, 5), (RX3, TX3, 5), (RX4, TX4, 5), (RX5, TX5, 7), (RX6, TX6, 10), (RX7, TX7, 3), (RX8, TX8, 4), (RX9, TX9, 9), (RX10, TX10, 5), (RX11, TX11, 11), (RX12, TX12, 65)]
