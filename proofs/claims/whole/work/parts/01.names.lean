-- ===== PART A: goes FIRST, ahead of the names: the tables' words, and 'selects' of the private methods out of them =====
/-- a private method of a class that the tables say can be made, by its rows of tables_1 -/
def lw_okq (q : MethodName × Nat) : Prop := (q.1.cls ≠ "java/lang/invoke/MethodHandle" ∧ q.1.cls ≠ "java/lang/invoke/VarHandle") ∧ Cond.instantiable q.1.cls q.2 ∈ tables_1 ∧ Cond.privateMethod q.1 ∈ tables_1 ∧ Cond.instanceMethod q.1 ∈ tables_1
theorem lw_p0 : lw_okq (⟨"SamovarOpinions$Tape", "byteAt", "(I)I"⟩, 5) := ⟨⟨by decide +kernel, by decide +kernel⟩, List.mem_of_getElem? (i := 82) (by decide +kernel), List.mem_of_getElem? (i := 387) (by decide +kernel), List.mem_of_getElem? (i := 388) (by decide +kernel)⟩
theorem lw_p1 : lw_okq (⟨"SamovarOpinions$Tape", "wordFromHere", "()I"⟩, 5) := ⟨⟨by decide +kernel, by decide +kernel⟩, List.mem_of_getElem? (i := 82) (by decide +kernel), List.mem_of_getElem? (i := 397) (by decide +kernel), List.mem_of_getElem? (i := 398) (by decide +kernel)⟩
theorem lw_p2 : lw_okq (⟨"SamovarOpinions$Tape", "isWord", "(Ljava/lang/String;)Z"⟩, 5) := ⟨⟨by decide +kernel, by decide +kernel⟩, List.mem_of_getElem? (i := 82) (by decide +kernel), List.mem_of_getElem? (i := 402) (by decide +kernel), List.mem_of_getElem? (i := 403) (by decide +kernel)⟩
theorem lw_p3 : lw_okq (⟨"SamovarOpinions$Tape", "numberFromHere", "()I"⟩, 5) := ⟨⟨by decide +kernel, by decide +kernel⟩, List.mem_of_getElem? (i := 82) (by decide +kernel), List.mem_of_getElem? (i := 422) (by decide +kernel), List.mem_of_getElem? (i := 423) (by decide +kernel)⟩
theorem lw_p4 : lw_okq (⟨"SamovarOpinions$Reader", "readPart", "(I)Z"⟩, 2) := ⟨⟨by decide +kernel, by decide +kernel⟩, List.mem_of_getElem? (i := 135) (by decide +kernel), List.mem_of_getElem? (i := 429) (by decide +kernel), List.mem_of_getElem? (i := 430) (by decide +kernel)⟩
theorem lw_p5 : lw_okq (⟨"SamovarOpinions$Reader", "readToken", "(I)Z"⟩, 2) := ⟨⟨by decide +kernel, by decide +kernel⟩, List.mem_of_getElem? (i := 135) (by decide +kernel), List.mem_of_getElem? (i := 437) (by decide +kernel), List.mem_of_getElem? (i := 438) (by decide +kernel)⟩
theorem lw_p6 : lw_okq (⟨"SamovarOpinions$Reader", "readOr", "(I)Z"⟩, 2) := ⟨⟨by decide +kernel, by decide +kernel⟩, List.mem_of_getElem? (i := 135) (by decide +kernel), List.mem_of_getElem? (i := 442) (by decide +kernel), List.mem_of_getElem? (i := 443) (by decide +kernel)⟩
theorem lw_p7 : lw_okq (⟨"SamovarOpinions$Reader", "readAnd", "(I)Z"⟩, 2) := ⟨⟨by decide +kernel, by decide +kernel⟩, List.mem_of_getElem? (i := 135) (by decide +kernel), List.mem_of_getElem? (i := 446) (by decide +kernel), List.mem_of_getElem? (i := 447) (by decide +kernel)⟩
theorem lw_p8 : lw_okq (⟨"SamovarOpinions$Reader", "readNot", "(I)Z"⟩, 2) := ⟨⟨by decide +kernel, by decide +kernel⟩, List.mem_of_getElem? (i := 135) (by decide +kernel), List.mem_of_getElem? (i := 450) (by decide +kernel), List.mem_of_getElem? (i := 451) (by decide +kernel)⟩
theorem lw_p9 : lw_okq (⟨"SamovarOpinions$Reader", "readSum", "(I)Z"⟩, 2) := ⟨⟨by decide +kernel, by decide +kernel⟩, List.mem_of_getElem? (i := 135) (by decide +kernel), List.mem_of_getElem? (i := 458) (by decide +kernel), List.mem_of_getElem? (i := 459) (by decide +kernel)⟩
theorem lw_p10 : lw_okq (⟨"SamovarOpinions$Reader", "readTerm", "(I)Z"⟩, 2) := ⟨⟨by decide +kernel, by decide +kernel⟩, List.mem_of_getElem? (i := 135) (by decide +kernel), List.mem_of_getElem? (i := 462) (by decide +kernel), List.mem_of_getElem? (i := 463) (by decide +kernel)⟩
theorem lw_p11 : lw_okq (⟨"SamovarOpinions$Reader", "readOne", "(I)Z"⟩, 2) := ⟨⟨by decide +kernel, by decide +kernel⟩, List.mem_of_getElem? (i := 135) (by decide +kernel), List.mem_of_getElem? (i := 466) (by decide +kernel), List.mem_of_getElem? (i := 467) (by decide +kernel)⟩
theorem lw_p12 : lw_okq (⟨"SamovarOpinions$Samovar", "rowOf", "(I)[I"⟩, 10) := ⟨⟨by decide +kernel, by decide +kernel⟩, List.mem_of_getElem? (i := 27) (by decide +kernel), List.mem_of_getElem? (i := 529) (by decide +kernel), List.mem_of_getElem? (i := 530) (by decide +kernel)⟩
theorem lw_p13 : lw_okq (⟨"SamovarOpinions$Remark", "isAgain", "()Z"⟩, 9) := ⟨⟨by decide +kernel, by decide +kernel⟩, List.mem_of_getElem? (i := 156) (by decide +kernel), List.mem_of_getElem? (i := 594) (by decide +kernel), List.mem_of_getElem? (i := 595) (by decide +kernel)⟩
theorem lw_p14 : lw_okq (⟨"SamovarOpinions", "sheetOf", "(I)LSamovarOpinions$Sheet;"⟩, 10) := ⟨⟨by decide +kernel, by decide +kernel⟩, List.mem_of_getElem? (i := 19) (by decide +kernel), List.mem_of_getElem? (i := 624) (by decide +kernel), List.mem_of_getElem? (i := 625) (by decide +kernel)⟩
theorem lw_p15 : lw_okq (⟨"SamovarOpinions$Best", "seekWarmestBehind", "(III)V"⟩, 7) := ⟨⟨by decide +kernel, by decide +kernel⟩, List.mem_of_getElem? (i := 231) (by decide +kernel), List.mem_of_getElem? (i := 676) (by decide +kernel), List.mem_of_getElem? (i := 677) (by decide +kernel)⟩
def lw_privs_1 : List (MethodName × Nat) := [(⟨"SamovarOpinions$Tape", "byteAt", "(I)I"⟩, 5), (⟨"SamovarOpinions$Tape", "wordFromHere", "()I"⟩, 5), (⟨"SamovarOpinions$Tape", "isWord", "(Ljava/lang/String;)Z"⟩, 5), (⟨"SamovarOpinions$Tape", "numberFromHere", "()I"⟩, 5), (⟨"SamovarOpinions$Reader", "readPart", "(I)Z"⟩, 2), (⟨"SamovarOpinions$Reader", "readToken", "(I)Z"⟩, 2), (⟨"SamovarOpinions$Reader", "readOr", "(I)Z"⟩, 2), (⟨"SamovarOpinions$Reader", "readAnd", "(I)Z"⟩, 2), (⟨"SamovarOpinions$Reader", "readNot", "(I)Z"⟩, 2), (⟨"SamovarOpinions$Reader", "readSum", "(I)Z"⟩, 2), (⟨"SamovarOpinions$Reader", "readTerm", "(I)Z"⟩, 2), (⟨"SamovarOpinions$Reader", "readOne", "(I)Z"⟩, 2), (⟨"SamovarOpinions$Samovar", "rowOf", "(I)[I"⟩, 10), (⟨"SamovarOpinions$Remark", "isAgain", "()Z"⟩, 9), (⟨"SamovarOpinions", "sheetOf", "(I)LSamovarOpinions$Sheet;"⟩, 10), (⟨"SamovarOpinions$Best", "seekWarmestBehind", "(III)V"⟩, 7)]
theorem lw_r1 : ∀ q ∈ lw_privs_1, lw_okq q := List.forall_mem_cons.mpr ⟨lw_p0, List.forall_mem_cons.mpr ⟨lw_p1, List.forall_mem_cons.mpr ⟨lw_p2, List.forall_mem_cons.mpr ⟨lw_p3, List.forall_mem_cons.mpr ⟨lw_p4, List.forall_mem_cons.mpr ⟨lw_p5, List.forall_mem_cons.mpr ⟨lw_p6, List.forall_mem_cons.mpr ⟨lw_p7, List.forall_mem_cons.mpr ⟨lw_p8, List.forall_mem_cons.mpr ⟨lw_p9, List.forall_mem_cons.mpr ⟨lw_p10, List.forall_mem_cons.mpr ⟨lw_p11, List.forall_mem_cons.mpr ⟨lw_p12, List.forall_mem_cons.mpr ⟨lw_p13, List.forall_mem_cons.mpr ⟨lw_p14, List.forall_mem_cons.mpr ⟨lw_p15, fun _ h => absurd h List.not_mem_nil⟩⟩⟩⟩⟩⟩⟩⟩⟩⟩⟩⟩⟩⟩⟩⟩
theorem lw_p16 : lw_okq (⟨"SamovarOpinions$Best", "seekSoonestBehind", "(I)V"⟩, 7) := ⟨⟨by decide +kernel, by decide +kernel⟩, List.mem_of_getElem? (i := 231) (by decide +kernel), List.mem_of_getElem? (i := 698) (by decide +kernel), List.mem_of_getElem? (i := 699) (by decide +kernel)⟩
theorem lw_p17 : lw_okq (⟨"SamovarOpinions$Best", "isSooner", "(I)Z"⟩, 7) := ⟨⟨by decide +kernel, by decide +kernel⟩, List.mem_of_getElem? (i := 231) (by decide +kernel), List.mem_of_getElem? (i := 702) (by decide +kernel), List.mem_of_getElem? (i := 703) (by decide +kernel)⟩
theorem lw_p18 : lw_okq (⟨"SamovarOpinions$Best", "warmthByTurns", "(I)I"⟩, 7) := ⟨⟨by decide +kernel, by decide +kernel⟩, List.mem_of_getElem? (i := 231) (by decide +kernel), List.mem_of_getElem? (i := 728) (by decide +kernel), List.mem_of_getElem? (i := 729) (by decide +kernel)⟩
theorem lw_p19 : lw_okq (⟨"SamovarOpinions", "mayBeAskedOfTold", "(I)Z"⟩, 10) := ⟨⟨by decide +kernel, by decide +kernel⟩, List.mem_of_getElem? (i := 19) (by decide +kernel), List.mem_of_getElem? (i := 736) (by decide +kernel), List.mem_of_getElem? (i := 737) (by decide +kernel)⟩
theorem lw_p20 : lw_okq (⟨"SamovarOpinions$Recall", "seekWaysBehind", "(ILSamovarOpinions$Sheet;)V"⟩, 7) := ⟨⟨by decide +kernel, by decide +kernel⟩, List.mem_of_getElem? (i := 264) (by decide +kernel), List.mem_of_getElem? (i := 764) (by decide +kernel), List.mem_of_getElem? (i := 765) (by decide +kernel)⟩
theorem lw_p21 : lw_okq (⟨"SamovarOpinions$Recall", "noteWay", "()V"⟩, 7) := ⟨⟨by decide +kernel, by decide +kernel⟩, List.mem_of_getElem? (i := 264) (by decide +kernel), List.mem_of_getElem? (i := 768) (by decide +kernel), List.mem_of_getElem? (i := 769) (by decide +kernel)⟩
theorem lw_p22 : lw_okq (⟨"SamovarOpinionsModel", "spell", "(IIIIIIIII)V"⟩, 48) := ⟨⟨by decide +kernel, by decide +kernel⟩, List.mem_of_getElem? (i := 871) (by decide +kernel), List.mem_of_getElem? (i := 877) (by decide +kernel), List.mem_of_getElem? (i := 878) (by decide +kernel)⟩
theorem lw_p23 : lw_okq (⟨"SamovarOpinionsModel", "isOne", "(I)Z"⟩, 48) := ⟨⟨by decide +kernel, by decide +kernel⟩, List.mem_of_getElem? (i := 871) (by decide +kernel), List.mem_of_getElem? (i := 1033) (by decide +kernel), List.mem_of_getElem? (i := 1034) (by decide +kernel)⟩
theorem lw_p24 : lw_okq (⟨"SamovarOpinionsModel", "begins", "()V"⟩, 48) := ⟨⟨by decide +kernel, by decide +kernel⟩, List.mem_of_getElem? (i := 871) (by decide +kernel), List.mem_of_getElem? (i := 1045) (by decide +kernel), List.mem_of_getElem? (i := 1046) (by decide +kernel)⟩
theorem lw_p25 : lw_okq (⟨"SamovarOpinionsModel", "looks", "(II)V"⟩, 48) := ⟨⟨by decide +kernel, by decide +kernel⟩, List.mem_of_getElem? (i := 871) (by decide +kernel), List.mem_of_getElem? (i := 1049) (by decide +kernel), List.mem_of_getElem? (i := 1050) (by decide +kernel)⟩
theorem lw_p26 : lw_okq (⟨"SamovarOpinionsModel", "topicOf", "(I)I"⟩, 48) := ⟨⟨by decide +kernel, by decide +kernel⟩, List.mem_of_getElem? (i := 871) (by decide +kernel), List.mem_of_getElem? (i := 1053) (by decide +kernel), List.mem_of_getElem? (i := 1054) (by decide +kernel)⟩
theorem lw_p27 : lw_okq (⟨"SamovarOpinionsModel", "warmsOf", "(IZ)I"⟩, 48) := ⟨⟨by decide +kernel, by decide +kernel⟩, List.mem_of_getElem? (i := 871) (by decide +kernel), List.mem_of_getElem? (i := 1057) (by decide +kernel), List.mem_of_getElem? (i := 1058) (by decide +kernel)⟩
theorem lw_p28 : lw_okq (⟨"SamovarOpinionsModel", "read", "(II)I"⟩, 48) := ⟨⟨by decide +kernel, by decide +kernel⟩, List.mem_of_getElem? (i := 871) (by decide +kernel), List.mem_of_getElem? (i := 1061) (by decide +kernel), List.mem_of_getElem? (i := 1062) (by decide +kernel)⟩
theorem lw_p29 : lw_okq (⟨"SamovarOpinionsModel", "next", "()V"⟩, 48) := ⟨⟨by decide +kernel, by decide +kernel⟩, List.mem_of_getElem? (i := 871) (by decide +kernel), List.mem_of_getElem? (i := 1065) (by decide +kernel), List.mem_of_getElem? (i := 1066) (by decide +kernel)⟩
theorem lw_p30 : lw_okq (⟨"SamovarOpinionsModel", "byteAt", "(I)I"⟩, 48) := ⟨⟨by decide +kernel, by decide +kernel⟩, List.mem_of_getElem? (i := 871) (by decide +kernel), List.mem_of_getElem? (i := 1069) (by decide +kernel), List.mem_of_getElem? (i := 1070) (by decide +kernel)⟩
theorem lw_p31 : lw_okq (⟨"SamovarOpinionsModel", "isWord", "(IIIIIIII)Z"⟩, 48) := ⟨⟨by decide +kernel, by decide +kernel⟩, List.mem_of_getElem? (i := 871) (by decide +kernel), List.mem_of_getElem? (i := 1078) (by decide +kernel), List.mem_of_getElem? (i := 1079) (by decide +kernel)⟩
def lw_privs_2 : List (MethodName × Nat) := [(⟨"SamovarOpinions$Best", "seekSoonestBehind", "(I)V"⟩, 7), (⟨"SamovarOpinions$Best", "isSooner", "(I)Z"⟩, 7), (⟨"SamovarOpinions$Best", "warmthByTurns", "(I)I"⟩, 7), (⟨"SamovarOpinions", "mayBeAskedOfTold", "(I)Z"⟩, 10), (⟨"SamovarOpinions$Recall", "seekWaysBehind", "(ILSamovarOpinions$Sheet;)V"⟩, 7), (⟨"SamovarOpinions$Recall", "noteWay", "()V"⟩, 7), (⟨"SamovarOpinionsModel", "spell", "(IIIIIIIII)V"⟩, 48), (⟨"SamovarOpinionsModel", "isOne", "(I)Z"⟩, 48), (⟨"SamovarOpinionsModel", "begins", "()V"⟩, 48), (⟨"SamovarOpinionsModel", "looks", "(II)V"⟩, 48), (⟨"SamovarOpinionsModel", "topicOf", "(I)I"⟩, 48), (⟨"SamovarOpinionsModel", "warmsOf", "(IZ)I"⟩, 48), (⟨"SamovarOpinionsModel", "read", "(II)I"⟩, 48), (⟨"SamovarOpinionsModel", "next", "()V"⟩, 48), (⟨"SamovarOpinionsModel", "byteAt", "(I)I"⟩, 48), (⟨"SamovarOpinionsModel", "isWord", "(IIIIIIII)Z"⟩, 48)]
theorem lw_r2 : ∀ q ∈ lw_privs_2, lw_okq q := List.forall_mem_cons.mpr ⟨lw_p16, List.forall_mem_cons.mpr ⟨lw_p17, List.forall_mem_cons.mpr ⟨lw_p18, List.forall_mem_cons.mpr ⟨lw_p19, List.forall_mem_cons.mpr ⟨lw_p20, List.forall_mem_cons.mpr ⟨lw_p21, List.forall_mem_cons.mpr ⟨lw_p22, List.forall_mem_cons.mpr ⟨lw_p23, List.forall_mem_cons.mpr ⟨lw_p24, List.forall_mem_cons.mpr ⟨lw_p25, List.forall_mem_cons.mpr ⟨lw_p26, List.forall_mem_cons.mpr ⟨lw_p27, List.forall_mem_cons.mpr ⟨lw_p28, List.forall_mem_cons.mpr ⟨lw_p29, List.forall_mem_cons.mpr ⟨lw_p30, List.forall_mem_cons.mpr ⟨lw_p31, fun _ h => absurd h List.not_mem_nil⟩⟩⟩⟩⟩⟩⟩⟩⟩⟩⟩⟩⟩⟩⟩⟩
theorem lw_p32 : lw_okq (⟨"SamovarOpinionsModel", "isLetter", "(II)Z"⟩, 48) := ⟨⟨by decide +kernel, by decide +kernel⟩, List.mem_of_getElem? (i := 871) (by decide +kernel), List.mem_of_getElem? (i := 1082) (by decide +kernel), List.mem_of_getElem? (i := 1083) (by decide +kernel)⟩
theorem lw_p33 : lw_okq (⟨"SamovarOpinionsModel", "part", "(Z)I"⟩, 48) := ⟨⟨by decide +kernel, by decide +kernel⟩, List.mem_of_getElem? (i := 871) (by decide +kernel), List.mem_of_getElem? (i := 1086) (by decide +kernel), List.mem_of_getElem? (i := 1087) (by decide +kernel)⟩
theorem lw_p34 : lw_okq (⟨"SamovarOpinionsModel", "fail", "()V"⟩, 48) := ⟨⟨by decide +kernel, by decide +kernel⟩, List.mem_of_getElem? (i := 871) (by decide +kernel), List.mem_of_getElem? (i := 1090) (by decide +kernel), List.mem_of_getElem? (i := 1091) (by decide +kernel)⟩
theorem lw_p35 : lw_okq (⟨"SamovarOpinionsModel", "either", "()I"⟩, 48) := ⟨⟨by decide +kernel, by decide +kernel⟩, List.mem_of_getElem? (i := 871) (by decide +kernel), List.mem_of_getElem? (i := 1094) (by decide +kernel), List.mem_of_getElem? (i := 1095) (by decide +kernel)⟩
theorem lw_p36 : lw_okq (⟨"SamovarOpinionsModel", "both", "()I"⟩, 48) := ⟨⟨by decide +kernel, by decide +kernel⟩, List.mem_of_getElem? (i := 871) (by decide +kernel), List.mem_of_getElem? (i := 1098) (by decide +kernel), List.mem_of_getElem? (i := 1099) (by decide +kernel)⟩
theorem lw_p37 : lw_okq (⟨"SamovarOpinionsModel", "not", "()I"⟩, 48) := ⟨⟨by decide +kernel, by decide +kernel⟩, List.mem_of_getElem? (i := 871) (by decide +kernel), List.mem_of_getElem? (i := 1102) (by decide +kernel), List.mem_of_getElem? (i := 1103) (by decide +kernel)⟩
theorem lw_p38 : lw_okq (⟨"SamovarOpinionsModel", "opens", "()Z"⟩, 48) := ⟨⟨by decide +kernel, by decide +kernel⟩, List.mem_of_getElem? (i := 871) (by decide +kernel), List.mem_of_getElem? (i := 1106) (by decide +kernel), List.mem_of_getElem? (i := 1107) (by decide +kernel)⟩
theorem lw_p39 : lw_okq (⟨"SamovarOpinionsModel", "added", "()I"⟩, 48) := ⟨⟨by decide +kernel, by decide +kernel⟩, List.mem_of_getElem? (i := 871) (by decide +kernel), List.mem_of_getElem? (i := 1110) (by decide +kernel), List.mem_of_getElem? (i := 1111) (by decide +kernel)⟩
theorem lw_p40 : lw_okq (⟨"SamovarOpinionsModel", "term", "()I"⟩, 48) := ⟨⟨by decide +kernel, by decide +kernel⟩, List.mem_of_getElem? (i := 871) (by decide +kernel), List.mem_of_getElem? (i := 1114) (by decide +kernel), List.mem_of_getElem? (i := 1115) (by decide +kernel)⟩
theorem lw_p41 : lw_okq (⟨"SamovarOpinionsModel", "atom", "()I"⟩, 48) := ⟨⟨by decide +kernel, by decide +kernel⟩, List.mem_of_getElem? (i := 871) (by decide +kernel), List.mem_of_getElem? (i := 1118) (by decide +kernel), List.mem_of_getElem? (i := 1119) (by decide +kernel)⟩
theorem lw_p42 : lw_okq (⟨"SamovarOpinionsModel", "isSign", "(I)Z"⟩, 48) := ⟨⟨by decide +kernel, by decide +kernel⟩, List.mem_of_getElem? (i := 871) (by decide +kernel), List.mem_of_getElem? (i := 1122) (by decide +kernel), List.mem_of_getElem? (i := 1123) (by decide +kernel)⟩
theorem lw_p43 : lw_okq (⟨"SamovarOpinionsModel", "name", "()I"⟩, 48) := ⟨⟨by decide +kernel, by decide +kernel⟩, List.mem_of_getElem? (i := 871) (by decide +kernel), List.mem_of_getElem? (i := 1126) (by decide +kernel), List.mem_of_getElem? (i := 1127) (by decide +kernel)⟩
theorem lw_p44 : lw_okq (⟨"SamovarOpinionsModel", "coolsOf", "(IZ)I"⟩, 48) := ⟨⟨by decide +kernel, by decide +kernel⟩, List.mem_of_getElem? (i := 871) (by decide +kernel), List.mem_of_getElem? (i := 1135) (by decide +kernel), List.mem_of_getElem? (i := 1136) (by decide +kernel)⟩
theorem lw_p45 : lw_okq (⟨"SamovarOpinionsModel", "lays", "(III)V"⟩, 48) := ⟨⟨by decide +kernel, by decide +kernel⟩, List.mem_of_getElem? (i := 871) (by decide +kernel), List.mem_of_getElem? (i := 1139) (by decide +kernel), List.mem_of_getElem? (i := 1140) (by decide +kernel)⟩
theorem lw_p46 : lw_okq (⟨"SamovarOpinionsModel", "isOrder", "(I)Z"⟩, 48) := ⟨⟨by decide +kernel, by decide +kernel⟩, List.mem_of_getElem? (i := 871) (by decide +kernel), List.mem_of_getElem? (i := 1172) (by decide +kernel), List.mem_of_getElem? (i := 1173) (by decide +kernel)⟩
theorem lw_p47 : lw_okq (⟨"SamovarOpinionsModel", "goes", "(I)V"⟩, 48) := ⟨⟨by decide +kernel, by decide +kernel⟩, List.mem_of_getElem? (i := 871) (by decide +kernel), List.mem_of_getElem? (i := 1176) (by decide +kernel), List.mem_of_getElem? (i := 1177) (by decide +kernel)⟩
def lw_privs_3 : List (MethodName × Nat) := [(⟨"SamovarOpinionsModel", "isLetter", "(II)Z"⟩, 48), (⟨"SamovarOpinionsModel", "part", "(Z)I"⟩, 48), (⟨"SamovarOpinionsModel", "fail", "()V"⟩, 48), (⟨"SamovarOpinionsModel", "either", "()I"⟩, 48), (⟨"SamovarOpinionsModel", "both", "()I"⟩, 48), (⟨"SamovarOpinionsModel", "not", "()I"⟩, 48), (⟨"SamovarOpinionsModel", "opens", "()Z"⟩, 48), (⟨"SamovarOpinionsModel", "added", "()I"⟩, 48), (⟨"SamovarOpinionsModel", "term", "()I"⟩, 48), (⟨"SamovarOpinionsModel", "atom", "()I"⟩, 48), (⟨"SamovarOpinionsModel", "isSign", "(I)Z"⟩, 48), (⟨"SamovarOpinionsModel", "name", "()I"⟩, 48), (⟨"SamovarOpinionsModel", "coolsOf", "(IZ)I"⟩, 48), (⟨"SamovarOpinionsModel", "lays", "(III)V"⟩, 48), (⟨"SamovarOpinionsModel", "isOrder", "(I)Z"⟩, 48), (⟨"SamovarOpinionsModel", "goes", "(I)V"⟩, 48)]
theorem lw_r3 : ∀ q ∈ lw_privs_3, lw_okq q := List.forall_mem_cons.mpr ⟨lw_p32, List.forall_mem_cons.mpr ⟨lw_p33, List.forall_mem_cons.mpr ⟨lw_p34, List.forall_mem_cons.mpr ⟨lw_p35, List.forall_mem_cons.mpr ⟨lw_p36, List.forall_mem_cons.mpr ⟨lw_p37, List.forall_mem_cons.mpr ⟨lw_p38, List.forall_mem_cons.mpr ⟨lw_p39, List.forall_mem_cons.mpr ⟨lw_p40, List.forall_mem_cons.mpr ⟨lw_p41, List.forall_mem_cons.mpr ⟨lw_p42, List.forall_mem_cons.mpr ⟨lw_p43, List.forall_mem_cons.mpr ⟨lw_p44, List.forall_mem_cons.mpr ⟨lw_p45, List.forall_mem_cons.mpr ⟨lw_p46, List.forall_mem_cons.mpr ⟨lw_p47, fun _ h => absurd h List.not_mem_nil⟩⟩⟩⟩⟩⟩⟩⟩⟩⟩⟩⟩⟩⟩⟩⟩
theorem lw_p48 : lw_okq (⟨"SamovarOpinionsModel", "comes", "(II)V"⟩, 48) := ⟨⟨by decide +kernel, by decide +kernel⟩, List.mem_of_getElem? (i := 871) (by decide +kernel), List.mem_of_getElem? (i := 1180) (by decide +kernel), List.mem_of_getElem? (i := 1181) (by decide +kernel)⟩
theorem lw_p49 : lw_okq (⟨"SamovarOpinionsModel", "boilsAt", "(I)I"⟩, 48) := ⟨⟨by decide +kernel, by decide +kernel⟩, List.mem_of_getElem? (i := 871) (by decide +kernel), List.mem_of_getElem? (i := 1184) (by decide +kernel), List.mem_of_getElem? (i := 1185) (by decide +kernel)⟩
theorem lw_p50 : lw_okq (⟨"SamovarOpinionsModel", "screamsTill", "(I)I"⟩, 48) := ⟨⟨by decide +kernel, by decide +kernel⟩, List.mem_of_getElem? (i := 871) (by decide +kernel), List.mem_of_getElem? (i := 1188) (by decide +kernel), List.mem_of_getElem? (i := 1189) (by decide +kernel)⟩
theorem lw_p51 : lw_okq (⟨"SamovarOpinionsModel", "everybody", "()I"⟩, 48) := ⟨⟨by decide +kernel, by decide +kernel⟩, List.mem_of_getElem? (i := 871) (by decide +kernel), List.mem_of_getElem? (i := 1200) (by decide +kernel), List.mem_of_getElem? (i := 1201) (by decide +kernel)⟩
theorem lw_p52 : lw_okq (⟨"SamovarOpinionsModel", "warmestOf", "(I)I"⟩, 48) := ⟨⟨by decide +kernel, by decide +kernel⟩, List.mem_of_getElem? (i := 871) (by decide +kernel), List.mem_of_getElem? (i := 1204) (by decide +kernel), List.mem_of_getElem? (i := 1205) (by decide +kernel)⟩
theorem lw_p53 : lw_okq (⟨"SamovarOpinionsModel", "seeksWarmest", "(III)V"⟩, 48) := ⟨⟨by decide +kernel, by decide +kernel⟩, List.mem_of_getElem? (i := 871) (by decide +kernel), List.mem_of_getElem? (i := 1208) (by decide +kernel), List.mem_of_getElem? (i := 1209) (by decide +kernel)⟩
theorem lw_p54 : lw_okq (⟨"SamovarOpinionsModel", "seeksSoonest", "(III)V"⟩, 48) := ⟨⟨by decide +kernel, by decide +kernel⟩, List.mem_of_getElem? (i := 871) (by decide +kernel), List.mem_of_getElem? (i := 1216) (by decide +kernel), List.mem_of_getElem? (i := 1217) (by decide +kernel)⟩
theorem lw_p55 : lw_okq (⟨"SamovarOpinionsModel", "seeksFew", "(IIII)I"⟩, 48) := ⟨⟨by decide +kernel, by decide +kernel⟩, List.mem_of_getElem? (i := 871) (by decide +kernel), List.mem_of_getElem? (i := 1220) (by decide +kernel), List.mem_of_getElem? (i := 1221) (by decide +kernel)⟩
theorem lw_p56 : lw_okq (⟨"SamovarOpinionsModel", "plays", "(II)I"⟩, 48) := ⟨⟨by decide +kernel, by decide +kernel⟩, List.mem_of_getElem? (i := 871) (by decide +kernel), List.mem_of_getElem? (i := 1236) (by decide +kernel), List.mem_of_getElem? (i := 1237) (by decide +kernel)⟩
theorem lw_p57 : lw_okq (⟨"SamovarOpinionsModel", "firstOther", "(I)I"⟩, 48) := ⟨⟨by decide +kernel, by decide +kernel⟩, List.mem_of_getElem? (i := 871) (by decide +kernel), List.mem_of_getElem? (i := 1246) (by decide +kernel), List.mem_of_getElem? (i := 1247) (by decide +kernel)⟩
theorem lw_p58 : lw_okq (⟨"SamovarOpinionsModel", "seeksWays", "(IIII)V"⟩, 48) := ⟨⟨by decide +kernel, by decide +kernel⟩, List.mem_of_getElem? (i := 871) (by decide +kernel), List.mem_of_getElem? (i := 1250) (by decide +kernel), List.mem_of_getElem? (i := 1251) (by decide +kernel)⟩
theorem lw_p59 : lw_okq (⟨"SamovarOpinionsModel", "sure", "()I"⟩, 48) := ⟨⟨by decide +kernel, by decide +kernel⟩, List.mem_of_getElem? (i := 871) (by decide +kernel), List.mem_of_getElem? (i := 1254) (by decide +kernel), List.mem_of_getElem? (i := 1255) (by decide +kernel)⟩
theorem lw_p60 : lw_okq (⟨"SamovarOpinionsModel", "draws", "(I)V"⟩, 48) := ⟨⟨by decide +kernel, by decide +kernel⟩, List.mem_of_getElem? (i := 871) (by decide +kernel), List.mem_of_getElem? (i := 1271) (by decide +kernel), List.mem_of_getElem? (i := 1272) (by decide +kernel)⟩
def lw_privs_4 : List (MethodName × Nat) := [(⟨"SamovarOpinionsModel", "comes", "(II)V"⟩, 48), (⟨"SamovarOpinionsModel", "boilsAt", "(I)I"⟩, 48), (⟨"SamovarOpinionsModel", "screamsTill", "(I)I"⟩, 48), (⟨"SamovarOpinionsModel", "everybody", "()I"⟩, 48), (⟨"SamovarOpinionsModel", "warmestOf", "(I)I"⟩, 48), (⟨"SamovarOpinionsModel", "seeksWarmest", "(III)V"⟩, 48), (⟨"SamovarOpinionsModel", "seeksSoonest", "(III)V"⟩, 48), (⟨"SamovarOpinionsModel", "seeksFew", "(IIII)I"⟩, 48), (⟨"SamovarOpinionsModel", "plays", "(II)I"⟩, 48), (⟨"SamovarOpinionsModel", "firstOther", "(I)I"⟩, 48), (⟨"SamovarOpinionsModel", "seeksWays", "(IIII)V"⟩, 48), (⟨"SamovarOpinionsModel", "sure", "()I"⟩, 48), (⟨"SamovarOpinionsModel", "draws", "(I)V"⟩, 48)]
theorem lw_r4 : ∀ q ∈ lw_privs_4, lw_okq q := List.forall_mem_cons.mpr ⟨lw_p48, List.forall_mem_cons.mpr ⟨lw_p49, List.forall_mem_cons.mpr ⟨lw_p50, List.forall_mem_cons.mpr ⟨lw_p51, List.forall_mem_cons.mpr ⟨lw_p52, List.forall_mem_cons.mpr ⟨lw_p53, List.forall_mem_cons.mpr ⟨lw_p54, List.forall_mem_cons.mpr ⟨lw_p55, List.forall_mem_cons.mpr ⟨lw_p56, List.forall_mem_cons.mpr ⟨lw_p57, List.forall_mem_cons.mpr ⟨lw_p58, List.forall_mem_cons.mpr ⟨lw_p59, List.forall_mem_cons.mpr ⟨lw_p60, fun _ h => absurd h List.not_mem_nil⟩⟩⟩⟩⟩⟩⟩⟩⟩⟩⟩⟩⟩
def lw_privs : List (MethodName × Nat) := lw_privs_1 ++ (lw_privs_2 ++ (lw_privs_3 ++ (lw_privs_4)))
def lw_tbl : List Cond := k2_sels lw_privs ++ tables_1
theorem lw_privs_ok : ∀ q ∈ lw_privs, lw_okq q := by
  show ∀ q ∈ lw_privs_1 ++ (lw_privs_2 ++ (lw_privs_3 ++ (lw_privs_4))), lw_okq q
  exact List.forall_mem_append.mpr ⟨lw_r1, List.forall_mem_append.mpr ⟨lw_r2, List.forall_mem_append.mpr ⟨lw_r3, lw_r4⟩⟩⟩
-- ===== end of PART A; then your names; then what follows =====
/-! ===== BEGIN words of one list among another's, by their places ===== -/
theorem goodIn_r {big : List Cond} (ws : List Cond) (ps : List Nat) (hp : ws = ps.filterMap (fun i => big[i]?)) (h : ws.all goodWord = true) : GoodIn big ws := by
  intro w hw
  have h1 := List.all_eq_true.mp h w hw
  rw [hp] at hw
  obtain ⟨i, -, hi⟩ := List.mem_filterMap.mp hw
  have hm : w ∈ big := by first | exact List.mem_of_getElem? hi | exact List.getElem?_mem hi
  exact ⟨hm, good_of_word h1⟩
theorem goodIn_app {big a b : List Cond} (ha : GoodIn big a) (hb : GoodIn big b) : GoodIn big (a ++ b) := fun w h => (List.mem_append.mp h).elim (ha w) (hb w)
theorem goodIn_ca {big a b : List Cond} {c : Cond} (ha : GoodIn big (c :: a)) (hb : GoodIn big b) : GoodIn big (c :: (a ++ b)) := fun w h => (List.mem_cons.mp h).elim (fun e => ha w (List.mem_cons.mpr (Or.inl e))) (fun h => (List.mem_append.mp h).elim (fun h => ha w (List.mem_cons.mpr (Or.inr h))) (hb w))
theorem goodIn_sub {big ws : List Cond} (hm : ∀ w ∈ ws, w ∈ big) (h : ws.all goodWord = true) : GoodIn big ws := fun w hw => ⟨hm w hw, good_of_word (List.all_eq_true.mp h w hw)⟩
/-! ===== END ===== -/
def RX0 : String := "SamovarOpinions$Best"
def TX0 : u_T := fun k => match k with
  | 0 => ("SamovarOpinions$Best", "samovar", "LSamovarOpinions$Samovar;", true)
  | 1 => ("SamovarOpinions$Best", "party", "LSamovarOpinions$Evening;", true)
  | 2 => ("SamovarOpinions$Best", "warmth", "I", false)
  | 3 => ("SamovarOpinions$Best", "order", "I", false)
  | 4 => ("SamovarOpinions$Best", "place", "I", false)
  | 5 => ("SamovarOpinions$Best", "few", "I", false)
  | _ => ("SamovarOpinions$Best", "firstCalled", "I", false)
def tyX0 : Nat → FieldType := fun k => match k with
  | 0 => .object "SamovarOpinions$Samovar"
  | 1 => .object "SamovarOpinions$Evening"
  | 2 => .int
  | 3 => .int
  | 4 => .int
  | 5 => .int
  | _ => .int
abbrev wsX00 : List Cond := u_ws RX0 TX0 7
theorem nmX0 : ∀ a, a < 7 → ∀ b, b < 7 → a ≠ b → (TX0 a).2.1 ≠ (TX0 b).2.1 := by decide +kernel
theorem tyX0_ok : ∀ k, k < 7 → parseFieldDescriptor (TX0 k).2.2.1 = some (tyX0 k) := by decide +kernel
abbrev cX0_init : ByteArray := prog_2_method_1_code
def yX0_init : MethodName := ⟨RX0, "<init>", "(LSamovarOpinions$Samovar;LSamovarOpinions$Evening;)V"⟩
abbrev cX0_seekWarmest : ByteArray := prog_2_method_2_code
def yX0_seekWarmest : MethodName := ⟨RX0, "seekWarmest", "(I)V"⟩
abbrev cX0_seekWarmestBehind : ByteArray := prog_2_method_3_code
def yX0_seekWarmestBehind : MethodName := ⟨RX0, "seekWarmestBehind", "(III)V"⟩
abbrev cX0_seekSoonest : ByteArray := prog_2_method_4_code
def yX0_seekSoonest : MethodName := ⟨RX0, "seekSoonest", "()V"⟩
abbrev cX0_seekSoonestBehind : ByteArray := prog_2_method_5_code
def yX0_seekSoonestBehind : MethodName := ⟨RX0, "seekSoonestBehind", "(I)V"⟩
abbrev cX0_isSooner : ByteArray := prog_2_method_6_code
def yX0_isSooner : MethodName := ⟨RX0, "isSooner", "(I)Z"⟩
abbrev cX0_seekByTurns : ByteArray := prog_2_method_7_code
def yX0_seekByTurns : MethodName := ⟨RX0, "seekByTurns", "()V"⟩
abbrev cX0_warmthByTurns : ByteArray := prog_2_method_8_code
def yX0_warmthByTurns : MethodName := ⟨RX0, "warmthByTurns", "(I)I"⟩
def RX1 : String := "SamovarOpinions$Evening"
def TX1 : u_T := fun k => match k with
  | 0 => ("SamovarOpinions$Evening", "samovar", "LSamovarOpinions$Samovar;", true)
  | 1 => ("SamovarOpinions$Evening", "texts", "LSamovarOpinions$Texts;", true)
  | 2 => ("SamovarOpinions$Evening", "remark", "LSamovarOpinions$Remark;", true)
  | 3 => ("SamovarOpinions$Evening", "order", "[I", true)
  | 4 => ("SamovarOpinions$Evening", "topicOf", "[I", true)
  | 5 => ("SamovarOpinions$Evening", "behind", "[I", true)
  | 6 => ("SamovarOpinions$Evening", "boils", "[Z", true)
  | 7 => ("SamovarOpinions$Evening", "screams", "[Z", true)
  | 8 => ("SamovarOpinions$Evening", "ahead", "I", false)
  | _ => ("SamovarOpinions$Evening", "whoCame", "I", false)
def tyX1 : Nat → FieldType := fun k => match k with
  | 0 => .object "SamovarOpinions$Samovar"
  | 1 => .object "SamovarOpinions$Texts"
  | 2 => .object "SamovarOpinions$Remark"
  | 3 => .array .int
  | 4 => .array .int
  | 5 => .array .int
  | 6 => .array .boolean
  | 7 => .array .boolean
  | 8 => .int
  | _ => .int
abbrev wsX10 : List Cond := u_ws RX1 TX1 10
theorem nmX1 : ∀ a, a < 10 → ∀ b, b < 10 → a ≠ b → (TX1 a).2.1 ≠ (TX1 b).2.1 := by decide +kernel
theorem tyX1_ok : ∀ k, k < 10 → parseFieldDescriptor (TX1 k).2.2.1 = some (tyX1 k) := by decide +kernel
abbrev cX1_init : ByteArray := prog_3_method_1_code
def yX1_init : MethodName := ⟨RX1, "<init>", "(LSamovarOpinions$Samovar;LSamovarOpinions$Texts;)V"⟩
abbrev cX1_begin : ByteArray := prog_3_method_2_code
def yX1_begin : MethodName := ⟨RX1, "begin", "()V"⟩
abbrev cX1_hasCome : ByteArray := prog_3_method_3_code
def yX1_hasCome : MethodName := ⟨RX1, "hasCome", "(I)Z"⟩
abbrev cX1_comeUp : ByteArray := prog_3_method_4_code
def yX1_comeUp : MethodName := ⟨RX1, "comeUp", "(I)Z"⟩
abbrev cX1_goBack : ByteArray := prog_3_method_5_code
def yX1_goBack : MethodName := ⟨RX1, "goBack", "()V"⟩
abbrev cX1_comeBy : ByteArray := prog_3_method_6_code
def yX1_comeBy : MethodName := ⟨RX1, "comeBy", "(LSamovarOpinions$Sheet;)Z"⟩
abbrev cX1_comeByNumber : ByteArray := prog_3_method_7_code
def yX1_comeByNumber : MethodName := ⟨RX1, "comeByNumber", "()V"⟩
abbrev cX1_hear : ByteArray := prog_3_method_8_code
def yX1_hear : MethodName := ⟨RX1, "hear", "(I)V"⟩
abbrev cX1_warms : ByteArray := prog_3_method_9_code
def yX1_warms : MethodName := ⟨RX1, "warms", "()I"⟩
abbrev cX1_cools : ByteArray := prog_3_method_10_code
def yX1_cools : MethodName := ⟨RX1, "cools", "()I"⟩
abbrev cX1_warmthNow : ByteArray := prog_3_method_11_code
def yX1_warmthNow : MethodName := ⟨RX1, "warmthNow", "()I"⟩
abbrev cX1_warmthBehind : ByteArray := prog_3_method_12_code
def yX1_warmthBehind : MethodName := ⟨RX1, "warmthBehind", "(I)I"⟩
abbrev cX1_guestAt : ByteArray := prog_3_method_13_code
def yX1_guestAt : MethodName := ⟨RX1, "guestAt", "(I)I"⟩
abbrev cX1_firstBoil : ByteArray := prog_3_method_14_code
def yX1_firstBoil : MethodName := ⟨RX1, "firstBoil", "()I"⟩
abbrev cX1_screamsSoFar : ByteArray := prog_3_method_15_code
def yX1_screamsSoFar : MethodName := ⟨RX1, "screamsSoFar", "()I"⟩
abbrev cX1_digits : ByteArray := prog_3_method_16_code
def yX1_digits : MethodName := ⟨RX1, "digits", "()I"⟩
abbrev cX1_digitsOfAll : ByteArray := prog_3_method_17_code
def yX1_digitsOfAll : MethodName := ⟨RX1, "digitsOfAll", "()I"⟩
def RX2 : String := "SamovarOpinions$Reader"
def TX2 : u_T := fun k => match k with
  | 0 => ("SamovarOpinions$Reader", "tape", "LSamovarOpinions$Tape;", true)
  | _ => ("SamovarOpinions$Reader", "texts", "LSamovarOpinions$Texts;", true)
def tyX2 : Nat → FieldType := fun k => match k with
  | 0 => .object "SamovarOpinions$Tape"
  | _ => .object "SamovarOpinions$Texts"
abbrev wsX20 : List Cond := u_ws RX2 TX2 2
theorem nmX2 : ∀ a, a < 2 → ∀ b, b < 2 → a ≠ b → (TX2 a).2.1 ≠ (TX2 b).2.1 := by decide +kernel
theorem tyX2_ok : ∀ k, k < 2 → parseFieldDescriptor (TX2 k).2.2.1 = some (tyX2 k) := by decide +kernel
abbrev cX2_init : ByteArray := prog_4_method_1_code
def yX2_init : MethodName := ⟨RX2, "<init>", "(LSamovarOpinions$Tape;LSamovarOpinions$Texts;)V"⟩
abbrev cX2_read : ByteArray := prog_4_method_2_code
def yX2_read : MethodName := ⟨RX2, "read", "()I"⟩
abbrev cX2_readPart : ByteArray := prog_4_method_3_code
def yX2_readPart : MethodName := ⟨RX2, "readPart", "(I)Z"⟩
abbrev cX2_readToken : ByteArray := prog_4_method_4_code
def yX2_readToken : MethodName := ⟨RX2, "readToken", "(I)Z"⟩
abbrev cX2_readOr : ByteArray := prog_4_method_5_code
def yX2_readOr : MethodName := ⟨RX2, "readOr", "(I)Z"⟩
abbrev cX2_readAnd : ByteArray := prog_4_method_6_code
def yX2_readAnd : MethodName := ⟨RX2, "readAnd", "(I)Z"⟩
abbrev cX2_readNot : ByteArray := prog_4_method_7_code
def yX2_readNot : MethodName := ⟨RX2, "readNot", "(I)Z"⟩
abbrev cX2_readSum : ByteArray := prog_4_method_8_code
def yX2_readSum : MethodName := ⟨RX2, "readSum", "(I)Z"⟩
abbrev cX2_readTerm : ByteArray := prog_4_method_9_code
def yX2_readTerm : MethodName := ⟨RX2, "readTerm", "(I)Z"⟩
abbrev cX2_readOne : ByteArray := prog_4_method_10_code
def yX2_readOne : MethodName := ⟨RX2, "readOne", "(I)Z"⟩
def RX3 : String := "SamovarOpinions$Recall"
def TX3 : u_T := fun k => match k with
  | 0 => ("SamovarOpinions$Recall", "samovar", "LSamovarOpinions$Samovar;", true)
  | 1 => ("SamovarOpinions$Recall", "party", "LSamovarOpinions$Evening;", true)
  | 2 => ("SamovarOpinions$Recall", "firstOrder", "[I", true)
  | 3 => ("SamovarOpinions$Recall", "ownTopics", "[I", true)
  | 4 => ("SamovarOpinions$Recall", "ways", "I", false)
  | 5 => ("SamovarOpinions$Recall", "first", "I", false)
  | _ => ("SamovarOpinions$Recall", "sure", "I", false)
def tyX3 : Nat → FieldType := fun k => match k with
  | 0 => .object "SamovarOpinions$Samovar"
  | 1 => .object "SamovarOpinions$Evening"
  | 2 => .array .int
  | 3 => .array .int
  | 4 => .int
  | 5 => .int
  | _ => .int
abbrev wsX30 : List Cond := u_ws RX3 TX3 7
theorem nmX3 : ∀ a, a < 7 → ∀ b, b < 7 → a ≠ b → (TX3 a).2.1 ≠ (TX3 b).2.1 := by decide +kernel
theorem tyX3_ok : ∀ k, k < 7 → parseFieldDescriptor (TX3 k).2.2.1 = some (tyX3 k) := by decide +kernel
abbrev cX3_init : ByteArray := prog_5_method_1_code
def yX3_init : MethodName := ⟨RX3, "<init>", "(LSamovarOpinions$Samovar;LSamovarOpinions$Evening;)V"⟩
abbrev cX3_seekWays : ByteArray := prog_5_method_2_code
def yX3_seekWays : MethodName := ⟨RX3, "seekWays", "(LSamovarOpinions$Sheet;)V"⟩
abbrev cX3_seekWaysBehind : ByteArray := prog_5_method_3_code
def yX3_seekWaysBehind : MethodName := ⟨RX3, "seekWaysBehind", "(ILSamovarOpinions$Sheet;)V"⟩
abbrev cX3_noteWay : ByteArray := prog_5_method_4_code
def yX3_noteWay : MethodName := ⟨RX3, "noteWay", "()V"⟩
abbrev cX3_firstOtherwise : ByteArray := prog_5_method_5_code
def yX3_firstOtherwise : MethodName := ⟨RX3, "firstOtherwise", "(LSamovarOpinions$Sheet;)I"⟩
abbrev cX3_fitting : ByteArray := prog_5_method_6_code
def yX3_fitting : MethodName := ⟨RX3, "fitting", "(LSamovarOpinions$Sheet;II)I"⟩
abbrev cX3_fittingTexts : ByteArray := prog_5_method_7_code
def yX3_fittingTexts : MethodName := ⟨RX3, "fittingTexts", "(LSamovarOpinions$Sheet;I)I"⟩
abbrev cX3_comeDrawn : ByteArray := prog_5_method_8_code
def yX3_comeDrawn : MethodName := ⟨RX3, "comeDrawn", "(I)V"⟩
def RX4 : String := "SamovarOpinions$Remark"
def TX4 : u_T := fun k => match k with
  | 0 => ("SamovarOpinions$Remark", "topic", "I", false)
  | 1 => ("SamovarOpinions$Remark", "last", "I", false)
  | 2 => ("SamovarOpinions$Remark", "warmth", "I", false)
  | 3 => ("SamovarOpinions$Remark", "number", "I", false)
  | 4 => ("SamovarOpinions$Remark", "said", "I", false)
  | 5 => ("SamovarOpinions$Remark", "place", "I", false)
  | 6 => ("SamovarOpinions$Remark", "kind", "I", false)
  | 7 => ("SamovarOpinions$Remark", "isLiked", "Z", false)
  | _ => ("SamovarOpinions$Remark", "isOddEvening", "Z", false)
def tyX4 : Nat → FieldType := fun k => match k with
  | 0 => .int
  | 1 => .int
  | 2 => .int
  | 3 => .int
  | 4 => .int
  | 5 => .int
  | 6 => .int
  | 7 => .boolean
  | _ => .boolean
abbrev wsX40 : List Cond := u_ws RX4 TX4 9
theorem nmX4 : ∀ a, a < 9 → ∀ b, b < 9 → a ≠ b → (TX4 a).2.1 ≠ (TX4 b).2.1 := by decide +kernel
theorem tyX4_ok : ∀ k, k < 9 → parseFieldDescriptor (TX4 k).2.2.1 = some (tyX4 k) := by decide +kernel
abbrev cX4_init : ByteArray := prog_6_method_1_code
def yX4_init : MethodName := ⟨RX4, "<init>", "()V"⟩
abbrev cX4_named : ByteArray := prog_6_method_2_code
def yX4_named : MethodName := ⟨RX4, "named", "(I)I"⟩
abbrev cX4_warms : ByteArray := prog_6_method_3_code
def yX4_warms : MethodName := ⟨RX4, "warms", "(I)I"⟩
abbrev cX4_cools : ByteArray := prog_6_method_4_code
def yX4_cools : MethodName := ⟨RX4, "cools", "(I)I"⟩
abbrev cX4_isAgain : ByteArray := prog_6_method_5_code
def yX4_isAgain : MethodName := ⟨RX4, "isAgain", "()Z"⟩
def RX5 : String := "SamovarOpinions$Samovar"
def TX5 : u_T := fun k => match k with
  | 0 => ("SamovarOpinions$Samovar", "warmth", "I", false)
  | 1 => ("SamovarOpinions$Samovar", "limit", "I", false)
  | 2 => ("SamovarOpinions$Samovar", "evenings", "I", false)
  | 3 => ("SamovarOpinions$Samovar", "screamed", "I", false)
  | 4 => ("SamovarOpinions$Samovar", "rule", "I", false)
  | 5 => ("SamovarOpinions$Samovar", "company", "I", false)
  | 6 => ("SamovarOpinions$Samovar", "kinds", "[I", true)
  | 7 => ("SamovarOpinions$Samovar", "numbers", "[I", true)
  | 8 => ("SamovarOpinions$Samovar", "topics", "[I", true)
  | _ => ("SamovarOpinions$Samovar", "liked", "[I", true)
def tyX5 : Nat → FieldType := fun k => match k with
  | 0 => .int
  | 1 => .int
  | 2 => .int
  | 3 => .int
  | 4 => .int
  | 5 => .int
  | 6 => .array .int
  | 7 => .array .int
  | 8 => .array .int
  | _ => .array .int
abbrev wsX50 : List Cond := u_ws RX5 TX5 10
theorem nmX5 : ∀ a, a < 10 → ∀ b, b < 10 → a ≠ b → (TX5 a).2.1 ≠ (TX5 b).2.1 := by decide +kernel
theorem tyX5_ok : ∀ k, k < 10 → parseFieldDescriptor (TX5 k).2.2.1 = some (tyX5 k) := by decide +kernel
abbrev cX5_init : ByteArray := prog_7_method_1_code
def yX5_init : MethodName := ⟨RX5, "<init>", "()V"⟩
abbrev cX5_has : ByteArray := prog_7_method_2_code
def yX5_has : MethodName := ⟨RX5, "has", "(I)Z"⟩
abbrev cX5_welcome : ByteArray := prog_7_method_3_code
def yX5_welcome : MethodName := ⟨RX5, "welcome", "(III)I"⟩
abbrev cX5_value : ByteArray := prog_7_method_4_code
def yX5_value : MethodName := ⟨RX5, "value", "(II)I"⟩
abbrev cX5_change : ByteArray := prog_7_method_5_code
def yX5_change : MethodName := ⟨RX5, "change", "(III)V"⟩
abbrev cX5_rowOf : ByteArray := prog_7_method_6_code
def yX5_rowOf : MethodName := ⟨RX5, "rowOf", "(I)[I"⟩
abbrev cX5_likedGuests : ByteArray := prog_7_method_7_code
def yX5_likedGuests : MethodName := ⟨RX5, "likedGuests", "()I"⟩
abbrev cX5_becomeAs : ByteArray := prog_7_method_8_code
def yX5_becomeAs : MethodName := ⟨RX5, "becomeAs", "(LSamovarOpinions$Samovar;)V"⟩
def RX6 : String := "SamovarOpinions$Sheet"
def TX6 : u_T := fun k => match k with
  | 0 => ("SamovarOpinions$Sheet", "row", "[I", true)
  | 1 => ("SamovarOpinions$Sheet", "sort", "I", false)
  | _ => ("SamovarOpinions$Sheet", "size", "I", false)
def tyX6 : Nat → FieldType := fun k => match k with
  | 0 => .array .int
  | 1 => .int
  | _ => .int
abbrev wsX60 : List Cond := u_ws RX6 TX6 3
theorem nmX6 : ∀ a, a < 3 → ∀ b, b < 3 → a ≠ b → (TX6 a).2.1 ≠ (TX6 b).2.1 := by decide +kernel
theorem tyX6_ok : ∀ k, k < 3 → parseFieldDescriptor (TX6 k).2.2.1 = some (tyX6 k) := by decide +kernel
abbrev cX6_init : ByteArray := prog_8_method_1_code
def yX6_init : MethodName := ⟨RX6, "<init>", "()V"⟩
abbrev cX6_isSort : ByteArray := prog_8_method_2_code
def yX6_isSort : MethodName := ⟨RX6, "isSort", "(I)Z"⟩
abbrev cX6_isMissing : ByteArray := prog_8_method_3_code
def yX6_isMissing : MethodName := ⟨RX6, "isMissing", "()Z"⟩
abbrev cX6_become : ByteArray := prog_8_method_4_code
def yX6_become : MethodName := ⟨RX6, "become", "(II)V"⟩
abbrev cX6_spans : ByteArray := prog_8_method_5_code
def yX6_spans : MethodName := ⟨RX6, "spans", "(II)Z"⟩
abbrev cX6_item : ByteArray := prog_8_method_6_code
def yX6_item : MethodName := ⟨RX6, "item", "(I)I"⟩
abbrev cX6_put : ByteArray := prog_8_method_7_code
def yX6_put : MethodName := ⟨RX6, "put", "(II)V"⟩
def RX7 : String := "SamovarOpinions$Tape"
def TX7 : u_T := fun k => match k with
  | 0 => ("SamovarOpinions$Tape", "bytes", "[I", true)
  | 1 => ("SamovarOpinions$Tape", "size", "I", false)
  | 2 => ("SamovarOpinions$Tape", "token", "I", false)
  | 3 => ("SamovarOpinions$Tape", "tokenFrom", "I", false)
  | _ => ("SamovarOpinions$Tape", "next", "I", false)
def tyX7 : Nat → FieldType := fun k => match k with
  | 0 => .array .int
  | 1 => .int
  | 2 => .int
  | 3 => .int
  | _ => .int
abbrev wsX70 : List Cond := u_ws RX7 TX7 5
theorem nmX7 : ∀ a, a < 5 → ∀ b, b < 5 → a ≠ b → (TX7 a).2.1 ≠ (TX7 b).2.1 := by decide +kernel
theorem tyX7_ok : ∀ k, k < 5 → parseFieldDescriptor (TX7 k).2.2.1 = some (tyX7 k) := by decide +kernel
abbrev cX7_init : ByteArray := prog_9_method_1_code
def yX7_init : MethodName := ⟨RX7, "<init>", "()V"⟩
abbrev cX7_take : ByteArray := prog_9_method_2_code
def yX7_take : MethodName := ⟨RX7, "take", "(I)I"⟩
abbrev cX7_clear : ByteArray := prog_9_method_3_code
def yX7_clear : MethodName := ⟨RX7, "clear", "()V"⟩
abbrev cX7_rewind : ByteArray := prog_9_method_4_code
def yX7_rewind : MethodName := ⟨RX7, "rewind", "()V"⟩
abbrev cX7_step : ByteArray := prog_9_method_5_code
def yX7_step : MethodName := ⟨RX7, "step", "()V"⟩
abbrev cX7_byteAt : ByteArray := prog_9_method_6_code
def yX7_byteAt : MethodName := ⟨RX7, "byteAt", "(I)I"⟩
abbrev cX7_wordFromHere : ByteArray := prog_9_method_7_code
def yX7_wordFromHere : MethodName := ⟨RX7, "wordFromHere", "()I"⟩
abbrev cX7_isWord : ByteArray := prog_9_method_8_code
def yX7_isWord : MethodName := ⟨RX7, "isWord", "(Ljava/lang/String;)Z"⟩
abbrev cX7_numberFromHere : ByteArray := prog_9_method_9_code
def yX7_numberFromHere : MethodName := ⟨RX7, "numberFromHere", "()I"⟩
abbrev cX7_signOf : ByteArray := prog_9_method_10_code
def yX7_signOf : MethodName := ⟨RX7, "signOf", "(I)I"⟩
abbrev cX7_isBlank : ByteArray := prog_9_method_11_code
def yX7_isBlank : MethodName := ⟨RX7, "isBlank", "(I)Z"⟩
abbrev cX7_isLetter : ByteArray := prog_9_method_12_code
def yX7_isLetter : MethodName := ⟨RX7, "isLetter", "(I)Z"⟩
abbrev cX7_isDigit : ByteArray := prog_9_method_13_code
def yX7_isDigit : MethodName := ⟨RX7, "isDigit", "(I)Z"⟩
def RX8 : String := "SamovarOpinions$Texts"
def TX8 : u_T := fun k => match k with
  | 0 => ("SamovarOpinions$Texts", "codes", "[[I", true)
  | 1 => ("SamovarOpinions$Texts", "coolsFrom", "[I", true)
  | 2 => ("SamovarOpinions$Texts", "screamsFrom", "[I", true)
  | 3 => ("SamovarOpinions$Texts", "sizes", "[I", true)
  | 4 => ("SamovarOpinions$Texts", "values", "[I", true)
  | _ => ("SamovarOpinions$Texts", "count", "I", false)
def tyX8 : Nat → FieldType := fun k => match k with
  | 0 => .array (.array .int)
  | 1 => .array .int
  | 2 => .array .int
  | 3 => .array .int
  | 4 => .array .int
  | _ => .int
abbrev wsX80 : List Cond := u_ws RX8 TX8 6
theorem nmX8 : ∀ a, a < 6 → ∀ b, b < 6 → a ≠ b → (TX8 a).2.1 ≠ (TX8 b).2.1 := by decide +kernel
theorem tyX8_ok : ∀ k, k < 6 → parseFieldDescriptor (TX8 k).2.2.1 = some (tyX8 k) := by decide +kernel
abbrev cX8_init : ByteArray := prog_10_method_1_code
def yX8_init : MethodName := ⟨RX8, "<init>", "()V"⟩
abbrev cX8_isFull : ByteArray := prog_10_method_2_code
def yX8_isFull : MethodName := ⟨RX8, "isFull", "()Z"⟩
abbrev cX8_beginDraft : ByteArray := prog_10_method_3_code
def yX8_beginDraft : MethodName := ⟨RX8, "beginDraft", "()V"⟩
abbrev cX8_beginPart : ByteArray := prog_10_method_4_code
def yX8_beginPart : MethodName := ⟨RX8, "beginPart", "(I)V"⟩
abbrev cX8_write : ByteArray := prog_10_method_5_code
def yX8_write : MethodName := ⟨RX8, "write", "(I)Z"⟩
abbrev cX8_keepDraft : ByteArray := prog_10_method_6_code
def yX8_keepDraft : MethodName := ⟨RX8, "keepDraft", "()I"⟩
abbrev cX8_tell : ByteArray := prog_10_method_7_code
def yX8_tell : MethodName := ⟨RX8, "tell", "(IILSamovarOpinions$Remark;)I"⟩
abbrev cX8_joined : ByteArray := prog_10_method_8_code
def yX8_joined : MethodName := ⟨RX8, "joined", "(III)I"⟩
def RX9 : String := "SamovarOpinions"
def TX9 : u_T := fun k => match k with
  | 0 => ("SamovarOpinions", "samovar", "LSamovarOpinions$Samovar;", true)
  | 1 => ("SamovarOpinions", "kept", "LSamovarOpinions$Samovar;", true)
  | 2 => ("SamovarOpinions", "anImageIsKept", "Z", false)
  | 3 => ("SamovarOpinions", "tape", "LSamovarOpinions$Tape;", true)
  | 4 => ("SamovarOpinions", "texts", "LSamovarOpinions$Texts;", true)
  | 5 => ("SamovarOpinions", "reader", "LSamovarOpinions$Reader;", true)
  | 6 => ("SamovarOpinions", "sheets", "[LSamovarOpinions$Sheet;", true)
  | 7 => ("SamovarOpinions", "party", "LSamovarOpinions$Evening;", true)
  | 8 => ("SamovarOpinions", "best", "LSamovarOpinions$Best;", true)
  | _ => ("SamovarOpinions", "recall", "LSamovarOpinions$Recall;", true)
def tyX9 : Nat → FieldType := fun k => match k with
  | 0 => .object "SamovarOpinions$Samovar"
  | 1 => .object "SamovarOpinions$Samovar"
  | 2 => .boolean
  | 3 => .object "SamovarOpinions$Tape"
  | 4 => .object "SamovarOpinions$Texts"
  | 5 => .object "SamovarOpinions$Reader"
  | 6 => .array (.object "SamovarOpinions$Sheet")
  | 7 => .object "SamovarOpinions$Evening"
  | 8 => .object "SamovarOpinions$Best"
  | _ => .object "SamovarOpinions$Recall"
abbrev wsX90 : List Cond := u_ws RX9 TX9 10
theorem nmX9 : ∀ a, a < 10 → ∀ b, b < 10 → a ≠ b → (TX9 a).2.1 ≠ (TX9 b).2.1 := by decide +kernel
theorem tyX9_ok : ∀ k, k < 10 → parseFieldDescriptor (TX9 k).2.2.1 = some (tyX9 k) := by decide +kernel
abbrev cX9_init : ByteArray := prog_1_method_1_code
def yX9_init : MethodName := ⟨RX9, "<init>", "()V"⟩
abbrev cX9_set : ByteArray := prog_1_method_2_code
def yX9_set : MethodName := ⟨RX9, "set", "(III)I"⟩
abbrev cX9_guest : ByteArray := prog_1_method_3_code
def yX9_guest : MethodName := ⟨RX9, "guest", "(III)I"⟩
abbrev cX9_told : ByteArray := prog_1_method_4_code
def yX9_told : MethodName := ⟨RX9, "told", "(II)I"⟩
abbrev cX9_feed : ByteArray := prog_1_method_5_code
def yX9_feed : MethodName := ⟨RX9, "feed", "(I)I"⟩
abbrev cX9_text : ByteArray := prog_1_method_6_code
def yX9_text : MethodName := ⟨RX9, "text", "()I"⟩
abbrev cX9_force : ByteArray := prog_1_method_7_code
def yX9_force : MethodName := ⟨RX9, "force", "(I)I"⟩
abbrev cX9_evening : ByteArray := prog_1_method_8_code
def yX9_evening : MethodName := ⟨RX9, "evening", "(II)I"⟩
abbrev cX9_hold : ByteArray := prog_1_method_9_code
def yX9_hold : MethodName := ⟨RX9, "hold", "(I)I"⟩
abbrev cX9_warmest : ByteArray := prog_1_method_10_code
def yX9_warmest : MethodName := ⟨RX9, "warmest", "(I)I"⟩
abbrev cX9_soonest : ByteArray := prog_1_method_11_code
def yX9_soonest : MethodName := ⟨RX9, "soonest", "(I)I"⟩
abbrev cX9_ratherNot : ByteArray := prog_1_method_12_code
def yX9_ratherNot : MethodName := ⟨RX9, "ratherNot", "(I)I"⟩
abbrev cX9_topic : ByteArray := prog_1_method_13_code
def yX9_topic : MethodName := ⟨RX9, "topic", "(II)I"⟩
abbrev cX9_turns : ByteArray := prog_1_method_14_code
def yX9_turns : MethodName := ⟨RX9, "turns", "(I)I"⟩
abbrev cX9_tells : ByteArray := prog_1_method_15_code
def yX9_tells : MethodName := ⟨RX9, "tells", "(II)I"⟩
abbrev cX9_film : ByteArray := prog_1_method_16_code
def yX9_film : MethodName := ⟨RX9, "film", "(I)I"⟩
abbrev cX9_drawn : ByteArray := prog_1_method_17_code
def yX9_drawn : MethodName := ⟨RX9, "drawn", "(I)I"⟩
abbrev cX9_chance : ByteArray := prog_1_method_18_code
def yX9_chance : MethodName := ⟨RX9, "chance", "(III)J"⟩
abbrev cX9_image : ByteArray := prog_1_method_19_code
def yX9_image : MethodName := ⟨RX9, "image", "()I"⟩
abbrev cX9_back : ByteArray := prog_1_method_20_code
def yX9_back : MethodName := ⟨RX9, "back", "()I"⟩
abbrev cX9_count : ByteArray := prog_1_method_21_code
def yX9_count : MethodName := ⟨RX9, "count", "(I)I"⟩
abbrev cX9_sheet : ByteArray := prog_1_method_22_code
def yX9_sheet : MethodName := ⟨RX9, "sheet", "(III)I"⟩
abbrev cX9_cell : ByteArray := prog_1_method_23_code
def yX9_cell : MethodName := ⟨RX9, "cell", "(III)I"⟩
abbrev cX9_copy : ByteArray := prog_1_method_24_code
def yX9_copy : MethodName := ⟨RX9, "copy", "(IIIII)I"⟩
abbrev cX9_guests : ByteArray := prog_1_method_25_code
def yX9_guests : MethodName := ⟨RX9, "guests", "(IIII)I"⟩
abbrev cX9_taken : ByteArray := prog_1_method_26_code
def yX9_taken : MethodName := ⟨RX9, "taken", "(II)I"⟩
abbrev cX9_sheetOf : ByteArray := prog_1_method_27_code
def yX9_sheetOf : MethodName := ⟨RX9, "sheetOf", "(I)LSamovarOpinions$Sheet;"⟩
abbrev cX9_mayBeAskedOfTold : ByteArray := prog_1_method_28_code
def yX9_mayBeAskedOfTold : MethodName := ⟨RX9, "mayBeAskedOfTold", "(I)Z"⟩
abbrev cX9_mayBe : ByteArray := prog_1_method_29_code
def yX9_mayBe : MethodName := ⟨RX9, "mayBe", "(II)Z"⟩
abbrev cX9_isUnder : ByteArray := prog_1_method_30_code
def yX9_isUnder : MethodName := ⟨RX9, "isUnder", "(II)Z"⟩
abbrev cX9_commonDivisor : ByteArray := prog_1_method_31_code
def yX9_commonDivisor : MethodName := ⟨RX9, "commonDivisor", "(II)I"⟩
abbrev cX9_within : ByteArray := prog_1_method_32_code
def yX9_within : MethodName := ⟨RX9, "within", "(III)I"⟩
def RX10 : String := "SamovarOpinionsModel"
def TX10 : u_T := fun k => match k with
  | 0 => ("SamovarOpinionsModel", "thrown", "I", false)
  | 1 => ("SamovarOpinionsModel", "texts", "[I", true)
  | 2 => ("SamovarOpinionsModel", "textSize", "[I", true)
  | 3 => ("SamovarOpinionsModel", "textCount", "I", false)
  | 4 => ("SamovarOpinionsModel", "rule", "I", false)
  | 5 => ("SamovarOpinionsModel", "tape", "[I", true)
  | 6 => ("SamovarOpinionsModel", "taped", "I", false)
  | 7 => ("SamovarOpinionsModel", "pot", "[I", true)
  | 8 => ("SamovarOpinionsModel", "screamed", "I", false)
  | 9 => ("SamovarOpinionsModel", "kinds", "[I", true)
  | 10 => ("SamovarOpinionsModel", "rows", "[I", true)
  | 11 => ("SamovarOpinionsModel", "many", "I", false)
  | 12 => ("SamovarOpinionsModel", "ofTopic", "I", false)
  | 13 => ("SamovarOpinionsModel", "ofLast", "I", false)
  | 14 => ("SamovarOpinionsModel", "ofWarmth", "I", false)
  | 15 => ("SamovarOpinionsModel", "ofNumber", "I", false)
  | 16 => ("SamovarOpinionsModel", "ofSaid", "I", false)
  | 17 => ("SamovarOpinionsModel", "ofPlace", "I", false)
  | 18 => ("SamovarOpinionsModel", "from", "I", false)
  | 19 => ("SamovarOpinionsModel", "size", "I", false)
  | 20 => ("SamovarOpinionsModel", "here", "I", false)
  | 21 => ("SamovarOpinionsModel", "token", "I", false)
  | 22 => ("SamovarOpinionsModel", "tokenAt", "I", false)
  | 23 => ("SamovarOpinionsModel", "tokenWorth", "J", false)
  | 24 => ("SamovarOpinionsModel", "open", "I", false)
  | 25 => ("SamovarOpinionsModel", "bad", "Z", false)
  | 26 => ("SamovarOpinionsModel", "fault", "I", false)
  | 27 => ("SamovarOpinionsModel", "order", "[I", true)
  | 28 => ("SamovarOpinionsModel", "warm", "[I", true)
  | 29 => ("SamovarOpinionsModel", "boils", "[Z", true)
  | 30 => ("SamovarOpinionsModel", "loud", "[Z", true)
  | 31 => ("SamovarOpinionsModel", "isFound", "Z", false)
  | 32 => ("SamovarOpinionsModel", "bestDigits", "I", false)
  | 33 => ("SamovarOpinionsModel", "bestValue", "I", false)
  | 34 => ("SamovarOpinionsModel", "firstCalled", "I", false)
  | 35 => ("SamovarOpinionsModel", "ways", "I", false)
  | 36 => ("SamovarOpinionsModel", "firstWay", "I", false)
  | 37 => ("SamovarOpinionsModel", "could", "[I", true)
  | 38 => ("SamovarOpinionsModel", "topicsWas", "[I", true)
  | 39 => ("SamovarOpinionsModel", "potKept", "[I", true)
  | 40 => ("SamovarOpinionsModel", "rowsKept", "[I", true)
  | 41 => ("SamovarOpinionsModel", "manyKept", "I", false)
  | 42 => ("SamovarOpinionsModel", "screamedKept", "I", false)
  | 43 => ("SamovarOpinionsModel", "ruleKept", "I", false)
  | 44 => ("SamovarOpinionsModel", "isThere", "[Z", true)
  | 45 => ("SamovarOpinionsModel", "sorts", "[I", true)
  | 46 => ("SamovarOpinionsModel", "sheetSize", "[I", true)
  | _ => ("SamovarOpinionsModel", "items", "[I", true)
def tyX10 : Nat → FieldType := fun k => match k with
  | 0 => .int
  | 1 => .array .int
  | 2 => .array .int
  | 3 => .int
  | 4 => .int
  | 5 => .array .int
  | 6 => .int
  | 7 => .array .int
  | 8 => .int
  | 9 => .array .int
  | 10 => .array .int
  | 11 => .int
  | 12 => .int
  | 13 => .int
  | 14 => .int
  | 15 => .int
  | 16 => .int
  | 17 => .int
  | 18 => .int
  | 19 => .int
  | 20 => .int
  | 21 => .int
  | 22 => .int
  | 23 => .long
  | 24 => .int
  | 25 => .boolean
  | 26 => .int
  | 27 => .array .int
  | 28 => .array .int
  | 29 => .array .boolean
  | 30 => .array .boolean
  | 31 => .boolean
  | 32 => .int
  | 33 => .int
  | 34 => .int
  | 35 => .int
  | 36 => .int
  | 37 => .array .int
  | 38 => .array .int
  | 39 => .array .int
  | 40 => .array .int
  | 41 => .int
  | 42 => .int
  | 43 => .int
  | 44 => .array .boolean
  | 45 => .array .int
  | 46 => .array .int
  | _ => .array .int
abbrev wsX100 : List Cond := u_ws RX10 TX10 48
theorem nmX10 : ∀ a, a < 48 → ∀ b, b < 48 → a ≠ b → (TX10 a).2.1 ≠ (TX10 b).2.1 := by decide +kernel
theorem tyX10_ok : ∀ k, k < 48 → parseFieldDescriptor (TX10 k).2.2.1 = some (tyX10 k) := by decide +kernel
abbrev cX10_in : ByteArray := prog_12_method_2_code
def yX10_in : MethodName := ⟨RX10, "in", "(JJJ)Z"⟩
abbrev cX10_within : ByteArray := prog_12_method_3_code
def yX10_within : MethodName := ⟨RX10, "within", "(III)I"⟩
abbrev cX10_init : ByteArray := prog_12_method_4_code
def yX10_init : MethodName := ⟨RX10, "<init>", "()V"⟩
abbrev cX10_spell : ByteArray := prog_12_method_5_code
def yX10_spell : MethodName := ⟨RX10, "spell", "(IIIIIIIII)V"⟩
abbrev cX10_isOne : ByteArray := prog_12_method_6_code
def yX10_isOne : MethodName := ⟨RX10, "isOne", "(I)Z"⟩
abbrev cX10_mostOf : ByteArray := prog_12_method_7_code
def yX10_mostOf : MethodName := ⟨RX10, "mostOf", "(I)I"⟩
abbrev cX10_set : ByteArray := prog_12_method_8_code
def yX10_set : MethodName := ⟨RX10, "set", "(III)I"⟩
abbrev cX10_lays : ByteArray := prog_12_method_9_code
def yX10_lays : MethodName := ⟨RX10, "lays", "(III)V"⟩
abbrev cX10_guest : ByteArray := prog_12_method_10_code
def yX10_guest : MethodName := ⟨RX10, "guest", "(III)I"⟩
abbrev cX10_told : ByteArray := prog_12_method_11_code
def yX10_told : MethodName := ⟨RX10, "told", "(II)I"⟩
abbrev cX10_feed : ByteArray := prog_12_method_12_code
def yX10_feed : MethodName := ⟨RX10, "feed", "(I)I"⟩
abbrev cX10_byteAt : ByteArray := prog_12_method_13_code
def yX10_byteAt : MethodName := ⟨RX10, "byteAt", "(I)I"⟩
abbrev cX10_next : ByteArray := prog_12_method_14_code
def yX10_next : MethodName := ⟨RX10, "next", "()V"⟩
abbrev cX10_fail : ByteArray := prog_12_method_15_code
def yX10_fail : MethodName := ⟨RX10, "fail", "()V"⟩
abbrev cX10_isLetter : ByteArray := prog_12_method_16_code
def yX10_isLetter : MethodName := ⟨RX10, "isLetter", "(II)Z"⟩
abbrev cX10_isWord : ByteArray := prog_12_method_17_code
def yX10_isWord : MethodName := ⟨RX10, "isWord", "(IIIIIIII)Z"⟩
abbrev cX10_isSign : ByteArray := prog_12_method_18_code
def yX10_isSign : MethodName := ⟨RX10, "isSign", "(I)Z"⟩
abbrev cX10_opens : ByteArray := prog_12_method_19_code
def yX10_opens : MethodName := ⟨RX10, "opens", "()Z"⟩
abbrev cX10_name : ByteArray := prog_12_method_20_code
def yX10_name : MethodName := ⟨RX10, "name", "()I"⟩
abbrev cX10_atom : ByteArray := prog_12_method_21_code
def yX10_atom : MethodName := ⟨RX10, "atom", "()I"⟩
abbrev cX10_term : ByteArray := prog_12_method_22_code
def yX10_term : MethodName := ⟨RX10, "term", "()I"⟩
abbrev cX10_added : ByteArray := prog_12_method_23_code
def yX10_added : MethodName := ⟨RX10, "added", "()I"⟩
abbrev cX10_not : ByteArray := prog_12_method_24_code
def yX10_not : MethodName := ⟨RX10, "not", "()I"⟩
abbrev cX10_both : ByteArray := prog_12_method_25_code
def yX10_both : MethodName := ⟨RX10, "both", "()I"⟩
abbrev cX10_either : ByteArray := prog_12_method_26_code
def yX10_either : MethodName := ⟨RX10, "either", "()I"⟩
abbrev cX10_part : ByteArray := prog_12_method_27_code
def yX10_part : MethodName := ⟨RX10, "part", "(Z)I"⟩
abbrev cX10_read : ByteArray := prog_12_method_28_code
def yX10_read : MethodName := ⟨RX10, "read", "(II)I"⟩
abbrev cX10_text : ByteArray := prog_12_method_29_code
def yX10_text : MethodName := ⟨RX10, "text", "()I"⟩
abbrev cX10_force : ByteArray := prog_12_method_30_code
def yX10_force : MethodName := ⟨RX10, "force", "(I)I"⟩
abbrev cX10_begins : ByteArray := prog_12_method_31_code
def yX10_begins : MethodName := ⟨RX10, "begins", "()V"⟩
abbrev cX10_topicOf : ByteArray := prog_12_method_32_code
def yX10_topicOf : MethodName := ⟨RX10, "topicOf", "(I)I"⟩
abbrev cX10_looks : ByteArray := prog_12_method_33_code
def yX10_looks : MethodName := ⟨RX10, "looks", "(II)V"⟩
abbrev cX10_warmsOf : ByteArray := prog_12_method_34_code
def yX10_warmsOf : MethodName := ⟨RX10, "warmsOf", "(IZ)I"⟩
abbrev cX10_coolsOf : ByteArray := prog_12_method_35_code
def yX10_coolsOf : MethodName := ⟨RX10, "coolsOf", "(IZ)I"⟩
abbrev cX10_comes : ByteArray := prog_12_method_36_code
def yX10_comes : MethodName := ⟨RX10, "comes", "(II)V"⟩
abbrev cX10_isOrder : ByteArray := prog_12_method_37_code
def yX10_isOrder : MethodName := ⟨RX10, "isOrder", "(I)Z"⟩
abbrev cX10_screamsTill : ByteArray := prog_12_method_38_code
def yX10_screamsTill : MethodName := ⟨RX10, "screamsTill", "(I)I"⟩
abbrev cX10_boilsAt : ByteArray := prog_12_method_39_code
def yX10_boilsAt : MethodName := ⟨RX10, "boilsAt", "(I)I"⟩
abbrev cX10_goes : ByteArray := prog_12_method_40_code
def yX10_goes : MethodName := ⟨RX10, "goes", "(I)V"⟩
abbrev cX10_evening : ByteArray := prog_12_method_41_code
def yX10_evening : MethodName := ⟨RX10, "evening", "(II)I"⟩
abbrev cX10_hold : ByteArray := prog_12_method_42_code
def yX10_hold : MethodName := ⟨RX10, "hold", "(I)I"⟩
abbrev cX10_seeksWarmest : ByteArray := prog_12_method_43_code
def yX10_seeksWarmest : MethodName := ⟨RX10, "seeksWarmest", "(III)V"⟩
abbrev cX10_warmestOf : ByteArray := prog_12_method_44_code
def yX10_warmestOf : MethodName := ⟨RX10, "warmestOf", "(I)I"⟩
abbrev cX10_everybody : ByteArray := prog_12_method_45_code
def yX10_everybody : MethodName := ⟨RX10, "everybody", "()I"⟩
abbrev cX10_warmest : ByteArray := prog_12_method_46_code
def yX10_warmest : MethodName := ⟨RX10, "warmest", "(I)I"⟩
abbrev cX10_seeksSoonest : ByteArray := prog_12_method_47_code
def yX10_seeksSoonest : MethodName := ⟨RX10, "seeksSoonest", "(III)V"⟩
abbrev cX10_seeksFew : ByteArray := prog_12_method_48_code
def yX10_seeksFew : MethodName := ⟨RX10, "seeksFew", "(IIII)I"⟩
abbrev cX10_soonest : ByteArray := prog_12_method_49_code
def yX10_soonest : MethodName := ⟨RX10, "soonest", "(I)I"⟩
abbrev cX10_ratherNot : ByteArray := prog_12_method_50_code
def yX10_ratherNot : MethodName := ⟨RX10, "ratherNot", "(I)I"⟩
abbrev cX10_topic : ByteArray := prog_12_method_51_code
def yX10_topic : MethodName := ⟨RX10, "topic", "(II)I"⟩
abbrev cX10_plays : ByteArray := prog_12_method_52_code
def yX10_plays : MethodName := ⟨RX10, "plays", "(II)I"⟩
abbrev cX10_turns : ByteArray := prog_12_method_53_code
def yX10_turns : MethodName := ⟨RX10, "turns", "(I)I"⟩
abbrev cX10_seeksWays : ByteArray := prog_12_method_54_code
def yX10_seeksWays : MethodName := ⟨RX10, "seeksWays", "(IIII)V"⟩
abbrev cX10_firstOther : ByteArray := prog_12_method_55_code
def yX10_firstOther : MethodName := ⟨RX10, "firstOther", "(I)I"⟩
abbrev cX10_sure : ByteArray := prog_12_method_56_code
def yX10_sure : MethodName := ⟨RX10, "sure", "()I"⟩
abbrev cX10_tells : ByteArray := prog_12_method_57_code
def yX10_tells : MethodName := ⟨RX10, "tells", "(II)I"⟩
abbrev cX10_film : ByteArray := prog_12_method_58_code
def yX10_film : MethodName := ⟨RX10, "film", "(I)I"⟩
abbrev cX10_draws : ByteArray := prog_12_method_59_code
def yX10_draws : MethodName := ⟨RX10, "draws", "(I)V"⟩
abbrev cX10_drawn : ByteArray := prog_12_method_60_code
def yX10_drawn : MethodName := ⟨RX10, "drawn", "(I)I"⟩
abbrev cX10_chance : ByteArray := prog_12_method_61_code
def yX10_chance : MethodName := ⟨RX10, "chance", "(III)J"⟩
abbrev cX10_image : ByteArray := prog_12_method_62_code
def yX10_image : MethodName := ⟨RX10, "image", "()I"⟩
abbrev cX10_back : ByteArray := prog_12_method_63_code
def yX10_back : MethodName := ⟨RX10, "back", "()I"⟩
abbrev cX10_count : ByteArray := prog_12_method_64_code
def yX10_count : MethodName := ⟨RX10, "count", "(I)I"⟩
abbrev cX10_isSheet : ByteArray := prog_12_method_65_code
def yX10_isSheet : MethodName := ⟨RX10, "isSheet", "(I)Z"⟩
abbrev cX10_sheet : ByteArray := prog_12_method_66_code
def yX10_sheet : MethodName := ⟨RX10, "sheet", "(III)I"⟩
abbrev cX10_cell : ByteArray := prog_12_method_67_code
def yX10_cell : MethodName := ⟨RX10, "cell", "(III)I"⟩
abbrev cX10_copy : ByteArray := prog_12_method_68_code
def yX10_copy : MethodName := ⟨RX10, "copy", "(IIIII)I"⟩
abbrev cX10_guests : ByteArray := prog_12_method_69_code
def yX10_guests : MethodName := ⟨RX10, "guests", "(IIII)I"⟩
abbrev cX10_over : ByteArray := prog_12_method_70_code
def yX10_over : MethodName := ⟨RX10, "over", "(I)I"⟩
abbrev cX10_taken : ByteArray := prog_12_method_71_code
def yX10_taken : MethodName := ⟨RX10, "taken", "(II)I"⟩
def RJ9 : String := "java/lang/Math"
def TJ9 : u_T := fun k => match k with
  | _ => ("", "", "", false)
def tyJ9 : Nat → FieldType := fun k => match k with
  | _ => .int
theorem nmJ9 : ∀ a, a < 0 → ∀ b, b < 0 → a ≠ b → (TJ9 a).2.1 ≠ (TJ9 b).2.1 := by decide +kernel
theorem tyJ9_ok : ∀ k, k < 0 → parseFieldDescriptor (TJ9 k).2.2.1 = some (tyJ9 k) := by decide +kernel
abbrev cJ9_max_7cf53 : ByteArray := prog_13_method_65_code
def yJ9_max_7cf53 : MethodName := ⟨RJ9, "max", "(II)I"⟩
abbrev cJ9_min_7cf53 : ByteArray := prog_13_method_69_code
def yJ9_min_7cf53 : MethodName := ⟨RJ9, "min", "(II)I"⟩
def RJ0 : String := "java/lang/String"
def TJ0 : u_T := fun k => match k with
  | _ => ("", "", "", false)
def tyJ0 : Nat → FieldType := fun k => match k with
  | _ => .int
theorem nmJ0 : ∀ a, a < 0 → ∀ b, b < 0 → a ≠ b → (TJ0 a).2.1 ≠ (TJ0 b).2.1 := by decide +kernel
theorem tyJ0_ok : ∀ k, k < 0 → parseFieldDescriptor (TJ0 k).2.2.1 = some (tyJ0 k) := by decide +kernel
abbrev cJ0_length_8abf5 : ByteArray := prog_14_method_54_code
def yJ0_length_8abf5 : MethodName := ⟨RJ0, "length", "()I"⟩
abbrev cJ0_charAt_5068e : ByteArray := prog_14_method_56_code
def yJ0_charAt_5068e : MethodName := ⟨RJ0, "charAt", "(I)C"⟩
abbrev cJ0_coder_7d493 : ByteArray := prog_14_method_152_code
def yJ0_coder_7d493 : MethodName := ⟨RJ0, "coder", "()B"⟩
abbrev cJ0_isLatin1_aae02 : ByteArray := prog_14_method_154_code
def yJ0_isLatin1_aae02 : MethodName := ⟨RJ0, "isLatin1", "()Z"⟩
abbrev cJ0_checkIndex_df160 : ByteArray := prog_14_method_155_code
def yJ0_checkIndex_df160 : MethodName := ⟨RJ0, "checkIndex", "(II)V"⟩
def RJ1 : String := "java/lang/StringLatin1"
def TJ1 : u_T := fun k => match k with
  | _ => ("", "", "", false)
def tyJ1 : Nat → FieldType := fun k => match k with
  | _ => .int
theorem nmJ1 : ∀ a, a < 0 → ∀ b, b < 0 → a ≠ b → (TJ1 a).2.1 ≠ (TJ1 b).2.1 := by decide +kernel
theorem tyJ1_ok : ∀ k, k < 0 → parseFieldDescriptor (TJ1 k).2.2.1 = some (tyJ1 k) := by decide +kernel
abbrev cJ1_charAt_3b067 : ByteArray := prog_15_method_2_code
def yJ1_charAt_3b067 : MethodName := ⟨RJ1, "charAt", "([BI)C"⟩
def RJ2 : String := "java/lang/StringUTF16"
def TJ2 : u_T := fun k => match k with
  | _ => ("", "", "", false)
def tyJ2 : Nat → FieldType := fun k => match k with
  | _ => .int
theorem nmJ2 : ∀ a, a < 0 → ∀ b, b < 0 → a ≠ b → (TJ2 a).2.1 ≠ (TJ2 b).2.1 := by decide +kernel
theorem tyJ2_ok : ∀ k, k < 0 → parseFieldDescriptor (TJ2 k).2.2.1 = some (tyJ2 k) := by decide +kernel
abbrev cJ2_getChar_3b067 : ByteArray := prog_16_method_5_code
def yJ2_getChar_3b067 : MethodName := ⟨RJ2, "getChar", "([BI)C"⟩
abbrev cJ2_length_9d52b : ByteArray := prog_16_method_6_code
def yJ2_length_9d52b : MethodName := ⟨RJ2, "length", "([B)I"⟩
abbrev cJ2_charAt_3b067 : ByteArray := prog_16_method_83_code
def yJ2_charAt_3b067 : MethodName := ⟨RJ2, "charAt", "([BI)C"⟩
abbrev cJ2_checkIndex_2214a : ByteArray := prog_16_method_91_code
def yJ2_checkIndex_2214a : MethodName := ⟨RJ2, "checkIndex", "(I[B)V"⟩
def RJ10 : String := "java/lang/System"
def TJ10 : u_T := fun k => match k with
  | _ => ("", "", "", false)
def tyJ10 : Nat → FieldType := fun k => match k with
  | _ => .int
theorem nmJ10 : ∀ a, a < 0 → ∀ b, b < 0 → a ≠ b → (TJ10 a).2.1 ≠ (TJ10 b).2.1 := by decide +kernel
theorem tyJ10_ok : ∀ k, k < 0 → parseFieldDescriptor (TJ10 k).2.2.1 = some (tyJ10 k) := by decide +kernel
def RJ3 : String := "jdk/internal/util/Preconditions"
def TJ3 : u_T := fun k => match k with
  | _ => ("", "", "", false)
def tyJ3 : Nat → FieldType := fun k => match k with
  | _ => .int
theorem nmJ3 : ∀ a, a < 0 → ∀ b, b < 0 → a ≠ b → (TJ3 a).2.1 ≠ (TJ3 b).2.1 := by decide +kernel
theorem tyJ3_ok : ∀ k, k < 0 → parseFieldDescriptor (TJ3 k).2.2.1 = some (tyJ3 k) := by decide +kernel
abbrev cJ3_checkIndex_8e157 : ByteArray := prog_18_method_11_code
def yJ3_checkIndex_8e157 : MethodName := ⟨RJ3, "checkIndex", "(IILjava/util/function/BiFunction;)I"⟩
def RL : String := "SamovarOpinionsLaw"
abbrev cL_law : ByteArray := code
def yL_law : MethodName := ⟨RL, "law", "([I)Z"⟩
abbrev vwCl : List vw_C := [(RX0, TX0, 7), (RX1, TX1, 10), (RX2, TX2, 2), (RX3, TX3, 7), (RX4, TX4, 9), (RX5, TX5, 10), (RX6, TX6, 3), (RX7, TX7, 5), (RX8, TX8, 6), (RX9, TX9, 10), (RX10, TX10, 48)]
def wsL_law : List Cond := lw_tbl.filter goodWord
theorem wsL_law_in : ∀ w ∈ wsL_law, w ∈ lw_tbl := fun _ h => (List.mem_filter.mp h).1
theorem wsL_good : GoodIn wsL_law wsL_law := fun _ h => ⟨h, good_of_word (List.mem_filter.mp h).2⟩
theorem tb1 {w : Cond} (h : w ∈ tables_1_1) : w ∈ tables_1 := List.mem_append_left _ h
theorem tb2 {w : Cond} (h : w ∈ tables_1_2) : w ∈ tables_1 := List.mem_append_right _ (List.mem_append_left _ h)
theorem tb3 {w : Cond} (h : w ∈ tables_1_3) : w ∈ tables_1 := List.mem_append_right _ (List.mem_append_right _ (List.mem_append_left _ h))
theorem tb4 {w : Cond} (h : w ∈ tables_1_4) : w ∈ tables_1 := List.mem_append_right _ (List.mem_append_right _ (List.mem_append_right _ (List.mem_append_left _ h)))
theorem tb5 {w : Cond} (h : w ∈ tables_1_5) : w ∈ tables_1 := List.mem_append_right _ (List.mem_append_right _ (List.mem_append_right _ (List.mem_append_right _ (List.mem_append_left _ h))))
theorem tb6 {w : Cond} (h : w ∈ tables_1_6) : w ∈ tables_1 := List.mem_append_right _ (List.mem_append_right _ (List.mem_append_right _ (List.mem_append_right _ (List.mem_append_right _ h))))
theorem wu {w : Cond} (h : w ∈ tables_1) (g : goodWord w = true) : w ∈ wsL_law := List.mem_filter.mpr ⟨List.mem_append_right _ h, g⟩
def isNest (w : Cond) : Bool := match w with
  | .fieldLinkNest .. => true
  | .methodLinkNest .. => true
  | _ => false
def nws : List Cond := tables_1.filter isNest
theorem wn {w : Cond} (h : w ∈ tables_1) (g : isNest w = true) : w ∈ nws := List.mem_filter.mpr ⟨h, g⟩
theorem nws_warm {w : Cond} {s U : State} (hw : w ∈ nws) (hW : s.WarmedH U.vm) (h : va_Nw w s) : va_Nw w U := by
  have hn := (List.mem_filter.mp hw).2
  unfold isNest at hn
  split at hn
  · exact va_Nw.warmF hW h
  · exact va_Nw.warmM hW h
  · cases hn
theorem nws_same {w : Cond} {u U : State} (hw : w ∈ nws) (hv : u.vm = U.vm) (h : va_Nw w u) : va_Nw w U := by
  have hn := (List.mem_filter.mp hw).2
  unfold isNest at hn
  split at hn
  · exact va_Nw.same rfl hv h
  · exact va_Nw.same rfl hv h
  · cases hn
theorem tst1 : Cond.fieldLink RX1 42 "SamovarOpinions$Evening" "samovar" "LSamovarOpinions$Samovar;" ∈ wsL_law := wu (tb1 (List.mem_of_getElem? (i := 198) (by decide +kernel))) rfl
theorem tst2 : Cond.fieldLink RX1 42 "SamovarOpinions$Evening" "samovar" "LSamovarOpinions$Samovar;" ∈ wsL_law := wu (tb1 (List.mem_of_getElem? (i := 198) rfl)) rfl
