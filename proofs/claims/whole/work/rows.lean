section
-- ===== PART A: goes FIRST, ahead of the names: the tables' words, and 'selects' of the private methods out of them =====
/-- a private method of a class that the tables say can be made, by its rows of tables_1 -/
def lw_okq (q : MethodName × Nat) : Prop := (q.1.cls ≠ "java/lang/invoke/MethodHandle" ∧ q.1.cls ≠ "java/lang/invoke/VarHandle") ∧ Cond.instantiable q.1.cls q.2 ∈ tables_1 ∧ Cond.privateMethod q.1 ∈ tables_1 ∧ Cond.instanceMethod q.1 ∈ tables_1
theorem lw_p0 : lw_okq (⟨"SamovarOpinions$Tape", "byteAt", "(I)I"⟩, 5) := ⟨⟨by decide +kernel, by decide +kernel⟩, List.mem_of_getElem? (i := 82) (by decide +kernel), List.mem_of_getElem? (i := 392) (by decide +kernel), List.mem_of_getElem? (i := 393) (by decide +kernel)⟩
theorem lw_p1 : lw_okq (⟨"SamovarOpinions$Tape", "wordFromHere", "()I"⟩, 5) := ⟨⟨by decide +kernel, by decide +kernel⟩, List.mem_of_getElem? (i := 82) (by decide +kernel), List.mem_of_getElem? (i := 402) (by decide +kernel), List.mem_of_getElem? (i := 403) (by decide +kernel)⟩
theorem lw_p2 : lw_okq (⟨"SamovarOpinions$Tape", "isWord", "(Ljava/lang/String;)Z"⟩, 5) := ⟨⟨by decide +kernel, by decide +kernel⟩, List.mem_of_getElem? (i := 82) (by decide +kernel), List.mem_of_getElem? (i := 407) (by decide +kernel), List.mem_of_getElem? (i := 408) (by decide +kernel)⟩
theorem lw_p3 : lw_okq (⟨"SamovarOpinions$Tape", "numberFromHere", "()I"⟩, 5) := ⟨⟨by decide +kernel, by decide +kernel⟩, List.mem_of_getElem? (i := 82) (by decide +kernel), List.mem_of_getElem? (i := 427) (by decide +kernel), List.mem_of_getElem? (i := 428) (by decide +kernel)⟩
theorem lw_p4 : lw_okq (⟨"SamovarOpinions$Reader", "readPart", "(I)Z"⟩, 2) := ⟨⟨by decide +kernel, by decide +kernel⟩, List.mem_of_getElem? (i := 135) (by decide +kernel), List.mem_of_getElem? (i := 434) (by decide +kernel), List.mem_of_getElem? (i := 435) (by decide +kernel)⟩
theorem lw_p5 : lw_okq (⟨"SamovarOpinions$Reader", "readToken", "(I)Z"⟩, 2) := ⟨⟨by decide +kernel, by decide +kernel⟩, List.mem_of_getElem? (i := 135) (by decide +kernel), List.mem_of_getElem? (i := 442) (by decide +kernel), List.mem_of_getElem? (i := 443) (by decide +kernel)⟩
theorem lw_p6 : lw_okq (⟨"SamovarOpinions$Reader", "readOr", "(I)Z"⟩, 2) := ⟨⟨by decide +kernel, by decide +kernel⟩, List.mem_of_getElem? (i := 135) (by decide +kernel), List.mem_of_getElem? (i := 447) (by decide +kernel), List.mem_of_getElem? (i := 448) (by decide +kernel)⟩
theorem lw_p7 : lw_okq (⟨"SamovarOpinions$Reader", "readAnd", "(I)Z"⟩, 2) := ⟨⟨by decide +kernel, by decide +kernel⟩, List.mem_of_getElem? (i := 135) (by decide +kernel), List.mem_of_getElem? (i := 451) (by decide +kernel), List.mem_of_getElem? (i := 452) (by decide +kernel)⟩
theorem lw_p8 : lw_okq (⟨"SamovarOpinions$Reader", "readNot", "(I)Z"⟩, 2) := ⟨⟨by decide +kernel, by decide +kernel⟩, List.mem_of_getElem? (i := 135) (by decide +kernel), List.mem_of_getElem? (i := 455) (by decide +kernel), List.mem_of_getElem? (i := 456) (by decide +kernel)⟩
theorem lw_p9 : lw_okq (⟨"SamovarOpinions$Reader", "readSum", "(I)Z"⟩, 2) := ⟨⟨by decide +kernel, by decide +kernel⟩, List.mem_of_getElem? (i := 135) (by decide +kernel), List.mem_of_getElem? (i := 463) (by decide +kernel), List.mem_of_getElem? (i := 464) (by decide +kernel)⟩
theorem lw_p10 : lw_okq (⟨"SamovarOpinions$Reader", "readTerm", "(I)Z"⟩, 2) := ⟨⟨by decide +kernel, by decide +kernel⟩, List.mem_of_getElem? (i := 135) (by decide +kernel), List.mem_of_getElem? (i := 467) (by decide +kernel), List.mem_of_getElem? (i := 468) (by decide +kernel)⟩
theorem lw_p11 : lw_okq (⟨"SamovarOpinions$Reader", "readOne", "(I)Z"⟩, 2) := ⟨⟨by decide +kernel, by decide +kernel⟩, List.mem_of_getElem? (i := 135) (by decide +kernel), List.mem_of_getElem? (i := 471) (by decide +kernel), List.mem_of_getElem? (i := 472) (by decide +kernel)⟩
theorem lw_p12 : lw_okq (⟨"SamovarOpinions$Samovar", "rowOf", "(I)[I"⟩, 10) := ⟨⟨by decide +kernel, by decide +kernel⟩, List.mem_of_getElem? (i := 27) (by decide +kernel), List.mem_of_getElem? (i := 534) (by decide +kernel), List.mem_of_getElem? (i := 535) (by decide +kernel)⟩
theorem lw_p13 : lw_okq (⟨"SamovarOpinions$Remark", "isAgain", "()Z"⟩, 9) := ⟨⟨by decide +kernel, by decide +kernel⟩, List.mem_of_getElem? (i := 156) (by decide +kernel), List.mem_of_getElem? (i := 599) (by decide +kernel), List.mem_of_getElem? (i := 600) (by decide +kernel)⟩
theorem lw_p14 : lw_okq (⟨"SamovarOpinions", "sheetOf", "(I)LSamovarOpinions$Sheet;"⟩, 10) := ⟨⟨by decide +kernel, by decide +kernel⟩, List.mem_of_getElem? (i := 19) (by decide +kernel), List.mem_of_getElem? (i := 625) (by decide +kernel), List.mem_of_getElem? (i := 626) (by decide +kernel)⟩
theorem lw_p15 : lw_okq (⟨"SamovarOpinions$Best", "seekWarmestBehind", "(III)V"⟩, 7) := ⟨⟨by decide +kernel, by decide +kernel⟩, List.mem_of_getElem? (i := 231) (by decide +kernel), List.mem_of_getElem? (i := 677) (by decide +kernel), List.mem_of_getElem? (i := 678) (by decide +kernel)⟩
def lw_privs_1 : List (MethodName × Nat) := [(⟨"SamovarOpinions$Tape", "byteAt", "(I)I"⟩, 5), (⟨"SamovarOpinions$Tape", "wordFromHere", "()I"⟩, 5), (⟨"SamovarOpinions$Tape", "isWord", "(Ljava/lang/String;)Z"⟩, 5), (⟨"SamovarOpinions$Tape", "numberFromHere", "()I"⟩, 5), (⟨"SamovarOpinions$Reader", "readPart", "(I)Z"⟩, 2), (⟨"SamovarOpinions$Reader", "readToken", "(I)Z"⟩, 2), (⟨"SamovarOpinions$Reader", "readOr", "(I)Z"⟩, 2), (⟨"SamovarOpinions$Reader", "readAnd", "(I)Z"⟩, 2), (⟨"SamovarOpinions$Reader", "readNot", "(I)Z"⟩, 2), (⟨"SamovarOpinions$Reader", "readSum", "(I)Z"⟩, 2), (⟨"SamovarOpinions$Reader", "readTerm", "(I)Z"⟩, 2), (⟨"SamovarOpinions$Reader", "readOne", "(I)Z"⟩, 2), (⟨"SamovarOpinions$Samovar", "rowOf", "(I)[I"⟩, 10), (⟨"SamovarOpinions$Remark", "isAgain", "()Z"⟩, 9), (⟨"SamovarOpinions", "sheetOf", "(I)LSamovarOpinions$Sheet;"⟩, 10), (⟨"SamovarOpinions$Best", "seekWarmestBehind", "(III)V"⟩, 7)]
theorem lw_r1 : ∀ q ∈ lw_privs_1, lw_okq q := List.forall_mem_cons.mpr ⟨lw_p0, List.forall_mem_cons.mpr ⟨lw_p1, List.forall_mem_cons.mpr ⟨lw_p2, List.forall_mem_cons.mpr ⟨lw_p3, List.forall_mem_cons.mpr ⟨lw_p4, List.forall_mem_cons.mpr ⟨lw_p5, List.forall_mem_cons.mpr ⟨lw_p6, List.forall_mem_cons.mpr ⟨lw_p7, List.forall_mem_cons.mpr ⟨lw_p8, List.forall_mem_cons.mpr ⟨lw_p9, List.forall_mem_cons.mpr ⟨lw_p10, List.forall_mem_cons.mpr ⟨lw_p11, List.forall_mem_cons.mpr ⟨lw_p12, List.forall_mem_cons.mpr ⟨lw_p13, List.forall_mem_cons.mpr ⟨lw_p14, List.forall_mem_cons.mpr ⟨lw_p15, fun _ h => absurd h List.not_mem_nil⟩⟩⟩⟩⟩⟩⟩⟩⟩⟩⟩⟩⟩⟩⟩⟩
theorem lw_p16 : lw_okq (⟨"SamovarOpinions$Best", "seekSoonestBehind", "(I)V"⟩, 7) := ⟨⟨by decide +kernel, by decide +kernel⟩, List.mem_of_getElem? (i := 231) (by decide +kernel), List.mem_of_getElem? (i := 699) (by decide +kernel), List.mem_of_getElem? (i := 700) (by decide +kernel)⟩
theorem lw_p17 : lw_okq (⟨"SamovarOpinions$Best", "isSooner", "(I)Z"⟩, 7) := ⟨⟨by decide +kernel, by decide +kernel⟩, List.mem_of_getElem? (i := 231) (by decide +kernel), List.mem_of_getElem? (i := 703) (by decide +kernel), List.mem_of_getElem? (i := 704) (by decide +kernel)⟩
theorem lw_p18 : lw_okq (⟨"SamovarOpinions$Best", "warmthByTurns", "(I)I"⟩, 7) := ⟨⟨by decide +kernel, by decide +kernel⟩, List.mem_of_getElem? (i := 231) (by decide +kernel), List.mem_of_getElem? (i := 729) (by decide +kernel), List.mem_of_getElem? (i := 730) (by decide +kernel)⟩
theorem lw_p19 : lw_okq (⟨"SamovarOpinions", "mayBeAskedOfTold", "(I)Z"⟩, 10) := ⟨⟨by decide +kernel, by decide +kernel⟩, List.mem_of_getElem? (i := 19) (by decide +kernel), List.mem_of_getElem? (i := 737) (by decide +kernel), List.mem_of_getElem? (i := 738) (by decide +kernel)⟩
theorem lw_p20 : lw_okq (⟨"SamovarOpinions$Recall", "seekWaysBehind", "(ILSamovarOpinions$Sheet;)V"⟩, 7) := ⟨⟨by decide +kernel, by decide +kernel⟩, List.mem_of_getElem? (i := 264) (by decide +kernel), List.mem_of_getElem? (i := 765) (by decide +kernel), List.mem_of_getElem? (i := 766) (by decide +kernel)⟩
theorem lw_p21 : lw_okq (⟨"SamovarOpinions$Recall", "noteWay", "()V"⟩, 7) := ⟨⟨by decide +kernel, by decide +kernel⟩, List.mem_of_getElem? (i := 264) (by decide +kernel), List.mem_of_getElem? (i := 769) (by decide +kernel), List.mem_of_getElem? (i := 770) (by decide +kernel)⟩
theorem lw_p22 : lw_okq (⟨"SamovarOpinionsModel", "spell", "(IIIIIIIII)V"⟩, 48) := ⟨⟨by decide +kernel, by decide +kernel⟩, List.mem_of_getElem? (i := 872) (by decide +kernel), List.mem_of_getElem? (i := 878) (by decide +kernel), List.mem_of_getElem? (i := 879) (by decide +kernel)⟩
theorem lw_p23 : lw_okq (⟨"SamovarOpinionsModel", "isOne", "(I)Z"⟩, 48) := ⟨⟨by decide +kernel, by decide +kernel⟩, List.mem_of_getElem? (i := 872) (by decide +kernel), List.mem_of_getElem? (i := 1034) (by decide +kernel), List.mem_of_getElem? (i := 1035) (by decide +kernel)⟩
theorem lw_p24 : lw_okq (⟨"SamovarOpinionsModel", "begins", "()V"⟩, 48) := ⟨⟨by decide +kernel, by decide +kernel⟩, List.mem_of_getElem? (i := 872) (by decide +kernel), List.mem_of_getElem? (i := 1046) (by decide +kernel), List.mem_of_getElem? (i := 1047) (by decide +kernel)⟩
theorem lw_p25 : lw_okq (⟨"SamovarOpinionsModel", "looks", "(II)V"⟩, 48) := ⟨⟨by decide +kernel, by decide +kernel⟩, List.mem_of_getElem? (i := 872) (by decide +kernel), List.mem_of_getElem? (i := 1050) (by decide +kernel), List.mem_of_getElem? (i := 1051) (by decide +kernel)⟩
theorem lw_p26 : lw_okq (⟨"SamovarOpinionsModel", "topicOf", "(I)I"⟩, 48) := ⟨⟨by decide +kernel, by decide +kernel⟩, List.mem_of_getElem? (i := 872) (by decide +kernel), List.mem_of_getElem? (i := 1054) (by decide +kernel), List.mem_of_getElem? (i := 1055) (by decide +kernel)⟩
theorem lw_p27 : lw_okq (⟨"SamovarOpinionsModel", "warmsOf", "(IZ)I"⟩, 48) := ⟨⟨by decide +kernel, by decide +kernel⟩, List.mem_of_getElem? (i := 872) (by decide +kernel), List.mem_of_getElem? (i := 1058) (by decide +kernel), List.mem_of_getElem? (i := 1059) (by decide +kernel)⟩
theorem lw_p28 : lw_okq (⟨"SamovarOpinionsModel", "read", "(II)I"⟩, 48) := ⟨⟨by decide +kernel, by decide +kernel⟩, List.mem_of_getElem? (i := 872) (by decide +kernel), List.mem_of_getElem? (i := 1062) (by decide +kernel), List.mem_of_getElem? (i := 1063) (by decide +kernel)⟩
theorem lw_p29 : lw_okq (⟨"SamovarOpinionsModel", "next", "()V"⟩, 48) := ⟨⟨by decide +kernel, by decide +kernel⟩, List.mem_of_getElem? (i := 872) (by decide +kernel), List.mem_of_getElem? (i := 1066) (by decide +kernel), List.mem_of_getElem? (i := 1067) (by decide +kernel)⟩
theorem lw_p30 : lw_okq (⟨"SamovarOpinionsModel", "byteAt", "(I)I"⟩, 48) := ⟨⟨by decide +kernel, by decide +kernel⟩, List.mem_of_getElem? (i := 872) (by decide +kernel), List.mem_of_getElem? (i := 1070) (by decide +kernel), List.mem_of_getElem? (i := 1071) (by decide +kernel)⟩
theorem lw_p31 : lw_okq (⟨"SamovarOpinionsModel", "isWord", "(IIIIIIII)Z"⟩, 48) := ⟨⟨by decide +kernel, by decide +kernel⟩, List.mem_of_getElem? (i := 872) (by decide +kernel), List.mem_of_getElem? (i := 1079) (by decide +kernel), List.mem_of_getElem? (i := 1080) (by decide +kernel)⟩
def lw_privs_2 : List (MethodName × Nat) := [(⟨"SamovarOpinions$Best", "seekSoonestBehind", "(I)V"⟩, 7), (⟨"SamovarOpinions$Best", "isSooner", "(I)Z"⟩, 7), (⟨"SamovarOpinions$Best", "warmthByTurns", "(I)I"⟩, 7), (⟨"SamovarOpinions", "mayBeAskedOfTold", "(I)Z"⟩, 10), (⟨"SamovarOpinions$Recall", "seekWaysBehind", "(ILSamovarOpinions$Sheet;)V"⟩, 7), (⟨"SamovarOpinions$Recall", "noteWay", "()V"⟩, 7), (⟨"SamovarOpinionsModel", "spell", "(IIIIIIIII)V"⟩, 48), (⟨"SamovarOpinionsModel", "isOne", "(I)Z"⟩, 48), (⟨"SamovarOpinionsModel", "begins", "()V"⟩, 48), (⟨"SamovarOpinionsModel", "looks", "(II)V"⟩, 48), (⟨"SamovarOpinionsModel", "topicOf", "(I)I"⟩, 48), (⟨"SamovarOpinionsModel", "warmsOf", "(IZ)I"⟩, 48), (⟨"SamovarOpinionsModel", "read", "(II)I"⟩, 48), (⟨"SamovarOpinionsModel", "next", "()V"⟩, 48), (⟨"SamovarOpinionsModel", "byteAt", "(I)I"⟩, 48), (⟨"SamovarOpinionsModel", "isWord", "(IIIIIIII)Z"⟩, 48)]
theorem lw_r2 : ∀ q ∈ lw_privs_2, lw_okq q := List.forall_mem_cons.mpr ⟨lw_p16, List.forall_mem_cons.mpr ⟨lw_p17, List.forall_mem_cons.mpr ⟨lw_p18, List.forall_mem_cons.mpr ⟨lw_p19, List.forall_mem_cons.mpr ⟨lw_p20, List.forall_mem_cons.mpr ⟨lw_p21, List.forall_mem_cons.mpr ⟨lw_p22, List.forall_mem_cons.mpr ⟨lw_p23, List.forall_mem_cons.mpr ⟨lw_p24, List.forall_mem_cons.mpr ⟨lw_p25, List.forall_mem_cons.mpr ⟨lw_p26, List.forall_mem_cons.mpr ⟨lw_p27, List.forall_mem_cons.mpr ⟨lw_p28, List.forall_mem_cons.mpr ⟨lw_p29, List.forall_mem_cons.mpr ⟨lw_p30, List.forall_mem_cons.mpr ⟨lw_p31, fun _ h => absurd h List.not_mem_nil⟩⟩⟩⟩⟩⟩⟩⟩⟩⟩⟩⟩⟩⟩⟩⟩
theorem lw_p32 : lw_okq (⟨"SamovarOpinionsModel", "isLetter", "(II)Z"⟩, 48) := ⟨⟨by decide +kernel, by decide +kernel⟩, List.mem_of_getElem? (i := 872) (by decide +kernel), List.mem_of_getElem? (i := 1083) (by decide +kernel), List.mem_of_getElem? (i := 1084) (by decide +kernel)⟩
theorem lw_p33 : lw_okq (⟨"SamovarOpinionsModel", "part", "(Z)I"⟩, 48) := ⟨⟨by decide +kernel, by decide +kernel⟩, List.mem_of_getElem? (i := 872) (by decide +kernel), List.mem_of_getElem? (i := 1087) (by decide +kernel), List.mem_of_getElem? (i := 1088) (by decide +kernel)⟩
theorem lw_p34 : lw_okq (⟨"SamovarOpinionsModel", "fail", "()V"⟩, 48) := ⟨⟨by decide +kernel, by decide +kernel⟩, List.mem_of_getElem? (i := 872) (by decide +kernel), List.mem_of_getElem? (i := 1091) (by decide +kernel), List.mem_of_getElem? (i := 1092) (by decide +kernel)⟩
theorem lw_p35 : lw_okq (⟨"SamovarOpinionsModel", "either", "()I"⟩, 48) := ⟨⟨by decide +kernel, by decide +kernel⟩, List.mem_of_getElem? (i := 872) (by decide +kernel), List.mem_of_getElem? (i := 1095) (by decide +kernel), List.mem_of_getElem? (i := 1096) (by decide +kernel)⟩
theorem lw_p36 : lw_okq (⟨"SamovarOpinionsModel", "both", "()I"⟩, 48) := ⟨⟨by decide +kernel, by decide +kernel⟩, List.mem_of_getElem? (i := 872) (by decide +kernel), List.mem_of_getElem? (i := 1099) (by decide +kernel), List.mem_of_getElem? (i := 1100) (by decide +kernel)⟩
theorem lw_p37 : lw_okq (⟨"SamovarOpinionsModel", "not", "()I"⟩, 48) := ⟨⟨by decide +kernel, by decide +kernel⟩, List.mem_of_getElem? (i := 872) (by decide +kernel), List.mem_of_getElem? (i := 1103) (by decide +kernel), List.mem_of_getElem? (i := 1104) (by decide +kernel)⟩
theorem lw_p38 : lw_okq (⟨"SamovarOpinionsModel", "opens", "()Z"⟩, 48) := ⟨⟨by decide +kernel, by decide +kernel⟩, List.mem_of_getElem? (i := 872) (by decide +kernel), List.mem_of_getElem? (i := 1107) (by decide +kernel), List.mem_of_getElem? (i := 1108) (by decide +kernel)⟩
theorem lw_p39 : lw_okq (⟨"SamovarOpinionsModel", "added", "()I"⟩, 48) := ⟨⟨by decide +kernel, by decide +kernel⟩, List.mem_of_getElem? (i := 872) (by decide +kernel), List.mem_of_getElem? (i := 1111) (by decide +kernel), List.mem_of_getElem? (i := 1112) (by decide +kernel)⟩
theorem lw_p40 : lw_okq (⟨"SamovarOpinionsModel", "term", "()I"⟩, 48) := ⟨⟨by decide +kernel, by decide +kernel⟩, List.mem_of_getElem? (i := 872) (by decide +kernel), List.mem_of_getElem? (i := 1115) (by decide +kernel), List.mem_of_getElem? (i := 1116) (by decide +kernel)⟩
theorem lw_p41 : lw_okq (⟨"SamovarOpinionsModel", "atom", "()I"⟩, 48) := ⟨⟨by decide +kernel, by decide +kernel⟩, List.mem_of_getElem? (i := 872) (by decide +kernel), List.mem_of_getElem? (i := 1119) (by decide +kernel), List.mem_of_getElem? (i := 1120) (by decide +kernel)⟩
theorem lw_p42 : lw_okq (⟨"SamovarOpinionsModel", "isSign", "(I)Z"⟩, 48) := ⟨⟨by decide +kernel, by decide +kernel⟩, List.mem_of_getElem? (i := 872) (by decide +kernel), List.mem_of_getElem? (i := 1123) (by decide +kernel), List.mem_of_getElem? (i := 1124) (by decide +kernel)⟩
theorem lw_p43 : lw_okq (⟨"SamovarOpinionsModel", "name", "()I"⟩, 48) := ⟨⟨by decide +kernel, by decide +kernel⟩, List.mem_of_getElem? (i := 872) (by decide +kernel), List.mem_of_getElem? (i := 1127) (by decide +kernel), List.mem_of_getElem? (i := 1128) (by decide +kernel)⟩
theorem lw_p44 : lw_okq (⟨"SamovarOpinionsModel", "coolsOf", "(IZ)I"⟩, 48) := ⟨⟨by decide +kernel, by decide +kernel⟩, List.mem_of_getElem? (i := 872) (by decide +kernel), List.mem_of_getElem? (i := 1136) (by decide +kernel), List.mem_of_getElem? (i := 1137) (by decide +kernel)⟩
theorem lw_p45 : lw_okq (⟨"SamovarOpinionsModel", "lays", "(III)V"⟩, 48) := ⟨⟨by decide +kernel, by decide +kernel⟩, List.mem_of_getElem? (i := 872) (by decide +kernel), List.mem_of_getElem? (i := 1140) (by decide +kernel), List.mem_of_getElem? (i := 1141) (by decide +kernel)⟩
theorem lw_p46 : lw_okq (⟨"SamovarOpinionsModel", "isOrder", "(I)Z"⟩, 48) := ⟨⟨by decide +kernel, by decide +kernel⟩, List.mem_of_getElem? (i := 872) (by decide +kernel), List.mem_of_getElem? (i := 1173) (by decide +kernel), List.mem_of_getElem? (i := 1174) (by decide +kernel)⟩
theorem lw_p47 : lw_okq (⟨"SamovarOpinionsModel", "goes", "(I)V"⟩, 48) := ⟨⟨by decide +kernel, by decide +kernel⟩, List.mem_of_getElem? (i := 872) (by decide +kernel), List.mem_of_getElem? (i := 1177) (by decide +kernel), List.mem_of_getElem? (i := 1178) (by decide +kernel)⟩
def lw_privs_3 : List (MethodName × Nat) := [(⟨"SamovarOpinionsModel", "isLetter", "(II)Z"⟩, 48), (⟨"SamovarOpinionsModel", "part", "(Z)I"⟩, 48), (⟨"SamovarOpinionsModel", "fail", "()V"⟩, 48), (⟨"SamovarOpinionsModel", "either", "()I"⟩, 48), (⟨"SamovarOpinionsModel", "both", "()I"⟩, 48), (⟨"SamovarOpinionsModel", "not", "()I"⟩, 48), (⟨"SamovarOpinionsModel", "opens", "()Z"⟩, 48), (⟨"SamovarOpinionsModel", "added", "()I"⟩, 48), (⟨"SamovarOpinionsModel", "term", "()I"⟩, 48), (⟨"SamovarOpinionsModel", "atom", "()I"⟩, 48), (⟨"SamovarOpinionsModel", "isSign", "(I)Z"⟩, 48), (⟨"SamovarOpinionsModel", "name", "()I"⟩, 48), (⟨"SamovarOpinionsModel", "coolsOf", "(IZ)I"⟩, 48), (⟨"SamovarOpinionsModel", "lays", "(III)V"⟩, 48), (⟨"SamovarOpinionsModel", "isOrder", "(I)Z"⟩, 48), (⟨"SamovarOpinionsModel", "goes", "(I)V"⟩, 48)]
theorem lw_r3 : ∀ q ∈ lw_privs_3, lw_okq q := List.forall_mem_cons.mpr ⟨lw_p32, List.forall_mem_cons.mpr ⟨lw_p33, List.forall_mem_cons.mpr ⟨lw_p34, List.forall_mem_cons.mpr ⟨lw_p35, List.forall_mem_cons.mpr ⟨lw_p36, List.forall_mem_cons.mpr ⟨lw_p37, List.forall_mem_cons.mpr ⟨lw_p38, List.forall_mem_cons.mpr ⟨lw_p39, List.forall_mem_cons.mpr ⟨lw_p40, List.forall_mem_cons.mpr ⟨lw_p41, List.forall_mem_cons.mpr ⟨lw_p42, List.forall_mem_cons.mpr ⟨lw_p43, List.forall_mem_cons.mpr ⟨lw_p44, List.forall_mem_cons.mpr ⟨lw_p45, List.forall_mem_cons.mpr ⟨lw_p46, List.forall_mem_cons.mpr ⟨lw_p47, fun _ h => absurd h List.not_mem_nil⟩⟩⟩⟩⟩⟩⟩⟩⟩⟩⟩⟩⟩⟩⟩⟩
theorem lw_p48 : lw_okq (⟨"SamovarOpinionsModel", "comes", "(II)V"⟩, 48) := ⟨⟨by decide +kernel, by decide +kernel⟩, List.mem_of_getElem? (i := 872) (by decide +kernel), List.mem_of_getElem? (i := 1181) (by decide +kernel), List.mem_of_getElem? (i := 1182) (by decide +kernel)⟩
theorem lw_p49 : lw_okq (⟨"SamovarOpinionsModel", "boilsAt", "(I)I"⟩, 48) := ⟨⟨by decide +kernel, by decide +kernel⟩, List.mem_of_getElem? (i := 872) (by decide +kernel), List.mem_of_getElem? (i := 1185) (by decide +kernel), List.mem_of_getElem? (i := 1186) (by decide +kernel)⟩
theorem lw_p50 : lw_okq (⟨"SamovarOpinionsModel", "screamsTill", "(I)I"⟩, 48) := ⟨⟨by decide +kernel, by decide +kernel⟩, List.mem_of_getElem? (i := 872) (by decide +kernel), List.mem_of_getElem? (i := 1189) (by decide +kernel), List.mem_of_getElem? (i := 1190) (by decide +kernel)⟩
theorem lw_p51 : lw_okq (⟨"SamovarOpinionsModel", "everybody", "()I"⟩, 48) := ⟨⟨by decide +kernel, by decide +kernel⟩, List.mem_of_getElem? (i := 872) (by decide +kernel), List.mem_of_getElem? (i := 1201) (by decide +kernel), List.mem_of_getElem? (i := 1202) (by decide +kernel)⟩
theorem lw_p52 : lw_okq (⟨"SamovarOpinionsModel", "warmestOf", "(I)I"⟩, 48) := ⟨⟨by decide +kernel, by decide +kernel⟩, List.mem_of_getElem? (i := 872) (by decide +kernel), List.mem_of_getElem? (i := 1205) (by decide +kernel), List.mem_of_getElem? (i := 1206) (by decide +kernel)⟩
theorem lw_p53 : lw_okq (⟨"SamovarOpinionsModel", "seeksWarmest", "(III)V"⟩, 48) := ⟨⟨by decide +kernel, by decide +kernel⟩, List.mem_of_getElem? (i := 872) (by decide +kernel), List.mem_of_getElem? (i := 1209) (by decide +kernel), List.mem_of_getElem? (i := 1210) (by decide +kernel)⟩
theorem lw_p54 : lw_okq (⟨"SamovarOpinionsModel", "seeksSoonest", "(III)V"⟩, 48) := ⟨⟨by decide +kernel, by decide +kernel⟩, List.mem_of_getElem? (i := 872) (by decide +kernel), List.mem_of_getElem? (i := 1217) (by decide +kernel), List.mem_of_getElem? (i := 1218) (by decide +kernel)⟩
theorem lw_p55 : lw_okq (⟨"SamovarOpinionsModel", "seeksFew", "(IIII)I"⟩, 48) := ⟨⟨by decide +kernel, by decide +kernel⟩, List.mem_of_getElem? (i := 872) (by decide +kernel), List.mem_of_getElem? (i := 1221) (by decide +kernel), List.mem_of_getElem? (i := 1222) (by decide +kernel)⟩
theorem lw_p56 : lw_okq (⟨"SamovarOpinionsModel", "plays", "(II)I"⟩, 48) := ⟨⟨by decide +kernel, by decide +kernel⟩, List.mem_of_getElem? (i := 872) (by decide +kernel), List.mem_of_getElem? (i := 1237) (by decide +kernel), List.mem_of_getElem? (i := 1238) (by decide +kernel)⟩
theorem lw_p57 : lw_okq (⟨"SamovarOpinionsModel", "firstOther", "(I)I"⟩, 48) := ⟨⟨by decide +kernel, by decide +kernel⟩, List.mem_of_getElem? (i := 872) (by decide +kernel), List.mem_of_getElem? (i := 1247) (by decide +kernel), List.mem_of_getElem? (i := 1248) (by decide +kernel)⟩
theorem lw_p58 : lw_okq (⟨"SamovarOpinionsModel", "seeksWays", "(IIII)V"⟩, 48) := ⟨⟨by decide +kernel, by decide +kernel⟩, List.mem_of_getElem? (i := 872) (by decide +kernel), List.mem_of_getElem? (i := 1251) (by decide +kernel), List.mem_of_getElem? (i := 1252) (by decide +kernel)⟩
theorem lw_p59 : lw_okq (⟨"SamovarOpinionsModel", "sure", "()I"⟩, 48) := ⟨⟨by decide +kernel, by decide +kernel⟩, List.mem_of_getElem? (i := 872) (by decide +kernel), List.mem_of_getElem? (i := 1255) (by decide +kernel), List.mem_of_getElem? (i := 1256) (by decide +kernel)⟩
theorem lw_p60 : lw_okq (⟨"SamovarOpinionsModel", "draws", "(I)V"⟩, 48) := ⟨⟨by decide +kernel, by decide +kernel⟩, List.mem_of_getElem? (i := 872) (by decide +kernel), List.mem_of_getElem? (i := 1272) (by decide +kernel), List.mem_of_getElem? (i := 1273) (by decide +kernel)⟩
def lw_privs_4 : List (MethodName × Nat) := [(⟨"SamovarOpinionsModel", "comes", "(II)V"⟩, 48), (⟨"SamovarOpinionsModel", "boilsAt", "(I)I"⟩, 48), (⟨"SamovarOpinionsModel", "screamsTill", "(I)I"⟩, 48), (⟨"SamovarOpinionsModel", "everybody", "()I"⟩, 48), (⟨"SamovarOpinionsModel", "warmestOf", "(I)I"⟩, 48), (⟨"SamovarOpinionsModel", "seeksWarmest", "(III)V"⟩, 48), (⟨"SamovarOpinionsModel", "seeksSoonest", "(III)V"⟩, 48), (⟨"SamovarOpinionsModel", "seeksFew", "(IIII)I"⟩, 48), (⟨"SamovarOpinionsModel", "plays", "(II)I"⟩, 48), (⟨"SamovarOpinionsModel", "firstOther", "(I)I"⟩, 48), (⟨"SamovarOpinionsModel", "seeksWays", "(IIII)V"⟩, 48), (⟨"SamovarOpinionsModel", "sure", "()I"⟩, 48), (⟨"SamovarOpinionsModel", "draws", "(I)V"⟩, 48)]
theorem lw_r4 : ∀ q ∈ lw_privs_4, lw_okq q := List.forall_mem_cons.mpr ⟨lw_p48, List.forall_mem_cons.mpr ⟨lw_p49, List.forall_mem_cons.mpr ⟨lw_p50, List.forall_mem_cons.mpr ⟨lw_p51, List.forall_mem_cons.mpr ⟨lw_p52, List.forall_mem_cons.mpr ⟨lw_p53, List.forall_mem_cons.mpr ⟨lw_p54, List.forall_mem_cons.mpr ⟨lw_p55, List.forall_mem_cons.mpr ⟨lw_p56, List.forall_mem_cons.mpr ⟨lw_p57, List.forall_mem_cons.mpr ⟨lw_p58, List.forall_mem_cons.mpr ⟨lw_p59, List.forall_mem_cons.mpr ⟨lw_p60, fun _ h => absurd h List.not_mem_nil⟩⟩⟩⟩⟩⟩⟩⟩⟩⟩⟩⟩⟩
def lw_privs : List (MethodName × Nat) := lw_privs_1 ++ (lw_privs_2 ++ (lw_privs_3 ++ (lw_privs_4)))
def lw_tbl : List Cond := k2_sels lw_privs ++ tables_1
theorem lw_privs_ok : ∀ q ∈ lw_privs, lw_okq q := by
  show ∀ q ∈ lw_privs_1 ++ (lw_privs_2 ++ (lw_privs_3 ++ (lw_privs_4))), lw_okq q
  exact List.forall_mem_append.mpr ⟨lw_r1, List.forall_mem_append.mpr ⟨lw_r2, List.forall_mem_append.mpr ⟨lw_r3, lw_r4⟩⟩⟩
-- ===== end of PART A; then your names; then what follows =====
/-! ===== BEGIN words of one list among another's, by their places ===== -/
theorem goodIn_r {big : List Cond} (ws : List Cond) (ps : List Nat) (hp : ws = ps.filterMap (fun i => big[i]?)) (h : ws.all goodWord = true) : GoodIn big ws := by
  intro w hw
  have h1 := List.all_eq_true.mp h w hw
  rw [hp] at hw
  obtain ⟨i, -, hi⟩ := List.mem_filterMap.mp hw
  have hm : w ∈ big := by first | exact List.mem_of_getElem? hi | exact List.getElem?_mem hi
  exact ⟨hm, good_of_word h1⟩
theorem goodIn_app {big a b : List Cond} (ha : GoodIn big a) (hb : GoodIn big b) : GoodIn big (a ++ b) := fun w h => (List.mem_append.mp h).elim (ha w) (hb w)
theorem goodIn_ca {big a b : List Cond} {c : Cond} (ha : GoodIn big (c :: a)) (hb : GoodIn big b) : GoodIn big (c :: (a ++ b)) := fun w h => (List.mem_cons.mp h).elim (fun e => ha w (List.mem_cons.mpr (Or.inl e))) (fun h => (List.mem_append.mp h).elim (fun h => ha w (List.mem_cons.mpr (Or.inr h))) (hb w))
theorem goodIn_sub {big ws : List Cond} (hm : ∀ w ∈ ws, w ∈ big) (h : ws.all goodWord = true) : GoodIn big ws := fun w hw => ⟨hm w hw, good_of_word (List.all_eq_true.mp h w hw)⟩
/-! ===== END ===== -/
def RX0 : String := "SamovarOpinions$Best"
def TX0 : u_T := fun k => match k with
  | 0 => ("SamovarOpinions$Best", "samovar", "LSamovarOpinions$Samovar;", true)
  | 1 => ("SamovarOpinions$Best", "party", "LSamovarOpinions$Evening;", true)
  | 2 => ("SamovarOpinions$Best", "warmth", "I", false)
  | 3 => ("SamovarOpinions$Best", "order", "I", false)
  | 4 => ("SamovarOpinions$Best", "place", "I", false)
  | 5 => ("SamovarOpinions$Best", "few", "I", false)
  | _ => ("SamovarOpinions$Best", "firstCalled", "I", false)
def tyX0 : Nat → FieldType := fun k => match k with
  | 0 => .object "SamovarOpinions$Samovar"
  | 1 => .object "SamovarOpinions$Evening"
  | 2 => .int
  | 3 => .int
  | 4 => .int
  | 5 => .int
  | _ => .int
abbrev wsX00 : List Cond := u_ws RX0 TX0 7
theorem nmX0 : ∀ a, a < 7 → ∀ b, b < 7 → a ≠ b → (TX0 a).2.1 ≠ (TX0 b).2.1 := by decide +kernel
theorem tyX0_ok : ∀ k, k < 7 → parseFieldDescriptor (TX0 k).2.2.1 = some (tyX0 k) := by decide +kernel
abbrev cX0_init : ByteArray := prog_2_method_1_code
def yX0_init : MethodName := ⟨RX0, "<init>", "(LSamovarOpinions$Samovar;LSamovarOpinions$Evening;)V"⟩
abbrev cX0_seekWarmest : ByteArray := prog_2_method_2_code
def yX0_seekWarmest : MethodName := ⟨RX0, "seekWarmest", "(I)V"⟩
abbrev cX0_seekWarmestBehind : ByteArray := prog_2_method_3_code
def yX0_seekWarmestBehind : MethodName := ⟨RX0, "seekWarmestBehind", "(III)V"⟩
abbrev cX0_seekSoonest : ByteArray := prog_2_method_4_code
def yX0_seekSoonest : MethodName := ⟨RX0, "seekSoonest", "()V"⟩
abbrev cX0_seekSoonestBehind : ByteArray := prog_2_method_5_code
def yX0_seekSoonestBehind : MethodName := ⟨RX0, "seekSoonestBehind", "(I)V"⟩
abbrev cX0_isSooner : ByteArray := prog_2_method_6_code
def yX0_isSooner : MethodName := ⟨RX0, "isSooner", "(I)Z"⟩
abbrev cX0_seekByTurns : ByteArray := prog_2_method_7_code
def yX0_seekByTurns : MethodName := ⟨RX0, "seekByTurns", "()V"⟩
abbrev cX0_warmthByTurns : ByteArray := prog_2_method_8_code
def yX0_warmthByTurns : MethodName := ⟨RX0, "warmthByTurns", "(I)I"⟩
def RX1 : String := "SamovarOpinions$Evening"
def TX1 : u_T := fun k => match k with
  | 0 => ("SamovarOpinions$Evening", "samovar", "LSamovarOpinions$Samovar;", true)
  | 1 => ("SamovarOpinions$Evening", "texts", "LSamovarOpinions$Texts;", true)
  | 2 => ("SamovarOpinions$Evening", "remark", "LSamovarOpinions$Remark;", true)
  | 3 => ("SamovarOpinions$Evening", "order", "[I", true)
  | 4 => ("SamovarOpinions$Evening", "topicOf", "[I", true)
  | 5 => ("SamovarOpinions$Evening", "behind", "[I", true)
  | 6 => ("SamovarOpinions$Evening", "boils", "[Z", true)
  | 7 => ("SamovarOpinions$Evening", "screams", "[Z", true)
  | 8 => ("SamovarOpinions$Evening", "ahead", "I", false)
  | _ => ("SamovarOpinions$Evening", "whoCame", "I", false)
def tyX1 : Nat → FieldType := fun k => match k with
  | 0 => .object "SamovarOpinions$Samovar"
  | 1 => .object "SamovarOpinions$Texts"
  | 2 => .object "SamovarOpinions$Remark"
  | 3 => .array .int
  | 4 => .array .int
  | 5 => .array .int
  | 6 => .array .boolean
  | 7 => .array .boolean
  | 8 => .int
  | _ => .int
abbrev wsX10 : List Cond := u_ws RX1 TX1 10
theorem nmX1 : ∀ a, a < 10 → ∀ b, b < 10 → a ≠ b → (TX1 a).2.1 ≠ (TX1 b).2.1 := by decide +kernel
theorem tyX1_ok : ∀ k, k < 10 → parseFieldDescriptor (TX1 k).2.2.1 = some (tyX1 k) := by decide +kernel
abbrev cX1_init : ByteArray := prog_3_method_1_code
def yX1_init : MethodName := ⟨RX1, "<init>", "(LSamovarOpinions$Samovar;LSamovarOpinions$Texts;)V"⟩
abbrev cX1_begin : ByteArray := prog_3_method_2_code
def yX1_begin : MethodName := ⟨RX1, "begin", "()V"⟩
abbrev cX1_hasCome : ByteArray := prog_3_method_3_code
def yX1_hasCome : MethodName := ⟨RX1, "hasCome", "(I)Z"⟩
abbrev cX1_comeUp : ByteArray := prog_3_method_4_code
def yX1_comeUp : MethodName := ⟨RX1, "comeUp", "(I)Z"⟩
abbrev cX1_goBack : ByteArray := prog_3_method_5_code
def yX1_goBack : MethodName := ⟨RX1, "goBack", "()V"⟩
abbrev cX1_comeBy : ByteArray := prog_3_method_6_code
def yX1_comeBy : MethodName := ⟨RX1, "comeBy", "(LSamovarOpinions$Sheet;)Z"⟩
abbrev cX1_comeByNumber : ByteArray := prog_3_method_7_code
def yX1_comeByNumber : MethodName := ⟨RX1, "comeByNumber", "()V"⟩
abbrev cX1_hear : ByteArray := prog_3_method_8_code
def yX1_hear : MethodName := ⟨RX1, "hear", "(I)V"⟩
abbrev cX1_warms : ByteArray := prog_3_method_9_code
def yX1_warms : MethodName := ⟨RX1, "warms", "()I"⟩
abbrev cX1_cools : ByteArray := prog_3_method_10_code
def yX1_cools : MethodName := ⟨RX1, "cools", "()I"⟩
abbrev cX1_warmthNow : ByteArray := prog_3_method_11_code
def yX1_warmthNow : MethodName := ⟨RX1, "warmthNow", "()I"⟩
abbrev cX1_warmthBehind : ByteArray := prog_3_method_12_code
def yX1_warmthBehind : MethodName := ⟨RX1, "warmthBehind", "(I)I"⟩
abbrev cX1_guestAt : ByteArray := prog_3_method_13_code
def yX1_guestAt : MethodName := ⟨RX1, "guestAt", "(I)I"⟩
abbrev cX1_firstBoil : ByteArray := prog_3_method_14_code
def yX1_firstBoil : MethodName := ⟨RX1, "firstBoil", "()I"⟩
abbrev cX1_screamsSoFar : ByteArray := prog_3_method_15_code
def yX1_screamsSoFar : MethodName := ⟨RX1, "screamsSoFar", "()I"⟩
abbrev cX1_digits : ByteArray := prog_3_method_16_code
def yX1_digits : MethodName := ⟨RX1, "digits", "()I"⟩
abbrev cX1_digitsOfAll : ByteArray := prog_3_method_17_code
def yX1_digitsOfAll : MethodName := ⟨RX1, "digitsOfAll", "()I"⟩
def RX2 : String := "SamovarOpinions$Reader"
def TX2 : u_T := fun k => match k with
  | 0 => ("SamovarOpinions$Reader", "tape", "LSamovarOpinions$Tape;", true)
  | _ => ("SamovarOpinions$Reader", "texts", "LSamovarOpinions$Texts;", true)
def tyX2 : Nat → FieldType := fun k => match k with
  | 0 => .object "SamovarOpinions$Tape"
  | _ => .object "SamovarOpinions$Texts"
abbrev wsX20 : List Cond := u_ws RX2 TX2 2
theorem nmX2 : ∀ a, a < 2 → ∀ b, b < 2 → a ≠ b → (TX2 a).2.1 ≠ (TX2 b).2.1 := by decide +kernel
theorem tyX2_ok : ∀ k, k < 2 → parseFieldDescriptor (TX2 k).2.2.1 = some (tyX2 k) := by decide +kernel
abbrev cX2_init : ByteArray := prog_4_method_1_code
def yX2_init : MethodName := ⟨RX2, "<init>", "(LSamovarOpinions$Tape;LSamovarOpinions$Texts;)V"⟩
abbrev cX2_read : ByteArray := prog_4_method_2_code
def yX2_read : MethodName := ⟨RX2, "read", "()I"⟩
abbrev cX2_readPart : ByteArray := prog_4_method_3_code
def yX2_readPart : MethodName := ⟨RX2, "readPart", "(I)Z"⟩
abbrev cX2_readToken : ByteArray := prog_4_method_4_code
def yX2_readToken : MethodName := ⟨RX2, "readToken", "(I)Z"⟩
abbrev cX2_readOr : ByteArray := prog_4_method_5_code
def yX2_readOr : MethodName := ⟨RX2, "readOr", "(I)Z"⟩
abbrev cX2_readAnd : ByteArray := prog_4_method_6_code
def yX2_readAnd : MethodName := ⟨RX2, "readAnd", "(I)Z"⟩
abbrev cX2_readNot : ByteArray := prog_4_method_7_code
def yX2_readNot : MethodName := ⟨RX2, "readNot", "(I)Z"⟩
abbrev cX2_readSum : ByteArray := prog_4_method_8_code
def yX2_readSum : MethodName := ⟨RX2, "readSum", "(I)Z"⟩
abbrev cX2_readTerm : ByteArray := prog_4_method_9_code
def yX2_readTerm : MethodName := ⟨RX2, "readTerm", "(I)Z"⟩
abbrev cX2_readOne : ByteArray := prog_4_method_10_code
def yX2_readOne : MethodName := ⟨RX2, "readOne", "(I)Z"⟩
def RX3 : String := "SamovarOpinions$Recall"
def TX3 : u_T := fun k => match k with
  | 0 => ("SamovarOpinions$Recall", "samovar", "LSamovarOpinions$Samovar;", true)
  | 1 => ("SamovarOpinions$Recall", "party", "LSamovarOpinions$Evening;", true)
  | 2 => ("SamovarOpinions$Recall", "firstOrder", "[I", true)
  | 3 => ("SamovarOpinions$Recall", "ownTopics", "[I", true)
  | 4 => ("SamovarOpinions$Recall", "ways", "I", false)
  | 5 => ("SamovarOpinions$Recall", "first", "I", false)
  | _ => ("SamovarOpinions$Recall", "sure", "I", false)
def tyX3 : Nat → FieldType := fun k => match k with
  | 0 => .object "SamovarOpinions$Samovar"
  | 1 => .object "SamovarOpinions$Evening"
  | 2 => .array .int
  | 3 => .array .int
  | 4 => .int
  | 5 => .int
  | _ => .int
abbrev wsX30 : List Cond := u_ws RX3 TX3 7
theorem nmX3 : ∀ a, a < 7 → ∀ b, b < 7 → a ≠ b → (TX3 a).2.1 ≠ (TX3 b).2.1 := by decide +kernel
theorem tyX3_ok : ∀ k, k < 7 → parseFieldDescriptor (TX3 k).2.2.1 = some (tyX3 k) := by decide +kernel
abbrev cX3_init : ByteArray := prog_5_method_1_code
def yX3_init : MethodName := ⟨RX3, "<init>", "(LSamovarOpinions$Samovar;LSamovarOpinions$Evening;)V"⟩
abbrev cX3_seekWays : ByteArray := prog_5_method_2_code
def yX3_seekWays : MethodName := ⟨RX3, "seekWays", "(LSamovarOpinions$Sheet;)V"⟩
abbrev cX3_seekWaysBehind : ByteArray := prog_5_method_3_code
def yX3_seekWaysBehind : MethodName := ⟨RX3, "seekWaysBehind", "(ILSamovarOpinions$Sheet;)V"⟩
abbrev cX3_noteWay : ByteArray := prog_5_method_4_code
def yX3_noteWay : MethodName := ⟨RX3, "noteWay", "()V"⟩
abbrev cX3_firstOtherwise : ByteArray := prog_5_method_5_code
def yX3_firstOtherwise : MethodName := ⟨RX3, "firstOtherwise", "(LSamovarOpinions$Sheet;)I"⟩
abbrev cX3_fitting : ByteArray := prog_5_method_6_code
def yX3_fitting : MethodName := ⟨RX3, "fitting", "(LSamovarOpinions$Sheet;II)I"⟩
abbrev cX3_fittingTexts : ByteArray := prog_5_method_7_code
def yX3_fittingTexts : MethodName := ⟨RX3, "fittingTexts", "(LSamovarOpinions$Sheet;I)I"⟩
abbrev cX3_comeDrawn : ByteArray := prog_5_method_8_code
def yX3_comeDrawn : MethodName := ⟨RX3, "comeDrawn", "(I)V"⟩
def RX4 : String := "SamovarOpinions$Remark"
def TX4 : u_T := fun k => match k with
  | 0 => ("SamovarOpinions$Remark", "topic", "I", false)
  | 1 => ("SamovarOpinions$Remark", "last", "I", false)
  | 2 => ("SamovarOpinions$Remark", "warmth", "I", false)
  | 3 => ("SamovarOpinions$Remark", "number", "I", false)
  | 4 => ("SamovarOpinions$Remark", "said", "I", false)
  | 5 => ("SamovarOpinions$Remark", "place", "I", false)
  | 6 => ("SamovarOpinions$Remark", "kind", "I", false)
  | 7 => ("SamovarOpinions$Remark", "isLiked", "Z", false)
  | _ => ("SamovarOpinions$Remark", "isOddEvening", "Z", false)
def tyX4 : Nat → FieldType := fun k => match k with
  | 0 => .int
  | 1 => .int
  | 2 => .int
  | 3 => .int
  | 4 => .int
  | 5 => .int
  | 6 => .int
  | 7 => .boolean
  | _ => .boolean
abbrev wsX40 : List Cond := u_ws RX4 TX4 9
theorem nmX4 : ∀ a, a < 9 → ∀ b, b < 9 → a ≠ b → (TX4 a).2.1 ≠ (TX4 b).2.1 := by decide +kernel
theorem tyX4_ok : ∀ k, k < 9 → parseFieldDescriptor (TX4 k).2.2.1 = some (tyX4 k) := by decide +kernel
abbrev cX4_init : ByteArray := prog_6_method_1_code
def yX4_init : MethodName := ⟨RX4, "<init>", "()V"⟩
abbrev cX4_named : ByteArray := prog_6_method_2_code
def yX4_named : MethodName := ⟨RX4, "named", "(I)I"⟩
abbrev cX4_warms : ByteArray := prog_6_method_3_code
def yX4_warms : MethodName := ⟨RX4, "warms", "(I)I"⟩
abbrev cX4_cools : ByteArray := prog_6_method_4_code
def yX4_cools : MethodName := ⟨RX4, "cools", "(I)I"⟩
abbrev cX4_isAgain : ByteArray := prog_6_method_5_code
def yX4_isAgain : MethodName := ⟨RX4, "isAgain", "()Z"⟩
def RX5 : String := "SamovarOpinions$Samovar"
def TX5 : u_T := fun k => match k with
  | 0 => ("SamovarOpinions$Samovar", "warmth", "I", false)
  | 1 => ("SamovarOpinions$Samovar", "limit", "I", false)
  | 2 => ("SamovarOpinions$Samovar", "evenings", "I", false)
  | 3 => ("SamovarOpinions$Samovar", "screamed", "I", false)
  | 4 => ("SamovarOpinions$Samovar", "rule", "I", false)
  | 5 => ("SamovarOpinions$Samovar", "company", "I", false)
  | 6 => ("SamovarOpinions$Samovar", "kinds", "[I", true)
  | 7 => ("SamovarOpinions$Samovar", "numbers", "[I", true)
  | 8 => ("SamovarOpinions$Samovar", "topics", "[I", true)
  | _ => ("SamovarOpinions$Samovar", "liked", "[I", true)
def tyX5 : Nat → FieldType := fun k => match k with
  | 0 => .int
  | 1 => .int
  | 2 => .int
  | 3 => .int
  | 4 => .int
  | 5 => .int
  | 6 => .array .int
  | 7 => .array .int
  | 8 => .array .int
  | _ => .array .int
abbrev wsX50 : List Cond := u_ws RX5 TX5 10
theorem nmX5 : ∀ a, a < 10 → ∀ b, b < 10 → a ≠ b → (TX5 a).2.1 ≠ (TX5 b).2.1 := by decide +kernel
theorem tyX5_ok : ∀ k, k < 10 → parseFieldDescriptor (TX5 k).2.2.1 = some (tyX5 k) := by decide +kernel
abbrev cX5_init : ByteArray := prog_7_method_1_code
def yX5_init : MethodName := ⟨RX5, "<init>", "()V"⟩
abbrev cX5_has : ByteArray := prog_7_method_2_code
def yX5_has : MethodName := ⟨RX5, "has", "(I)Z"⟩
abbrev cX5_welcome : ByteArray := prog_7_method_3_code
def yX5_welcome : MethodName := ⟨RX5, "welcome", "(III)I"⟩
abbrev cX5_value : ByteArray := prog_7_method_4_code
def yX5_value : MethodName := ⟨RX5, "value", "(II)I"⟩
abbrev cX5_change : ByteArray := prog_7_method_5_code
def yX5_change : MethodName := ⟨RX5, "change", "(III)V"⟩
abbrev cX5_rowOf : ByteArray := prog_7_method_6_code
def yX5_rowOf : MethodName := ⟨RX5, "rowOf", "(I)[I"⟩
abbrev cX5_likedGuests : ByteArray := prog_7_method_7_code
def yX5_likedGuests : MethodName := ⟨RX5, "likedGuests", "()I"⟩
abbrev cX5_becomeAs : ByteArray := prog_7_method_8_code
def yX5_becomeAs : MethodName := ⟨RX5, "becomeAs", "(LSamovarOpinions$Samovar;)V"⟩
def RX6 : String := "SamovarOpinions$Sheet"
def TX6 : u_T := fun k => match k with
  | 0 => ("SamovarOpinions$Sheet", "row", "[I", true)
  | 1 => ("SamovarOpinions$Sheet", "sort", "I", false)
  | _ => ("SamovarOpinions$Sheet", "size", "I", false)
def tyX6 : Nat → FieldType := fun k => match k with
  | 0 => .array .int
  | 1 => .int
  | _ => .int
abbrev wsX60 : List Cond := u_ws RX6 TX6 3
theorem nmX6 : ∀ a, a < 3 → ∀ b, b < 3 → a ≠ b → (TX6 a).2.1 ≠ (TX6 b).2.1 := by decide +kernel
theorem tyX6_ok : ∀ k, k < 3 → parseFieldDescriptor (TX6 k).2.2.1 = some (tyX6 k) := by decide +kernel
abbrev cX6_init : ByteArray := prog_8_method_1_code
def yX6_init : MethodName := ⟨RX6, "<init>", "()V"⟩
abbrev cX6_isSort : ByteArray := prog_8_method_2_code
def yX6_isSort : MethodName := ⟨RX6, "isSort", "(I)Z"⟩
abbrev cX6_isMissing : ByteArray := prog_8_method_3_code
def yX6_isMissing : MethodName := ⟨RX6, "isMissing", "()Z"⟩
abbrev cX6_become : ByteArray := prog_8_method_4_code
def yX6_become : MethodName := ⟨RX6, "become", "(II)V"⟩
abbrev cX6_spans : ByteArray := prog_8_method_5_code
def yX6_spans : MethodName := ⟨RX6, "spans", "(II)Z"⟩
abbrev cX6_item : ByteArray := prog_8_method_6_code
def yX6_item : MethodName := ⟨RX6, "item", "(I)I"⟩
abbrev cX6_put : ByteArray := prog_8_method_7_code
def yX6_put : MethodName := ⟨RX6, "put", "(II)V"⟩
def RX7 : String := "SamovarOpinions$Tape"
def TX7 : u_T := fun k => match k with
  | 0 => ("SamovarOpinions$Tape", "bytes", "[I", true)
  | 1 => ("SamovarOpinions$Tape", "size", "I", false)
  | 2 => ("SamovarOpinions$Tape", "token", "I", false)
  | 3 => ("SamovarOpinions$Tape", "tokenFrom", "I", false)
  | _ => ("SamovarOpinions$Tape", "next", "I", false)
def tyX7 : Nat → FieldType := fun k => match k with
  | 0 => .array .int
  | 1 => .int
  | 2 => .int
  | 3 => .int
  | _ => .int
abbrev wsX70 : List Cond := u_ws RX7 TX7 5
theorem nmX7 : ∀ a, a < 5 → ∀ b, b < 5 → a ≠ b → (TX7 a).2.1 ≠ (TX7 b).2.1 := by decide +kernel
theorem tyX7_ok : ∀ k, k < 5 → parseFieldDescriptor (TX7 k).2.2.1 = some (tyX7 k) := by decide +kernel
abbrev cX7_init : ByteArray := prog_9_method_1_code
def yX7_init : MethodName := ⟨RX7, "<init>", "()V"⟩
abbrev cX7_take : ByteArray := prog_9_method_2_code
def yX7_take : MethodName := ⟨RX7, "take", "(I)I"⟩
abbrev cX7_clear : ByteArray := prog_9_method_3_code
def yX7_clear : MethodName := ⟨RX7, "clear", "()V"⟩
abbrev cX7_rewind : ByteArray := prog_9_method_4_code
def yX7_rewind : MethodName := ⟨RX7, "rewind", "()V"⟩
abbrev cX7_step : ByteArray := prog_9_method_5_code
def yX7_step : MethodName := ⟨RX7, "step", "()V"⟩
abbrev cX7_byteAt : ByteArray := prog_9_method_6_code
def yX7_byteAt : MethodName := ⟨RX7, "byteAt", "(I)I"⟩
abbrev cX7_wordFromHere : ByteArray := prog_9_method_7_code
def yX7_wordFromHere : MethodName := ⟨RX7, "wordFromHere", "()I"⟩
abbrev cX7_isWord : ByteArray := prog_9_method_8_code
def yX7_isWord : MethodName := ⟨RX7, "isWord", "(Ljava/lang/String;)Z"⟩
abbrev cX7_numberFromHere : ByteArray := prog_9_method_9_code
def yX7_numberFromHere : MethodName := ⟨RX7, "numberFromHere", "()I"⟩
abbrev cX7_signOf : ByteArray := prog_9_method_10_code
def yX7_signOf : MethodName := ⟨RX7, "signOf", "(I)I"⟩
abbrev cX7_isBlank : ByteArray := prog_9_method_11_code
def yX7_isBlank : MethodName := ⟨RX7, "isBlank", "(I)Z"⟩
abbrev cX7_isLetter : ByteArray := prog_9_method_12_code
def yX7_isLetter : MethodName := ⟨RX7, "isLetter", "(I)Z"⟩
abbrev cX7_isDigit : ByteArray := prog_9_method_13_code
def yX7_isDigit : MethodName := ⟨RX7, "isDigit", "(I)Z"⟩
def RX8 : String := "SamovarOpinions$Texts"
def TX8 : u_T := fun k => match k with
  | 0 => ("SamovarOpinions$Texts", "codes", "[[I", true)
  | 1 => ("SamovarOpinions$Texts", "coolsFrom", "[I", true)
  | 2 => ("SamovarOpinions$Texts", "screamsFrom", "[I", true)
  | 3 => ("SamovarOpinions$Texts", "sizes", "[I", true)
  | 4 => ("SamovarOpinions$Texts", "values", "[I", true)
  | _ => ("SamovarOpinions$Texts", "count", "I", false)
def tyX8 : Nat → FieldType := fun k => match k with
  | 0 => .array (.array .int)
  | 1 => .array .int
  | 2 => .array .int
  | 3 => .array .int
  | 4 => .array .int
  | _ => .int
abbrev wsX80 : List Cond := u_ws RX8 TX8 6
theorem nmX8 : ∀ a, a < 6 → ∀ b, b < 6 → a ≠ b → (TX8 a).2.1 ≠ (TX8 b).2.1 := by decide +kernel
theorem tyX8_ok : ∀ k, k < 6 → parseFieldDescriptor (TX8 k).2.2.1 = some (tyX8 k) := by decide +kernel
abbrev cX8_init : ByteArray := prog_10_method_1_code
def yX8_init : MethodName := ⟨RX8, "<init>", "()V"⟩
abbrev cX8_isFull : ByteArray := prog_10_method_2_code
def yX8_isFull : MethodName := ⟨RX8, "isFull", "()Z"⟩
abbrev cX8_beginDraft : ByteArray := prog_10_method_3_code
def yX8_beginDraft : MethodName := ⟨RX8, "beginDraft", "()V"⟩
abbrev cX8_beginPart : ByteArray := prog_10_method_4_code
def yX8_beginPart : MethodName := ⟨RX8, "beginPart", "(I)V"⟩
abbrev cX8_write : ByteArray := prog_10_method_5_code
def yX8_write : MethodName := ⟨RX8, "write", "(I)Z"⟩
abbrev cX8_keepDraft : ByteArray := prog_10_method_6_code
def yX8_keepDraft : MethodName := ⟨RX8, "keepDraft", "()I"⟩
abbrev cX8_tell : ByteArray := prog_10_method_7_code
def yX8_tell : MethodName := ⟨RX8, "tell", "(IILSamovarOpinions$Remark;)I"⟩
abbrev cX8_joined : ByteArray := prog_10_method_8_code
def yX8_joined : MethodName := ⟨RX8, "joined", "(III)I"⟩
def RX9 : String := "SamovarOpinions"
def TX9 : u_T := fun k => match k with
  | 0 => ("SamovarOpinions", "samovar", "LSamovarOpinions$Samovar;", true)
  | 1 => ("SamovarOpinions", "kept", "LSamovarOpinions$Samovar;", true)
  | 2 => ("SamovarOpinions", "anImageIsKept", "Z", false)
  | 3 => ("SamovarOpinions", "tape", "LSamovarOpinions$Tape;", true)
  | 4 => ("SamovarOpinions", "texts", "LSamovarOpinions$Texts;", true)
  | 5 => ("SamovarOpinions", "reader", "LSamovarOpinions$Reader;", true)
  | 6 => ("SamovarOpinions", "sheets", "[LSamovarOpinions$Sheet;", true)
  | 7 => ("SamovarOpinions", "party", "LSamovarOpinions$Evening;", true)
  | 8 => ("SamovarOpinions", "best", "LSamovarOpinions$Best;", true)
  | _ => ("SamovarOpinions", "recall", "LSamovarOpinions$Recall;", true)
def tyX9 : Nat → FieldType := fun k => match k with
  | 0 => .object "SamovarOpinions$Samovar"
  | 1 => .object "SamovarOpinions$Samovar"
  | 2 => .boolean
  | 3 => .object "SamovarOpinions$Tape"
  | 4 => .object "SamovarOpinions$Texts"
  | 5 => .object "SamovarOpinions$Reader"
  | 6 => .array (.object "SamovarOpinions$Sheet")
  | 7 => .object "SamovarOpinions$Evening"
  | 8 => .object "SamovarOpinions$Best"
  | _ => .object "SamovarOpinions$Recall"
abbrev wsX90 : List Cond := u_ws RX9 TX9 10
theorem nmX9 : ∀ a, a < 10 → ∀ b, b < 10 → a ≠ b → (TX9 a).2.1 ≠ (TX9 b).2.1 := by decide +kernel
theorem tyX9_ok : ∀ k, k < 10 → parseFieldDescriptor (TX9 k).2.2.1 = some (tyX9 k) := by decide +kernel
abbrev cX9_init : ByteArray := prog_1_method_1_code
def yX9_init : MethodName := ⟨RX9, "<init>", "()V"⟩
abbrev cX9_set : ByteArray := prog_1_method_2_code
def yX9_set : MethodName := ⟨RX9, "set", "(III)I"⟩
abbrev cX9_guest : ByteArray := prog_1_method_3_code
def yX9_guest : MethodName := ⟨RX9, "guest", "(III)I"⟩
abbrev cX9_told : ByteArray := prog_1_method_4_code
def yX9_told : MethodName := ⟨RX9, "told", "(II)I"⟩
abbrev cX9_feed : ByteArray := prog_1_method_5_code
def yX9_feed : MethodName := ⟨RX9, "feed", "(I)I"⟩
abbrev cX9_text : ByteArray := prog_1_method_6_code
def yX9_text : MethodName := ⟨RX9, "text", "()I"⟩
abbrev cX9_force : ByteArray := prog_1_method_7_code
def yX9_force : MethodName := ⟨RX9, "force", "(I)I"⟩
abbrev cX9_evening : ByteArray := prog_1_method_8_code
def yX9_evening : MethodName := ⟨RX9, "evening", "(II)I"⟩
abbrev cX9_hold : ByteArray := prog_1_method_9_code
def yX9_hold : MethodName := ⟨RX9, "hold", "(I)I"⟩
abbrev cX9_warmest : ByteArray := prog_1_method_10_code
def yX9_warmest : MethodName := ⟨RX9, "warmest", "(I)I"⟩
abbrev cX9_soonest : ByteArray := prog_1_method_11_code
def yX9_soonest : MethodName := ⟨RX9, "soonest", "(I)I"⟩
abbrev cX9_ratherNot : ByteArray := prog_1_method_12_code
def yX9_ratherNot : MethodName := ⟨RX9, "ratherNot", "(I)I"⟩
abbrev cX9_topic : ByteArray := prog_1_method_13_code
def yX9_topic : MethodName := ⟨RX9, "topic", "(II)I"⟩
abbrev cX9_turns : ByteArray := prog_1_method_14_code
def yX9_turns : MethodName := ⟨RX9, "turns", "(I)I"⟩
abbrev cX9_tells : ByteArray := prog_1_method_15_code
def yX9_tells : MethodName := ⟨RX9, "tells", "(II)I"⟩
abbrev cX9_film : ByteArray := prog_1_method_16_code
def yX9_film : MethodName := ⟨RX9, "film", "(I)I"⟩
abbrev cX9_drawn : ByteArray := prog_1_method_17_code
def yX9_drawn : MethodName := ⟨RX9, "drawn", "(I)I"⟩
abbrev cX9_chance : ByteArray := prog_1_method_18_code
def yX9_chance : MethodName := ⟨RX9, "chance", "(III)J"⟩
abbrev cX9_image : ByteArray := prog_1_method_19_code
def yX9_image : MethodName := ⟨RX9, "image", "()I"⟩
abbrev cX9_back : ByteArray := prog_1_method_20_code
def yX9_back : MethodName := ⟨RX9, "back", "()I"⟩
abbrev cX9_count : ByteArray := prog_1_method_21_code
def yX9_count : MethodName := ⟨RX9, "count", "(I)I"⟩
abbrev cX9_sheet : ByteArray := prog_1_method_22_code
def yX9_sheet : MethodName := ⟨RX9, "sheet", "(III)I"⟩
abbrev cX9_cell : ByteArray := prog_1_method_23_code
def yX9_cell : MethodName := ⟨RX9, "cell", "(III)I"⟩
abbrev cX9_copy : ByteArray := prog_1_method_24_code
def yX9_copy : MethodName := ⟨RX9, "copy", "(IIIII)I"⟩
abbrev cX9_guests : ByteArray := prog_1_method_25_code
def yX9_guests : MethodName := ⟨RX9, "guests", "(IIII)I"⟩
abbrev cX9_taken : ByteArray := prog_1_method_26_code
def yX9_taken : MethodName := ⟨RX9, "taken", "(II)I"⟩
abbrev cX9_sheetOf : ByteArray := prog_1_method_27_code
def yX9_sheetOf : MethodName := ⟨RX9, "sheetOf", "(I)LSamovarOpinions$Sheet;"⟩
abbrev cX9_mayBeAskedOfTold : ByteArray := prog_1_method_28_code
def yX9_mayBeAskedOfTold : MethodName := ⟨RX9, "mayBeAskedOfTold", "(I)Z"⟩
abbrev cX9_mayBe : ByteArray := prog_1_method_29_code
def yX9_mayBe : MethodName := ⟨RX9, "mayBe", "(II)Z"⟩
abbrev cX9_isUnder : ByteArray := prog_1_method_30_code
def yX9_isUnder : MethodName := ⟨RX9, "isUnder", "(II)Z"⟩
abbrev cX9_commonDivisor : ByteArray := prog_1_method_31_code
def yX9_commonDivisor : MethodName := ⟨RX9, "commonDivisor", "(II)I"⟩
abbrev cX9_within : ByteArray := prog_1_method_32_code
def yX9_within : MethodName := ⟨RX9, "within", "(III)I"⟩
def RX10 : String := "SamovarOpinionsModel"
def TX10 : u_T := fun k => match k with
  | 0 => ("SamovarOpinionsModel", "thrown", "I", false)
  | 1 => ("SamovarOpinionsModel", "texts", "[I", true)
  | 2 => ("SamovarOpinionsModel", "textSize", "[I", true)
  | 3 => ("SamovarOpinionsModel", "textCount", "I", false)
  | 4 => ("SamovarOpinionsModel", "rule", "I", false)
  | 5 => ("SamovarOpinionsModel", "tape", "[I", true)
  | 6 => ("SamovarOpinionsModel", "taped", "I", false)
  | 7 => ("SamovarOpinionsModel", "pot", "[I", true)
  | 8 => ("SamovarOpinionsModel", "screamed", "I", false)
  | 9 => ("SamovarOpinionsModel", "kinds", "[I", true)
  | 10 => ("SamovarOpinionsModel", "rows", "[I", true)
  | 11 => ("SamovarOpinionsModel", "many", "I", false)
  | 12 => ("SamovarOpinionsModel", "ofTopic", "I", false)
  | 13 => ("SamovarOpinionsModel", "ofLast", "I", false)
  | 14 => ("SamovarOpinionsModel", "ofWarmth", "I", false)
  | 15 => ("SamovarOpinionsModel", "ofNumber", "I", false)
  | 16 => ("SamovarOpinionsModel", "ofSaid", "I", false)
  | 17 => ("SamovarOpinionsModel", "ofPlace", "I", false)
  | 18 => ("SamovarOpinionsModel", "from", "I", false)
  | 19 => ("SamovarOpinionsModel", "size", "I", false)
  | 20 => ("SamovarOpinionsModel", "here", "I", false)
  | 21 => ("SamovarOpinionsModel", "token", "I", false)
  | 22 => ("SamovarOpinionsModel", "tokenAt", "I", false)
  | 23 => ("SamovarOpinionsModel", "tokenWorth", "J", false)
  | 24 => ("SamovarOpinionsModel", "open", "I", false)
  | 25 => ("SamovarOpinionsModel", "bad", "Z", false)
  | 26 => ("SamovarOpinionsModel", "fault", "I", false)
  | 27 => ("SamovarOpinionsModel", "order", "[I", true)
  | 28 => ("SamovarOpinionsModel", "warm", "[I", true)
  | 29 => ("SamovarOpinionsModel", "boils", "[Z", true)
  | 30 => ("SamovarOpinionsModel", "loud", "[Z", true)
  | 31 => ("SamovarOpinionsModel", "isFound", "Z", false)
  | 32 => ("SamovarOpinionsModel", "bestDigits", "I", false)
  | 33 => ("SamovarOpinionsModel", "bestValue", "I", false)
  | 34 => ("SamovarOpinionsModel", "firstCalled", "I", false)
  | 35 => ("SamovarOpinionsModel", "ways", "I", false)
  | 36 => ("SamovarOpinionsModel", "firstWay", "I", false)
  | 37 => ("SamovarOpinionsModel", "could", "[I", true)
  | 38 => ("SamovarOpinionsModel", "topicsWas", "[I", true)
  | 39 => ("SamovarOpinionsModel", "potKept", "[I", true)
  | 40 => ("SamovarOpinionsModel", "rowsKept", "[I", true)
  | 41 => ("SamovarOpinionsModel", "manyKept", "I", false)
  | 42 => ("SamovarOpinionsModel", "screamedKept", "I", false)
  | 43 => ("SamovarOpinionsModel", "ruleKept", "I", false)
  | 44 => ("SamovarOpinionsModel", "isThere", "[Z", true)
  | 45 => ("SamovarOpinionsModel", "sorts", "[I", true)
  | 46 => ("SamovarOpinionsModel", "sheetSize", "[I", true)
  | _ => ("SamovarOpinionsModel", "items", "[I", true)
def tyX10 : Nat → FieldType := fun k => match k with
  | 0 => .int
  | 1 => .array .int
  | 2 => .array .int
  | 3 => .int
  | 4 => .int
  | 5 => .array .int
  | 6 => .int
  | 7 => .array .int
  | 8 => .int
  | 9 => .array .int
  | 10 => .array .int
  | 11 => .int
  | 12 => .int
  | 13 => .int
  | 14 => .int
  | 15 => .int
  | 16 => .int
  | 17 => .int
  | 18 => .int
  | 19 => .int
  | 20 => .int
  | 21 => .int
  | 22 => .int
  | 23 => .long
  | 24 => .int
  | 25 => .boolean
  | 26 => .int
  | 27 => .array .int
  | 28 => .array .int
  | 29 => .array .boolean
  | 30 => .array .boolean
  | 31 => .boolean
  | 32 => .int
  | 33 => .int
  | 34 => .int
  | 35 => .int
  | 36 => .int
  | 37 => .array .int
  | 38 => .array .int
  | 39 => .array .int
  | 40 => .array .int
  | 41 => .int
  | 42 => .int
  | 43 => .int
  | 44 => .array .boolean
  | 45 => .array .int
  | 46 => .array .int
  | _ => .array .int
abbrev wsX100 : List Cond := u_ws RX10 TX10 48
theorem nmX10 : ∀ a, a < 48 → ∀ b, b < 48 → a ≠ b → (TX10 a).2.1 ≠ (TX10 b).2.1 := by decide +kernel
theorem tyX10_ok : ∀ k, k < 48 → parseFieldDescriptor (TX10 k).2.2.1 = some (tyX10 k) := by decide +kernel
abbrev cX10_in : ByteArray := prog_12_method_2_code
def yX10_in : MethodName := ⟨RX10, "in", "(JJJ)Z"⟩
abbrev cX10_within : ByteArray := prog_12_method_3_code
def yX10_within : MethodName := ⟨RX10, "within", "(III)I"⟩
abbrev cX10_init : ByteArray := prog_12_method_4_code
def yX10_init : MethodName := ⟨RX10, "<init>", "()V"⟩
abbrev cX10_spell : ByteArray := prog_12_method_5_code
def yX10_spell : MethodName := ⟨RX10, "spell", "(IIIIIIIII)V"⟩
abbrev cX10_isOne : ByteArray := prog_12_method_6_code
def yX10_isOne : MethodName := ⟨RX10, "isOne", "(I)Z"⟩
abbrev cX10_mostOf : ByteArray := prog_12_method_7_code
def yX10_mostOf : MethodName := ⟨RX10, "mostOf", "(I)I"⟩
abbrev cX10_set : ByteArray := prog_12_method_8_code
def yX10_set : MethodName := ⟨RX10, "set", "(III)I"⟩
abbrev cX10_lays : ByteArray := prog_12_method_9_code
def yX10_lays : MethodName := ⟨RX10, "lays", "(III)V"⟩
abbrev cX10_guest : ByteArray := prog_12_method_10_code
def yX10_guest : MethodName := ⟨RX10, "guest", "(III)I"⟩
abbrev cX10_told : ByteArray := prog_12_method_11_code
def yX10_told : MethodName := ⟨RX10, "told", "(II)I"⟩
abbrev cX10_feed : ByteArray := prog_12_method_12_code
def yX10_feed : MethodName := ⟨RX10, "feed", "(I)I"⟩
abbrev cX10_byteAt : ByteArray := prog_12_method_13_code
def yX10_byteAt : MethodName := ⟨RX10, "byteAt", "(I)I"⟩
abbrev cX10_next : ByteArray := prog_12_method_14_code
def yX10_next : MethodName := ⟨RX10, "next", "()V"⟩
abbrev cX10_fail : ByteArray := prog_12_method_15_code
def yX10_fail : MethodName := ⟨RX10, "fail", "()V"⟩
abbrev cX10_isLetter : ByteArray := prog_12_method_16_code
def yX10_isLetter : MethodName := ⟨RX10, "isLetter", "(II)Z"⟩
abbrev cX10_isWord : ByteArray := prog_12_method_17_code
def yX10_isWord : MethodName := ⟨RX10, "isWord", "(IIIIIIII)Z"⟩
abbrev cX10_isSign : ByteArray := prog_12_method_18_code
def yX10_isSign : MethodName := ⟨RX10, "isSign", "(I)Z"⟩
abbrev cX10_opens : ByteArray := prog_12_method_19_code
def yX10_opens : MethodName := ⟨RX10, "opens", "()Z"⟩
abbrev cX10_name : ByteArray := prog_12_method_20_code
def yX10_name : MethodName := ⟨RX10, "name", "()I"⟩
abbrev cX10_atom : ByteArray := prog_12_method_21_code
def yX10_atom : MethodName := ⟨RX10, "atom", "()I"⟩
abbrev cX10_term : ByteArray := prog_12_method_22_code
def yX10_term : MethodName := ⟨RX10, "term", "()I"⟩
abbrev cX10_added : ByteArray := prog_12_method_23_code
def yX10_added : MethodName := ⟨RX10, "added", "()I"⟩
abbrev cX10_not : ByteArray := prog_12_method_24_code
def yX10_not : MethodName := ⟨RX10, "not", "()I"⟩
abbrev cX10_both : ByteArray := prog_12_method_25_code
def yX10_both : MethodName := ⟨RX10, "both", "()I"⟩
abbrev cX10_either : ByteArray := prog_12_method_26_code
def yX10_either : MethodName := ⟨RX10, "either", "()I"⟩
abbrev cX10_part : ByteArray := prog_12_method_27_code
def yX10_part : MethodName := ⟨RX10, "part", "(Z)I"⟩
abbrev cX10_read : ByteArray := prog_12_method_28_code
def yX10_read : MethodName := ⟨RX10, "read", "(II)I"⟩
abbrev cX10_text : ByteArray := prog_12_method_29_code
def yX10_text : MethodName := ⟨RX10, "text", "()I"⟩
abbrev cX10_force : ByteArray := prog_12_method_30_code
def yX10_force : MethodName := ⟨RX10, "force", "(I)I"⟩
abbrev cX10_begins : ByteArray := prog_12_method_31_code
def yX10_begins : MethodName := ⟨RX10, "begins", "()V"⟩
abbrev cX10_topicOf : ByteArray := prog_12_method_32_code
def yX10_topicOf : MethodName := ⟨RX10, "topicOf", "(I)I"⟩
abbrev cX10_looks : ByteArray := prog_12_method_33_code
def yX10_looks : MethodName := ⟨RX10, "looks", "(II)V"⟩
abbrev cX10_warmsOf : ByteArray := prog_12_method_34_code
def yX10_warmsOf : MethodName := ⟨RX10, "warmsOf", "(IZ)I"⟩
abbrev cX10_coolsOf : ByteArray := prog_12_method_35_code
def yX10_coolsOf : MethodName := ⟨RX10, "coolsOf", "(IZ)I"⟩
abbrev cX10_comes : ByteArray := prog_12_method_36_code
def yX10_comes : MethodName := ⟨RX10, "comes", "(II)V"⟩
abbrev cX10_isOrder : ByteArray := prog_12_method_37_code
def yX10_isOrder : MethodName := ⟨RX10, "isOrder", "(I)Z"⟩
abbrev cX10_screamsTill : ByteArray := prog_12_method_38_code
def yX10_screamsTill : MethodName := ⟨RX10, "screamsTill", "(I)I"⟩
abbrev cX10_boilsAt : ByteArray := prog_12_method_39_code
def yX10_boilsAt : MethodName := ⟨RX10, "boilsAt", "(I)I"⟩
abbrev cX10_goes : ByteArray := prog_12_method_40_code
def yX10_goes : MethodName := ⟨RX10, "goes", "(I)V"⟩
abbrev cX10_evening : ByteArray := prog_12_method_41_code
def yX10_evening : MethodName := ⟨RX10, "evening", "(II)I"⟩
abbrev cX10_hold : ByteArray := prog_12_method_42_code
def yX10_hold : MethodName := ⟨RX10, "hold", "(I)I"⟩
abbrev cX10_seeksWarmest : ByteArray := prog_12_method_43_code
def yX10_seeksWarmest : MethodName := ⟨RX10, "seeksWarmest", "(III)V"⟩
abbrev cX10_warmestOf : ByteArray := prog_12_method_44_code
def yX10_warmestOf : MethodName := ⟨RX10, "warmestOf", "(I)I"⟩
abbrev cX10_everybody : ByteArray := prog_12_method_45_code
def yX10_everybody : MethodName := ⟨RX10, "everybody", "()I"⟩
abbrev cX10_warmest : ByteArray := prog_12_method_46_code
def yX10_warmest : MethodName := ⟨RX10, "warmest", "(I)I"⟩
abbrev cX10_seeksSoonest : ByteArray := prog_12_method_47_code
def yX10_seeksSoonest : MethodName := ⟨RX10, "seeksSoonest", "(III)V"⟩
abbrev cX10_seeksFew : ByteArray := prog_12_method_48_code
def yX10_seeksFew : MethodName := ⟨RX10, "seeksFew", "(IIII)I"⟩
abbrev cX10_soonest : ByteArray := prog_12_method_49_code
def yX10_soonest : MethodName := ⟨RX10, "soonest", "(I)I"⟩
abbrev cX10_ratherNot : ByteArray := prog_12_method_50_code
def yX10_ratherNot : MethodName := ⟨RX10, "ratherNot", "(I)I"⟩
abbrev cX10_topic : ByteArray := prog_12_method_51_code
def yX10_topic : MethodName := ⟨RX10, "topic", "(II)I"⟩
abbrev cX10_plays : ByteArray := prog_12_method_52_code
def yX10_plays : MethodName := ⟨RX10, "plays", "(II)I"⟩
abbrev cX10_turns : ByteArray := prog_12_method_53_code
def yX10_turns : MethodName := ⟨RX10, "turns", "(I)I"⟩
abbrev cX10_seeksWays : ByteArray := prog_12_method_54_code
def yX10_seeksWays : MethodName := ⟨RX10, "seeksWays", "(IIII)V"⟩
abbrev cX10_firstOther : ByteArray := prog_12_method_55_code
def yX10_firstOther : MethodName := ⟨RX10, "firstOther", "(I)I"⟩
abbrev cX10_sure : ByteArray := prog_12_method_56_code
def yX10_sure : MethodName := ⟨RX10, "sure", "()I"⟩
abbrev cX10_tells : ByteArray := prog_12_method_57_code
def yX10_tells : MethodName := ⟨RX10, "tells", "(II)I"⟩
abbrev cX10_film : ByteArray := prog_12_method_58_code
def yX10_film : MethodName := ⟨RX10, "film", "(I)I"⟩
abbrev cX10_draws : ByteArray := prog_12_method_59_code
def yX10_draws : MethodName := ⟨RX10, "draws", "(I)V"⟩
abbrev cX10_drawn : ByteArray := prog_12_method_60_code
def yX10_drawn : MethodName := ⟨RX10, "drawn", "(I)I"⟩
abbrev cX10_chance : ByteArray := prog_12_method_61_code
def yX10_chance : MethodName := ⟨RX10, "chance", "(III)J"⟩
abbrev cX10_image : ByteArray := prog_12_method_62_code
def yX10_image : MethodName := ⟨RX10, "image", "()I"⟩
abbrev cX10_back : ByteArray := prog_12_method_63_code
def yX10_back : MethodName := ⟨RX10, "back", "()I"⟩
abbrev cX10_count : ByteArray := prog_12_method_64_code
def yX10_count : MethodName := ⟨RX10, "count", "(I)I"⟩
abbrev cX10_isSheet : ByteArray := prog_12_method_65_code
def yX10_isSheet : MethodName := ⟨RX10, "isSheet", "(I)Z"⟩
abbrev cX10_sheet : ByteArray := prog_12_method_66_code
def yX10_sheet : MethodName := ⟨RX10, "sheet", "(III)I"⟩
abbrev cX10_cell : ByteArray := prog_12_method_67_code
def yX10_cell : MethodName := ⟨RX10, "cell", "(III)I"⟩
abbrev cX10_copy : ByteArray := prog_12_method_68_code
def yX10_copy : MethodName := ⟨RX10, "copy", "(IIIII)I"⟩
abbrev cX10_guests : ByteArray := prog_12_method_69_code
def yX10_guests : MethodName := ⟨RX10, "guests", "(IIII)I"⟩
abbrev cX10_over : ByteArray := prog_12_method_70_code
def yX10_over : MethodName := ⟨RX10, "over", "(I)I"⟩
abbrev cX10_taken : ByteArray := prog_12_method_71_code
def yX10_taken : MethodName := ⟨RX10, "taken", "(II)I"⟩
def RJ9 : String := "java/lang/Math"
def TJ9 : u_T := fun k => match k with
  | _ => ("", "", "", false)
def tyJ9 : Nat → FieldType := fun k => match k with
  | _ => .int
theorem nmJ9 : ∀ a, a < 0 → ∀ b, b < 0 → a ≠ b → (TJ9 a).2.1 ≠ (TJ9 b).2.1 := by decide +kernel
theorem tyJ9_ok : ∀ k, k < 0 → parseFieldDescriptor (TJ9 k).2.2.1 = some (tyJ9 k) := by decide +kernel
abbrev cJ9_max_7cf53 : ByteArray := prog_13_method_65_code
def yJ9_max_7cf53 : MethodName := ⟨RJ9, "max", "(II)I"⟩
abbrev cJ9_min_7cf53 : ByteArray := prog_13_method_69_code
def yJ9_min_7cf53 : MethodName := ⟨RJ9, "min", "(II)I"⟩
def RJ0 : String := "java/lang/String"
def TJ0 : u_T := fun k => match k with
  | _ => ("", "", "", false)
def tyJ0 : Nat → FieldType := fun k => match k with
  | _ => .int
theorem nmJ0 : ∀ a, a < 0 → ∀ b, b < 0 → a ≠ b → (TJ0 a).2.1 ≠ (TJ0 b).2.1 := by decide +kernel
theorem tyJ0_ok : ∀ k, k < 0 → parseFieldDescriptor (TJ0 k).2.2.1 = some (tyJ0 k) := by decide +kernel
abbrev cJ0_length_8abf5 : ByteArray := prog_14_method_54_code
def yJ0_length_8abf5 : MethodName := ⟨RJ0, "length", "()I"⟩
abbrev cJ0_charAt_5068e : ByteArray := prog_14_method_56_code
def yJ0_charAt_5068e : MethodName := ⟨RJ0, "charAt", "(I)C"⟩
abbrev cJ0_coder_7d493 : ByteArray := prog_14_method_152_code
def yJ0_coder_7d493 : MethodName := ⟨RJ0, "coder", "()B"⟩
abbrev cJ0_isLatin1_aae02 : ByteArray := prog_14_method_154_code
def yJ0_isLatin1_aae02 : MethodName := ⟨RJ0, "isLatin1", "()Z"⟩
abbrev cJ0_checkIndex_df160 : ByteArray := prog_14_method_155_code
def yJ0_checkIndex_df160 : MethodName := ⟨RJ0, "checkIndex", "(II)V"⟩
def RJ1 : String := "java/lang/StringLatin1"
def TJ1 : u_T := fun k => match k with
  | _ => ("", "", "", false)
def tyJ1 : Nat → FieldType := fun k => match k with
  | _ => .int
theorem nmJ1 : ∀ a, a < 0 → ∀ b, b < 0 → a ≠ b → (TJ1 a).2.1 ≠ (TJ1 b).2.1 := by decide +kernel
theorem tyJ1_ok : ∀ k, k < 0 → parseFieldDescriptor (TJ1 k).2.2.1 = some (tyJ1 k) := by decide +kernel
abbrev cJ1_charAt_3b067 : ByteArray := prog_15_method_2_code
def yJ1_charAt_3b067 : MethodName := ⟨RJ1, "charAt", "([BI)C"⟩
def RJ2 : String := "java/lang/StringUTF16"
def TJ2 : u_T := fun k => match k with
  | _ => ("", "", "", false)
def tyJ2 : Nat → FieldType := fun k => match k with
  | _ => .int
theorem nmJ2 : ∀ a, a < 0 → ∀ b, b < 0 → a ≠ b → (TJ2 a).2.1 ≠ (TJ2 b).2.1 := by decide +kernel
theorem tyJ2_ok : ∀ k, k < 0 → parseFieldDescriptor (TJ2 k).2.2.1 = some (tyJ2 k) := by decide +kernel
abbrev cJ2_getChar_3b067 : ByteArray := prog_16_method_5_code
def yJ2_getChar_3b067 : MethodName := ⟨RJ2, "getChar", "([BI)C"⟩
abbrev cJ2_length_9d52b : ByteArray := prog_16_method_6_code
def yJ2_length_9d52b : MethodName := ⟨RJ2, "length", "([B)I"⟩
abbrev cJ2_charAt_3b067 : ByteArray := prog_16_method_83_code
def yJ2_charAt_3b067 : MethodName := ⟨RJ2, "charAt", "([BI)C"⟩
abbrev cJ2_checkIndex_2214a : ByteArray := prog_16_method_91_code
def yJ2_checkIndex_2214a : MethodName := ⟨RJ2, "checkIndex", "(I[B)V"⟩
def RJ10 : String := "java/lang/System"
def TJ10 : u_T := fun k => match k with
  | _ => ("", "", "", false)
def tyJ10 : Nat → FieldType := fun k => match k with
  | _ => .int
theorem nmJ10 : ∀ a, a < 0 → ∀ b, b < 0 → a ≠ b → (TJ10 a).2.1 ≠ (TJ10 b).2.1 := by decide +kernel
theorem tyJ10_ok : ∀ k, k < 0 → parseFieldDescriptor (TJ10 k).2.2.1 = some (tyJ10 k) := by decide +kernel
def RJ3 : String := "jdk/internal/util/Preconditions"
def TJ3 : u_T := fun k => match k with
  | _ => ("", "", "", false)
def tyJ3 : Nat → FieldType := fun k => match k with
  | _ => .int
theorem nmJ3 : ∀ a, a < 0 → ∀ b, b < 0 → a ≠ b → (TJ3 a).2.1 ≠ (TJ3 b).2.1 := by decide +kernel
theorem tyJ3_ok : ∀ k, k < 0 → parseFieldDescriptor (TJ3 k).2.2.1 = some (tyJ3 k) := by decide +kernel
abbrev cJ3_checkIndex_8e157 : ByteArray := prog_18_method_11_code
def yJ3_checkIndex_8e157 : MethodName := ⟨RJ3, "checkIndex", "(IILjava/util/function/BiFunction;)I"⟩
def RL : String := "SamovarOpinionsLaw"
abbrev cL_law : ByteArray := code
def yL_law : MethodName := ⟨RL, "law", "([I)Z"⟩
abbrev vwCl : List vw_C := [(RX0, TX0, 7), (RX1, TX1, 10), (RX2, TX2, 2), (RX3, TX3, 7), (RX4, TX4, 9), (RX5, TX5, 10), (RX6, TX6, 3), (RX7, TX7, 5), (RX8, TX8, 6), (RX9, TX9, 10), (RX10, TX10, 48)]
def wsL_law : List Cond := lw_tbl.filter goodWord
theorem wsL_law_in : ∀ w ∈ wsL_law, w ∈ lw_tbl := fun _ h => (List.mem_filter.mp h).1
theorem wsL_good : GoodIn wsL_law wsL_law := fun _ h => ⟨h, good_of_word (List.mem_filter.mp h).2⟩
theorem tb1 {w : Cond} (h : w ∈ tables_1_1) : w ∈ tables_1 := List.mem_append_left _ h
theorem tb2 {w : Cond} (h : w ∈ tables_1_2) : w ∈ tables_1 := List.mem_append_right _ (List.mem_append_left _ h)
theorem tb3 {w : Cond} (h : w ∈ tables_1_3) : w ∈ tables_1 := List.mem_append_right _ (List.mem_append_right _ (List.mem_append_left _ h))
theorem tb4 {w : Cond} (h : w ∈ tables_1_4) : w ∈ tables_1 := List.mem_append_right _ (List.mem_append_right _ (List.mem_append_right _ (List.mem_append_left _ h)))
theorem tb5 {w : Cond} (h : w ∈ tables_1_5) : w ∈ tables_1 := List.mem_append_right _ (List.mem_append_right _ (List.mem_append_right _ (List.mem_append_right _ (List.mem_append_left _ h))))
theorem tb6 {w : Cond} (h : w ∈ tables_1_6) : w ∈ tables_1 := List.mem_append_right _ (List.mem_append_right _ (List.mem_append_right _ (List.mem_append_right _ (List.mem_append_right _ h))))
theorem wu {w : Cond} (h : w ∈ tables_1) (g : goodWord w = true) : w ∈ wsL_law := List.mem_filter.mpr ⟨List.mem_append_right _ h, g⟩
def isNest (w : Cond) : Bool := match w with
  | .fieldLinkNest .. => true
  | .methodLinkNest .. => true
  | _ => false
def nws : List Cond := tables_1.filter isNest
theorem wn {w : Cond} (h : w ∈ tables_1) (g : isNest w = true) : w ∈ nws := List.mem_filter.mpr ⟨h, g⟩
theorem nws_warm {w : Cond} {s U : State} (hw : w ∈ nws) (hW : s.WarmedH U.vm) (h : va_Nw w s) : va_Nw w U := by
  have hn := (List.mem_filter.mp hw).2
  unfold isNest at hn
  split at hn
  · exact va_Nw.warmF hW h
  · exact va_Nw.warmM hW h
  · cases hn
theorem nws_same {w : Cond} {u U : State} (hw : w ∈ nws) (hv : u.vm = U.vm) (h : va_Nw w u) : va_Nw w U := by
  have hn := (List.mem_filter.mp hw).2
  unfold isNest at hn
  split at hn
  · exact va_Nw.same rfl hv h
  · exact va_Nw.same rfl hv h
  · cases hn
theorem tst1 : Cond.fieldLink RX1 42 "SamovarOpinions$Evening" "samovar" "LSamovarOpinions$Samovar;" ∈ wsL_law := wu (tb1 (List.mem_of_getElem? (i := 198) (by decide +kernel))) rfl
theorem tst2 : Cond.fieldLink RX1 42 "SamovarOpinions$Evening" "samovar" "LSamovarOpinions$Samovar;" ∈ wsL_law := wu (tb1 (List.mem_of_getElem? (i := 198) rfl)) rfl
end
section
theorem dX0_init_0 : decode cX0_init 0 = .ok (.aload_n 0, 1) := by decide +kernel
theorem dX0_init_1 : decode cX0_init 1 = .ok (.invokespecial 3, 3) := by decide +kernel
theorem dX0_init_4 : decode cX0_init 4 = .ok (.aload_n 0, 1) := by decide +kernel
theorem dX0_init_5 : decode cX0_init 5 = .ok (.iconst 0, 1) := by decide +kernel
theorem dX0_init_6 : decode cX0_init 6 = .ok (.putfield 9, 3) := by decide +kernel
theorem dX0_init_9 : decode cX0_init 9 = .ok (.aload_n 0, 1) := by decide +kernel
theorem dX0_init_10 : decode cX0_init 10 = .ok (.iconst 0, 1) := by decide +kernel
theorem dX0_init_11 : decode cX0_init 11 = .ok (.putfield 15, 3) := by decide +kernel
theorem dX0_init_14 : decode cX0_init 14 = .ok (.aload_n 0, 1) := by decide +kernel
theorem dX0_init_15 : decode cX0_init 15 = .ok (.iconst (-1), 1) := by decide +kernel
theorem dX0_init_16 : decode cX0_init 16 = .ok (.putfield 18, 3) := by decide +kernel
theorem dX0_init_19 : decode cX0_init 19 = .ok (.aload_n 0, 1) := by decide +kernel
theorem dX0_init_20 : decode cX0_init 20 = .ok (.iconst (-1), 1) := by decide +kernel
theorem dX0_init_21 : decode cX0_init 21 = .ok (.putfield 21, 3) := by decide +kernel
theorem dX0_init_24 : decode cX0_init 24 = .ok (.aload_n 0, 1) := by decide +kernel
theorem dX0_init_25 : decode cX0_init 25 = .ok (.iconst (-1), 1) := by decide +kernel
theorem dX0_init_26 : decode cX0_init 26 = .ok (.putfield 24, 3) := by decide +kernel
theorem dX0_init_29 : decode cX0_init 29 = .ok (.aload_n 0, 1) := by decide +kernel
theorem dX0_init_30 : decode cX0_init 30 = .ok (.aload_n 1, 1) := by decide +kernel
theorem dX0_init_31 : decode cX0_init 31 = .ok (.putfield 27, 3) := by decide +kernel
theorem dX0_init_34 : decode cX0_init 34 = .ok (.aload_n 0, 1) := by decide +kernel
theorem dX0_init_35 : decode cX0_init 35 = .ok (.aload_n 2, 1) := by decide +kernel
theorem dX0_init_36 : decode cX0_init 36 = .ok (.putfield 31, 3) := by decide +kernel
theorem dX0_init_39 : decode cX0_init 39 = .ok (.return_, 1) := by decide +kernel
theorem dX0_seekWarmest_0 : decode cX0_seekWarmest 0 = .ok (.aload_n 0, 1) := by decide +kernel
theorem dX0_seekWarmest_1 : decode cX0_seekWarmest 1 = .ok (.iconst (-1), 1) := by decide +kernel
theorem dX0_seekWarmest_2 : decode cX0_seekWarmest 2 = .ok (.putfield 9, 3) := by decide +kernel
theorem dX0_seekWarmest_5 : decode cX0_seekWarmest 5 = .ok (.aload_n 0, 1) := by decide +kernel
theorem dX0_seekWarmest_6 : decode cX0_seekWarmest 6 = .ok (.iconst 0, 1) := by decide +kernel
theorem dX0_seekWarmest_7 : decode cX0_seekWarmest 7 = .ok (.putfield 15, 3) := by decide +kernel
theorem dX0_seekWarmest_10 : decode cX0_seekWarmest 10 = .ok (.aload_n 0, 1) := by decide +kernel
theorem dX0_seekWarmest_11 : decode cX0_seekWarmest 11 = .ok (.getfield 31, 3) := by decide +kernel
theorem dX0_seekWarmest_14 : decode cX0_seekWarmest 14 = .ok (.invokevirtual 35, 3) := by decide +kernel
theorem dX0_seekWarmest_17 : decode cX0_seekWarmest 17 = .ok (.aload_n 0, 1) := by decide +kernel
theorem dX0_seekWarmest_18 : decode cX0_seekWarmest 18 = .ok (.iconst 0, 1) := by decide +kernel
theorem dX0_seekWarmest_19 : decode cX0_seekWarmest 19 = .ok (.aload_n 0, 1) := by decide +kernel
theorem dX0_seekWarmest_20 : decode cX0_seekWarmest 20 = .ok (.getfield 27, 3) := by decide +kernel
theorem dX0_seekWarmest_23 : decode cX0_seekWarmest 23 = .ok (.iload_n 1, 1) := by decide +kernel
theorem dX0_seekWarmest_24 : decode cX0_seekWarmest 24 = .ok (.invokevirtual 40, 3) := by decide +kernel
theorem dX0_seekWarmest_27 : decode cX0_seekWarmest 27 = .ok (.ifCond .eq 15, 3) := by decide +kernel
theorem dX0_seekWarmest_30 : decode cX0_seekWarmest 30 = .ok (.aload_n 0, 1) := by decide +kernel
theorem dX0_seekWarmest_31 : decode cX0_seekWarmest 31 = .ok (.getfield 27, 3) := by decide +kernel
theorem dX0_seekWarmest_34 : decode cX0_seekWarmest 34 = .ok (.getfield 46, 3) := by decide +kernel
theorem dX0_seekWarmest_37 : decode cX0_seekWarmest 37 = .ok (.iconst 1, 1) := by decide +kernel
theorem dX0_seekWarmest_38 : decode cX0_seekWarmest 38 = .ok (.isub, 1) := by decide +kernel
theorem dX0_seekWarmest_39 : decode cX0_seekWarmest 39 = .ok (.goto 10, 3) := by decide +kernel
theorem dX0_seekWarmest_42 : decode cX0_seekWarmest 42 = .ok (.aload_n 0, 1) := by decide +kernel
theorem dX0_seekWarmest_43 : decode cX0_seekWarmest 43 = .ok (.getfield 27, 3) := by decide +kernel
theorem dX0_seekWarmest_46 : decode cX0_seekWarmest 46 = .ok (.getfield 46, 3) := by decide +kernel
theorem dX0_seekWarmest_49 : decode cX0_seekWarmest 49 = .ok (.iload_n 1, 1) := by decide +kernel
theorem dX0_seekWarmest_50 : decode cX0_seekWarmest 50 = .ok (.invokevirtual 49, 3) := by decide +kernel
theorem dX0_seekWarmest_53 : decode cX0_seekWarmest 53 = .ok (.return_, 1) := by decide +kernel
theorem dX0_seekWarmestBehind_0 : decode cX0_seekWarmestBehind 0 = .ok (.iload_n 1, 1) := by decide +kernel
theorem dX0_seekWarmestBehind_1 : decode cX0_seekWarmestBehind 1 = .ok (.iload_n 2, 1) := by decide +kernel
theorem dX0_seekWarmestBehind_2 : decode cX0_seekWarmestBehind 2 = .ok (.if_icmp .lt 40, 3) := by decide +kernel
theorem dX0_seekWarmestBehind_5 : decode cX0_seekWarmestBehind 5 = .ok (.aload_n 0, 1) := by decide +kernel
theorem dX0_seekWarmestBehind_6 : decode cX0_seekWarmestBehind 6 = .ok (.getfield 31, 3) := by decide +kernel
theorem dX0_seekWarmestBehind_9 : decode cX0_seekWarmestBehind 9 = .ok (.invokevirtual 53, 3) := by decide +kernel
theorem dX0_seekWarmestBehind_12 : decode cX0_seekWarmestBehind 12 = .ok (.aload_n 0, 1) := by decide +kernel
theorem dX0_seekWarmestBehind_13 : decode cX0_seekWarmestBehind 13 = .ok (.getfield 9, 3) := by decide +kernel
theorem dX0_seekWarmestBehind_16 : decode cX0_seekWarmestBehind 16 = .ok (.if_icmp .le 25, 3) := by decide +kernel
theorem dX0_seekWarmestBehind_19 : decode cX0_seekWarmestBehind 19 = .ok (.aload_n 0, 1) := by decide +kernel
theorem dX0_seekWarmestBehind_20 : decode cX0_seekWarmestBehind 20 = .ok (.aload_n 0, 1) := by decide +kernel
theorem dX0_seekWarmestBehind_21 : decode cX0_seekWarmestBehind 21 = .ok (.getfield 31, 3) := by decide +kernel
theorem dX0_seekWarmestBehind_24 : decode cX0_seekWarmestBehind 24 = .ok (.invokevirtual 53, 3) := by decide +kernel
theorem dX0_seekWarmestBehind_27 : decode cX0_seekWarmestBehind 27 = .ok (.putfield 9, 3) := by decide +kernel
theorem dX0_seekWarmestBehind_30 : decode cX0_seekWarmestBehind 30 = .ok (.aload_n 0, 1) := by decide +kernel
theorem dX0_seekWarmestBehind_31 : decode cX0_seekWarmestBehind 31 = .ok (.aload_n 0, 1) := by decide +kernel
theorem dX0_seekWarmestBehind_32 : decode cX0_seekWarmestBehind 32 = .ok (.getfield 31, 3) := by decide +kernel
theorem dX0_seekWarmestBehind_35 : decode cX0_seekWarmestBehind 35 = .ok (.invokevirtual 57, 3) := by decide +kernel
theorem dX0_seekWarmestBehind_38 : decode cX0_seekWarmestBehind 38 = .ok (.putfield 15, 3) := by decide +kernel
theorem dX0_seekWarmestBehind_41 : decode cX0_seekWarmestBehind 41 = .ok (.return_, 1) := by decide +kernel
theorem dX0_seekWarmestBehind_42 : decode cX0_seekWarmestBehind 42 = .ok (.iconst 0, 1) := by decide +kernel
theorem dX0_seekWarmestBehind_43 : decode cX0_seekWarmestBehind 43 = .ok (.istore 4, 2) := by decide +kernel
theorem dX0_seekWarmestBehind_45 : decode cX0_seekWarmestBehind 45 = .ok (.iload 4, 2) := by decide +kernel
theorem dX0_seekWarmestBehind_47 : decode cX0_seekWarmestBehind 47 = .ok (.aload_n 0, 1) := by decide +kernel
theorem dX0_seekWarmestBehind_48 : decode cX0_seekWarmestBehind 48 = .ok (.getfield 27, 3) := by decide +kernel
theorem dX0_seekWarmestBehind_51 : decode cX0_seekWarmestBehind 51 = .ok (.getfield 46, 3) := by decide +kernel
theorem dX0_seekWarmestBehind_54 : decode cX0_seekWarmestBehind 54 = .ok (.if_icmp .ge 43, 3) := by decide +kernel
theorem dX0_seekWarmestBehind_57 : decode cX0_seekWarmestBehind 57 = .ok (.iload 4, 2) := by decide +kernel
theorem dX0_seekWarmestBehind_59 : decode cX0_seekWarmestBehind 59 = .ok (.iload_n 3, 1) := by decide +kernel
theorem dX0_seekWarmestBehind_60 : decode cX0_seekWarmestBehind 60 = .ok (.if_icmp .eq 31, 3) := by decide +kernel
theorem dX0_seekWarmestBehind_63 : decode cX0_seekWarmestBehind 63 = .ok (.aload_n 0, 1) := by decide +kernel
theorem dX0_seekWarmestBehind_64 : decode cX0_seekWarmestBehind 64 = .ok (.getfield 31, 3) := by decide +kernel
theorem dX0_seekWarmestBehind_67 : decode cX0_seekWarmestBehind 67 = .ok (.iload 4, 2) := by decide +kernel
theorem dX0_seekWarmestBehind_69 : decode cX0_seekWarmestBehind 69 = .ok (.invokevirtual 60, 3) := by decide +kernel
theorem dX0_seekWarmestBehind_72 : decode cX0_seekWarmestBehind 72 = .ok (.ifCond .eq 19, 3) := by decide +kernel
theorem dX0_seekWarmestBehind_75 : decode cX0_seekWarmestBehind 75 = .ok (.aload_n 0, 1) := by decide +kernel
theorem dX0_seekWarmestBehind_76 : decode cX0_seekWarmestBehind 76 = .ok (.iload_n 1, 1) := by decide +kernel
theorem dX0_seekWarmestBehind_77 : decode cX0_seekWarmestBehind 77 = .ok (.iconst 1, 1) := by decide +kernel
theorem dX0_seekWarmestBehind_78 : decode cX0_seekWarmestBehind 78 = .ok (.iadd, 1) := by decide +kernel
theorem dX0_seekWarmestBehind_79 : decode cX0_seekWarmestBehind 79 = .ok (.iload_n 2, 1) := by decide +kernel
theorem dX0_seekWarmestBehind_80 : decode cX0_seekWarmestBehind 80 = .ok (.iload_n 3, 1) := by decide +kernel
theorem dX0_seekWarmestBehind_81 : decode cX0_seekWarmestBehind 81 = .ok (.invokevirtual 49, 3) := by decide +kernel
theorem dX0_seekWarmestBehind_84 : decode cX0_seekWarmestBehind 84 = .ok (.aload_n 0, 1) := by decide +kernel
theorem dX0_seekWarmestBehind_85 : decode cX0_seekWarmestBehind 85 = .ok (.getfield 31, 3) := by decide +kernel
theorem dX0_seekWarmestBehind_88 : decode cX0_seekWarmestBehind 88 = .ok (.invokevirtual 63, 3) := by decide +kernel
theorem dX0_seekWarmestBehind_91 : decode cX0_seekWarmestBehind 91 = .ok (.iinc 4 1, 3) := by decide +kernel
theorem dX0_seekWarmestBehind_94 : decode cX0_seekWarmestBehind 94 = .ok (.goto (-49), 3) := by decide +kernel
theorem dX0_seekWarmestBehind_97 : decode cX0_seekWarmestBehind 97 = .ok (.return_, 1) := by decide +kernel
theorem dX0_seekSoonest_0 : decode cX0_seekSoonest 0 = .ok (.aload_n 0, 1) := by decide +kernel
theorem dX0_seekSoonest_1 : decode cX0_seekSoonest 1 = .ok (.iconst (-1), 1) := by decide +kernel
theorem dX0_seekSoonest_2 : decode cX0_seekSoonest 2 = .ok (.putfield 15, 3) := by decide +kernel
theorem dX0_seekSoonest_5 : decode cX0_seekSoonest 5 = .ok (.aload_n 0, 1) := by decide +kernel
theorem dX0_seekSoonest_6 : decode cX0_seekSoonest 6 = .ok (.iconst (-1), 1) := by decide +kernel
theorem dX0_seekSoonest_7 : decode cX0_seekSoonest 7 = .ok (.putfield 18, 3) := by decide +kernel
theorem dX0_seekSoonest_10 : decode cX0_seekSoonest 10 = .ok (.aload_n 0, 1) := by decide +kernel
theorem dX0_seekSoonest_11 : decode cX0_seekSoonest 11 = .ok (.iconst (-1), 1) := by decide +kernel
theorem dX0_seekSoonest_12 : decode cX0_seekSoonest 12 = .ok (.putfield 21, 3) := by decide +kernel
theorem dX0_seekSoonest_15 : decode cX0_seekSoonest 15 = .ok (.aload_n 0, 1) := by decide +kernel
theorem dX0_seekSoonest_16 : decode cX0_seekSoonest 16 = .ok (.getfield 31, 3) := by decide +kernel
theorem dX0_seekSoonest_19 : decode cX0_seekSoonest 19 = .ok (.invokevirtual 35, 3) := by decide +kernel
theorem dX0_seekSoonest_22 : decode cX0_seekSoonest 22 = .ok (.aload_n 0, 1) := by decide +kernel
theorem dX0_seekSoonest_23 : decode cX0_seekSoonest 23 = .ok (.iconst 0, 1) := by decide +kernel
theorem dX0_seekSoonest_24 : decode cX0_seekSoonest 24 = .ok (.invokevirtual 66, 3) := by decide +kernel
theorem dX0_seekSoonest_27 : decode cX0_seekSoonest 27 = .ok (.return_, 1) := by decide +kernel
theorem dX0_seekSoonestBehind_0 : decode cX0_seekSoonestBehind 0 = .ok (.iconst 0, 1) := by decide +kernel
theorem dX0_seekSoonestBehind_1 : decode cX0_seekSoonestBehind 1 = .ok (.istore_n 2, 1) := by decide +kernel
theorem dX0_seekSoonestBehind_2 : decode cX0_seekSoonestBehind 2 = .ok (.iload_n 2, 1) := by decide +kernel
theorem dX0_seekSoonestBehind_3 : decode cX0_seekSoonestBehind 3 = .ok (.aload_n 0, 1) := by decide +kernel
theorem dX0_seekSoonestBehind_4 : decode cX0_seekSoonestBehind 4 = .ok (.getfield 27, 3) := by decide +kernel
theorem dX0_seekSoonestBehind_7 : decode cX0_seekSoonestBehind 7 = .ok (.getfield 46, 3) := by decide +kernel
theorem dX0_seekSoonestBehind_10 : decode cX0_seekSoonestBehind 10 = .ok (.if_icmp .ge 86, 3) := by decide +kernel
theorem dX0_seekSoonestBehind_13 : decode cX0_seekSoonestBehind 13 = .ok (.aload_n 0, 1) := by decide +kernel
theorem dX0_seekSoonestBehind_14 : decode cX0_seekSoonestBehind 14 = .ok (.iload_n 1, 1) := by decide +kernel
theorem dX0_seekSoonestBehind_15 : decode cX0_seekSoonestBehind 15 = .ok (.invokevirtual 70, 3) := by decide +kernel
theorem dX0_seekSoonestBehind_18 : decode cX0_seekSoonestBehind 18 = .ok (.ifCond .eq 78, 3) := by decide +kernel
theorem dX0_seekSoonestBehind_21 : decode cX0_seekSoonestBehind 21 = .ok (.aload_n 0, 1) := by decide +kernel
theorem dX0_seekSoonestBehind_22 : decode cX0_seekSoonestBehind 22 = .ok (.getfield 31, 3) := by decide +kernel
theorem dX0_seekSoonestBehind_25 : decode cX0_seekSoonestBehind 25 = .ok (.iload_n 2, 1) := by decide +kernel
theorem dX0_seekSoonestBehind_26 : decode cX0_seekSoonestBehind 26 = .ok (.invokevirtual 60, 3) := by decide +kernel
theorem dX0_seekSoonestBehind_29 : decode cX0_seekSoonestBehind 29 = .ok (.ifCond .ne 6, 3) := by decide +kernel
theorem dX0_seekSoonestBehind_32 : decode cX0_seekSoonestBehind 32 = .ok (.goto 58, 3) := by decide +kernel
theorem dX0_seekSoonestBehind_35 : decode cX0_seekSoonestBehind 35 = .ok (.aload_n 0, 1) := by decide +kernel
theorem dX0_seekSoonestBehind_36 : decode cX0_seekSoonestBehind 36 = .ok (.getfield 31, 3) := by decide +kernel
theorem dX0_seekSoonestBehind_39 : decode cX0_seekSoonestBehind 39 = .ok (.invokevirtual 73, 3) := by decide +kernel
theorem dX0_seekSoonestBehind_42 : decode cX0_seekSoonestBehind 42 = .ok (.iconst (-1), 1) := by decide +kernel
theorem dX0_seekSoonestBehind_43 : decode cX0_seekSoonestBehind 43 = .ok (.if_icmp .ne 13, 3) := by decide +kernel
theorem dX0_seekSoonestBehind_46 : decode cX0_seekSoonestBehind 46 = .ok (.aload_n 0, 1) := by decide +kernel
theorem dX0_seekSoonestBehind_47 : decode cX0_seekSoonestBehind 47 = .ok (.iload_n 1, 1) := by decide +kernel
theorem dX0_seekSoonestBehind_48 : decode cX0_seekSoonestBehind 48 = .ok (.iconst 1, 1) := by decide +kernel
theorem dX0_seekSoonestBehind_49 : decode cX0_seekSoonestBehind 49 = .ok (.iadd, 1) := by decide +kernel
theorem dX0_seekSoonestBehind_50 : decode cX0_seekSoonestBehind 50 = .ok (.invokevirtual 66, 3) := by decide +kernel
theorem dX0_seekSoonestBehind_53 : decode cX0_seekSoonestBehind 53 = .ok (.goto 30, 3) := by decide +kernel
theorem dX0_seekSoonestBehind_56 : decode cX0_seekSoonestBehind 56 = .ok (.aload_n 0, 1) := by decide +kernel
theorem dX0_seekSoonestBehind_57 : decode cX0_seekSoonestBehind 57 = .ok (.iload_n 1, 1) := by decide +kernel
theorem dX0_seekSoonestBehind_58 : decode cX0_seekSoonestBehind 58 = .ok (.putfield 18, 3) := by decide +kernel
theorem dX0_seekSoonestBehind_61 : decode cX0_seekSoonestBehind 61 = .ok (.aload_n 0, 1) := by decide +kernel
theorem dX0_seekSoonestBehind_62 : decode cX0_seekSoonestBehind 62 = .ok (.aload_n 0, 1) := by decide +kernel
theorem dX0_seekSoonestBehind_63 : decode cX0_seekSoonestBehind 63 = .ok (.getfield 31, 3) := by decide +kernel
theorem dX0_seekSoonestBehind_66 : decode cX0_seekSoonestBehind 66 = .ok (.invokevirtual 57, 3) := by decide +kernel
theorem dX0_seekSoonestBehind_69 : decode cX0_seekSoonestBehind 69 = .ok (.putfield 21, 3) := by decide +kernel
theorem dX0_seekSoonestBehind_72 : decode cX0_seekSoonestBehind 72 = .ok (.aload_n 0, 1) := by decide +kernel
theorem dX0_seekSoonestBehind_73 : decode cX0_seekSoonestBehind 73 = .ok (.aload_n 0, 1) := by decide +kernel
theorem dX0_seekSoonestBehind_74 : decode cX0_seekSoonestBehind 74 = .ok (.getfield 31, 3) := by decide +kernel
theorem dX0_seekSoonestBehind_77 : decode cX0_seekSoonestBehind 77 = .ok (.invokevirtual 76, 3) := by decide +kernel
theorem dX0_seekSoonestBehind_80 : decode cX0_seekSoonestBehind 80 = .ok (.putfield 15, 3) := by decide +kernel
theorem dX0_seekSoonestBehind_83 : decode cX0_seekSoonestBehind 83 = .ok (.aload_n 0, 1) := by decide +kernel
theorem dX0_seekSoonestBehind_84 : decode cX0_seekSoonestBehind 84 = .ok (.getfield 31, 3) := by decide +kernel
theorem dX0_seekSoonestBehind_87 : decode cX0_seekSoonestBehind 87 = .ok (.invokevirtual 63, 3) := by decide +kernel
theorem dX0_seekSoonestBehind_90 : decode cX0_seekSoonestBehind 90 = .ok (.iinc 2 1, 3) := by decide +kernel
theorem dX0_seekSoonestBehind_93 : decode cX0_seekSoonestBehind 93 = .ok (.goto (-91), 3) := by decide +kernel
theorem dX0_seekSoonestBehind_96 : decode cX0_seekSoonestBehind 96 = .ok (.return_, 1) := by decide +kernel
theorem dX0_isSooner_0 : decode cX0_isSooner 0 = .ok (.iload_n 1, 1) := by decide +kernel
theorem dX0_isSooner_1 : decode cX0_isSooner 1 = .ok (.aload_n 0, 1) := by decide +kernel
theorem dX0_isSooner_2 : decode cX0_isSooner 2 = .ok (.getfield 27, 3) := by decide +kernel
theorem dX0_isSooner_5 : decode cX0_isSooner 5 = .ok (.getfield 46, 3) := by decide +kernel
theorem dX0_isSooner_8 : decode cX0_isSooner 8 = .ok (.if_icmp .ge 23, 3) := by decide +kernel
theorem dX0_isSooner_11 : decode cX0_isSooner 11 = .ok (.aload_n 0, 1) := by decide +kernel
theorem dX0_isSooner_12 : decode cX0_isSooner 12 = .ok (.getfield 18, 3) := by decide +kernel
theorem dX0_isSooner_15 : decode cX0_isSooner 15 = .ok (.iconst (-1), 1) := by decide +kernel
theorem dX0_isSooner_16 : decode cX0_isSooner 16 = .ok (.if_icmp .eq 11, 3) := by decide +kernel
theorem dX0_isSooner_19 : decode cX0_isSooner 19 = .ok (.iload_n 1, 1) := by decide +kernel
theorem dX0_isSooner_20 : decode cX0_isSooner 20 = .ok (.aload_n 0, 1) := by decide +kernel
theorem dX0_isSooner_21 : decode cX0_isSooner 21 = .ok (.getfield 18, 3) := by decide +kernel
theorem dX0_isSooner_24 : decode cX0_isSooner 24 = .ok (.if_icmp .ge 7, 3) := by decide +kernel
theorem dX0_isSooner_27 : decode cX0_isSooner 27 = .ok (.iconst 1, 1) := by decide +kernel
theorem dX0_isSooner_28 : decode cX0_isSooner 28 = .ok (.goto 4, 3) := by decide +kernel
theorem dX0_isSooner_31 : decode cX0_isSooner 31 = .ok (.iconst 0, 1) := by decide +kernel
theorem dX0_isSooner_32 : decode cX0_isSooner 32 = .ok (.ireturn, 1) := by decide +kernel
theorem dX0_seekByTurns_0 : decode cX0_seekByTurns 0 = .ok (.aload_n 0, 1) := by decide +kernel
theorem dX0_seekByTurns_1 : decode cX0_seekByTurns 1 = .ok (.iconst (-1), 1) := by decide +kernel
theorem dX0_seekByTurns_2 : decode cX0_seekByTurns 2 = .ok (.putfield 24, 3) := by decide +kernel
theorem dX0_seekByTurns_5 : decode cX0_seekByTurns 5 = .ok (.aload_n 0, 1) := by decide +kernel
theorem dX0_seekByTurns_6 : decode cX0_seekByTurns 6 = .ok (.getfield 31, 3) := by decide +kernel
theorem dX0_seekByTurns_9 : decode cX0_seekByTurns 9 = .ok (.invokevirtual 35, 3) := by decide +kernel
theorem dX0_seekByTurns_12 : decode cX0_seekByTurns 12 = .ok (.aload_n 0, 1) := by decide +kernel
theorem dX0_seekByTurns_13 : decode cX0_seekByTurns 13 = .ok (.aload_n 0, 1) := by decide +kernel
theorem dX0_seekByTurns_14 : decode cX0_seekByTurns 14 = .ok (.iconst 0, 1) := by decide +kernel
theorem dX0_seekByTurns_15 : decode cX0_seekByTurns 15 = .ok (.invokevirtual 79, 3) := by decide +kernel
theorem dX0_seekByTurns_18 : decode cX0_seekByTurns 18 = .ok (.putfield 9, 3) := by decide +kernel
theorem dX0_seekByTurns_21 : decode cX0_seekByTurns 21 = .ok (.return_, 1) := by decide +kernel
theorem dX0_warmthByTurns_0 : decode cX0_warmthByTurns 0 = .ok (.iload_n 1, 1) := by decide +kernel
theorem dX0_warmthByTurns_1 : decode cX0_warmthByTurns 1 = .ok (.aload_n 0, 1) := by decide +kernel
theorem dX0_warmthByTurns_2 : decode cX0_warmthByTurns 2 = .ok (.getfield 27, 3) := by decide +kernel
theorem dX0_warmthByTurns_5 : decode cX0_warmthByTurns 5 = .ok (.getfield 46, 3) := by decide +kernel
theorem dX0_warmthByTurns_8 : decode cX0_warmthByTurns 8 = .ok (.if_icmp .lt 11, 3) := by decide +kernel
theorem dX0_warmthByTurns_11 : decode cX0_warmthByTurns 11 = .ok (.aload_n 0, 1) := by decide +kernel
theorem dX0_warmthByTurns_12 : decode cX0_warmthByTurns 12 = .ok (.getfield 31, 3) := by decide +kernel
theorem dX0_warmthByTurns_15 : decode cX0_warmthByTurns 15 = .ok (.invokevirtual 53, 3) := by decide +kernel
theorem dX0_warmthByTurns_18 : decode cX0_warmthByTurns 18 = .ok (.ireturn, 1) := by decide +kernel
theorem dX0_warmthByTurns_19 : decode cX0_warmthByTurns 19 = .ok (.iload_n 1, 1) := by decide +kernel
theorem dX0_warmthByTurns_20 : decode cX0_warmthByTurns 20 = .ok (.iconst 2, 1) := by decide +kernel
theorem dX0_warmthByTurns_21 : decode cX0_warmthByTurns 21 = .ok (.irem, 1) := by decide +kernel
theorem dX0_warmthByTurns_22 : decode cX0_warmthByTurns 22 = .ok (.ifCond .ne 7, 3) := by decide +kernel
theorem dX0_warmthByTurns_25 : decode cX0_warmthByTurns 25 = .ok (.iconst 1, 1) := by decide +kernel
theorem dX0_warmthByTurns_26 : decode cX0_warmthByTurns 26 = .ok (.goto 4, 3) := by decide +kernel
theorem dX0_warmthByTurns_29 : decode cX0_warmthByTurns 29 = .ok (.iconst 0, 1) := by decide +kernel
theorem dX0_warmthByTurns_30 : decode cX0_warmthByTurns 30 = .ok (.istore_n 2, 1) := by decide +kernel
theorem dX0_warmthByTurns_31 : decode cX0_warmthByTurns 31 = .ok (.iconst (-1), 1) := by decide +kernel
theorem dX0_warmthByTurns_32 : decode cX0_warmthByTurns 32 = .ok (.istore_n 3, 1) := by decide +kernel
theorem dX0_warmthByTurns_33 : decode cX0_warmthByTurns 33 = .ok (.iconst 0, 1) := by decide +kernel
theorem dX0_warmthByTurns_34 : decode cX0_warmthByTurns 34 = .ok (.istore 4, 2) := by decide +kernel
theorem dX0_warmthByTurns_36 : decode cX0_warmthByTurns 36 = .ok (.iload 4, 2) := by decide +kernel
theorem dX0_warmthByTurns_38 : decode cX0_warmthByTurns 38 = .ok (.aload_n 0, 1) := by decide +kernel
theorem dX0_warmthByTurns_39 : decode cX0_warmthByTurns 39 = .ok (.getfield 27, 3) := by decide +kernel
theorem dX0_warmthByTurns_42 : decode cX0_warmthByTurns 42 = .ok (.getfield 46, 3) := by decide +kernel
theorem dX0_warmthByTurns_45 : decode cX0_warmthByTurns 45 = .ok (.if_icmp .ge 77, 3) := by decide +kernel
theorem dX0_warmthByTurns_48 : decode cX0_warmthByTurns 48 = .ok (.aload_n 0, 1) := by decide +kernel
theorem dX0_warmthByTurns_49 : decode cX0_warmthByTurns 49 = .ok (.getfield 31, 3) := by decide +kernel
theorem dX0_warmthByTurns_52 : decode cX0_warmthByTurns 52 = .ok (.iload 4, 2) := by decide +kernel
theorem dX0_warmthByTurns_54 : decode cX0_warmthByTurns 54 = .ok (.invokevirtual 60, 3) := by decide +kernel
theorem dX0_warmthByTurns_57 : decode cX0_warmthByTurns 57 = .ok (.ifCond .ne 6, 3) := by decide +kernel
theorem dX0_warmthByTurns_60 : decode cX0_warmthByTurns 60 = .ok (.goto 56, 3) := by decide +kernel
theorem dX0_warmthByTurns_63 : decode cX0_warmthByTurns 63 = .ok (.aload_n 0, 1) := by decide +kernel
theorem dX0_warmthByTurns_64 : decode cX0_warmthByTurns 64 = .ok (.iload_n 1, 1) := by decide +kernel
theorem dX0_warmthByTurns_65 : decode cX0_warmthByTurns 65 = .ok (.iconst 1, 1) := by decide +kernel
theorem dX0_warmthByTurns_66 : decode cX0_warmthByTurns 66 = .ok (.iadd, 1) := by decide +kernel
theorem dX0_warmthByTurns_67 : decode cX0_warmthByTurns 67 = .ok (.invokevirtual 79, 3) := by decide +kernel
theorem dX0_warmthByTurns_70 : decode cX0_warmthByTurns 70 = .ok (.istore 5, 2) := by decide +kernel
theorem dX0_warmthByTurns_72 : decode cX0_warmthByTurns 72 = .ok (.aload_n 0, 1) := by decide +kernel
theorem dX0_warmthByTurns_73 : decode cX0_warmthByTurns 73 = .ok (.getfield 31, 3) := by decide +kernel
theorem dX0_warmthByTurns_76 : decode cX0_warmthByTurns 76 = .ok (.invokevirtual 63, 3) := by decide +kernel
theorem dX0_warmthByTurns_79 : decode cX0_warmthByTurns 79 = .ok (.iload_n 3, 1) := by decide +kernel
theorem dX0_warmthByTurns_80 : decode cX0_warmthByTurns 80 = .ok (.iconst (-1), 1) := by decide +kernel
theorem dX0_warmthByTurns_81 : decode cX0_warmthByTurns 81 = .ok (.if_icmp .eq 22, 3) := by decide +kernel
theorem dX0_warmthByTurns_84 : decode cX0_warmthByTurns 84 = .ok (.iload_n 2, 1) := by decide +kernel
theorem dX0_warmthByTurns_85 : decode cX0_warmthByTurns 85 = .ok (.ifCond .eq 12, 3) := by decide +kernel
theorem dX0_warmthByTurns_88 : decode cX0_warmthByTurns 88 = .ok (.iload 5, 2) := by decide +kernel
theorem dX0_warmthByTurns_90 : decode cX0_warmthByTurns 90 = .ok (.iload_n 3, 1) := by decide +kernel
theorem dX0_warmthByTurns_91 : decode cX0_warmthByTurns 91 = .ok (.if_icmp .le 25, 3) := by decide +kernel
theorem dX0_warmthByTurns_94 : decode cX0_warmthByTurns 94 = .ok (.goto 9, 3) := by decide +kernel
theorem dX0_warmthByTurns_97 : decode cX0_warmthByTurns 97 = .ok (.iload 5, 2) := by decide +kernel
theorem dX0_warmthByTurns_99 : decode cX0_warmthByTurns 99 = .ok (.iload_n 3, 1) := by decide +kernel
theorem dX0_warmthByTurns_100 : decode cX0_warmthByTurns 100 = .ok (.if_icmp .ge 16, 3) := by decide +kernel
theorem dX0_warmthByTurns_103 : decode cX0_warmthByTurns 103 = .ok (.iload 5, 2) := by decide +kernel
theorem dX0_warmthByTurns_105 : decode cX0_warmthByTurns 105 = .ok (.istore_n 3, 1) := by decide +kernel
theorem dX0_warmthByTurns_106 : decode cX0_warmthByTurns 106 = .ok (.iload_n 1, 1) := by decide +kernel
theorem dX0_warmthByTurns_107 : decode cX0_warmthByTurns 107 = .ok (.ifCond .ne 9, 3) := by decide +kernel
theorem dX0_warmthByTurns_110 : decode cX0_warmthByTurns 110 = .ok (.aload_n 0, 1) := by decide +kernel
theorem dX0_warmthByTurns_111 : decode cX0_warmthByTurns 111 = .ok (.iload 4, 2) := by decide +kernel
theorem dX0_warmthByTurns_113 : decode cX0_warmthByTurns 113 = .ok (.putfield 24, 3) := by decide +kernel
theorem dX0_warmthByTurns_116 : decode cX0_warmthByTurns 116 = .ok (.iinc 4 1, 3) := by decide +kernel
theorem dX0_warmthByTurns_119 : decode cX0_warmthByTurns 119 = .ok (.goto (-83), 3) := by decide +kernel
theorem dX0_warmthByTurns_122 : decode cX0_warmthByTurns 122 = .ok (.iload_n 3, 1) := by decide +kernel
theorem dX0_warmthByTurns_123 : decode cX0_warmthByTurns 123 = .ok (.ireturn, 1) := by decide +kernel
theorem dX1_init_0 : decode cX1_init 0 = .ok (.aload_n 0, 1) := by decide +kernel
theorem dX1_init_1 : decode cX1_init 1 = .ok (.invokespecial 3, 3) := by decide +kernel
theorem dX1_init_4 : decode cX1_init 4 = .ok (.aload_n 0, 1) := by decide +kernel
theorem dX1_init_5 : decode cX1_init 5 = .ok (.new 9, 3) := by decide +kernel
theorem dX1_init_8 : decode cX1_init 8 = .ok (.dup, 1) := by decide +kernel
theorem dX1_init_9 : decode cX1_init 9 = .ok (.invokespecial 11, 3) := by decide +kernel
theorem dX1_init_12 : decode cX1_init 12 = .ok (.putfield 12, 3) := by decide +kernel
theorem dX1_init_15 : decode cX1_init 15 = .ok (.aload_n 0, 1) := by decide +kernel
theorem dX1_init_16 : decode cX1_init 16 = .ok (.iconst 5, 1) := by decide +kernel
theorem dX1_init_17 : decode cX1_init 17 = .ok (.newarray .int, 2) := by decide +kernel
theorem dX1_init_19 : decode cX1_init 19 = .ok (.putfield 18, 3) := by decide +kernel
theorem dX1_init_22 : decode cX1_init 22 = .ok (.aload_n 0, 1) := by decide +kernel
theorem dX1_init_23 : decode cX1_init 23 = .ok (.iconst 5, 1) := by decide +kernel
theorem dX1_init_24 : decode cX1_init 24 = .ok (.newarray .int, 2) := by decide +kernel
theorem dX1_init_26 : decode cX1_init 26 = .ok (.putfield 22, 3) := by decide +kernel
theorem dX1_init_29 : decode cX1_init 29 = .ok (.aload_n 0, 1) := by decide +kernel
theorem dX1_init_30 : decode cX1_init 30 = .ok (.iconst 5, 1) := by decide +kernel
theorem dX1_init_31 : decode cX1_init 31 = .ok (.newarray .int, 2) := by decide +kernel
theorem dX1_init_33 : decode cX1_init 33 = .ok (.putfield 25, 3) := by decide +kernel
theorem dX1_init_36 : decode cX1_init 36 = .ok (.aload_n 0, 1) := by decide +kernel
theorem dX1_init_37 : decode cX1_init 37 = .ok (.iconst 5, 1) := by decide +kernel
theorem dX1_init_38 : decode cX1_init 38 = .ok (.newarray .boolean, 2) := by decide +kernel
theorem dX1_init_40 : decode cX1_init 40 = .ok (.putfield 28, 3) := by decide +kernel
theorem dX1_init_43 : decode cX1_init 43 = .ok (.aload_n 0, 1) := by decide +kernel
theorem dX1_init_44 : decode cX1_init 44 = .ok (.iconst 5, 1) := by decide +kernel
theorem dX1_init_45 : decode cX1_init 45 = .ok (.newarray .boolean, 2) := by decide +kernel
theorem dX1_init_47 : decode cX1_init 47 = .ok (.putfield 32, 3) := by decide +kernel
theorem dX1_init_50 : decode cX1_init 50 = .ok (.aload_n 0, 1) := by decide +kernel
theorem dX1_init_51 : decode cX1_init 51 = .ok (.iconst 0, 1) := by decide +kernel
theorem dX1_init_52 : decode cX1_init 52 = .ok (.putfield 35, 3) := by decide +kernel
theorem dX1_init_55 : decode cX1_init 55 = .ok (.aload_n 0, 1) := by decide +kernel
theorem dX1_init_56 : decode cX1_init 56 = .ok (.iconst 0, 1) := by decide +kernel
theorem dX1_init_57 : decode cX1_init 57 = .ok (.putfield 39, 3) := by decide +kernel
theorem dX1_init_60 : decode cX1_init 60 = .ok (.aload_n 0, 1) := by decide +kernel
theorem dX1_init_61 : decode cX1_init 61 = .ok (.aload_n 1, 1) := by decide +kernel
theorem dX1_init_62 : decode cX1_init 62 = .ok (.putfield 42, 3) := by decide +kernel
theorem dX1_init_65 : decode cX1_init 65 = .ok (.aload_n 0, 1) := by decide +kernel
theorem dX1_init_66 : decode cX1_init 66 = .ok (.aload_n 2, 1) := by decide +kernel
theorem dX1_init_67 : decode cX1_init 67 = .ok (.putfield 46, 3) := by decide +kernel
theorem dX1_init_70 : decode cX1_init 70 = .ok (.return_, 1) := by decide +kernel
theorem dX1_begin_0 : decode cX1_begin 0 = .ok (.aload_n 0, 1) := by decide +kernel
theorem dX1_begin_1 : decode cX1_begin 1 = .ok (.iconst 0, 1) := by decide +kernel
theorem dX1_begin_2 : decode cX1_begin 2 = .ok (.putfield 35, 3) := by decide +kernel
theorem dX1_begin_5 : decode cX1_begin 5 = .ok (.aload_n 0, 1) := by decide +kernel
theorem dX1_begin_6 : decode cX1_begin 6 = .ok (.iconst 0, 1) := by decide +kernel
theorem dX1_begin_7 : decode cX1_begin 7 = .ok (.putfield 39, 3) := by decide +kernel
theorem dX1_begin_10 : decode cX1_begin 10 = .ok (.return_, 1) := by decide +kernel
theorem dX1_hasCome_0 : decode cX1_hasCome 0 = .ok (.aload_n 0, 1) := by decide +kernel
theorem dX1_hasCome_1 : decode cX1_hasCome 1 = .ok (.getfield 42, 3) := by decide +kernel
theorem dX1_hasCome_4 : decode cX1_hasCome 4 = .ok (.iload_n 1, 1) := by decide +kernel
theorem dX1_hasCome_5 : decode cX1_hasCome 5 = .ok (.invokevirtual 50, 3) := by decide +kernel
theorem dX1_hasCome_8 : decode cX1_hasCome 8 = .ok (.ifCond .eq 18, 3) := by decide +kernel
theorem dX1_hasCome_11 : decode cX1_hasCome 11 = .ok (.aload_n 0, 1) := by decide +kernel
theorem dX1_hasCome_12 : decode cX1_hasCome 12 = .ok (.getfield 39, 3) := by decide +kernel
theorem dX1_hasCome_15 : decode cX1_hasCome 15 = .ok (.iload_n 1, 1) := by decide +kernel
theorem dX1_hasCome_16 : decode cX1_hasCome 16 = .ok (.ishr, 1) := by decide +kernel
theorem dX1_hasCome_17 : decode cX1_hasCome 17 = .ok (.iconst 1, 1) := by decide +kernel
theorem dX1_hasCome_18 : decode cX1_hasCome 18 = .ok (.iand, 1) := by decide +kernel
theorem dX1_hasCome_19 : decode cX1_hasCome 19 = .ok (.ifCond .eq 7, 3) := by decide +kernel
theorem dX1_hasCome_22 : decode cX1_hasCome 22 = .ok (.iconst 1, 1) := by decide +kernel
theorem dX1_hasCome_23 : decode cX1_hasCome 23 = .ok (.goto 4, 3) := by decide +kernel
theorem dX1_hasCome_26 : decode cX1_hasCome 26 = .ok (.iconst 0, 1) := by decide +kernel
theorem dX1_hasCome_27 : decode cX1_hasCome 27 = .ok (.ireturn, 1) := by decide +kernel
theorem dX1_comeUp_0 : decode cX1_comeUp 0 = .ok (.aload_n 0, 1) := by decide +kernel
theorem dX1_comeUp_1 : decode cX1_comeUp 1 = .ok (.getfield 42, 3) := by decide +kernel
theorem dX1_comeUp_4 : decode cX1_comeUp 4 = .ok (.iload_n 1, 1) := by decide +kernel
theorem dX1_comeUp_5 : decode cX1_comeUp 5 = .ok (.invokevirtual 50, 3) := by decide +kernel
theorem dX1_comeUp_8 : decode cX1_comeUp 8 = .ok (.ifCond .eq 26, 3) := by decide +kernel
theorem dX1_comeUp_11 : decode cX1_comeUp 11 = .ok (.aload_n 0, 1) := by decide +kernel
theorem dX1_comeUp_12 : decode cX1_comeUp 12 = .ok (.iload_n 1, 1) := by decide +kernel
theorem dX1_comeUp_13 : decode cX1_comeUp 13 = .ok (.invokevirtual 56, 3) := by decide +kernel
theorem dX1_comeUp_16 : decode cX1_comeUp 16 = .ok (.ifCond .ne 18, 3) := by decide +kernel
theorem dX1_comeUp_19 : decode cX1_comeUp 19 = .ok (.aload_n 0, 1) := by decide +kernel
theorem dX1_comeUp_20 : decode cX1_comeUp 20 = .ok (.getfield 35, 3) := by decide +kernel
theorem dX1_comeUp_23 : decode cX1_comeUp 23 = .ok (.ifCond .lt 11, 3) := by decide +kernel
theorem dX1_comeUp_26 : decode cX1_comeUp 26 = .ok (.aload_n 0, 1) := by decide +kernel
theorem dX1_comeUp_27 : decode cX1_comeUp 27 = .ok (.getfield 35, 3) := by decide +kernel
theorem dX1_comeUp_30 : decode cX1_comeUp 30 = .ok (.iconst 5, 1) := by decide +kernel
theorem dX1_comeUp_31 : decode cX1_comeUp 31 = .ok (.if_icmp .lt 5, 3) := by decide +kernel
theorem dX1_comeUp_34 : decode cX1_comeUp 34 = .ok (.iconst 0, 1) := by decide +kernel
theorem dX1_comeUp_35 : decode cX1_comeUp 35 = .ok (.ireturn, 1) := by decide +kernel
theorem dX1_comeUp_36 : decode cX1_comeUp 36 = .ok (.aload_n 0, 1) := by decide +kernel
theorem dX1_comeUp_37 : decode cX1_comeUp 37 = .ok (.iload_n 1, 1) := by decide +kernel
theorem dX1_comeUp_38 : decode cX1_comeUp 38 = .ok (.invokevirtual 59, 3) := by decide +kernel
theorem dX1_comeUp_41 : decode cX1_comeUp 41 = .ok (.aload_n 0, 1) := by decide +kernel
theorem dX1_comeUp_42 : decode cX1_comeUp 42 = .ok (.invokevirtual 63, 3) := by decide +kernel
theorem dX1_comeUp_45 : decode cX1_comeUp 45 = .ok (.istore_n 2, 1) := by decide +kernel
theorem dX1_comeUp_46 : decode cX1_comeUp 46 = .ok (.aload_n 0, 1) := by decide +kernel
theorem dX1_comeUp_47 : decode cX1_comeUp 47 = .ok (.invokevirtual 67, 3) := by decide +kernel
theorem dX1_comeUp_50 : decode cX1_comeUp 50 = .ok (.istore_n 3, 1) := by decide +kernel
theorem dX1_comeUp_51 : decode cX1_comeUp 51 = .ok (.aload_n 0, 1) := by decide +kernel
theorem dX1_comeUp_52 : decode cX1_comeUp 52 = .ok (.getfield 12, 3) := by decide +kernel
theorem dX1_comeUp_55 : decode cX1_comeUp 55 = .ok (.aload_n 0, 1) := by decide +kernel
theorem dX1_comeUp_56 : decode cX1_comeUp 56 = .ok (.getfield 12, 3) := by decide +kernel
theorem dX1_comeUp_59 : decode cX1_comeUp 59 = .ok (.getfield 70, 3) := by decide +kernel
theorem dX1_comeUp_62 : decode cX1_comeUp 62 = .ok (.iload_n 2, 1) := by decide +kernel
theorem dX1_comeUp_63 : decode cX1_comeUp 63 = .ok (.isub, 1) := by decide +kernel
theorem dX1_comeUp_64 : decode cX1_comeUp 64 = .ok (.iconst 0, 1) := by decide +kernel
theorem dX1_comeUp_65 : decode cX1_comeUp 65 = .ok (.bipush 99, 2) := by decide +kernel
theorem dX1_comeUp_67 : decode cX1_comeUp 67 = .ok (.invokestatic 73, 3) := by decide +kernel
theorem dX1_comeUp_70 : decode cX1_comeUp 70 = .ok (.iload_n 3, 1) := by decide +kernel
theorem dX1_comeUp_71 : decode cX1_comeUp 71 = .ok (.iadd, 1) := by decide +kernel
theorem dX1_comeUp_72 : decode cX1_comeUp 72 = .ok (.iconst 0, 1) := by decide +kernel
theorem dX1_comeUp_73 : decode cX1_comeUp 73 = .ok (.bipush 99, 2) := by decide +kernel
theorem dX1_comeUp_75 : decode cX1_comeUp 75 = .ok (.invokestatic 73, 3) := by decide +kernel
theorem dX1_comeUp_78 : decode cX1_comeUp 78 = .ok (.putfield 70, 3) := by decide +kernel
theorem dX1_comeUp_81 : decode cX1_comeUp 81 = .ok (.aload_n 0, 1) := by decide +kernel
theorem dX1_comeUp_82 : decode cX1_comeUp 82 = .ok (.getfield 12, 3) := by decide +kernel
theorem dX1_comeUp_85 : decode cX1_comeUp 85 = .ok (.getfield 70, 3) := by decide +kernel
theorem dX1_comeUp_88 : decode cX1_comeUp 88 = .ok (.aload_n 0, 1) := by decide +kernel
theorem dX1_comeUp_89 : decode cX1_comeUp 89 = .ok (.getfield 42, 3) := by decide +kernel
theorem dX1_comeUp_92 : decode cX1_comeUp 92 = .ok (.getfield 77, 3) := by decide +kernel
theorem dX1_comeUp_95 : decode cX1_comeUp 95 = .ok (.if_icmp .lt 7, 3) := by decide +kernel
theorem dX1_comeUp_98 : decode cX1_comeUp 98 = .ok (.iconst 1, 1) := by decide +kernel
theorem dX1_comeUp_99 : decode cX1_comeUp 99 = .ok (.goto 4, 3) := by decide +kernel
theorem dX1_comeUp_102 : decode cX1_comeUp 102 = .ok (.iconst 0, 1) := by decide +kernel
theorem dX1_comeUp_103 : decode cX1_comeUp 103 = .ok (.istore 4, 2) := by decide +kernel
theorem dX1_comeUp_105 : decode cX1_comeUp 105 = .ok (.iload 4, 2) := by decide +kernel
theorem dX1_comeUp_107 : decode cX1_comeUp 107 = .ok (.ifCond .eq 30, 3) := by decide +kernel
theorem dX1_comeUp_110 : decode cX1_comeUp 110 = .ok (.aload_n 0, 1) := by decide +kernel
theorem dX1_comeUp_111 : decode cX1_comeUp 111 = .ok (.getfield 46, 3) := by decide +kernel
theorem dX1_comeUp_114 : decode cX1_comeUp 114 = .ok (.aload_n 0, 1) := by decide +kernel
theorem dX1_comeUp_115 : decode cX1_comeUp 115 = .ok (.getfield 42, 3) := by decide +kernel
theorem dX1_comeUp_118 : decode cX1_comeUp 118 = .ok (.getfield 80, 3) := by decide +kernel
theorem dX1_comeUp_121 : decode cX1_comeUp 121 = .ok (.bipush (-18), 2) := by decide +kernel
theorem dX1_comeUp_123 : decode cX1_comeUp 123 = .ok (.aload_n 0, 1) := by decide +kernel
theorem dX1_comeUp_124 : decode cX1_comeUp 124 = .ok (.getfield 12, 3) := by decide +kernel
theorem dX1_comeUp_127 : decode cX1_comeUp 127 = .ok (.invokevirtual 83, 3) := by decide +kernel
theorem dX1_comeUp_130 : decode cX1_comeUp 130 = .ok (.ifCond .eq 7, 3) := by decide +kernel
theorem dX1_comeUp_133 : decode cX1_comeUp 133 = .ok (.iconst 1, 1) := by decide +kernel
theorem dX1_comeUp_134 : decode cX1_comeUp 134 = .ok (.goto 4, 3) := by decide +kernel
theorem dX1_comeUp_137 : decode cX1_comeUp 137 = .ok (.iconst 0, 1) := by decide +kernel
theorem dX1_comeUp_138 : decode cX1_comeUp 138 = .ok (.istore 5, 2) := by decide +kernel
theorem dX1_comeUp_140 : decode cX1_comeUp 140 = .ok (.aload_n 0, 1) := by decide +kernel
theorem dX1_comeUp_141 : decode cX1_comeUp 141 = .ok (.getfield 18, 3) := by decide +kernel
theorem dX1_comeUp_144 : decode cX1_comeUp 144 = .ok (.aload_n 0, 1) := by decide +kernel
theorem dX1_comeUp_145 : decode cX1_comeUp 145 = .ok (.getfield 35, 3) := by decide +kernel
theorem dX1_comeUp_148 : decode cX1_comeUp 148 = .ok (.iload_n 1, 1) := by decide +kernel
theorem dX1_comeUp_149 : decode cX1_comeUp 149 = .ok (.iastore, 1) := by decide +kernel
theorem dX1_comeUp_150 : decode cX1_comeUp 150 = .ok (.aload_n 0, 1) := by decide +kernel
theorem dX1_comeUp_151 : decode cX1_comeUp 151 = .ok (.getfield 22, 3) := by decide +kernel
theorem dX1_comeUp_154 : decode cX1_comeUp 154 = .ok (.aload_n 0, 1) := by decide +kernel
theorem dX1_comeUp_155 : decode cX1_comeUp 155 = .ok (.getfield 35, 3) := by decide +kernel
theorem dX1_comeUp_158 : decode cX1_comeUp 158 = .ok (.aload_n 0, 1) := by decide +kernel
theorem dX1_comeUp_159 : decode cX1_comeUp 159 = .ok (.getfield 12, 3) := by decide +kernel
theorem dX1_comeUp_162 : decode cX1_comeUp 162 = .ok (.getfield 89, 3) := by decide +kernel
theorem dX1_comeUp_165 : decode cX1_comeUp 165 = .ok (.iastore, 1) := by decide +kernel
theorem dX1_comeUp_166 : decode cX1_comeUp 166 = .ok (.aload_n 0, 1) := by decide +kernel
theorem dX1_comeUp_167 : decode cX1_comeUp 167 = .ok (.getfield 25, 3) := by decide +kernel
theorem dX1_comeUp_170 : decode cX1_comeUp 170 = .ok (.aload_n 0, 1) := by decide +kernel
theorem dX1_comeUp_171 : decode cX1_comeUp 171 = .ok (.getfield 35, 3) := by decide +kernel
theorem dX1_comeUp_174 : decode cX1_comeUp 174 = .ok (.iload 5, 2) := by decide +kernel
theorem dX1_comeUp_176 : decode cX1_comeUp 176 = .ok (.ifCond .eq 15, 3) := by decide +kernel
theorem dX1_comeUp_179 : decode cX1_comeUp 179 = .ok (.aload_n 0, 1) := by decide +kernel
theorem dX1_comeUp_180 : decode cX1_comeUp 180 = .ok (.getfield 12, 3) := by decide +kernel
theorem dX1_comeUp_183 : decode cX1_comeUp 183 = .ok (.getfield 70, 3) := by decide +kernel
theorem dX1_comeUp_186 : decode cX1_comeUp 186 = .ok (.iconst 2, 1) := by decide +kernel
theorem dX1_comeUp_187 : decode cX1_comeUp 187 = .ok (.idiv, 1) := by decide +kernel
theorem dX1_comeUp_188 : decode cX1_comeUp 188 = .ok (.goto 10, 3) := by decide +kernel
theorem dX1_comeUp_191 : decode cX1_comeUp 191 = .ok (.aload_n 0, 1) := by decide +kernel
theorem dX1_comeUp_192 : decode cX1_comeUp 192 = .ok (.getfield 12, 3) := by decide +kernel
theorem dX1_comeUp_195 : decode cX1_comeUp 195 = .ok (.getfield 70, 3) := by decide +kernel
theorem dX1_comeUp_198 : decode cX1_comeUp 198 = .ok (.iastore, 1) := by decide +kernel
theorem dX1_comeUp_199 : decode cX1_comeUp 199 = .ok (.aload_n 0, 1) := by decide +kernel
theorem dX1_comeUp_200 : decode cX1_comeUp 200 = .ok (.getfield 28, 3) := by decide +kernel
theorem dX1_comeUp_203 : decode cX1_comeUp 203 = .ok (.aload_n 0, 1) := by decide +kernel
theorem dX1_comeUp_204 : decode cX1_comeUp 204 = .ok (.getfield 35, 3) := by decide +kernel
theorem dX1_comeUp_207 : decode cX1_comeUp 207 = .ok (.iload 4, 2) := by decide +kernel
theorem dX1_comeUp_209 : decode cX1_comeUp 209 = .ok (.bastore, 1) := by decide +kernel
theorem dX1_comeUp_210 : decode cX1_comeUp 210 = .ok (.aload_n 0, 1) := by decide +kernel
theorem dX1_comeUp_211 : decode cX1_comeUp 211 = .ok (.getfield 32, 3) := by decide +kernel
theorem dX1_comeUp_214 : decode cX1_comeUp 214 = .ok (.aload_n 0, 1) := by decide +kernel
theorem dX1_comeUp_215 : decode cX1_comeUp 215 = .ok (.getfield 35, 3) := by decide +kernel
theorem dX1_comeUp_218 : decode cX1_comeUp 218 = .ok (.iload 5, 2) := by decide +kernel
theorem dX1_comeUp_220 : decode cX1_comeUp 220 = .ok (.bastore, 1) := by decide +kernel
theorem dX1_comeUp_221 : decode cX1_comeUp 221 = .ok (.aload_n 0, 1) := by decide +kernel
theorem dX1_comeUp_222 : decode cX1_comeUp 222 = .ok (.dup, 1) := by decide +kernel
theorem dX1_comeUp_223 : decode cX1_comeUp 223 = .ok (.getfield 35, 3) := by decide +kernel
theorem dX1_comeUp_226 : decode cX1_comeUp 226 = .ok (.iconst 1, 1) := by decide +kernel
theorem dX1_comeUp_227 : decode cX1_comeUp 227 = .ok (.iadd, 1) := by decide +kernel
theorem dX1_comeUp_228 : decode cX1_comeUp 228 = .ok (.putfield 35, 3) := by decide +kernel
theorem dX1_comeUp_231 : decode cX1_comeUp 231 = .ok (.aload_n 0, 1) := by decide +kernel
theorem dX1_comeUp_232 : decode cX1_comeUp 232 = .ok (.dup, 1) := by decide +kernel
theorem dX1_comeUp_233 : decode cX1_comeUp 233 = .ok (.getfield 39, 3) := by decide +kernel
theorem dX1_comeUp_236 : decode cX1_comeUp 236 = .ok (.iconst 1, 1) := by decide +kernel
theorem dX1_comeUp_237 : decode cX1_comeUp 237 = .ok (.iload_n 1, 1) := by decide +kernel
theorem dX1_comeUp_238 : decode cX1_comeUp 238 = .ok (.ishl, 1) := by decide +kernel
theorem dX1_comeUp_239 : decode cX1_comeUp 239 = .ok (.ior, 1) := by decide +kernel
theorem dX1_comeUp_240 : decode cX1_comeUp 240 = .ok (.putfield 39, 3) := by decide +kernel
theorem dX1_comeUp_243 : decode cX1_comeUp 243 = .ok (.iconst 1, 1) := by decide +kernel
theorem dX1_comeUp_244 : decode cX1_comeUp 244 = .ok (.ireturn, 1) := by decide +kernel
theorem dX1_goBack_0 : decode cX1_goBack 0 = .ok (.aload_n 0, 1) := by decide +kernel
theorem dX1_goBack_1 : decode cX1_goBack 1 = .ok (.getfield 35, 3) := by decide +kernel
theorem dX1_goBack_4 : decode cX1_goBack 4 = .ok (.ifCond .le 43, 3) := by decide +kernel
theorem dX1_goBack_7 : decode cX1_goBack 7 = .ok (.aload_n 0, 1) := by decide +kernel
theorem dX1_goBack_8 : decode cX1_goBack 8 = .ok (.getfield 35, 3) := by decide +kernel
theorem dX1_goBack_11 : decode cX1_goBack 11 = .ok (.iconst 5, 1) := by decide +kernel
theorem dX1_goBack_12 : decode cX1_goBack 12 = .ok (.if_icmp .gt 35, 3) := by decide +kernel
theorem dX1_goBack_15 : decode cX1_goBack 15 = .ok (.aload_n 0, 1) := by decide +kernel
theorem dX1_goBack_16 : decode cX1_goBack 16 = .ok (.dup, 1) := by decide +kernel
theorem dX1_goBack_17 : decode cX1_goBack 17 = .ok (.getfield 35, 3) := by decide +kernel
theorem dX1_goBack_20 : decode cX1_goBack 20 = .ok (.iconst 1, 1) := by decide +kernel
theorem dX1_goBack_21 : decode cX1_goBack 21 = .ok (.isub, 1) := by decide +kernel
theorem dX1_goBack_22 : decode cX1_goBack 22 = .ok (.putfield 35, 3) := by decide +kernel
theorem dX1_goBack_25 : decode cX1_goBack 25 = .ok (.aload_n 0, 1) := by decide +kernel
theorem dX1_goBack_26 : decode cX1_goBack 26 = .ok (.dup, 1) := by decide +kernel
theorem dX1_goBack_27 : decode cX1_goBack 27 = .ok (.getfield 39, 3) := by decide +kernel
theorem dX1_goBack_30 : decode cX1_goBack 30 = .ok (.iconst 1, 1) := by decide +kernel
theorem dX1_goBack_31 : decode cX1_goBack 31 = .ok (.aload_n 0, 1) := by decide +kernel
theorem dX1_goBack_32 : decode cX1_goBack 32 = .ok (.getfield 18, 3) := by decide +kernel
theorem dX1_goBack_35 : decode cX1_goBack 35 = .ok (.aload_n 0, 1) := by decide +kernel
theorem dX1_goBack_36 : decode cX1_goBack 36 = .ok (.getfield 35, 3) := by decide +kernel
theorem dX1_goBack_39 : decode cX1_goBack 39 = .ok (.iaload, 1) := by decide +kernel
theorem dX1_goBack_40 : decode cX1_goBack 40 = .ok (.ishl, 1) := by decide +kernel
theorem dX1_goBack_41 : decode cX1_goBack 41 = .ok (.iconst (-1), 1) := by decide +kernel
theorem dX1_goBack_42 : decode cX1_goBack 42 = .ok (.ixor, 1) := by decide +kernel
theorem dX1_goBack_43 : decode cX1_goBack 43 = .ok (.iand, 1) := by decide +kernel
theorem dX1_goBack_44 : decode cX1_goBack 44 = .ok (.putfield 39, 3) := by decide +kernel
theorem dX1_goBack_47 : decode cX1_goBack 47 = .ok (.return_, 1) := by decide +kernel
theorem dX1_comeBy_0 : decode cX1_comeBy 0 = .ok (.aload_n 0, 1) := by decide +kernel
theorem dX1_comeBy_1 : decode cX1_comeBy 1 = .ok (.invokevirtual 92, 3) := by decide +kernel
theorem dX1_comeBy_4 : decode cX1_comeBy 4 = .ok (.iconst 0, 1) := by decide +kernel
theorem dX1_comeBy_5 : decode cX1_comeBy 5 = .ok (.istore_n 2, 1) := by decide +kernel
theorem dX1_comeBy_6 : decode cX1_comeBy 6 = .ok (.iload_n 2, 1) := by decide +kernel
theorem dX1_comeBy_7 : decode cX1_comeBy 7 = .ok (.aload_n 1, 1) := by decide +kernel
theorem dX1_comeBy_8 : decode cX1_comeBy 8 = .ok (.getfield 95, 3) := by decide +kernel
theorem dX1_comeBy_11 : decode cX1_comeBy 11 = .ok (.if_icmp .ge 23, 3) := by decide +kernel
theorem dX1_comeBy_14 : decode cX1_comeBy 14 = .ok (.aload_n 0, 1) := by decide +kernel
theorem dX1_comeBy_15 : decode cX1_comeBy 15 = .ok (.aload_n 1, 1) := by decide +kernel
theorem dX1_comeBy_16 : decode cX1_comeBy 16 = .ok (.iload_n 2, 1) := by decide +kernel
theorem dX1_comeBy_17 : decode cX1_comeBy 17 = .ok (.invokevirtual 100, 3) := by decide +kernel
theorem dX1_comeBy_20 : decode cX1_comeBy 20 = .ok (.invokevirtual 104, 3) := by decide +kernel
theorem dX1_comeBy_23 : decode cX1_comeBy 23 = .ok (.ifCond .ne 5, 3) := by decide +kernel
theorem dX1_comeBy_26 : decode cX1_comeBy 26 = .ok (.iconst 0, 1) := by decide +kernel
theorem dX1_comeBy_27 : decode cX1_comeBy 27 = .ok (.ireturn, 1) := by decide +kernel
theorem dX1_comeBy_28 : decode cX1_comeBy 28 = .ok (.iinc 2 1, 3) := by decide +kernel
theorem dX1_comeBy_31 : decode cX1_comeBy 31 = .ok (.goto (-25), 3) := by decide +kernel
theorem dX1_comeBy_34 : decode cX1_comeBy 34 = .ok (.iconst 1, 1) := by decide +kernel
theorem dX1_comeBy_35 : decode cX1_comeBy 35 = .ok (.ireturn, 1) := by decide +kernel
theorem dX1_comeByNumber_0 : decode cX1_comeByNumber 0 = .ok (.aload_n 0, 1) := by decide +kernel
theorem dX1_comeByNumber_1 : decode cX1_comeByNumber 1 = .ok (.invokevirtual 92, 3) := by decide +kernel
theorem dX1_comeByNumber_4 : decode cX1_comeByNumber 4 = .ok (.iconst 0, 1) := by decide +kernel
theorem dX1_comeByNumber_5 : decode cX1_comeByNumber 5 = .ok (.istore_n 1, 1) := by decide +kernel
theorem dX1_comeByNumber_6 : decode cX1_comeByNumber 6 = .ok (.iload_n 1, 1) := by decide +kernel
theorem dX1_comeByNumber_7 : decode cX1_comeByNumber 7 = .ok (.aload_n 0, 1) := by decide +kernel
theorem dX1_comeByNumber_8 : decode cX1_comeByNumber 8 = .ok (.getfield 42, 3) := by decide +kernel
theorem dX1_comeByNumber_11 : decode cX1_comeByNumber 11 = .ok (.getfield 107, 3) := by decide +kernel
theorem dX1_comeByNumber_14 : decode cX1_comeByNumber 14 = .ok (.if_icmp .ge 15, 3) := by decide +kernel
theorem dX1_comeByNumber_17 : decode cX1_comeByNumber 17 = .ok (.aload_n 0, 1) := by decide +kernel
theorem dX1_comeByNumber_18 : decode cX1_comeByNumber 18 = .ok (.iload_n 1, 1) := by decide +kernel
theorem dX1_comeByNumber_19 : decode cX1_comeByNumber 19 = .ok (.invokevirtual 104, 3) := by decide +kernel
theorem dX1_comeByNumber_22 : decode cX1_comeByNumber 22 = .ok (.pop, 1) := by decide +kernel
theorem dX1_comeByNumber_23 : decode cX1_comeByNumber 23 = .ok (.iinc 1 1, 3) := by decide +kernel
theorem dX1_comeByNumber_26 : decode cX1_comeByNumber 26 = .ok (.goto (-20), 3) := by decide +kernel
theorem dX1_comeByNumber_29 : decode cX1_comeByNumber 29 = .ok (.return_, 1) := by decide +kernel
theorem dX1_hear_0 : decode cX1_hear 0 = .ok (.aload_n 0, 1) := by decide +kernel
theorem dX1_hear_1 : decode cX1_hear 1 = .ok (.getfield 42, 3) := by decide +kernel
theorem dX1_hear_4 : decode cX1_hear 4 = .ok (.iload_n 1, 1) := by decide +kernel
theorem dX1_hear_5 : decode cX1_hear 5 = .ok (.invokevirtual 50, 3) := by decide +kernel
theorem dX1_hear_8 : decode cX1_hear 8 = .ok (.ifCond .ne 4, 3) := by decide +kernel
theorem dX1_hear_11 : decode cX1_hear 11 = .ok (.return_, 1) := by decide +kernel
theorem dX1_hear_12 : decode cX1_hear 12 = .ok (.aload_n 0, 1) := by decide +kernel
theorem dX1_hear_13 : decode cX1_hear 13 = .ok (.getfield 12, 3) := by decide +kernel
theorem dX1_hear_16 : decode cX1_hear 16 = .ok (.aload_n 0, 1) := by decide +kernel
theorem dX1_hear_17 : decode cX1_hear 17 = .ok (.getfield 42, 3) := by decide +kernel
theorem dX1_hear_20 : decode cX1_hear 20 = .ok (.getfield 110, 3) := by decide +kernel
theorem dX1_hear_23 : decode cX1_hear 23 = .ok (.iload_n 1, 1) := by decide +kernel
theorem dX1_hear_24 : decode cX1_hear 24 = .ok (.iaload, 1) := by decide +kernel
theorem dX1_hear_25 : decode cX1_hear 25 = .ok (.putfield 113, 3) := by decide +kernel
theorem dX1_hear_28 : decode cX1_hear 28 = .ok (.aload_n 0, 1) := by decide +kernel
theorem dX1_hear_29 : decode cX1_hear 29 = .ok (.getfield 12, 3) := by decide +kernel
theorem dX1_hear_32 : decode cX1_hear 32 = .ok (.aload_n 0, 1) := by decide +kernel
theorem dX1_hear_33 : decode cX1_hear 33 = .ok (.getfield 42, 3) := by decide +kernel
theorem dX1_hear_36 : decode cX1_hear 36 = .ok (.getfield 116, 3) := by decide +kernel
theorem dX1_hear_39 : decode cX1_hear 39 = .ok (.iload_n 1, 1) := by decide +kernel
theorem dX1_hear_40 : decode cX1_hear 40 = .ok (.iaload, 1) := by decide +kernel
theorem dX1_hear_41 : decode cX1_hear 41 = .ok (.putfield 119, 3) := by decide +kernel
theorem dX1_hear_44 : decode cX1_hear 44 = .ok (.aload_n 0, 1) := by decide +kernel
theorem dX1_hear_45 : decode cX1_hear 45 = .ok (.getfield 12, 3) := by decide +kernel
theorem dX1_hear_48 : decode cX1_hear 48 = .ok (.aload_n 0, 1) := by decide +kernel
theorem dX1_hear_49 : decode cX1_hear 49 = .ok (.getfield 42, 3) := by decide +kernel
theorem dX1_hear_52 : decode cX1_hear 52 = .ok (.getfield 122, 3) := by decide +kernel
theorem dX1_hear_55 : decode cX1_hear 55 = .ok (.iload_n 1, 1) := by decide +kernel
theorem dX1_hear_56 : decode cX1_hear 56 = .ok (.iaload, 1) := by decide +kernel
theorem dX1_hear_57 : decode cX1_hear 57 = .ok (.putfield 89, 3) := by decide +kernel
theorem dX1_hear_60 : decode cX1_hear 60 = .ok (.aload_n 0, 1) := by decide +kernel
theorem dX1_hear_61 : decode cX1_hear 61 = .ok (.getfield 12, 3) := by decide +kernel
theorem dX1_hear_64 : decode cX1_hear 64 = .ok (.aload_n 0, 1) := by decide +kernel
theorem dX1_hear_65 : decode cX1_hear 65 = .ok (.getfield 42, 3) := by decide +kernel
theorem dX1_hear_68 : decode cX1_hear 68 = .ok (.getfield 125, 3) := by decide +kernel
theorem dX1_hear_71 : decode cX1_hear 71 = .ok (.iload_n 1, 1) := by decide +kernel
theorem dX1_hear_72 : decode cX1_hear 72 = .ok (.iaload, 1) := by decide +kernel
theorem dX1_hear_73 : decode cX1_hear 73 = .ok (.ifCond .eq 7, 3) := by decide +kernel
theorem dX1_hear_76 : decode cX1_hear 76 = .ok (.iconst 1, 1) := by decide +kernel
theorem dX1_hear_77 : decode cX1_hear 77 = .ok (.goto 4, 3) := by decide +kernel
theorem dX1_hear_80 : decode cX1_hear 80 = .ok (.iconst 0, 1) := by decide +kernel
theorem dX1_hear_81 : decode cX1_hear 81 = .ok (.putfield 128, 3) := by decide +kernel
theorem dX1_hear_84 : decode cX1_hear 84 = .ok (.aload_n 0, 1) := by decide +kernel
theorem dX1_hear_85 : decode cX1_hear 85 = .ok (.getfield 12, 3) := by decide +kernel
theorem dX1_hear_88 : decode cX1_hear 88 = .ok (.aload_n 0, 1) := by decide +kernel
theorem dX1_hear_89 : decode cX1_hear 89 = .ok (.getfield 42, 3) := by decide +kernel
theorem dX1_hear_92 : decode cX1_hear 92 = .ok (.getfield 132, 3) := by decide +kernel
theorem dX1_hear_95 : decode cX1_hear 95 = .ok (.iconst 2, 1) := by decide +kernel
theorem dX1_hear_96 : decode cX1_hear 96 = .ok (.irem, 1) := by decide +kernel
theorem dX1_hear_97 : decode cX1_hear 97 = .ok (.ifCond .eq 7, 3) := by decide +kernel
theorem dX1_hear_100 : decode cX1_hear 100 = .ok (.iconst 1, 1) := by decide +kernel
theorem dX1_hear_101 : decode cX1_hear 101 = .ok (.goto 4, 3) := by decide +kernel
theorem dX1_hear_104 : decode cX1_hear 104 = .ok (.iconst 0, 1) := by decide +kernel
theorem dX1_hear_105 : decode cX1_hear 105 = .ok (.putfield 135, 3) := by decide +kernel
theorem dX1_hear_108 : decode cX1_hear 108 = .ok (.aload_n 0, 1) := by decide +kernel
theorem dX1_hear_109 : decode cX1_hear 109 = .ok (.getfield 12, 3) := by decide +kernel
theorem dX1_hear_112 : decode cX1_hear 112 = .ok (.aload_n 0, 1) := by decide +kernel
theorem dX1_hear_113 : decode cX1_hear 113 = .ok (.invokevirtual 138, 3) := by decide +kernel
theorem dX1_hear_116 : decode cX1_hear 116 = .ok (.putfield 70, 3) := by decide +kernel
theorem dX1_hear_119 : decode cX1_hear 119 = .ok (.aload_n 0, 1) := by decide +kernel
theorem dX1_hear_120 : decode cX1_hear 120 = .ok (.getfield 12, 3) := by decide +kernel
theorem dX1_hear_123 : decode cX1_hear 123 = .ok (.aload_n 0, 1) := by decide +kernel
theorem dX1_hear_124 : decode cX1_hear 124 = .ok (.getfield 35, 3) := by decide +kernel
theorem dX1_hear_127 : decode cX1_hear 127 = .ok (.putfield 141, 3) := by decide +kernel
theorem dX1_hear_130 : decode cX1_hear 130 = .ok (.aload_n 0, 1) := by decide +kernel
theorem dX1_hear_131 : decode cX1_hear 131 = .ok (.getfield 12, 3) := by decide +kernel
theorem dX1_hear_134 : decode cX1_hear 134 = .ok (.bipush 8, 2) := by decide +kernel
theorem dX1_hear_136 : decode cX1_hear 136 = .ok (.putfield 144, 3) := by decide +kernel
theorem dX1_hear_139 : decode cX1_hear 139 = .ok (.aload_n 0, 1) := by decide +kernel
theorem dX1_hear_140 : decode cX1_hear 140 = .ok (.getfield 12, 3) := by decide +kernel
theorem dX1_hear_143 : decode cX1_hear 143 = .ok (.iconst 0, 1) := by decide +kernel
theorem dX1_hear_144 : decode cX1_hear 144 = .ok (.putfield 147, 3) := by decide +kernel
theorem dX1_hear_147 : decode cX1_hear 147 = .ok (.iconst 0, 1) := by decide +kernel
theorem dX1_hear_148 : decode cX1_hear 148 = .ok (.istore_n 2, 1) := by decide +kernel
theorem dX1_hear_149 : decode cX1_hear 149 = .ok (.iload_n 2, 1) := by decide +kernel
theorem dX1_hear_150 : decode cX1_hear 150 = .ok (.aload_n 0, 1) := by decide +kernel
theorem dX1_hear_151 : decode cX1_hear 151 = .ok (.getfield 35, 3) := by decide +kernel
theorem dX1_hear_154 : decode cX1_hear 154 = .ok (.if_icmp .ge 57, 3) := by decide +kernel
theorem dX1_hear_157 : decode cX1_hear 157 = .ok (.iload_n 2, 1) := by decide +kernel
theorem dX1_hear_158 : decode cX1_hear 158 = .ok (.iconst 5, 1) := by decide +kernel
theorem dX1_hear_159 : decode cX1_hear 159 = .ok (.if_icmp .ge 52, 3) := by decide +kernel
theorem dX1_hear_162 : decode cX1_hear 162 = .ok (.aload_n 0, 1) := by decide +kernel
theorem dX1_hear_163 : decode cX1_hear 163 = .ok (.getfield 12, 3) := by decide +kernel
theorem dX1_hear_166 : decode cX1_hear 166 = .ok (.aload_n 0, 1) := by decide +kernel
theorem dX1_hear_167 : decode cX1_hear 167 = .ok (.getfield 22, 3) := by decide +kernel
theorem dX1_hear_170 : decode cX1_hear 170 = .ok (.iload_n 2, 1) := by decide +kernel
theorem dX1_hear_171 : decode cX1_hear 171 = .ok (.iaload, 1) := by decide +kernel
theorem dX1_hear_172 : decode cX1_hear 172 = .ok (.putfield 144, 3) := by decide +kernel
theorem dX1_hear_175 : decode cX1_hear 175 = .ok (.aload_n 0, 1) := by decide +kernel
theorem dX1_hear_176 : decode cX1_hear 176 = .ok (.getfield 12, 3) := by decide +kernel
theorem dX1_hear_179 : decode cX1_hear 179 = .ok (.getfield 144, 3) := by decide +kernel
theorem dX1_hear_182 : decode cX1_hear 182 = .ok (.aload_n 0, 1) := by decide +kernel
theorem dX1_hear_183 : decode cX1_hear 183 = .ok (.getfield 12, 3) := by decide +kernel
theorem dX1_hear_186 : decode cX1_hear 186 = .ok (.getfield 89, 3) := by decide +kernel
theorem dX1_hear_189 : decode cX1_hear 189 = .ok (.if_icmp .ne 16, 3) := by decide +kernel
theorem dX1_hear_192 : decode cX1_hear 192 = .ok (.aload_n 0, 1) := by decide +kernel
theorem dX1_hear_193 : decode cX1_hear 193 = .ok (.getfield 12, 3) := by decide +kernel
theorem dX1_hear_196 : decode cX1_hear 196 = .ok (.dup, 1) := by decide +kernel
theorem dX1_hear_197 : decode cX1_hear 197 = .ok (.getfield 147, 3) := by decide +kernel
theorem dX1_hear_200 : decode cX1_hear 200 = .ok (.iconst 1, 1) := by decide +kernel
theorem dX1_hear_201 : decode cX1_hear 201 = .ok (.iadd, 1) := by decide +kernel
theorem dX1_hear_202 : decode cX1_hear 202 = .ok (.putfield 147, 3) := by decide +kernel
theorem dX1_hear_205 : decode cX1_hear 205 = .ok (.iinc 2 1, 3) := by decide +kernel
theorem dX1_hear_208 : decode cX1_hear 208 = .ok (.goto (-59), 3) := by decide +kernel
theorem dX1_hear_211 : decode cX1_hear 211 = .ok (.return_, 1) := by decide +kernel
theorem dX1_warms_0 : decode cX1_warms 0 = .ok (.aload_n 0, 1) := by decide +kernel
theorem dX1_warms_1 : decode cX1_warms 1 = .ok (.getfield 12, 3) := by decide +kernel
theorem dX1_warms_4 : decode cX1_warms 4 = .ok (.aload_n 0, 1) := by decide +kernel
theorem dX1_warms_5 : decode cX1_warms 5 = .ok (.getfield 46, 3) := by decide +kernel
theorem dX1_warms_8 : decode cX1_warms 8 = .ok (.aload_n 0, 1) := by decide +kernel
theorem dX1_warms_9 : decode cX1_warms 9 = .ok (.getfield 42, 3) := by decide +kernel
theorem dX1_warms_12 : decode cX1_warms 12 = .ok (.getfield 80, 3) := by decide +kernel
theorem dX1_warms_15 : decode cX1_warms 15 = .ok (.bipush (-16), 2) := by decide +kernel
theorem dX1_warms_17 : decode cX1_warms 17 = .ok (.aload_n 0, 1) := by decide +kernel
theorem dX1_warms_18 : decode cX1_warms 18 = .ok (.getfield 12, 3) := by decide +kernel
theorem dX1_warms_21 : decode cX1_warms 21 = .ok (.invokevirtual 83, 3) := by decide +kernel
theorem dX1_warms_24 : decode cX1_warms 24 = .ok (.bipush (-99), 2) := by decide +kernel
theorem dX1_warms_26 : decode cX1_warms 26 = .ok (.bipush 99, 2) := by decide +kernel
theorem dX1_warms_28 : decode cX1_warms 28 = .ok (.invokestatic 73, 3) := by decide +kernel
theorem dX1_warms_31 : decode cX1_warms 31 = .ok (.invokevirtual 150, 3) := by decide +kernel
theorem dX1_warms_34 : decode cX1_warms 34 = .ok (.ireturn, 1) := by decide +kernel
theorem dX1_cools_0 : decode cX1_cools 0 = .ok (.aload_n 0, 1) := by decide +kernel
theorem dX1_cools_1 : decode cX1_cools 1 = .ok (.getfield 12, 3) := by decide +kernel
theorem dX1_cools_4 : decode cX1_cools 4 = .ok (.aload_n 0, 1) := by decide +kernel
theorem dX1_cools_5 : decode cX1_cools 5 = .ok (.getfield 46, 3) := by decide +kernel
theorem dX1_cools_8 : decode cX1_cools 8 = .ok (.aload_n 0, 1) := by decide +kernel
theorem dX1_cools_9 : decode cX1_cools 9 = .ok (.getfield 42, 3) := by decide +kernel
theorem dX1_cools_12 : decode cX1_cools 12 = .ok (.getfield 80, 3) := by decide +kernel
theorem dX1_cools_15 : decode cX1_cools 15 = .ok (.bipush (-17), 2) := by decide +kernel
theorem dX1_cools_17 : decode cX1_cools 17 = .ok (.aload_n 0, 1) := by decide +kernel
theorem dX1_cools_18 : decode cX1_cools 18 = .ok (.getfield 12, 3) := by decide +kernel
theorem dX1_cools_21 : decode cX1_cools 21 = .ok (.invokevirtual 83, 3) := by decide +kernel
theorem dX1_cools_24 : decode cX1_cools 24 = .ok (.bipush (-99), 2) := by decide +kernel
theorem dX1_cools_26 : decode cX1_cools 26 = .ok (.bipush 99, 2) := by decide +kernel
theorem dX1_cools_28 : decode cX1_cools 28 = .ok (.invokestatic 73, 3) := by decide +kernel
theorem dX1_cools_31 : decode cX1_cools 31 = .ok (.invokevirtual 152, 3) := by decide +kernel
theorem dX1_cools_34 : decode cX1_cools 34 = .ok (.ireturn, 1) := by decide +kernel
theorem dX1_warmthNow_0 : decode cX1_warmthNow 0 = .ok (.aload_n 0, 1) := by decide +kernel
theorem dX1_warmthNow_1 : decode cX1_warmthNow 1 = .ok (.getfield 35, 3) := by decide +kernel
theorem dX1_warmthNow_4 : decode cX1_warmthNow 4 = .ok (.ifCond .le 16, 3) := by decide +kernel
theorem dX1_warmthNow_7 : decode cX1_warmthNow 7 = .ok (.aload_n 0, 1) := by decide +kernel
theorem dX1_warmthNow_8 : decode cX1_warmthNow 8 = .ok (.aload_n 0, 1) := by decide +kernel
theorem dX1_warmthNow_9 : decode cX1_warmthNow 9 = .ok (.getfield 35, 3) := by decide +kernel
theorem dX1_warmthNow_12 : decode cX1_warmthNow 12 = .ok (.iconst 1, 1) := by decide +kernel
theorem dX1_warmthNow_13 : decode cX1_warmthNow 13 = .ok (.isub, 1) := by decide +kernel
theorem dX1_warmthNow_14 : decode cX1_warmthNow 14 = .ok (.invokevirtual 154, 3) := by decide +kernel
theorem dX1_warmthNow_17 : decode cX1_warmthNow 17 = .ok (.goto 10, 3) := by decide +kernel
theorem dX1_warmthNow_20 : decode cX1_warmthNow 20 = .ok (.aload_n 0, 1) := by decide +kernel
theorem dX1_warmthNow_21 : decode cX1_warmthNow 21 = .ok (.getfield 42, 3) := by decide +kernel
theorem dX1_warmthNow_24 : decode cX1_warmthNow 24 = .ok (.getfield 157, 3) := by decide +kernel
theorem dX1_warmthNow_27 : decode cX1_warmthNow 27 = .ok (.ireturn, 1) := by decide +kernel
theorem dX1_warmthBehind_0 : decode cX1_warmthBehind 0 = .ok (.iload_n 1, 1) := by decide +kernel
theorem dX1_warmthBehind_1 : decode cX1_warmthBehind 1 = .ok (.ifCond .lt 29, 3) := by decide +kernel
theorem dX1_warmthBehind_4 : decode cX1_warmthBehind 4 = .ok (.iload_n 1, 1) := by decide +kernel
theorem dX1_warmthBehind_5 : decode cX1_warmthBehind 5 = .ok (.aload_n 0, 1) := by decide +kernel
theorem dX1_warmthBehind_6 : decode cX1_warmthBehind 6 = .ok (.getfield 35, 3) := by decide +kernel
theorem dX1_warmthBehind_9 : decode cX1_warmthBehind 9 = .ok (.if_icmp .ge 21, 3) := by decide +kernel
theorem dX1_warmthBehind_12 : decode cX1_warmthBehind 12 = .ok (.iload_n 1, 1) := by decide +kernel
theorem dX1_warmthBehind_13 : decode cX1_warmthBehind 13 = .ok (.aload_n 0, 1) := by decide +kernel
theorem dX1_warmthBehind_14 : decode cX1_warmthBehind 14 = .ok (.getfield 25, 3) := by decide +kernel
theorem dX1_warmthBehind_17 : decode cX1_warmthBehind 17 = .ok (.arraylength, 1) := by decide +kernel
theorem dX1_warmthBehind_18 : decode cX1_warmthBehind 18 = .ok (.if_icmp .ge 12, 3) := by decide +kernel
theorem dX1_warmthBehind_21 : decode cX1_warmthBehind 21 = .ok (.aload_n 0, 1) := by decide +kernel
theorem dX1_warmthBehind_22 : decode cX1_warmthBehind 22 = .ok (.getfield 25, 3) := by decide +kernel
theorem dX1_warmthBehind_25 : decode cX1_warmthBehind 25 = .ok (.iload_n 1, 1) := by decide +kernel
theorem dX1_warmthBehind_26 : decode cX1_warmthBehind 26 = .ok (.iaload, 1) := by decide +kernel
theorem dX1_warmthBehind_27 : decode cX1_warmthBehind 27 = .ok (.goto 4, 3) := by decide +kernel
theorem dX1_warmthBehind_30 : decode cX1_warmthBehind 30 = .ok (.iconst (-1), 1) := by decide +kernel
theorem dX1_warmthBehind_31 : decode cX1_warmthBehind 31 = .ok (.ireturn, 1) := by decide +kernel
theorem dX1_guestAt_0 : decode cX1_guestAt 0 = .ok (.iload_n 1, 1) := by decide +kernel
theorem dX1_guestAt_1 : decode cX1_guestAt 1 = .ok (.ifCond .lt 29, 3) := by decide +kernel
theorem dX1_guestAt_4 : decode cX1_guestAt 4 = .ok (.iload_n 1, 1) := by decide +kernel
theorem dX1_guestAt_5 : decode cX1_guestAt 5 = .ok (.aload_n 0, 1) := by decide +kernel
theorem dX1_guestAt_6 : decode cX1_guestAt 6 = .ok (.getfield 35, 3) := by decide +kernel
theorem dX1_guestAt_9 : decode cX1_guestAt 9 = .ok (.if_icmp .ge 21, 3) := by decide +kernel
theorem dX1_guestAt_12 : decode cX1_guestAt 12 = .ok (.iload_n 1, 1) := by decide +kernel
theorem dX1_guestAt_13 : decode cX1_guestAt 13 = .ok (.aload_n 0, 1) := by decide +kernel
theorem dX1_guestAt_14 : decode cX1_guestAt 14 = .ok (.getfield 18, 3) := by decide +kernel
theorem dX1_guestAt_17 : decode cX1_guestAt 17 = .ok (.arraylength, 1) := by decide +kernel
theorem dX1_guestAt_18 : decode cX1_guestAt 18 = .ok (.if_icmp .ge 12, 3) := by decide +kernel
theorem dX1_guestAt_21 : decode cX1_guestAt 21 = .ok (.aload_n 0, 1) := by decide +kernel
theorem dX1_guestAt_22 : decode cX1_guestAt 22 = .ok (.getfield 18, 3) := by decide +kernel
theorem dX1_guestAt_25 : decode cX1_guestAt 25 = .ok (.iload_n 1, 1) := by decide +kernel
theorem dX1_guestAt_26 : decode cX1_guestAt 26 = .ok (.iaload, 1) := by decide +kernel
theorem dX1_guestAt_27 : decode cX1_guestAt 27 = .ok (.goto 4, 3) := by decide +kernel
theorem dX1_guestAt_30 : decode cX1_guestAt 30 = .ok (.iconst (-1), 1) := by decide +kernel
theorem dX1_guestAt_31 : decode cX1_guestAt 31 = .ok (.ireturn, 1) := by decide +kernel
theorem dX1_firstBoil_0 : decode cX1_firstBoil 0 = .ok (.iconst 0, 1) := by decide +kernel
theorem dX1_firstBoil_1 : decode cX1_firstBoil 1 = .ok (.istore_n 1, 1) := by decide +kernel
theorem dX1_firstBoil_2 : decode cX1_firstBoil 2 = .ok (.iload_n 1, 1) := by decide +kernel
theorem dX1_firstBoil_3 : decode cX1_firstBoil 3 = .ok (.aload_n 0, 1) := by decide +kernel
theorem dX1_firstBoil_4 : decode cX1_firstBoil 4 = .ok (.getfield 35, 3) := by decide +kernel
theorem dX1_firstBoil_7 : decode cX1_firstBoil 7 = .ok (.if_icmp .ge 29, 3) := by decide +kernel
theorem dX1_firstBoil_10 : decode cX1_firstBoil 10 = .ok (.iload_n 1, 1) := by decide +kernel
theorem dX1_firstBoil_11 : decode cX1_firstBoil 11 = .ok (.aload_n 0, 1) := by decide +kernel
theorem dX1_firstBoil_12 : decode cX1_firstBoil 12 = .ok (.getfield 28, 3) := by decide +kernel
theorem dX1_firstBoil_15 : decode cX1_firstBoil 15 = .ok (.arraylength, 1) := by decide +kernel
theorem dX1_firstBoil_16 : decode cX1_firstBoil 16 = .ok (.if_icmp .ge 20, 3) := by decide +kernel
theorem dX1_firstBoil_19 : decode cX1_firstBoil 19 = .ok (.aload_n 0, 1) := by decide +kernel
theorem dX1_firstBoil_20 : decode cX1_firstBoil 20 = .ok (.getfield 28, 3) := by decide +kernel
theorem dX1_firstBoil_23 : decode cX1_firstBoil 23 = .ok (.iload_n 1, 1) := by decide +kernel
theorem dX1_firstBoil_24 : decode cX1_firstBoil 24 = .ok (.baload, 1) := by decide +kernel
theorem dX1_firstBoil_25 : decode cX1_firstBoil 25 = .ok (.ifCond .eq 5, 3) := by decide +kernel
theorem dX1_firstBoil_28 : decode cX1_firstBoil 28 = .ok (.iload_n 1, 1) := by decide +kernel
theorem dX1_firstBoil_29 : decode cX1_firstBoil 29 = .ok (.ireturn, 1) := by decide +kernel
theorem dX1_firstBoil_30 : decode cX1_firstBoil 30 = .ok (.iinc 1 1, 3) := by decide +kernel
theorem dX1_firstBoil_33 : decode cX1_firstBoil 33 = .ok (.goto (-31), 3) := by decide +kernel
theorem dX1_firstBoil_36 : decode cX1_firstBoil 36 = .ok (.iconst (-1), 1) := by decide +kernel
theorem dX1_firstBoil_37 : decode cX1_firstBoil 37 = .ok (.ireturn, 1) := by decide +kernel
theorem dX1_screamsSoFar_0 : decode cX1_screamsSoFar 0 = .ok (.iconst 0, 1) := by decide +kernel
theorem dX1_screamsSoFar_1 : decode cX1_screamsSoFar 1 = .ok (.istore_n 1, 1) := by decide +kernel
theorem dX1_screamsSoFar_2 : decode cX1_screamsSoFar 2 = .ok (.iconst 0, 1) := by decide +kernel
theorem dX1_screamsSoFar_3 : decode cX1_screamsSoFar 3 = .ok (.istore_n 2, 1) := by decide +kernel
theorem dX1_screamsSoFar_4 : decode cX1_screamsSoFar 4 = .ok (.iload_n 2, 1) := by decide +kernel
theorem dX1_screamsSoFar_5 : decode cX1_screamsSoFar 5 = .ok (.aload_n 0, 1) := by decide +kernel
theorem dX1_screamsSoFar_6 : decode cX1_screamsSoFar 6 = .ok (.getfield 35, 3) := by decide +kernel
theorem dX1_screamsSoFar_9 : decode cX1_screamsSoFar 9 = .ok (.if_icmp .ge 30, 3) := by decide +kernel
theorem dX1_screamsSoFar_12 : decode cX1_screamsSoFar 12 = .ok (.iload_n 2, 1) := by decide +kernel
theorem dX1_screamsSoFar_13 : decode cX1_screamsSoFar 13 = .ok (.aload_n 0, 1) := by decide +kernel
theorem dX1_screamsSoFar_14 : decode cX1_screamsSoFar 14 = .ok (.getfield 32, 3) := by decide +kernel
theorem dX1_screamsSoFar_17 : decode cX1_screamsSoFar 17 = .ok (.arraylength, 1) := by decide +kernel
theorem dX1_screamsSoFar_18 : decode cX1_screamsSoFar 18 = .ok (.if_icmp .ge 21, 3) := by decide +kernel
theorem dX1_screamsSoFar_21 : decode cX1_screamsSoFar 21 = .ok (.aload_n 0, 1) := by decide +kernel
theorem dX1_screamsSoFar_22 : decode cX1_screamsSoFar 22 = .ok (.getfield 32, 3) := by decide +kernel
theorem dX1_screamsSoFar_25 : decode cX1_screamsSoFar 25 = .ok (.iload_n 2, 1) := by decide +kernel
theorem dX1_screamsSoFar_26 : decode cX1_screamsSoFar 26 = .ok (.baload, 1) := by decide +kernel
theorem dX1_screamsSoFar_27 : decode cX1_screamsSoFar 27 = .ok (.ifCond .eq 6, 3) := by decide +kernel
theorem dX1_screamsSoFar_30 : decode cX1_screamsSoFar 30 = .ok (.iinc 1 1, 3) := by decide +kernel
theorem dX1_screamsSoFar_33 : decode cX1_screamsSoFar 33 = .ok (.iinc 2 1, 3) := by decide +kernel
theorem dX1_screamsSoFar_36 : decode cX1_screamsSoFar 36 = .ok (.goto (-32), 3) := by decide +kernel
theorem dX1_screamsSoFar_39 : decode cX1_screamsSoFar 39 = .ok (.iload_n 1, 1) := by decide +kernel
theorem dX1_screamsSoFar_40 : decode cX1_screamsSoFar 40 = .ok (.ireturn, 1) := by decide +kernel
theorem dX1_digits_0 : decode cX1_digits 0 = .ok (.iconst 0, 1) := by decide +kernel
theorem dX1_digits_1 : decode cX1_digits 1 = .ok (.istore_n 1, 1) := by decide +kernel
theorem dX1_digits_2 : decode cX1_digits 2 = .ok (.iconst 0, 1) := by decide +kernel
theorem dX1_digits_3 : decode cX1_digits 3 = .ok (.istore_n 2, 1) := by decide +kernel
theorem dX1_digits_4 : decode cX1_digits 4 = .ok (.iload_n 2, 1) := by decide +kernel
theorem dX1_digits_5 : decode cX1_digits 5 = .ok (.aload_n 0, 1) := by decide +kernel
theorem dX1_digits_6 : decode cX1_digits 6 = .ok (.getfield 35, 3) := by decide +kernel
theorem dX1_digits_9 : decode cX1_digits 9 = .ok (.if_icmp .ge 32, 3) := by decide +kernel
theorem dX1_digits_12 : decode cX1_digits 12 = .ok (.iload_n 2, 1) := by decide +kernel
theorem dX1_digits_13 : decode cX1_digits 13 = .ok (.aload_n 0, 1) := by decide +kernel
theorem dX1_digits_14 : decode cX1_digits 14 = .ok (.getfield 18, 3) := by decide +kernel
theorem dX1_digits_17 : decode cX1_digits 17 = .ok (.arraylength, 1) := by decide +kernel
theorem dX1_digits_18 : decode cX1_digits 18 = .ok (.if_icmp .ge 23, 3) := by decide +kernel
theorem dX1_digits_21 : decode cX1_digits 21 = .ok (.iload_n 1, 1) := by decide +kernel
theorem dX1_digits_22 : decode cX1_digits 22 = .ok (.bipush 10, 2) := by decide +kernel
theorem dX1_digits_24 : decode cX1_digits 24 = .ok (.imul, 1) := by decide +kernel
theorem dX1_digits_25 : decode cX1_digits 25 = .ok (.aload_n 0, 1) := by decide +kernel
theorem dX1_digits_26 : decode cX1_digits 26 = .ok (.getfield 18, 3) := by decide +kernel
theorem dX1_digits_29 : decode cX1_digits 29 = .ok (.iload_n 2, 1) := by decide +kernel
theorem dX1_digits_30 : decode cX1_digits 30 = .ok (.iaload, 1) := by decide +kernel
theorem dX1_digits_31 : decode cX1_digits 31 = .ok (.iadd, 1) := by decide +kernel
theorem dX1_digits_32 : decode cX1_digits 32 = .ok (.iconst 1, 1) := by decide +kernel
theorem dX1_digits_33 : decode cX1_digits 33 = .ok (.iadd, 1) := by decide +kernel
theorem dX1_digits_34 : decode cX1_digits 34 = .ok (.istore_n 1, 1) := by decide +kernel
theorem dX1_digits_35 : decode cX1_digits 35 = .ok (.iinc 2 1, 3) := by decide +kernel
theorem dX1_digits_38 : decode cX1_digits 38 = .ok (.goto (-34), 3) := by decide +kernel
theorem dX1_digits_41 : decode cX1_digits 41 = .ok (.iload_n 1, 1) := by decide +kernel
theorem dX1_digits_42 : decode cX1_digits 42 = .ok (.ireturn, 1) := by decide +kernel
theorem dX1_digitsOfAll_0 : decode cX1_digitsOfAll 0 = .ok (.aload_n 0, 1) := by decide +kernel
theorem dX1_digitsOfAll_1 : decode cX1_digitsOfAll 1 = .ok (.invokevirtual 158, 3) := by decide +kernel
theorem dX1_digitsOfAll_4 : decode cX1_digitsOfAll 4 = .ok (.istore_n 1, 1) := by decide +kernel
theorem dX1_digitsOfAll_5 : decode cX1_digitsOfAll 5 = .ok (.iconst 0, 1) := by decide +kernel
theorem dX1_digitsOfAll_6 : decode cX1_digitsOfAll 6 = .ok (.istore_n 2, 1) := by decide +kernel
theorem dX1_digitsOfAll_7 : decode cX1_digitsOfAll 7 = .ok (.iload_n 2, 1) := by decide +kernel
theorem dX1_digitsOfAll_8 : decode cX1_digitsOfAll 8 = .ok (.aload_n 0, 1) := by decide +kernel
theorem dX1_digitsOfAll_9 : decode cX1_digitsOfAll 9 = .ok (.getfield 42, 3) := by decide +kernel
theorem dX1_digitsOfAll_12 : decode cX1_digitsOfAll 12 = .ok (.getfield 107, 3) := by decide +kernel
theorem dX1_digitsOfAll_15 : decode cX1_digitsOfAll 15 = .ok (.if_icmp .ge 26, 3) := by decide +kernel
theorem dX1_digitsOfAll_18 : decode cX1_digitsOfAll 18 = .ok (.aload_n 0, 1) := by decide +kernel
theorem dX1_digitsOfAll_19 : decode cX1_digitsOfAll 19 = .ok (.iload_n 2, 1) := by decide +kernel
theorem dX1_digitsOfAll_20 : decode cX1_digitsOfAll 20 = .ok (.invokevirtual 56, 3) := by decide +kernel
theorem dX1_digitsOfAll_23 : decode cX1_digitsOfAll 23 = .ok (.ifCond .ne 12, 3) := by decide +kernel
theorem dX1_digitsOfAll_26 : decode cX1_digitsOfAll 26 = .ok (.iload_n 1, 1) := by decide +kernel
theorem dX1_digitsOfAll_27 : decode cX1_digitsOfAll 27 = .ok (.bipush 10, 2) := by decide +kernel
theorem dX1_digitsOfAll_29 : decode cX1_digitsOfAll 29 = .ok (.imul, 1) := by decide +kernel
theorem dX1_digitsOfAll_30 : decode cX1_digitsOfAll 30 = .ok (.iload_n 2, 1) := by decide +kernel
theorem dX1_digitsOfAll_31 : decode cX1_digitsOfAll 31 = .ok (.iadd, 1) := by decide +kernel
theorem dX1_digitsOfAll_32 : decode cX1_digitsOfAll 32 = .ok (.iconst 1, 1) := by decide +kernel
theorem dX1_digitsOfAll_33 : decode cX1_digitsOfAll 33 = .ok (.iadd, 1) := by decide +kernel
theorem dX1_digitsOfAll_34 : decode cX1_digitsOfAll 34 = .ok (.istore_n 1, 1) := by decide +kernel
theorem dX1_digitsOfAll_35 : decode cX1_digitsOfAll 35 = .ok (.iinc 2 1, 3) := by decide +kernel
theorem dX1_digitsOfAll_38 : decode cX1_digitsOfAll 38 = .ok (.goto (-31), 3) := by decide +kernel
theorem dX1_digitsOfAll_41 : decode cX1_digitsOfAll 41 = .ok (.iload_n 1, 1) := by decide +kernel
theorem dX1_digitsOfAll_42 : decode cX1_digitsOfAll 42 = .ok (.ireturn, 1) := by decide +kernel
theorem dX2_init_0 : decode cX2_init 0 = .ok (.aload_n 0, 1) := by decide +kernel
theorem dX2_init_1 : decode cX2_init 1 = .ok (.invokespecial 3, 3) := by decide +kernel
theorem dX2_init_4 : decode cX2_init 4 = .ok (.aload_n 0, 1) := by decide +kernel
theorem dX2_init_5 : decode cX2_init 5 = .ok (.aload_n 1, 1) := by decide +kernel
theorem dX2_init_6 : decode cX2_init 6 = .ok (.putfield 9, 3) := by decide +kernel
theorem dX2_init_9 : decode cX2_init 9 = .ok (.aload_n 0, 1) := by decide +kernel
theorem dX2_init_10 : decode cX2_init 10 = .ok (.aload_n 2, 1) := by decide +kernel
theorem dX2_init_11 : decode cX2_init 11 = .ok (.putfield 15, 3) := by decide +kernel
theorem dX2_init_14 : decode cX2_init 14 = .ok (.return_, 1) := by decide +kernel
theorem dX2_read_0 : decode cX2_read 0 = .ok (.aload_n 0, 1) := by decide +kernel
theorem dX2_read_1 : decode cX2_read 1 = .ok (.getfield 15, 3) := by decide +kernel
theorem dX2_read_4 : decode cX2_read 4 = .ok (.invokevirtual 19, 3) := by decide +kernel
theorem dX2_read_7 : decode cX2_read 7 = .ok (.aload_n 0, 1) := by decide +kernel
theorem dX2_read_8 : decode cX2_read 8 = .ok (.getfield 9, 3) := by decide +kernel
theorem dX2_read_11 : decode cX2_read 11 = .ok (.invokevirtual 24, 3) := by decide +kernel
theorem dX2_read_14 : decode cX2_read 14 = .ok (.aload_n 0, 1) := by decide +kernel
theorem dX2_read_15 : decode cX2_read 15 = .ok (.bipush (-16), 2) := by decide +kernel
theorem dX2_read_17 : decode cX2_read 17 = .ok (.invokevirtual 29, 3) := by decide +kernel
theorem dX2_read_20 : decode cX2_read 20 = .ok (.ifCond .eq 37, 3) := by decide +kernel
theorem dX2_read_23 : decode cX2_read 23 = .ok (.aload_n 0, 1) := by decide +kernel
theorem dX2_read_24 : decode cX2_read 24 = .ok (.bipush (-17), 2) := by decide +kernel
theorem dX2_read_26 : decode cX2_read 26 = .ok (.invokevirtual 29, 3) := by decide +kernel
theorem dX2_read_29 : decode cX2_read 29 = .ok (.ifCond .eq 28, 3) := by decide +kernel
theorem dX2_read_32 : decode cX2_read 32 = .ok (.aload_n 0, 1) := by decide +kernel
theorem dX2_read_33 : decode cX2_read 33 = .ok (.bipush (-18), 2) := by decide +kernel
theorem dX2_read_35 : decode cX2_read 35 = .ok (.invokevirtual 29, 3) := by decide +kernel
theorem dX2_read_38 : decode cX2_read 38 = .ok (.ifCond .eq 19, 3) := by decide +kernel
theorem dX2_read_41 : decode cX2_read 41 = .ok (.aload_n 0, 1) := by decide +kernel
theorem dX2_read_42 : decode cX2_read 42 = .ok (.getfield 9, 3) := by decide +kernel
theorem dX2_read_45 : decode cX2_read 45 = .ok (.getfield 33, 3) := by decide +kernel
theorem dX2_read_48 : decode cX2_read 48 = .ok (.bipush (-22), 2) := by decide +kernel
theorem dX2_read_50 : decode cX2_read 50 = .ok (.if_icmp .ne 7, 3) := by decide +kernel
theorem dX2_read_53 : decode cX2_read 53 = .ok (.iconst 1, 1) := by decide +kernel
theorem dX2_read_54 : decode cX2_read 54 = .ok (.goto 4, 3) := by decide +kernel
theorem dX2_read_57 : decode cX2_read 57 = .ok (.iconst 0, 1) := by decide +kernel
theorem dX2_read_58 : decode cX2_read 58 = .ok (.istore_n 1, 1) := by decide +kernel
theorem dX2_read_59 : decode cX2_read 59 = .ok (.iload_n 1, 1) := by decide +kernel
theorem dX2_read_60 : decode cX2_read 60 = .ok (.ifCond .eq 7, 3) := by decide +kernel
theorem dX2_read_63 : decode cX2_read 63 = .ok (.iconst (-1), 1) := by decide +kernel
theorem dX2_read_64 : decode cX2_read 64 = .ok (.goto 10, 3) := by decide +kernel
theorem dX2_read_67 : decode cX2_read 67 = .ok (.aload_n 0, 1) := by decide +kernel
theorem dX2_read_68 : decode cX2_read 68 = .ok (.getfield 9, 3) := by decide +kernel
theorem dX2_read_71 : decode cX2_read 71 = .ok (.getfield 37, 3) := by decide +kernel
theorem dX2_read_74 : decode cX2_read 74 = .ok (.ireturn, 1) := by decide +kernel
theorem dX2_readPart_0 : decode cX2_readPart 0 = .ok (.aload_n 0, 1) := by decide +kernel
theorem dX2_readPart_1 : decode cX2_readPart 1 = .ok (.getfield 15, 3) := by decide +kernel
theorem dX2_readPart_4 : decode cX2_readPart 4 = .ok (.iload_n 1, 1) := by decide +kernel
theorem dX2_readPart_5 : decode cX2_readPart 5 = .ok (.invokevirtual 40, 3) := by decide +kernel
theorem dX2_readPart_8 : decode cX2_readPart 8 = .ok (.aload_n 0, 1) := by decide +kernel
theorem dX2_readPart_9 : decode cX2_readPart 9 = .ok (.iload_n 1, 1) := by decide +kernel
theorem dX2_readPart_10 : decode cX2_readPart 10 = .ok (.invokevirtual 44, 3) := by decide +kernel
theorem dX2_readPart_13 : decode cX2_readPart 13 = .ok (.ifCond .eq 24, 3) := by decide +kernel
theorem dX2_readPart_16 : decode cX2_readPart 16 = .ok (.aload_n 0, 1) := by decide +kernel
theorem dX2_readPart_17 : decode cX2_readPart 17 = .ok (.iconst 0, 1) := by decide +kernel
theorem dX2_readPart_18 : decode cX2_readPart 18 = .ok (.invokevirtual 47, 3) := by decide +kernel
theorem dX2_readPart_21 : decode cX2_readPart 21 = .ok (.ifCond .eq 16, 3) := by decide +kernel
theorem dX2_readPart_24 : decode cX2_readPart 24 = .ok (.aload_n 0, 1) := by decide +kernel
theorem dX2_readPart_25 : decode cX2_readPart 25 = .ok (.bipush (-21), 2) := by decide +kernel
theorem dX2_readPart_27 : decode cX2_readPart 27 = .ok (.invokevirtual 44, 3) := by decide +kernel
theorem dX2_readPart_30 : decode cX2_readPart 30 = .ok (.ifCond .eq 7, 3) := by decide +kernel
theorem dX2_readPart_33 : decode cX2_readPart 33 = .ok (.iconst 1, 1) := by decide +kernel
theorem dX2_readPart_34 : decode cX2_readPart 34 = .ok (.goto 4, 3) := by decide +kernel
theorem dX2_readPart_37 : decode cX2_readPart 37 = .ok (.iconst 0, 1) := by decide +kernel
theorem dX2_readPart_38 : decode cX2_readPart 38 = .ok (.ireturn, 1) := by decide +kernel
theorem dX2_readToken_0 : decode cX2_readToken 0 = .ok (.aload_n 0, 1) := by decide +kernel
theorem dX2_readToken_1 : decode cX2_readToken 1 = .ok (.getfield 9, 3) := by decide +kernel
theorem dX2_readToken_4 : decode cX2_readToken 4 = .ok (.getfield 33, 3) := by decide +kernel
theorem dX2_readToken_7 : decode cX2_readToken 7 = .ok (.iload_n 1, 1) := by decide +kernel
theorem dX2_readToken_8 : decode cX2_readToken 8 = .ok (.if_icmp .eq 5, 3) := by decide +kernel
theorem dX2_readToken_11 : decode cX2_readToken 11 = .ok (.iconst 0, 1) := by decide +kernel
theorem dX2_readToken_12 : decode cX2_readToken 12 = .ok (.ireturn, 1) := by decide +kernel
theorem dX2_readToken_13 : decode cX2_readToken 13 = .ok (.aload_n 0, 1) := by decide +kernel
theorem dX2_readToken_14 : decode cX2_readToken 14 = .ok (.getfield 9, 3) := by decide +kernel
theorem dX2_readToken_17 : decode cX2_readToken 17 = .ok (.invokevirtual 50, 3) := by decide +kernel
theorem dX2_readToken_20 : decode cX2_readToken 20 = .ok (.iconst 1, 1) := by decide +kernel
theorem dX2_readToken_21 : decode cX2_readToken 21 = .ok (.ireturn, 1) := by decide +kernel
theorem dX2_readOr_0 : decode cX2_readOr 0 = .ok (.aload_n 0, 1) := by decide +kernel
theorem dX2_readOr_1 : decode cX2_readOr 1 = .ok (.iload_n 1, 1) := by decide +kernel
theorem dX2_readOr_2 : decode cX2_readOr 2 = .ok (.invokevirtual 53, 3) := by decide +kernel
theorem dX2_readOr_5 : decode cX2_readOr 5 = .ok (.ifCond .ne 5, 3) := by decide +kernel
theorem dX2_readOr_8 : decode cX2_readOr 8 = .ok (.iconst 0, 1) := by decide +kernel
theorem dX2_readOr_9 : decode cX2_readOr 9 = .ok (.ireturn, 1) := by decide +kernel
theorem dX2_readOr_10 : decode cX2_readOr 10 = .ok (.iconst 0, 1) := by decide +kernel
theorem dX2_readOr_11 : decode cX2_readOr 11 = .ok (.istore_n 2, 1) := by decide +kernel
theorem dX2_readOr_12 : decode cX2_readOr 12 = .ok (.iload_n 2, 1) := by decide +kernel
theorem dX2_readOr_13 : decode cX2_readOr 13 = .ok (.sipush 160, 3) := by decide +kernel
theorem dX2_readOr_16 : decode cX2_readOr 16 = .ok (.if_icmp .ge 50, 3) := by decide +kernel
theorem dX2_readOr_19 : decode cX2_readOr 19 = .ok (.aload_n 0, 1) := by decide +kernel
theorem dX2_readOr_20 : decode cX2_readOr 20 = .ok (.getfield 9, 3) := by decide +kernel
theorem dX2_readOr_23 : decode cX2_readOr 23 = .ok (.getfield 33, 3) := by decide +kernel
theorem dX2_readOr_26 : decode cX2_readOr 26 = .ok (.bipush (-7), 2) := by decide +kernel
theorem dX2_readOr_28 : decode cX2_readOr 28 = .ok (.if_icmp .ne 38, 3) := by decide +kernel
theorem dX2_readOr_31 : decode cX2_readOr 31 = .ok (.aload_n 0, 1) := by decide +kernel
theorem dX2_readOr_32 : decode cX2_readOr 32 = .ok (.getfield 9, 3) := by decide +kernel
theorem dX2_readOr_35 : decode cX2_readOr 35 = .ok (.invokevirtual 50, 3) := by decide +kernel
theorem dX2_readOr_38 : decode cX2_readOr 38 = .ok (.aload_n 0, 1) := by decide +kernel
theorem dX2_readOr_39 : decode cX2_readOr 39 = .ok (.iload_n 1, 1) := by decide +kernel
theorem dX2_readOr_40 : decode cX2_readOr 40 = .ok (.invokevirtual 53, 3) := by decide +kernel
theorem dX2_readOr_43 : decode cX2_readOr 43 = .ok (.ifCond .eq 15, 3) := by decide +kernel
theorem dX2_readOr_46 : decode cX2_readOr 46 = .ok (.aload_n 0, 1) := by decide +kernel
theorem dX2_readOr_47 : decode cX2_readOr 47 = .ok (.getfield 15, 3) := by decide +kernel
theorem dX2_readOr_50 : decode cX2_readOr 50 = .ok (.bipush (-7), 2) := by decide +kernel
theorem dX2_readOr_52 : decode cX2_readOr 52 = .ok (.invokevirtual 56, 3) := by decide +kernel
theorem dX2_readOr_55 : decode cX2_readOr 55 = .ok (.ifCond .ne 5, 3) := by decide +kernel
theorem dX2_readOr_58 : decode cX2_readOr 58 = .ok (.iconst 0, 1) := by decide +kernel
theorem dX2_readOr_59 : decode cX2_readOr 59 = .ok (.ireturn, 1) := by decide +kernel
theorem dX2_readOr_60 : decode cX2_readOr 60 = .ok (.iinc 2 1, 3) := by decide +kernel
theorem dX2_readOr_63 : decode cX2_readOr 63 = .ok (.goto (-51), 3) := by decide +kernel
theorem dX2_readOr_66 : decode cX2_readOr 66 = .ok (.iconst 1, 1) := by decide +kernel
theorem dX2_readOr_67 : decode cX2_readOr 67 = .ok (.ireturn, 1) := by decide +kernel
theorem dX2_readAnd_0 : decode cX2_readAnd 0 = .ok (.aload_n 0, 1) := by decide +kernel
theorem dX2_readAnd_1 : decode cX2_readAnd 1 = .ok (.iload_n 1, 1) := by decide +kernel
theorem dX2_readAnd_2 : decode cX2_readAnd 2 = .ok (.invokevirtual 59, 3) := by decide +kernel
theorem dX2_readAnd_5 : decode cX2_readAnd 5 = .ok (.ifCond .ne 5, 3) := by decide +kernel
theorem dX2_readAnd_8 : decode cX2_readAnd 8 = .ok (.iconst 0, 1) := by decide +kernel
theorem dX2_readAnd_9 : decode cX2_readAnd 9 = .ok (.ireturn, 1) := by decide +kernel
theorem dX2_readAnd_10 : decode cX2_readAnd 10 = .ok (.iconst 0, 1) := by decide +kernel
theorem dX2_readAnd_11 : decode cX2_readAnd 11 = .ok (.istore_n 2, 1) := by decide +kernel
theorem dX2_readAnd_12 : decode cX2_readAnd 12 = .ok (.iload_n 2, 1) := by decide +kernel
theorem dX2_readAnd_13 : decode cX2_readAnd 13 = .ok (.sipush 160, 3) := by decide +kernel
theorem dX2_readAnd_16 : decode cX2_readAnd 16 = .ok (.if_icmp .ge 50, 3) := by decide +kernel
theorem dX2_readAnd_19 : decode cX2_readAnd 19 = .ok (.aload_n 0, 1) := by decide +kernel
theorem dX2_readAnd_20 : decode cX2_readAnd 20 = .ok (.getfield 9, 3) := by decide +kernel
theorem dX2_readAnd_23 : decode cX2_readAnd 23 = .ok (.getfield 33, 3) := by decide +kernel
theorem dX2_readAnd_26 : decode cX2_readAnd 26 = .ok (.bipush (-8), 2) := by decide +kernel
theorem dX2_readAnd_28 : decode cX2_readAnd 28 = .ok (.if_icmp .ne 38, 3) := by decide +kernel
theorem dX2_readAnd_31 : decode cX2_readAnd 31 = .ok (.aload_n 0, 1) := by decide +kernel
theorem dX2_readAnd_32 : decode cX2_readAnd 32 = .ok (.getfield 9, 3) := by decide +kernel
theorem dX2_readAnd_35 : decode cX2_readAnd 35 = .ok (.invokevirtual 50, 3) := by decide +kernel
theorem dX2_readAnd_38 : decode cX2_readAnd 38 = .ok (.aload_n 0, 1) := by decide +kernel
theorem dX2_readAnd_39 : decode cX2_readAnd 39 = .ok (.iload_n 1, 1) := by decide +kernel
theorem dX2_readAnd_40 : decode cX2_readAnd 40 = .ok (.invokevirtual 59, 3) := by decide +kernel
theorem dX2_readAnd_43 : decode cX2_readAnd 43 = .ok (.ifCond .eq 15, 3) := by decide +kernel
theorem dX2_readAnd_46 : decode cX2_readAnd 46 = .ok (.aload_n 0, 1) := by decide +kernel
theorem dX2_readAnd_47 : decode cX2_readAnd 47 = .ok (.getfield 15, 3) := by decide +kernel
theorem dX2_readAnd_50 : decode cX2_readAnd 50 = .ok (.bipush (-8), 2) := by decide +kernel
theorem dX2_readAnd_52 : decode cX2_readAnd 52 = .ok (.invokevirtual 56, 3) := by decide +kernel
theorem dX2_readAnd_55 : decode cX2_readAnd 55 = .ok (.ifCond .ne 5, 3) := by decide +kernel
theorem dX2_readAnd_58 : decode cX2_readAnd 58 = .ok (.iconst 0, 1) := by decide +kernel
theorem dX2_readAnd_59 : decode cX2_readAnd 59 = .ok (.ireturn, 1) := by decide +kernel
theorem dX2_readAnd_60 : decode cX2_readAnd 60 = .ok (.iinc 2 1, 3) := by decide +kernel
theorem dX2_readAnd_63 : decode cX2_readAnd 63 = .ok (.goto (-51), 3) := by decide +kernel
theorem dX2_readAnd_66 : decode cX2_readAnd 66 = .ok (.iconst 1, 1) := by decide +kernel
theorem dX2_readAnd_67 : decode cX2_readAnd 67 = .ok (.ireturn, 1) := by decide +kernel
theorem dX2_readNot_0 : decode cX2_readNot 0 = .ok (.aload_n 0, 1) := by decide +kernel
theorem dX2_readNot_1 : decode cX2_readNot 1 = .ok (.getfield 9, 3) := by decide +kernel
theorem dX2_readNot_4 : decode cX2_readNot 4 = .ok (.getfield 33, 3) := by decide +kernel
theorem dX2_readNot_7 : decode cX2_readNot 7 = .ok (.bipush (-9), 2) := by decide +kernel
theorem dX2_readNot_9 : decode cX2_readNot 9 = .ok (.if_icmp .ne 45, 3) := by decide +kernel
theorem dX2_readNot_12 : decode cX2_readNot 12 = .ok (.iload_n 1, 1) := by decide +kernel
theorem dX2_readNot_13 : decode cX2_readNot 13 = .ok (.iconst 5, 1) := by decide +kernel
theorem dX2_readNot_14 : decode cX2_readNot 14 = .ok (.if_icmp .lt 5, 3) := by decide +kernel
theorem dX2_readNot_17 : decode cX2_readNot 17 = .ok (.iconst 0, 1) := by decide +kernel
theorem dX2_readNot_18 : decode cX2_readNot 18 = .ok (.ireturn, 1) := by decide +kernel
theorem dX2_readNot_19 : decode cX2_readNot 19 = .ok (.aload_n 0, 1) := by decide +kernel
theorem dX2_readNot_20 : decode cX2_readNot 20 = .ok (.getfield 9, 3) := by decide +kernel
theorem dX2_readNot_23 : decode cX2_readNot 23 = .ok (.invokevirtual 50, 3) := by decide +kernel
theorem dX2_readNot_26 : decode cX2_readNot 26 = .ok (.aload_n 0, 1) := by decide +kernel
theorem dX2_readNot_27 : decode cX2_readNot 27 = .ok (.iload_n 1, 1) := by decide +kernel
theorem dX2_readNot_28 : decode cX2_readNot 28 = .ok (.iconst 1, 1) := by decide +kernel
theorem dX2_readNot_29 : decode cX2_readNot 29 = .ok (.iadd, 1) := by decide +kernel
theorem dX2_readNot_30 : decode cX2_readNot 30 = .ok (.invokevirtual 59, 3) := by decide +kernel
theorem dX2_readNot_33 : decode cX2_readNot 33 = .ok (.ifCond .eq 19, 3) := by decide +kernel
theorem dX2_readNot_36 : decode cX2_readNot 36 = .ok (.aload_n 0, 1) := by decide +kernel
theorem dX2_readNot_37 : decode cX2_readNot 37 = .ok (.getfield 15, 3) := by decide +kernel
theorem dX2_readNot_40 : decode cX2_readNot 40 = .ok (.bipush (-9), 2) := by decide +kernel
theorem dX2_readNot_42 : decode cX2_readNot 42 = .ok (.invokevirtual 56, 3) := by decide +kernel
theorem dX2_readNot_45 : decode cX2_readNot 45 = .ok (.ifCond .eq 7, 3) := by decide +kernel
theorem dX2_readNot_48 : decode cX2_readNot 48 = .ok (.iconst 1, 1) := by decide +kernel
theorem dX2_readNot_49 : decode cX2_readNot 49 = .ok (.goto 4, 3) := by decide +kernel
theorem dX2_readNot_52 : decode cX2_readNot 52 = .ok (.iconst 0, 1) := by decide +kernel
theorem dX2_readNot_53 : decode cX2_readNot 53 = .ok (.ireturn, 1) := by decide +kernel
theorem dX2_readNot_54 : decode cX2_readNot 54 = .ok (.aload_n 0, 1) := by decide +kernel
theorem dX2_readNot_55 : decode cX2_readNot 55 = .ok (.iload_n 1, 1) := by decide +kernel
theorem dX2_readNot_56 : decode cX2_readNot 56 = .ok (.invokevirtual 62, 3) := by decide +kernel
theorem dX2_readNot_59 : decode cX2_readNot 59 = .ok (.ifCond .ne 5, 3) := by decide +kernel
theorem dX2_readNot_62 : decode cX2_readNot 62 = .ok (.iconst 0, 1) := by decide +kernel
theorem dX2_readNot_63 : decode cX2_readNot 63 = .ok (.ireturn, 1) := by decide +kernel
theorem dX2_readNot_64 : decode cX2_readNot 64 = .ok (.aload_n 0, 1) := by decide +kernel
theorem dX2_readNot_65 : decode cX2_readNot 65 = .ok (.getfield 9, 3) := by decide +kernel
theorem dX2_readNot_68 : decode cX2_readNot 68 = .ok (.getfield 33, 3) := by decide +kernel
theorem dX2_readNot_71 : decode cX2_readNot 71 = .ok (.istore_n 2, 1) := by decide +kernel
theorem dX2_readNot_72 : decode cX2_readNot 72 = .ok (.iload_n 2, 1) := by decide +kernel
theorem dX2_readNot_73 : decode cX2_readNot 73 = .ok (.bipush (-10), 2) := by decide +kernel
theorem dX2_readNot_75 : decode cX2_readNot 75 = .ok (.if_icmp .eq 11, 3) := by decide +kernel
theorem dX2_readNot_78 : decode cX2_readNot 78 = .ok (.iload_n 2, 1) := by decide +kernel
theorem dX2_readNot_79 : decode cX2_readNot 79 = .ok (.bipush (-11), 2) := by decide +kernel
theorem dX2_readNot_81 : decode cX2_readNot 81 = .ok (.if_icmp .eq 5, 3) := by decide +kernel
theorem dX2_readNot_84 : decode cX2_readNot 84 = .ok (.iconst 1, 1) := by decide +kernel
theorem dX2_readNot_85 : decode cX2_readNot 85 = .ok (.ireturn, 1) := by decide +kernel
theorem dX2_readNot_86 : decode cX2_readNot 86 = .ok (.aload_n 0, 1) := by decide +kernel
theorem dX2_readNot_87 : decode cX2_readNot 87 = .ok (.getfield 9, 3) := by decide +kernel
theorem dX2_readNot_90 : decode cX2_readNot 90 = .ok (.invokevirtual 50, 3) := by decide +kernel
theorem dX2_readNot_93 : decode cX2_readNot 93 = .ok (.aload_n 0, 1) := by decide +kernel
theorem dX2_readNot_94 : decode cX2_readNot 94 = .ok (.iload_n 1, 1) := by decide +kernel
theorem dX2_readNot_95 : decode cX2_readNot 95 = .ok (.invokevirtual 62, 3) := by decide +kernel
theorem dX2_readNot_98 : decode cX2_readNot 98 = .ok (.ifCond .eq 18, 3) := by decide +kernel
theorem dX2_readNot_101 : decode cX2_readNot 101 = .ok (.aload_n 0, 1) := by decide +kernel
theorem dX2_readNot_102 : decode cX2_readNot 102 = .ok (.getfield 15, 3) := by decide +kernel
theorem dX2_readNot_105 : decode cX2_readNot 105 = .ok (.iload_n 2, 1) := by decide +kernel
theorem dX2_readNot_106 : decode cX2_readNot 106 = .ok (.invokevirtual 56, 3) := by decide +kernel
theorem dX2_readNot_109 : decode cX2_readNot 109 = .ok (.ifCond .eq 7, 3) := by decide +kernel
theorem dX2_readNot_112 : decode cX2_readNot 112 = .ok (.iconst 1, 1) := by decide +kernel
theorem dX2_readNot_113 : decode cX2_readNot 113 = .ok (.goto 4, 3) := by decide +kernel
theorem dX2_readNot_116 : decode cX2_readNot 116 = .ok (.iconst 0, 1) := by decide +kernel
theorem dX2_readNot_117 : decode cX2_readNot 117 = .ok (.ireturn, 1) := by decide +kernel
theorem dX2_readSum_0 : decode cX2_readSum 0 = .ok (.aload_n 0, 1) := by decide +kernel
theorem dX2_readSum_1 : decode cX2_readSum 1 = .ok (.iload_n 1, 1) := by decide +kernel
theorem dX2_readSum_2 : decode cX2_readSum 2 = .ok (.invokevirtual 65, 3) := by decide +kernel
theorem dX2_readSum_5 : decode cX2_readSum 5 = .ok (.ifCond .ne 5, 3) := by decide +kernel
theorem dX2_readSum_8 : decode cX2_readSum 8 = .ok (.iconst 0, 1) := by decide +kernel
theorem dX2_readSum_9 : decode cX2_readSum 9 = .ok (.ireturn, 1) := by decide +kernel
theorem dX2_readSum_10 : decode cX2_readSum 10 = .ok (.iconst 0, 1) := by decide +kernel
theorem dX2_readSum_11 : decode cX2_readSum 11 = .ok (.istore_n 2, 1) := by decide +kernel
theorem dX2_readSum_12 : decode cX2_readSum 12 = .ok (.iload_n 2, 1) := by decide +kernel
theorem dX2_readSum_13 : decode cX2_readSum 13 = .ok (.sipush 160, 3) := by decide +kernel
theorem dX2_readSum_16 : decode cX2_readSum 16 = .ok (.if_icmp .ge 69, 3) := by decide +kernel
theorem dX2_readSum_19 : decode cX2_readSum 19 = .ok (.aload_n 0, 1) := by decide +kernel
theorem dX2_readSum_20 : decode cX2_readSum 20 = .ok (.getfield 9, 3) := by decide +kernel
theorem dX2_readSum_23 : decode cX2_readSum 23 = .ok (.getfield 33, 3) := by decide +kernel
theorem dX2_readSum_26 : decode cX2_readSum 26 = .ok (.bipush (-12), 2) := by decide +kernel
theorem dX2_readSum_28 : decode cX2_readSum 28 = .ok (.if_icmp .eq 15, 3) := by decide +kernel
theorem dX2_readSum_31 : decode cX2_readSum 31 = .ok (.aload_n 0, 1) := by decide +kernel
theorem dX2_readSum_32 : decode cX2_readSum 32 = .ok (.getfield 9, 3) := by decide +kernel
theorem dX2_readSum_35 : decode cX2_readSum 35 = .ok (.getfield 33, 3) := by decide +kernel
theorem dX2_readSum_38 : decode cX2_readSum 38 = .ok (.bipush (-13), 2) := by decide +kernel
theorem dX2_readSum_40 : decode cX2_readSum 40 = .ok (.if_icmp .ne 45, 3) := by decide +kernel
theorem dX2_readSum_43 : decode cX2_readSum 43 = .ok (.aload_n 0, 1) := by decide +kernel
theorem dX2_readSum_44 : decode cX2_readSum 44 = .ok (.getfield 9, 3) := by decide +kernel
theorem dX2_readSum_47 : decode cX2_readSum 47 = .ok (.getfield 33, 3) := by decide +kernel
theorem dX2_readSum_50 : decode cX2_readSum 50 = .ok (.istore_n 3, 1) := by decide +kernel
theorem dX2_readSum_51 : decode cX2_readSum 51 = .ok (.aload_n 0, 1) := by decide +kernel
theorem dX2_readSum_52 : decode cX2_readSum 52 = .ok (.getfield 9, 3) := by decide +kernel
theorem dX2_readSum_55 : decode cX2_readSum 55 = .ok (.invokevirtual 50, 3) := by decide +kernel
theorem dX2_readSum_58 : decode cX2_readSum 58 = .ok (.aload_n 0, 1) := by decide +kernel
theorem dX2_readSum_59 : decode cX2_readSum 59 = .ok (.iload_n 1, 1) := by decide +kernel
theorem dX2_readSum_60 : decode cX2_readSum 60 = .ok (.invokevirtual 65, 3) := by decide +kernel
theorem dX2_readSum_63 : decode cX2_readSum 63 = .ok (.ifCond .eq 14, 3) := by decide +kernel
theorem dX2_readSum_66 : decode cX2_readSum 66 = .ok (.aload_n 0, 1) := by decide +kernel
theorem dX2_readSum_67 : decode cX2_readSum 67 = .ok (.getfield 15, 3) := by decide +kernel
theorem dX2_readSum_70 : decode cX2_readSum 70 = .ok (.iload_n 3, 1) := by decide +kernel
theorem dX2_readSum_71 : decode cX2_readSum 71 = .ok (.invokevirtual 56, 3) := by decide +kernel
theorem dX2_readSum_74 : decode cX2_readSum 74 = .ok (.ifCond .ne 5, 3) := by decide +kernel
theorem dX2_readSum_77 : decode cX2_readSum 77 = .ok (.iconst 0, 1) := by decide +kernel
theorem dX2_readSum_78 : decode cX2_readSum 78 = .ok (.ireturn, 1) := by decide +kernel
theorem dX2_readSum_79 : decode cX2_readSum 79 = .ok (.iinc 2 1, 3) := by decide +kernel
theorem dX2_readSum_82 : decode cX2_readSum 82 = .ok (.goto (-70), 3) := by decide +kernel
theorem dX2_readSum_85 : decode cX2_readSum 85 = .ok (.iconst 1, 1) := by decide +kernel
theorem dX2_readSum_86 : decode cX2_readSum 86 = .ok (.ireturn, 1) := by decide +kernel
theorem dX2_readTerm_0 : decode cX2_readTerm 0 = .ok (.aload_n 0, 1) := by decide +kernel
theorem dX2_readTerm_1 : decode cX2_readTerm 1 = .ok (.iload_n 1, 1) := by decide +kernel
theorem dX2_readTerm_2 : decode cX2_readTerm 2 = .ok (.invokevirtual 68, 3) := by decide +kernel
theorem dX2_readTerm_5 : decode cX2_readTerm 5 = .ok (.ifCond .ne 5, 3) := by decide +kernel
theorem dX2_readTerm_8 : decode cX2_readTerm 8 = .ok (.iconst 0, 1) := by decide +kernel
theorem dX2_readTerm_9 : decode cX2_readTerm 9 = .ok (.ireturn, 1) := by decide +kernel
theorem dX2_readTerm_10 : decode cX2_readTerm 10 = .ok (.iconst 0, 1) := by decide +kernel
theorem dX2_readTerm_11 : decode cX2_readTerm 11 = .ok (.istore_n 2, 1) := by decide +kernel
theorem dX2_readTerm_12 : decode cX2_readTerm 12 = .ok (.iload_n 2, 1) := by decide +kernel
theorem dX2_readTerm_13 : decode cX2_readTerm 13 = .ok (.sipush 160, 3) := by decide +kernel
theorem dX2_readTerm_16 : decode cX2_readTerm 16 = .ok (.if_icmp .ge 50, 3) := by decide +kernel
theorem dX2_readTerm_19 : decode cX2_readTerm 19 = .ok (.aload_n 0, 1) := by decide +kernel
theorem dX2_readTerm_20 : decode cX2_readTerm 20 = .ok (.getfield 9, 3) := by decide +kernel
theorem dX2_readTerm_23 : decode cX2_readTerm 23 = .ok (.getfield 33, 3) := by decide +kernel
theorem dX2_readTerm_26 : decode cX2_readTerm 26 = .ok (.bipush (-14), 2) := by decide +kernel
theorem dX2_readTerm_28 : decode cX2_readTerm 28 = .ok (.if_icmp .ne 38, 3) := by decide +kernel
theorem dX2_readTerm_31 : decode cX2_readTerm 31 = .ok (.aload_n 0, 1) := by decide +kernel
theorem dX2_readTerm_32 : decode cX2_readTerm 32 = .ok (.getfield 9, 3) := by decide +kernel
theorem dX2_readTerm_35 : decode cX2_readTerm 35 = .ok (.invokevirtual 50, 3) := by decide +kernel
theorem dX2_readTerm_38 : decode cX2_readTerm 38 = .ok (.aload_n 0, 1) := by decide +kernel
theorem dX2_readTerm_39 : decode cX2_readTerm 39 = .ok (.iload_n 1, 1) := by decide +kernel
theorem dX2_readTerm_40 : decode cX2_readTerm 40 = .ok (.invokevirtual 68, 3) := by decide +kernel
theorem dX2_readTerm_43 : decode cX2_readTerm 43 = .ok (.ifCond .eq 15, 3) := by decide +kernel
theorem dX2_readTerm_46 : decode cX2_readTerm 46 = .ok (.aload_n 0, 1) := by decide +kernel
theorem dX2_readTerm_47 : decode cX2_readTerm 47 = .ok (.getfield 15, 3) := by decide +kernel
theorem dX2_readTerm_50 : decode cX2_readTerm 50 = .ok (.bipush (-14), 2) := by decide +kernel
theorem dX2_readTerm_52 : decode cX2_readTerm 52 = .ok (.invokevirtual 56, 3) := by decide +kernel
theorem dX2_readTerm_55 : decode cX2_readTerm 55 = .ok (.ifCond .ne 5, 3) := by decide +kernel
theorem dX2_readTerm_58 : decode cX2_readTerm 58 = .ok (.iconst 0, 1) := by decide +kernel
theorem dX2_readTerm_59 : decode cX2_readTerm 59 = .ok (.ireturn, 1) := by decide +kernel
theorem dX2_readTerm_60 : decode cX2_readTerm 60 = .ok (.iinc 2 1, 3) := by decide +kernel
theorem dX2_readTerm_63 : decode cX2_readTerm 63 = .ok (.goto (-51), 3) := by decide +kernel
theorem dX2_readTerm_66 : decode cX2_readTerm 66 = .ok (.iconst 1, 1) := by decide +kernel
theorem dX2_readTerm_67 : decode cX2_readTerm 67 = .ok (.ireturn, 1) := by decide +kernel
theorem dX2_readOne_0 : decode cX2_readOne 0 = .ok (.aload_n 0, 1) := by decide +kernel
theorem dX2_readOne_1 : decode cX2_readOne 1 = .ok (.getfield 9, 3) := by decide +kernel
theorem dX2_readOne_4 : decode cX2_readOne 4 = .ok (.getfield 33, 3) := by decide +kernel
theorem dX2_readOne_7 : decode cX2_readOne 7 = .ok (.istore_n 2, 1) := by decide +kernel
theorem dX2_readOne_8 : decode cX2_readOne 8 = .ok (.iload_n 2, 1) := by decide +kernel
theorem dX2_readOne_9 : decode cX2_readOne 9 = .ok (.bipush (-7), 2) := by decide +kernel
theorem dX2_readOne_11 : decode cX2_readOne 11 = .ok (.if_icmp .le 19, 3) := by decide +kernel
theorem dX2_readOne_14 : decode cX2_readOne 14 = .ok (.aload_n 0, 1) := by decide +kernel
theorem dX2_readOne_15 : decode cX2_readOne 15 = .ok (.getfield 9, 3) := by decide +kernel
theorem dX2_readOne_18 : decode cX2_readOne 18 = .ok (.invokevirtual 50, 3) := by decide +kernel
theorem dX2_readOne_21 : decode cX2_readOne 21 = .ok (.aload_n 0, 1) := by decide +kernel
theorem dX2_readOne_22 : decode cX2_readOne 22 = .ok (.getfield 15, 3) := by decide +kernel
theorem dX2_readOne_25 : decode cX2_readOne 25 = .ok (.iload_n 2, 1) := by decide +kernel
theorem dX2_readOne_26 : decode cX2_readOne 26 = .ok (.invokevirtual 56, 3) := by decide +kernel
theorem dX2_readOne_29 : decode cX2_readOne 29 = .ok (.ireturn, 1) := by decide +kernel
theorem dX2_readOne_30 : decode cX2_readOne 30 = .ok (.iload_n 2, 1) := by decide +kernel
theorem dX2_readOne_31 : decode cX2_readOne 31 = .ok (.bipush (-13), 2) := by decide +kernel
theorem dX2_readOne_33 : decode cX2_readOne 33 = .ok (.if_icmp .eq 9, 3) := by decide +kernel
theorem dX2_readOne_36 : decode cX2_readOne 36 = .ok (.iload_n 2, 1) := by decide +kernel
theorem dX2_readOne_37 : decode cX2_readOne 37 = .ok (.bipush (-19), 2) := by decide +kernel
theorem dX2_readOne_39 : decode cX2_readOne 39 = .ok (.if_icmp .ne 8, 3) := by decide +kernel
theorem dX2_readOne_42 : decode cX2_readOne 42 = .ok (.iload_n 1, 1) := by decide +kernel
theorem dX2_readOne_43 : decode cX2_readOne 43 = .ok (.iconst 5, 1) := by decide +kernel
theorem dX2_readOne_44 : decode cX2_readOne 44 = .ok (.if_icmp .lt 5, 3) := by decide +kernel
theorem dX2_readOne_47 : decode cX2_readOne 47 = .ok (.iconst 0, 1) := by decide +kernel
theorem dX2_readOne_48 : decode cX2_readOne 48 = .ok (.ireturn, 1) := by decide +kernel
theorem dX2_readOne_49 : decode cX2_readOne 49 = .ok (.aload_n 0, 1) := by decide +kernel
theorem dX2_readOne_50 : decode cX2_readOne 50 = .ok (.getfield 9, 3) := by decide +kernel
theorem dX2_readOne_53 : decode cX2_readOne 53 = .ok (.invokevirtual 50, 3) := by decide +kernel
theorem dX2_readOne_56 : decode cX2_readOne 56 = .ok (.iload_n 2, 1) := by decide +kernel
theorem dX2_readOne_57 : decode cX2_readOne 57 = .ok (.bipush (-13), 2) := by decide +kernel
theorem dX2_readOne_59 : decode cX2_readOne 59 = .ok (.if_icmp .ne 33, 3) := by decide +kernel
theorem dX2_readOne_62 : decode cX2_readOne 62 = .ok (.aload_n 0, 1) := by decide +kernel
theorem dX2_readOne_63 : decode cX2_readOne 63 = .ok (.iload_n 1, 1) := by decide +kernel
theorem dX2_readOne_64 : decode cX2_readOne 64 = .ok (.iconst 1, 1) := by decide +kernel
theorem dX2_readOne_65 : decode cX2_readOne 65 = .ok (.iadd, 1) := by decide +kernel
theorem dX2_readOne_66 : decode cX2_readOne 66 = .ok (.invokevirtual 68, 3) := by decide +kernel
theorem dX2_readOne_69 : decode cX2_readOne 69 = .ok (.ifCond .eq 19, 3) := by decide +kernel
theorem dX2_readOne_72 : decode cX2_readOne 72 = .ok (.aload_n 0, 1) := by decide +kernel
theorem dX2_readOne_73 : decode cX2_readOne 73 = .ok (.getfield 15, 3) := by decide +kernel
theorem dX2_readOne_76 : decode cX2_readOne 76 = .ok (.bipush (-15), 2) := by decide +kernel
theorem dX2_readOne_78 : decode cX2_readOne 78 = .ok (.invokevirtual 56, 3) := by decide +kernel
theorem dX2_readOne_81 : decode cX2_readOne 81 = .ok (.ifCond .eq 7, 3) := by decide +kernel
theorem dX2_readOne_84 : decode cX2_readOne 84 = .ok (.iconst 1, 1) := by decide +kernel
theorem dX2_readOne_85 : decode cX2_readOne 85 = .ok (.goto 31, 3) := by decide +kernel
theorem dX2_readOne_88 : decode cX2_readOne 88 = .ok (.iconst 0, 1) := by decide +kernel
theorem dX2_readOne_89 : decode cX2_readOne 89 = .ok (.goto 27, 3) := by decide +kernel
theorem dX2_readOne_92 : decode cX2_readOne 92 = .ok (.aload_n 0, 1) := by decide +kernel
theorem dX2_readOne_93 : decode cX2_readOne 93 = .ok (.iload_n 1, 1) := by decide +kernel
theorem dX2_readOne_94 : decode cX2_readOne 94 = .ok (.iconst 1, 1) := by decide +kernel
theorem dX2_readOne_95 : decode cX2_readOne 95 = .ok (.iadd, 1) := by decide +kernel
theorem dX2_readOne_96 : decode cX2_readOne 96 = .ok (.invokevirtual 47, 3) := by decide +kernel
theorem dX2_readOne_99 : decode cX2_readOne 99 = .ok (.ifCond .eq 16, 3) := by decide +kernel
theorem dX2_readOne_102 : decode cX2_readOne 102 = .ok (.aload_n 0, 1) := by decide +kernel
theorem dX2_readOne_103 : decode cX2_readOne 103 = .ok (.bipush (-20), 2) := by decide +kernel
theorem dX2_readOne_105 : decode cX2_readOne 105 = .ok (.invokevirtual 44, 3) := by decide +kernel
theorem dX2_readOne_108 : decode cX2_readOne 108 = .ok (.ifCond .eq 7, 3) := by decide +kernel
theorem dX2_readOne_111 : decode cX2_readOne 111 = .ok (.iconst 1, 1) := by decide +kernel
theorem dX2_readOne_112 : decode cX2_readOne 112 = .ok (.goto 4, 3) := by decide +kernel
theorem dX2_readOne_115 : decode cX2_readOne 115 = .ok (.iconst 0, 1) := by decide +kernel
theorem dX2_readOne_116 : decode cX2_readOne 116 = .ok (.ireturn, 1) := by decide +kernel
theorem dX3_init_0 : decode cX3_init 0 = .ok (.aload_n 0, 1) := by decide +kernel
theorem dX3_init_1 : decode cX3_init 1 = .ok (.invokespecial 3, 3) := by decide +kernel
theorem dX3_init_4 : decode cX3_init 4 = .ok (.aload_n 0, 1) := by decide +kernel
theorem dX3_init_5 : decode cX3_init 5 = .ok (.iconst 5, 1) := by decide +kernel
theorem dX3_init_6 : decode cX3_init 6 = .ok (.newarray .int, 2) := by decide +kernel
theorem dX3_init_8 : decode cX3_init 8 = .ok (.putfield 9, 3) := by decide +kernel
theorem dX3_init_11 : decode cX3_init 11 = .ok (.aload_n 0, 1) := by decide +kernel
theorem dX3_init_12 : decode cX3_init 12 = .ok (.iconst 5, 1) := by decide +kernel
theorem dX3_init_13 : decode cX3_init 13 = .ok (.newarray .int, 2) := by decide +kernel
theorem dX3_init_15 : decode cX3_init 15 = .ok (.putfield 15, 3) := by decide +kernel
theorem dX3_init_18 : decode cX3_init 18 = .ok (.aload_n 0, 1) := by decide +kernel
theorem dX3_init_19 : decode cX3_init 19 = .ok (.iconst 0, 1) := by decide +kernel
theorem dX3_init_20 : decode cX3_init 20 = .ok (.putfield 18, 3) := by decide +kernel
theorem dX3_init_23 : decode cX3_init 23 = .ok (.aload_n 0, 1) := by decide +kernel
theorem dX3_init_24 : decode cX3_init 24 = .ok (.iconst 0, 1) := by decide +kernel
theorem dX3_init_25 : decode cX3_init 25 = .ok (.putfield 22, 3) := by decide +kernel
theorem dX3_init_28 : decode cX3_init 28 = .ok (.aload_n 0, 1) := by decide +kernel
theorem dX3_init_29 : decode cX3_init 29 = .ok (.iconst 0, 1) := by decide +kernel
theorem dX3_init_30 : decode cX3_init 30 = .ok (.putfield 25, 3) := by decide +kernel
theorem dX3_init_33 : decode cX3_init 33 = .ok (.aload_n 0, 1) := by decide +kernel
theorem dX3_init_34 : decode cX3_init 34 = .ok (.aload_n 1, 1) := by decide +kernel
theorem dX3_init_35 : decode cX3_init 35 = .ok (.putfield 28, 3) := by decide +kernel
theorem dX3_init_38 : decode cX3_init 38 = .ok (.aload_n 0, 1) := by decide +kernel
theorem dX3_init_39 : decode cX3_init 39 = .ok (.aload_n 2, 1) := by decide +kernel
theorem dX3_init_40 : decode cX3_init 40 = .ok (.putfield 32, 3) := by decide +kernel
theorem dX3_init_43 : decode cX3_init 43 = .ok (.return_, 1) := by decide +kernel
theorem dX3_seekWays_0 : decode cX3_seekWays 0 = .ok (.aload_n 0, 1) := by decide +kernel
theorem dX3_seekWays_1 : decode cX3_seekWays 1 = .ok (.iconst 0, 1) := by decide +kernel
theorem dX3_seekWays_2 : decode cX3_seekWays 2 = .ok (.putfield 18, 3) := by decide +kernel
theorem dX3_seekWays_5 : decode cX3_seekWays 5 = .ok (.aload_n 0, 1) := by decide +kernel
theorem dX3_seekWays_6 : decode cX3_seekWays 6 = .ok (.iconst 0, 1) := by decide +kernel
theorem dX3_seekWays_7 : decode cX3_seekWays 7 = .ok (.putfield 22, 3) := by decide +kernel
theorem dX3_seekWays_10 : decode cX3_seekWays 10 = .ok (.aload_n 0, 1) := by decide +kernel
theorem dX3_seekWays_11 : decode cX3_seekWays 11 = .ok (.iconst 0, 1) := by decide +kernel
theorem dX3_seekWays_12 : decode cX3_seekWays 12 = .ok (.putfield 25, 3) := by decide +kernel
theorem dX3_seekWays_15 : decode cX3_seekWays 15 = .ok (.aload_n 0, 1) := by decide +kernel
theorem dX3_seekWays_16 : decode cX3_seekWays 16 = .ok (.getfield 32, 3) := by decide +kernel
theorem dX3_seekWays_19 : decode cX3_seekWays 19 = .ok (.invokevirtual 36, 3) := by decide +kernel
theorem dX3_seekWays_22 : decode cX3_seekWays 22 = .ok (.aload_n 0, 1) := by decide +kernel
theorem dX3_seekWays_23 : decode cX3_seekWays 23 = .ok (.iconst 0, 1) := by decide +kernel
theorem dX3_seekWays_24 : decode cX3_seekWays 24 = .ok (.aload_n 1, 1) := by decide +kernel
theorem dX3_seekWays_25 : decode cX3_seekWays 25 = .ok (.invokevirtual 41, 3) := by decide +kernel
theorem dX3_seekWays_28 : decode cX3_seekWays 28 = .ok (.return_, 1) := by decide +kernel
theorem dX3_seekWaysBehind_0 : decode cX3_seekWaysBehind 0 = .ok (.iload_n 1, 1) := by decide +kernel
theorem dX3_seekWaysBehind_1 : decode cX3_seekWaysBehind 1 = .ok (.aload_n 0, 1) := by decide +kernel
theorem dX3_seekWaysBehind_2 : decode cX3_seekWaysBehind 2 = .ok (.getfield 28, 3) := by decide +kernel
theorem dX3_seekWaysBehind_5 : decode cX3_seekWaysBehind 5 = .ok (.getfield 45, 3) := by decide +kernel
theorem dX3_seekWaysBehind_8 : decode cX3_seekWaysBehind 8 = .ok (.if_icmp .lt 8, 3) := by decide +kernel
theorem dX3_seekWaysBehind_11 : decode cX3_seekWaysBehind 11 = .ok (.aload_n 0, 1) := by decide +kernel
theorem dX3_seekWaysBehind_12 : decode cX3_seekWaysBehind 12 = .ok (.invokevirtual 50, 3) := by decide +kernel
theorem dX3_seekWaysBehind_15 : decode cX3_seekWaysBehind 15 = .ok (.return_, 1) := by decide +kernel
theorem dX3_seekWaysBehind_16 : decode cX3_seekWaysBehind 16 = .ok (.iconst 0, 1) := by decide +kernel
theorem dX3_seekWaysBehind_17 : decode cX3_seekWaysBehind 17 = .ok (.istore_n 3, 1) := by decide +kernel
theorem dX3_seekWaysBehind_18 : decode cX3_seekWaysBehind 18 = .ok (.iload_n 3, 1) := by decide +kernel
theorem dX3_seekWaysBehind_19 : decode cX3_seekWaysBehind 19 = .ok (.aload_n 0, 1) := by decide +kernel
theorem dX3_seekWaysBehind_20 : decode cX3_seekWaysBehind 20 = .ok (.getfield 28, 3) := by decide +kernel
theorem dX3_seekWaysBehind_23 : decode cX3_seekWaysBehind 23 = .ok (.getfield 45, 3) := by decide +kernel
theorem dX3_seekWaysBehind_26 : decode cX3_seekWaysBehind 26 = .ok (.if_icmp .ge 53, 3) := by decide +kernel
theorem dX3_seekWaysBehind_29 : decode cX3_seekWaysBehind 29 = .ok (.aload_n 0, 1) := by decide +kernel
theorem dX3_seekWaysBehind_30 : decode cX3_seekWaysBehind 30 = .ok (.getfield 32, 3) := by decide +kernel
theorem dX3_seekWaysBehind_33 : decode cX3_seekWaysBehind 33 = .ok (.iload_n 3, 1) := by decide +kernel
theorem dX3_seekWaysBehind_34 : decode cX3_seekWaysBehind 34 = .ok (.invokevirtual 53, 3) := by decide +kernel
theorem dX3_seekWaysBehind_37 : decode cX3_seekWaysBehind 37 = .ok (.ifCond .ne 6, 3) := by decide +kernel
theorem dX3_seekWaysBehind_40 : decode cX3_seekWaysBehind 40 = .ok (.goto 33, 3) := by decide +kernel
theorem dX3_seekWaysBehind_43 : decode cX3_seekWaysBehind 43 = .ok (.aload_n 0, 1) := by decide +kernel
theorem dX3_seekWaysBehind_44 : decode cX3_seekWaysBehind 44 = .ok (.getfield 32, 3) := by decide +kernel
theorem dX3_seekWaysBehind_47 : decode cX3_seekWaysBehind 47 = .ok (.invokevirtual 57, 3) := by decide +kernel
theorem dX3_seekWaysBehind_50 : decode cX3_seekWaysBehind 50 = .ok (.aload_n 2, 1) := by decide +kernel
theorem dX3_seekWaysBehind_51 : decode cX3_seekWaysBehind 51 = .ok (.iload_n 1, 1) := by decide +kernel
theorem dX3_seekWaysBehind_52 : decode cX3_seekWaysBehind 52 = .ok (.invokevirtual 61, 3) := by decide +kernel
theorem dX3_seekWaysBehind_55 : decode cX3_seekWaysBehind 55 = .ok (.if_icmp .ne 11, 3) := by decide +kernel
theorem dX3_seekWaysBehind_58 : decode cX3_seekWaysBehind 58 = .ok (.aload_n 0, 1) := by decide +kernel
theorem dX3_seekWaysBehind_59 : decode cX3_seekWaysBehind 59 = .ok (.iload_n 1, 1) := by decide +kernel
theorem dX3_seekWaysBehind_60 : decode cX3_seekWaysBehind 60 = .ok (.iconst 1, 1) := by decide +kernel
theorem dX3_seekWaysBehind_61 : decode cX3_seekWaysBehind 61 = .ok (.iadd, 1) := by decide +kernel
theorem dX3_seekWaysBehind_62 : decode cX3_seekWaysBehind 62 = .ok (.aload_n 2, 1) := by decide +kernel
theorem dX3_seekWaysBehind_63 : decode cX3_seekWaysBehind 63 = .ok (.invokevirtual 41, 3) := by decide +kernel
theorem dX3_seekWaysBehind_66 : decode cX3_seekWaysBehind 66 = .ok (.aload_n 0, 1) := by decide +kernel
theorem dX3_seekWaysBehind_67 : decode cX3_seekWaysBehind 67 = .ok (.getfield 32, 3) := by decide +kernel
theorem dX3_seekWaysBehind_70 : decode cX3_seekWaysBehind 70 = .ok (.invokevirtual 67, 3) := by decide +kernel
theorem dX3_seekWaysBehind_73 : decode cX3_seekWaysBehind 73 = .ok (.iinc 3 1, 3) := by decide +kernel
theorem dX3_seekWaysBehind_76 : decode cX3_seekWaysBehind 76 = .ok (.goto (-58), 3) := by decide +kernel
theorem dX3_seekWaysBehind_79 : decode cX3_seekWaysBehind 79 = .ok (.return_, 1) := by decide +kernel
theorem dX3_noteWay_0 : decode cX3_noteWay 0 = .ok (.aload_n 0, 1) := by decide +kernel
theorem dX3_noteWay_1 : decode cX3_noteWay 1 = .ok (.dup, 1) := by decide +kernel
theorem dX3_noteWay_2 : decode cX3_noteWay 2 = .ok (.getfield 18, 3) := by decide +kernel
theorem dX3_noteWay_5 : decode cX3_noteWay 5 = .ok (.iconst 1, 1) := by decide +kernel
theorem dX3_noteWay_6 : decode cX3_noteWay 6 = .ok (.iadd, 1) := by decide +kernel
theorem dX3_noteWay_7 : decode cX3_noteWay 7 = .ok (.putfield 18, 3) := by decide +kernel
theorem dX3_noteWay_10 : decode cX3_noteWay 10 = .ok (.aload_n 0, 1) := by decide +kernel
theorem dX3_noteWay_11 : decode cX3_noteWay 11 = .ok (.getfield 18, 3) := by decide +kernel
theorem dX3_noteWay_14 : decode cX3_noteWay 14 = .ok (.iconst 1, 1) := by decide +kernel
theorem dX3_noteWay_15 : decode cX3_noteWay 15 = .ok (.if_icmp .ne 29, 3) := by decide +kernel
theorem dX3_noteWay_18 : decode cX3_noteWay 18 = .ok (.aload_n 0, 1) := by decide +kernel
theorem dX3_noteWay_19 : decode cX3_noteWay 19 = .ok (.aload_n 0, 1) := by decide +kernel
theorem dX3_noteWay_20 : decode cX3_noteWay 20 = .ok (.getfield 32, 3) := by decide +kernel
theorem dX3_noteWay_23 : decode cX3_noteWay 23 = .ok (.invokevirtual 70, 3) := by decide +kernel
theorem dX3_noteWay_26 : decode cX3_noteWay 26 = .ok (.putfield 22, 3) := by decide +kernel
theorem dX3_noteWay_29 : decode cX3_noteWay 29 = .ok (.aload_n 0, 1) := by decide +kernel
theorem dX3_noteWay_30 : decode cX3_noteWay 30 = .ok (.iconst 1, 1) := by decide +kernel
theorem dX3_noteWay_31 : decode cX3_noteWay 31 = .ok (.aload_n 0, 1) := by decide +kernel
theorem dX3_noteWay_32 : decode cX3_noteWay 32 = .ok (.getfield 28, 3) := by decide +kernel
theorem dX3_noteWay_35 : decode cX3_noteWay 35 = .ok (.getfield 45, 3) := by decide +kernel
theorem dX3_noteWay_38 : decode cX3_noteWay 38 = .ok (.ishl, 1) := by decide +kernel
theorem dX3_noteWay_39 : decode cX3_noteWay 39 = .ok (.iconst 1, 1) := by decide +kernel
theorem dX3_noteWay_40 : decode cX3_noteWay 40 = .ok (.isub, 1) := by decide +kernel
theorem dX3_noteWay_41 : decode cX3_noteWay 41 = .ok (.putfield 25, 3) := by decide +kernel
theorem dX3_noteWay_44 : decode cX3_noteWay 44 = .ok (.iconst 0, 1) := by decide +kernel
theorem dX3_noteWay_45 : decode cX3_noteWay 45 = .ok (.istore_n 1, 1) := by decide +kernel
theorem dX3_noteWay_46 : decode cX3_noteWay 46 = .ok (.iload_n 1, 1) := by decide +kernel
theorem dX3_noteWay_47 : decode cX3_noteWay 47 = .ok (.aload_n 0, 1) := by decide +kernel
theorem dX3_noteWay_48 : decode cX3_noteWay 48 = .ok (.getfield 28, 3) := by decide +kernel
theorem dX3_noteWay_51 : decode cX3_noteWay 51 = .ok (.getfield 45, 3) := by decide +kernel
theorem dX3_noteWay_54 : decode cX3_noteWay 54 = .ok (.if_icmp .ge 69, 3) := by decide +kernel
theorem dX3_noteWay_57 : decode cX3_noteWay 57 = .ok (.iload_n 1, 1) := by decide +kernel
theorem dX3_noteWay_58 : decode cX3_noteWay 58 = .ok (.aload_n 0, 1) := by decide +kernel
theorem dX3_noteWay_59 : decode cX3_noteWay 59 = .ok (.getfield 9, 3) := by decide +kernel
theorem dX3_noteWay_62 : decode cX3_noteWay 62 = .ok (.arraylength, 1) := by decide +kernel
theorem dX3_noteWay_63 : decode cX3_noteWay 63 = .ok (.if_icmp .ge 60, 3) := by decide +kernel
theorem dX3_noteWay_66 : decode cX3_noteWay 66 = .ok (.aload_n 0, 1) := by decide +kernel
theorem dX3_noteWay_67 : decode cX3_noteWay 67 = .ok (.getfield 32, 3) := by decide +kernel
theorem dX3_noteWay_70 : decode cX3_noteWay 70 = .ok (.iload_n 1, 1) := by decide +kernel
theorem dX3_noteWay_71 : decode cX3_noteWay 71 = .ok (.invokevirtual 73, 3) := by decide +kernel
theorem dX3_noteWay_74 : decode cX3_noteWay 74 = .ok (.istore_n 2, 1) := by decide +kernel
theorem dX3_noteWay_75 : decode cX3_noteWay 75 = .ok (.aload_n 0, 1) := by decide +kernel
theorem dX3_noteWay_76 : decode cX3_noteWay 76 = .ok (.getfield 18, 3) := by decide +kernel
theorem dX3_noteWay_79 : decode cX3_noteWay 79 = .ok (.iconst 1, 1) := by decide +kernel
theorem dX3_noteWay_80 : decode cX3_noteWay 80 = .ok (.if_icmp .ne 13, 3) := by decide +kernel
theorem dX3_noteWay_83 : decode cX3_noteWay 83 = .ok (.aload_n 0, 1) := by decide +kernel
theorem dX3_noteWay_84 : decode cX3_noteWay 84 = .ok (.getfield 9, 3) := by decide +kernel
theorem dX3_noteWay_87 : decode cX3_noteWay 87 = .ok (.iload_n 1, 1) := by decide +kernel
theorem dX3_noteWay_88 : decode cX3_noteWay 88 = .ok (.iload_n 2, 1) := by decide +kernel
theorem dX3_noteWay_89 : decode cX3_noteWay 89 = .ok (.iastore, 1) := by decide +kernel
theorem dX3_noteWay_90 : decode cX3_noteWay 90 = .ok (.goto 27, 3) := by decide +kernel
theorem dX3_noteWay_93 : decode cX3_noteWay 93 = .ok (.aload_n 0, 1) := by decide +kernel
theorem dX3_noteWay_94 : decode cX3_noteWay 94 = .ok (.getfield 9, 3) := by decide +kernel
theorem dX3_noteWay_97 : decode cX3_noteWay 97 = .ok (.iload_n 1, 1) := by decide +kernel
theorem dX3_noteWay_98 : decode cX3_noteWay 98 = .ok (.iaload, 1) := by decide +kernel
theorem dX3_noteWay_99 : decode cX3_noteWay 99 = .ok (.iload_n 2, 1) := by decide +kernel
theorem dX3_noteWay_100 : decode cX3_noteWay 100 = .ok (.if_icmp .eq 17, 3) := by decide +kernel
theorem dX3_noteWay_103 : decode cX3_noteWay 103 = .ok (.aload_n 0, 1) := by decide +kernel
theorem dX3_noteWay_104 : decode cX3_noteWay 104 = .ok (.dup, 1) := by decide +kernel
theorem dX3_noteWay_105 : decode cX3_noteWay 105 = .ok (.getfield 25, 3) := by decide +kernel
theorem dX3_noteWay_108 : decode cX3_noteWay 108 = .ok (.iconst 1, 1) := by decide +kernel
theorem dX3_noteWay_109 : decode cX3_noteWay 109 = .ok (.iload_n 2, 1) := by decide +kernel
theorem dX3_noteWay_110 : decode cX3_noteWay 110 = .ok (.ishl, 1) := by decide +kernel
theorem dX3_noteWay_111 : decode cX3_noteWay 111 = .ok (.iconst (-1), 1) := by decide +kernel
theorem dX3_noteWay_112 : decode cX3_noteWay 112 = .ok (.ixor, 1) := by decide +kernel
theorem dX3_noteWay_113 : decode cX3_noteWay 113 = .ok (.iand, 1) := by decide +kernel
theorem dX3_noteWay_114 : decode cX3_noteWay 114 = .ok (.putfield 25, 3) := by decide +kernel
theorem dX3_noteWay_117 : decode cX3_noteWay 117 = .ok (.iinc 1 1, 3) := by decide +kernel
theorem dX3_noteWay_120 : decode cX3_noteWay 120 = .ok (.goto (-74), 3) := by decide +kernel
theorem dX3_noteWay_123 : decode cX3_noteWay 123 = .ok (.return_, 1) := by decide +kernel
theorem dX3_firstOtherwise_0 : decode cX3_firstOtherwise 0 = .ok (.aload_n 0, 1) := by decide +kernel
theorem dX3_firstOtherwise_1 : decode cX3_firstOtherwise 1 = .ok (.getfield 32, 3) := by decide +kernel
theorem dX3_firstOtherwise_4 : decode cX3_firstOtherwise 4 = .ok (.invokevirtual 36, 3) := by decide +kernel
theorem dX3_firstOtherwise_7 : decode cX3_firstOtherwise 7 = .ok (.iconst 0, 1) := by decide +kernel
theorem dX3_firstOtherwise_8 : decode cX3_firstOtherwise 8 = .ok (.istore_n 2, 1) := by decide +kernel
theorem dX3_firstOtherwise_9 : decode cX3_firstOtherwise 9 = .ok (.iload_n 2, 1) := by decide +kernel
theorem dX3_firstOtherwise_10 : decode cX3_firstOtherwise 10 = .ok (.aload_n 0, 1) := by decide +kernel
theorem dX3_firstOtherwise_11 : decode cX3_firstOtherwise 11 = .ok (.getfield 28, 3) := by decide +kernel
theorem dX3_firstOtherwise_14 : decode cX3_firstOtherwise 14 = .ok (.getfield 45, 3) := by decide +kernel
theorem dX3_firstOtherwise_17 : decode cX3_firstOtherwise 17 = .ok (.if_icmp .ge 35, 3) := by decide +kernel
theorem dX3_firstOtherwise_20 : decode cX3_firstOtherwise 20 = .ok (.aload_n 0, 1) := by decide +kernel
theorem dX3_firstOtherwise_21 : decode cX3_firstOtherwise 21 = .ok (.getfield 32, 3) := by decide +kernel
theorem dX3_firstOtherwise_24 : decode cX3_firstOtherwise 24 = .ok (.iload_n 2, 1) := by decide +kernel
theorem dX3_firstOtherwise_25 : decode cX3_firstOtherwise 25 = .ok (.invokevirtual 53, 3) := by decide +kernel
theorem dX3_firstOtherwise_28 : decode cX3_firstOtherwise 28 = .ok (.pop, 1) := by decide +kernel
theorem dX3_firstOtherwise_29 : decode cX3_firstOtherwise 29 = .ok (.aload_n 0, 1) := by decide +kernel
theorem dX3_firstOtherwise_30 : decode cX3_firstOtherwise 30 = .ok (.getfield 32, 3) := by decide +kernel
theorem dX3_firstOtherwise_33 : decode cX3_firstOtherwise 33 = .ok (.invokevirtual 57, 3) := by decide +kernel
theorem dX3_firstOtherwise_36 : decode cX3_firstOtherwise 36 = .ok (.aload_n 1, 1) := by decide +kernel
theorem dX3_firstOtherwise_37 : decode cX3_firstOtherwise 37 = .ok (.iload_n 2, 1) := by decide +kernel
theorem dX3_firstOtherwise_38 : decode cX3_firstOtherwise 38 = .ok (.invokevirtual 61, 3) := by decide +kernel
theorem dX3_firstOtherwise_41 : decode cX3_firstOtherwise 41 = .ok (.if_icmp .eq 5, 3) := by decide +kernel
theorem dX3_firstOtherwise_44 : decode cX3_firstOtherwise 44 = .ok (.iload_n 2, 1) := by decide +kernel
theorem dX3_firstOtherwise_45 : decode cX3_firstOtherwise 45 = .ok (.ireturn, 1) := by decide +kernel
theorem dX3_firstOtherwise_46 : decode cX3_firstOtherwise 46 = .ok (.iinc 2 1, 3) := by decide +kernel
theorem dX3_firstOtherwise_49 : decode cX3_firstOtherwise 49 = .ok (.goto (-40), 3) := by decide +kernel
theorem dX3_firstOtherwise_52 : decode cX3_firstOtherwise 52 = .ok (.iconst (-1), 1) := by decide +kernel
theorem dX3_firstOtherwise_53 : decode cX3_firstOtherwise 53 = .ok (.ireturn, 1) := by decide +kernel
theorem dX3_fitting_0 : decode cX3_fitting 0 = .ok (.iload_n 2, 1) := by decide +kernel
theorem dX3_fitting_1 : decode cX3_fitting 1 = .ok (.iconst 1, 1) := by decide +kernel
theorem dX3_fitting_2 : decode cX3_fitting 2 = .ok (.if_icmp .ne 8, 3) := by decide +kernel
theorem dX3_fitting_5 : decode cX3_fitting 5 = .ok (.bipush 6, 2) := by decide +kernel
theorem dX3_fitting_7 : decode cX3_fitting 7 = .ok (.goto 13, 3) := by decide +kernel
theorem dX3_fitting_10 : decode cX3_fitting 10 = .ok (.iload_n 2, 1) := by decide +kernel
theorem dX3_fitting_11 : decode cX3_fitting 11 = .ok (.iconst 2, 1) := by decide +kernel
theorem dX3_fitting_12 : decode cX3_fitting 12 = .ok (.if_icmp .ne 7, 3) := by decide +kernel
theorem dX3_fitting_15 : decode cX3_fitting 15 = .ok (.iconst 3, 1) := by decide +kernel
theorem dX3_fitting_16 : decode cX3_fitting 16 = .ok (.goto 4, 3) := by decide +kernel
theorem dX3_fitting_19 : decode cX3_fitting 19 = .ok (.iconst 4, 1) := by decide +kernel
theorem dX3_fitting_20 : decode cX3_fitting 20 = .ok (.istore 4, 2) := by decide +kernel
theorem dX3_fitting_22 : decode cX3_fitting 22 = .ok (.iload_n 2, 1) := by decide +kernel
theorem dX3_fitting_23 : decode cX3_fitting 23 = .ok (.iconst 1, 1) := by decide +kernel
theorem dX3_fitting_24 : decode cX3_fitting 24 = .ok (.if_icmp .ne 12, 3) := by decide +kernel
theorem dX3_fitting_27 : decode cX3_fitting 27 = .ok (.getstatic 76, 3) := by decide +kernel
theorem dX3_fitting_30 : decode cX3_fitting 30 = .ok (.bipush 6, 2) := by decide +kernel
theorem dX3_fitting_32 : decode cX3_fitting 32 = .ok (.iaload, 1) := by decide +kernel
theorem dX3_fitting_33 : decode cX3_fitting 33 = .ok (.goto 21, 3) := by decide +kernel
theorem dX3_fitting_36 : decode cX3_fitting 36 = .ok (.iload_n 2, 1) := by decide +kernel
theorem dX3_fitting_37 : decode cX3_fitting 37 = .ok (.iconst 2, 1) := by decide +kernel
theorem dX3_fitting_38 : decode cX3_fitting 38 = .ok (.if_icmp .ne 11, 3) := by decide +kernel
theorem dX3_fitting_41 : decode cX3_fitting 41 = .ok (.getstatic 76, 3) := by decide +kernel
theorem dX3_fitting_44 : decode cX3_fitting 44 = .ok (.iconst 3, 1) := by decide +kernel
theorem dX3_fitting_45 : decode cX3_fitting 45 = .ok (.iaload, 1) := by decide +kernel
theorem dX3_fitting_46 : decode cX3_fitting 46 = .ok (.goto 8, 3) := by decide +kernel
theorem dX3_fitting_49 : decode cX3_fitting 49 = .ok (.getstatic 76, 3) := by decide +kernel
theorem dX3_fitting_52 : decode cX3_fitting 52 = .ok (.iconst 4, 1) := by decide +kernel
theorem dX3_fitting_53 : decode cX3_fitting 53 = .ok (.iaload, 1) := by decide +kernel
theorem dX3_fitting_54 : decode cX3_fitting 54 = .ok (.istore 5, 2) := by decide +kernel
theorem dX3_fitting_56 : decode cX3_fitting 56 = .ok (.aload_n 0, 1) := by decide +kernel
theorem dX3_fitting_57 : decode cX3_fitting 57 = .ok (.getfield 28, 3) := by decide +kernel
theorem dX3_fitting_60 : decode cX3_fitting 60 = .ok (.iload 4, 2) := by decide +kernel
theorem dX3_fitting_62 : decode cX3_fitting 62 = .ok (.iload_n 3, 1) := by decide +kernel
theorem dX3_fitting_63 : decode cX3_fitting 63 = .ok (.invokevirtual 79, 3) := by decide +kernel
theorem dX3_fitting_66 : decode cX3_fitting 66 = .ok (.istore 6, 2) := by decide +kernel
theorem dX3_fitting_68 : decode cX3_fitting 68 = .ok (.iconst 0, 1) := by decide +kernel
theorem dX3_fitting_69 : decode cX3_fitting 69 = .ok (.istore 7, 2) := by decide +kernel
theorem dX3_fitting_71 : decode cX3_fitting 71 = .ok (.iconst 0, 1) := by decide +kernel
theorem dX3_fitting_72 : decode cX3_fitting 72 = .ok (.istore 8, 2) := by decide +kernel
theorem dX3_fitting_74 : decode cX3_fitting 74 = .ok (.iload 8, 2) := by decide +kernel
theorem dX3_fitting_76 : decode cX3_fitting 76 = .ok (.iload 5, 2) := by decide +kernel
theorem dX3_fitting_78 : decode cX3_fitting 78 = .ok (.if_icmp .gt 39, 3) := by decide +kernel
theorem dX3_fitting_81 : decode cX3_fitting 81 = .ok (.aload_n 0, 1) := by decide +kernel
theorem dX3_fitting_82 : decode cX3_fitting 82 = .ok (.getfield 28, 3) := by decide +kernel
theorem dX3_fitting_85 : decode cX3_fitting 85 = .ok (.iload 4, 2) := by decide +kernel
theorem dX3_fitting_87 : decode cX3_fitting 87 = .ok (.iload_n 3, 1) := by decide +kernel
theorem dX3_fitting_88 : decode cX3_fitting 88 = .ok (.iload 8, 2) := by decide +kernel
theorem dX3_fitting_90 : decode cX3_fitting 90 = .ok (.invokevirtual 83, 3) := by decide +kernel
theorem dX3_fitting_93 : decode cX3_fitting 93 = .ok (.aload_n 0, 1) := by decide +kernel
theorem dX3_fitting_94 : decode cX3_fitting 94 = .ok (.aload_n 1, 1) := by decide +kernel
theorem dX3_fitting_95 : decode cX3_fitting 95 = .ok (.invokevirtual 87, 3) := by decide +kernel
theorem dX3_fitting_98 : decode cX3_fitting 98 = .ok (.iconst (-1), 1) := by decide +kernel
theorem dX3_fitting_99 : decode cX3_fitting 99 = .ok (.if_icmp .ne 12, 3) := by decide +kernel
theorem dX3_fitting_102 : decode cX3_fitting 102 = .ok (.iload 7, 2) := by decide +kernel
theorem dX3_fitting_104 : decode cX3_fitting 104 = .ok (.iconst 1, 1) := by decide +kernel
theorem dX3_fitting_105 : decode cX3_fitting 105 = .ok (.iload 8, 2) := by decide +kernel
theorem dX3_fitting_107 : decode cX3_fitting 107 = .ok (.ishl, 1) := by decide +kernel
theorem dX3_fitting_108 : decode cX3_fitting 108 = .ok (.ior, 1) := by decide +kernel
theorem dX3_fitting_109 : decode cX3_fitting 109 = .ok (.istore 7, 2) := by decide +kernel
theorem dX3_fitting_111 : decode cX3_fitting 111 = .ok (.iinc 8 1, 3) := by decide +kernel
theorem dX3_fitting_114 : decode cX3_fitting 114 = .ok (.goto (-40), 3) := by decide +kernel
theorem dX3_fitting_117 : decode cX3_fitting 117 = .ok (.aload_n 0, 1) := by decide +kernel
theorem dX3_fitting_118 : decode cX3_fitting 118 = .ok (.getfield 28, 3) := by decide +kernel
theorem dX3_fitting_121 : decode cX3_fitting 121 = .ok (.iload 4, 2) := by decide +kernel
theorem dX3_fitting_123 : decode cX3_fitting 123 = .ok (.iload_n 3, 1) := by decide +kernel
theorem dX3_fitting_124 : decode cX3_fitting 124 = .ok (.iload 6, 2) := by decide +kernel
theorem dX3_fitting_126 : decode cX3_fitting 126 = .ok (.invokevirtual 83, 3) := by decide +kernel
theorem dX3_fitting_129 : decode cX3_fitting 129 = .ok (.iload 7, 2) := by decide +kernel
theorem dX3_fitting_131 : decode cX3_fitting 131 = .ok (.ireturn, 1) := by decide +kernel
theorem dX3_fittingTexts_0 : decode cX3_fittingTexts 0 = .ok (.aload_n 0, 1) := by decide +kernel
theorem dX3_fittingTexts_1 : decode cX3_fittingTexts 1 = .ok (.getfield 28, 3) := by decide +kernel
theorem dX3_fittingTexts_4 : decode cX3_fittingTexts 4 = .ok (.getfield 91, 3) := by decide +kernel
theorem dX3_fittingTexts_7 : decode cX3_fittingTexts 7 = .ok (.istore_n 3, 1) := by decide +kernel
theorem dX3_fittingTexts_8 : decode cX3_fittingTexts 8 = .ok (.iconst 0, 1) := by decide +kernel
theorem dX3_fittingTexts_9 : decode cX3_fittingTexts 9 = .ok (.istore 4, 2) := by decide +kernel
theorem dX3_fittingTexts_11 : decode cX3_fittingTexts 11 = .ok (.iconst 0, 1) := by decide +kernel
theorem dX3_fittingTexts_12 : decode cX3_fittingTexts 12 = .ok (.istore 5, 2) := by decide +kernel
theorem dX3_fittingTexts_14 : decode cX3_fittingTexts 14 = .ok (.iload 5, 2) := by decide +kernel
theorem dX3_fittingTexts_16 : decode cX3_fittingTexts 16 = .ok (.iload_n 2, 1) := by decide +kernel
theorem dX3_fittingTexts_17 : decode cX3_fittingTexts 17 = .ok (.if_icmp .ge 36, 3) := by decide +kernel
theorem dX3_fittingTexts_20 : decode cX3_fittingTexts 20 = .ok (.aload_n 0, 1) := by decide +kernel
theorem dX3_fittingTexts_21 : decode cX3_fittingTexts 21 = .ok (.getfield 28, 3) := by decide +kernel
theorem dX3_fittingTexts_24 : decode cX3_fittingTexts 24 = .ok (.iload 5, 2) := by decide +kernel
theorem dX3_fittingTexts_26 : decode cX3_fittingTexts 26 = .ok (.putfield 91, 3) := by decide +kernel
theorem dX3_fittingTexts_29 : decode cX3_fittingTexts 29 = .ok (.aload_n 0, 1) := by decide +kernel
theorem dX3_fittingTexts_30 : decode cX3_fittingTexts 30 = .ok (.aload_n 1, 1) := by decide +kernel
theorem dX3_fittingTexts_31 : decode cX3_fittingTexts 31 = .ok (.invokevirtual 87, 3) := by decide +kernel
theorem dX3_fittingTexts_34 : decode cX3_fittingTexts 34 = .ok (.iconst (-1), 1) := by decide +kernel
theorem dX3_fittingTexts_35 : decode cX3_fittingTexts 35 = .ok (.if_icmp .ne 12, 3) := by decide +kernel
theorem dX3_fittingTexts_38 : decode cX3_fittingTexts 38 = .ok (.iload 4, 2) := by decide +kernel
theorem dX3_fittingTexts_40 : decode cX3_fittingTexts 40 = .ok (.iconst 1, 1) := by decide +kernel
theorem dX3_fittingTexts_41 : decode cX3_fittingTexts 41 = .ok (.iload 5, 2) := by decide +kernel
theorem dX3_fittingTexts_43 : decode cX3_fittingTexts 43 = .ok (.ishl, 1) := by decide +kernel
theorem dX3_fittingTexts_44 : decode cX3_fittingTexts 44 = .ok (.ior, 1) := by decide +kernel
theorem dX3_fittingTexts_45 : decode cX3_fittingTexts 45 = .ok (.istore 4, 2) := by decide +kernel
theorem dX3_fittingTexts_47 : decode cX3_fittingTexts 47 = .ok (.iinc 5 1, 3) := by decide +kernel
theorem dX3_fittingTexts_50 : decode cX3_fittingTexts 50 = .ok (.goto (-36), 3) := by decide +kernel
theorem dX3_fittingTexts_53 : decode cX3_fittingTexts 53 = .ok (.aload_n 0, 1) := by decide +kernel
theorem dX3_fittingTexts_54 : decode cX3_fittingTexts 54 = .ok (.getfield 28, 3) := by decide +kernel
theorem dX3_fittingTexts_57 : decode cX3_fittingTexts 57 = .ok (.iload_n 3, 1) := by decide +kernel
theorem dX3_fittingTexts_58 : decode cX3_fittingTexts 58 = .ok (.putfield 91, 3) := by decide +kernel
theorem dX3_fittingTexts_61 : decode cX3_fittingTexts 61 = .ok (.iload 4, 2) := by decide +kernel
theorem dX3_fittingTexts_63 : decode cX3_fittingTexts 63 = .ok (.ireturn, 1) := by decide +kernel
theorem dX3_comeDrawn_0 : decode cX3_comeDrawn 0 = .ok (.iload_n 1, 1) := by decide +kernel
theorem dX3_comeDrawn_1 : decode cX3_comeDrawn 1 = .ok (.istore_n 2, 1) := by decide +kernel
theorem dX3_comeDrawn_2 : decode cX3_comeDrawn 2 = .ok (.iconst 0, 1) := by decide +kernel
theorem dX3_comeDrawn_3 : decode cX3_comeDrawn 3 = .ok (.istore_n 3, 1) := by decide +kernel
theorem dX3_comeDrawn_4 : decode cX3_comeDrawn 4 = .ok (.iload_n 3, 1) := by decide +kernel
theorem dX3_comeDrawn_5 : decode cX3_comeDrawn 5 = .ok (.aload_n 0, 1) := by decide +kernel
theorem dX3_comeDrawn_6 : decode cX3_comeDrawn 6 = .ok (.getfield 28, 3) := by decide +kernel
theorem dX3_comeDrawn_9 : decode cX3_comeDrawn 9 = .ok (.getfield 45, 3) := by decide +kernel
theorem dX3_comeDrawn_12 : decode cX3_comeDrawn 12 = .ok (.if_icmp .ge 58, 3) := by decide +kernel
theorem dX3_comeDrawn_15 : decode cX3_comeDrawn 15 = .ok (.iload_n 3, 1) := by decide +kernel
theorem dX3_comeDrawn_16 : decode cX3_comeDrawn 16 = .ok (.aload_n 0, 1) := by decide +kernel
theorem dX3_comeDrawn_17 : decode cX3_comeDrawn 17 = .ok (.getfield 15, 3) := by decide +kernel
theorem dX3_comeDrawn_20 : decode cX3_comeDrawn 20 = .ok (.arraylength, 1) := by decide +kernel
theorem dX3_comeDrawn_21 : decode cX3_comeDrawn 21 = .ok (.if_icmp .ge 49, 3) := by decide +kernel
theorem dX3_comeDrawn_24 : decode cX3_comeDrawn 24 = .ok (.iload_n 2, 1) := by decide +kernel
theorem dX3_comeDrawn_25 : decode cX3_comeDrawn 25 = .ok (.ldc 94, 2) := by decide +kernel
theorem dX3_comeDrawn_27 : decode cX3_comeDrawn 27 = .ok (.imul, 1) := by decide +kernel
theorem dX3_comeDrawn_28 : decode cX3_comeDrawn 28 = .ok (.sipush 12345, 3) := by decide +kernel
theorem dX3_comeDrawn_31 : decode cX3_comeDrawn 31 = .ok (.iadd, 1) := by decide +kernel
theorem dX3_comeDrawn_32 : decode cX3_comeDrawn 32 = .ok (.istore_n 2, 1) := by decide +kernel
theorem dX3_comeDrawn_33 : decode cX3_comeDrawn 33 = .ok (.aload_n 0, 1) := by decide +kernel
theorem dX3_comeDrawn_34 : decode cX3_comeDrawn 34 = .ok (.getfield 15, 3) := by decide +kernel
theorem dX3_comeDrawn_37 : decode cX3_comeDrawn 37 = .ok (.iload_n 3, 1) := by decide +kernel
theorem dX3_comeDrawn_38 : decode cX3_comeDrawn 38 = .ok (.aload_n 0, 1) := by decide +kernel
theorem dX3_comeDrawn_39 : decode cX3_comeDrawn 39 = .ok (.getfield 28, 3) := by decide +kernel
theorem dX3_comeDrawn_42 : decode cX3_comeDrawn 42 = .ok (.iconst 4, 1) := by decide +kernel
theorem dX3_comeDrawn_43 : decode cX3_comeDrawn 43 = .ok (.iload_n 3, 1) := by decide +kernel
theorem dX3_comeDrawn_44 : decode cX3_comeDrawn 44 = .ok (.invokevirtual 79, 3) := by decide +kernel
theorem dX3_comeDrawn_47 : decode cX3_comeDrawn 47 = .ok (.iastore, 1) := by decide +kernel
theorem dX3_comeDrawn_48 : decode cX3_comeDrawn 48 = .ok (.aload_n 0, 1) := by decide +kernel
theorem dX3_comeDrawn_49 : decode cX3_comeDrawn 49 = .ok (.getfield 28, 3) := by decide +kernel
theorem dX3_comeDrawn_52 : decode cX3_comeDrawn 52 = .ok (.iconst 4, 1) := by decide +kernel
theorem dX3_comeDrawn_53 : decode cX3_comeDrawn 53 = .ok (.iload_n 3, 1) := by decide +kernel
theorem dX3_comeDrawn_54 : decode cX3_comeDrawn 54 = .ok (.iload_n 2, 1) := by decide +kernel
theorem dX3_comeDrawn_55 : decode cX3_comeDrawn 55 = .ok (.bipush 9, 2) := by decide +kernel
theorem dX3_comeDrawn_57 : decode cX3_comeDrawn 57 = .ok (.iushr, 1) := by decide +kernel
theorem dX3_comeDrawn_58 : decode cX3_comeDrawn 58 = .ok (.bipush 8, 2) := by decide +kernel
theorem dX3_comeDrawn_60 : decode cX3_comeDrawn 60 = .ok (.irem, 1) := by decide +kernel
theorem dX3_comeDrawn_61 : decode cX3_comeDrawn 61 = .ok (.invokevirtual 83, 3) := by decide +kernel
theorem dX3_comeDrawn_64 : decode cX3_comeDrawn 64 = .ok (.iinc 3 1, 3) := by decide +kernel
theorem dX3_comeDrawn_67 : decode cX3_comeDrawn 67 = .ok (.goto (-63), 3) := by decide +kernel
theorem dX3_comeDrawn_70 : decode cX3_comeDrawn 70 = .ok (.aload_n 0, 1) := by decide +kernel
theorem dX3_comeDrawn_71 : decode cX3_comeDrawn 71 = .ok (.getfield 32, 3) := by decide +kernel
theorem dX3_comeDrawn_74 : decode cX3_comeDrawn 74 = .ok (.invokevirtual 95, 3) := by decide +kernel
theorem dX3_comeDrawn_77 : decode cX3_comeDrawn 77 = .ok (.iconst 0, 1) := by decide +kernel
theorem dX3_comeDrawn_78 : decode cX3_comeDrawn 78 = .ok (.istore_n 3, 1) := by decide +kernel
theorem dX3_comeDrawn_79 : decode cX3_comeDrawn 79 = .ok (.iload_n 3, 1) := by decide +kernel
theorem dX3_comeDrawn_80 : decode cX3_comeDrawn 80 = .ok (.aload_n 0, 1) := by decide +kernel
theorem dX3_comeDrawn_81 : decode cX3_comeDrawn 81 = .ok (.getfield 28, 3) := by decide +kernel
theorem dX3_comeDrawn_84 : decode cX3_comeDrawn 84 = .ok (.getfield 45, 3) := by decide +kernel
theorem dX3_comeDrawn_87 : decode cX3_comeDrawn 87 = .ok (.if_icmp .ge 33, 3) := by decide +kernel
theorem dX3_comeDrawn_90 : decode cX3_comeDrawn 90 = .ok (.iload_n 3, 1) := by decide +kernel
theorem dX3_comeDrawn_91 : decode cX3_comeDrawn 91 = .ok (.aload_n 0, 1) := by decide +kernel
theorem dX3_comeDrawn_92 : decode cX3_comeDrawn 92 = .ok (.getfield 15, 3) := by decide +kernel
theorem dX3_comeDrawn_95 : decode cX3_comeDrawn 95 = .ok (.arraylength, 1) := by decide +kernel
theorem dX3_comeDrawn_96 : decode cX3_comeDrawn 96 = .ok (.if_icmp .ge 24, 3) := by decide +kernel
theorem dX3_comeDrawn_99 : decode cX3_comeDrawn 99 = .ok (.aload_n 0, 1) := by decide +kernel
theorem dX3_comeDrawn_100 : decode cX3_comeDrawn 100 = .ok (.getfield 28, 3) := by decide +kernel
theorem dX3_comeDrawn_103 : decode cX3_comeDrawn 103 = .ok (.iconst 4, 1) := by decide +kernel
theorem dX3_comeDrawn_104 : decode cX3_comeDrawn 104 = .ok (.iload_n 3, 1) := by decide +kernel
theorem dX3_comeDrawn_105 : decode cX3_comeDrawn 105 = .ok (.aload_n 0, 1) := by decide +kernel
theorem dX3_comeDrawn_106 : decode cX3_comeDrawn 106 = .ok (.getfield 15, 3) := by decide +kernel
theorem dX3_comeDrawn_109 : decode cX3_comeDrawn 109 = .ok (.iload_n 3, 1) := by decide +kernel
theorem dX3_comeDrawn_110 : decode cX3_comeDrawn 110 = .ok (.iaload, 1) := by decide +kernel
theorem dX3_comeDrawn_111 : decode cX3_comeDrawn 111 = .ok (.invokevirtual 83, 3) := by decide +kernel
theorem dX3_comeDrawn_114 : decode cX3_comeDrawn 114 = .ok (.iinc 3 1, 3) := by decide +kernel
theorem dX3_comeDrawn_117 : decode cX3_comeDrawn 117 = .ok (.goto (-38), 3) := by decide +kernel
theorem dX3_comeDrawn_120 : decode cX3_comeDrawn 120 = .ok (.return_, 1) := by decide +kernel
theorem dX4_init_0 : decode cX4_init 0 = .ok (.aload_n 0, 1) := by decide +kernel
theorem dX4_init_1 : decode cX4_init 1 = .ok (.invokespecial 3, 3) := by decide +kernel
theorem dX4_init_4 : decode cX4_init 4 = .ok (.return_, 1) := by decide +kernel
theorem dX4_named_0 : decode cX4_named 0 = .ok (.iload_n 1, 1) := by decide +kernel
theorem dX4_named_1 : decode cX4_named 1 = .ok (.tableswitch 60 (-5) (-1) #[55, 50, 45, 40, 35], 35) := by decide +kernel
theorem dX4_named_36 : decode cX4_named 36 = .ok (.aload_n 0, 1) := by decide +kernel
theorem dX4_named_37 : decode cX4_named 37 = .ok (.getfield 9, 3) := by decide +kernel
theorem dX4_named_40 : decode cX4_named 40 = .ok (.ireturn, 1) := by decide +kernel
theorem dX4_named_41 : decode cX4_named 41 = .ok (.aload_n 0, 1) := by decide +kernel
theorem dX4_named_42 : decode cX4_named 42 = .ok (.getfield 15, 3) := by decide +kernel
theorem dX4_named_45 : decode cX4_named 45 = .ok (.ireturn, 1) := by decide +kernel
theorem dX4_named_46 : decode cX4_named 46 = .ok (.aload_n 0, 1) := by decide +kernel
theorem dX4_named_47 : decode cX4_named 47 = .ok (.getfield 18, 3) := by decide +kernel
theorem dX4_named_50 : decode cX4_named 50 = .ok (.ireturn, 1) := by decide +kernel
theorem dX4_named_51 : decode cX4_named 51 = .ok (.aload_n 0, 1) := by decide +kernel
theorem dX4_named_52 : decode cX4_named 52 = .ok (.getfield 21, 3) := by decide +kernel
theorem dX4_named_55 : decode cX4_named 55 = .ok (.ireturn, 1) := by decide +kernel
theorem dX4_named_56 : decode cX4_named 56 = .ok (.aload_n 0, 1) := by decide +kernel
theorem dX4_named_57 : decode cX4_named 57 = .ok (.getfield 24, 3) := by decide +kernel
theorem dX4_named_60 : decode cX4_named 60 = .ok (.ireturn, 1) := by decide +kernel
theorem dX4_named_61 : decode cX4_named 61 = .ok (.aload_n 0, 1) := by decide +kernel
theorem dX4_named_62 : decode cX4_named 62 = .ok (.getfield 27, 3) := by decide +kernel
theorem dX4_named_65 : decode cX4_named 65 = .ok (.ireturn, 1) := by decide +kernel
theorem dX4_warms_0 : decode cX4_warms 0 = .ok (.aload_n 0, 1) := by decide +kernel
theorem dX4_warms_1 : decode cX4_warms 1 = .ok (.getfield 30, 3) := by decide +kernel
theorem dX4_warms_4 : decode cX4_warms 4 = .ok (.ifCond .eq 7, 3) := by decide +kernel
theorem dX4_warms_7 : decode cX4_warms 7 = .ok (.iload_n 1, 1) := by decide +kernel
theorem dX4_warms_8 : decode cX4_warms 8 = .ok (.goto 5, 3) := by decide +kernel
theorem dX4_warms_11 : decode cX4_warms 11 = .ok (.iload_n 1, 1) := by decide +kernel
theorem dX4_warms_12 : decode cX4_warms 12 = .ok (.ineg, 1) := by decide +kernel
theorem dX4_warms_13 : decode cX4_warms 13 = .ok (.istore_n 2, 1) := by decide +kernel
theorem dX4_warms_14 : decode cX4_warms 14 = .ok (.aload_n 0, 1) := by decide +kernel
theorem dX4_warms_15 : decode cX4_warms 15 = .ok (.getfield 34, 3) := by decide +kernel
theorem dX4_warms_18 : decode cX4_warms 18 = .ok (.tableswitch 91 1 5 #[34, 38, 45, 63, 85], 34) := by decide +kernel
theorem dX4_warms_52 : decode cX4_warms 52 = .ok (.iconst 2, 1) := by decide +kernel
theorem dX4_warms_53 : decode cX4_warms 53 = .ok (.iload_n 2, 1) := by decide +kernel
theorem dX4_warms_54 : decode cX4_warms 54 = .ok (.imul, 1) := by decide +kernel
theorem dX4_warms_55 : decode cX4_warms 55 = .ok (.ireturn, 1) := by decide +kernel
theorem dX4_warms_56 : decode cX4_warms 56 = .ok (.iload_n 2, 1) := by decide +kernel
theorem dX4_warms_57 : decode cX4_warms 57 = .ok (.aload_n 0, 1) := by decide +kernel
theorem dX4_warms_58 : decode cX4_warms 58 = .ok (.getfield 21, 3) := by decide +kernel
theorem dX4_warms_61 : decode cX4_warms 61 = .ok (.iadd, 1) := by decide +kernel
theorem dX4_warms_62 : decode cX4_warms 62 = .ok (.ireturn, 1) := by decide +kernel
theorem dX4_warms_63 : decode cX4_warms 63 = .ok (.aload_n 0, 1) := by decide +kernel
theorem dX4_warms_64 : decode cX4_warms 64 = .ok (.invokevirtual 37, 3) := by decide +kernel
theorem dX4_warms_67 : decode cX4_warms 67 = .ok (.ifCond .eq 10, 3) := by decide +kernel
theorem dX4_warms_70 : decode cX4_warms 70 = .ok (.bipush (-2), 2) := by decide +kernel
theorem dX4_warms_72 : decode cX4_warms 72 = .ok (.iload_n 2, 1) := by decide +kernel
theorem dX4_warms_73 : decode cX4_warms 73 = .ok (.imul, 1) := by decide +kernel
theorem dX4_warms_74 : decode cX4_warms 74 = .ok (.goto 6, 3) := by decide +kernel
theorem dX4_warms_77 : decode cX4_warms 77 = .ok (.iconst 2, 1) := by decide +kernel
theorem dX4_warms_78 : decode cX4_warms 78 = .ok (.iload_n 2, 1) := by decide +kernel
theorem dX4_warms_79 : decode cX4_warms 79 = .ok (.imul, 1) := by decide +kernel
theorem dX4_warms_80 : decode cX4_warms 80 = .ok (.ireturn, 1) := by decide +kernel
theorem dX4_warms_81 : decode cX4_warms 81 = .ok (.iload_n 2, 1) := by decide +kernel
theorem dX4_warms_82 : decode cX4_warms 82 = .ok (.aload_n 0, 1) := by decide +kernel
theorem dX4_warms_83 : decode cX4_warms 83 = .ok (.getfield 21, 3) := by decide +kernel
theorem dX4_warms_86 : decode cX4_warms 86 = .ok (.iadd, 1) := by decide +kernel
theorem dX4_warms_87 : decode cX4_warms 87 = .ok (.iconst 2, 1) := by decide +kernel
theorem dX4_warms_88 : decode cX4_warms 88 = .ok (.idiv, 1) := by decide +kernel
theorem dX4_warms_89 : decode cX4_warms 89 = .ok (.aload_n 0, 1) := by decide +kernel
theorem dX4_warms_90 : decode cX4_warms 90 = .ok (.getfield 41, 3) := by decide +kernel
theorem dX4_warms_93 : decode cX4_warms 93 = .ok (.ifCond .eq 7, 3) := by decide +kernel
theorem dX4_warms_96 : decode cX4_warms 96 = .ok (.iconst 5, 1) := by decide +kernel
theorem dX4_warms_97 : decode cX4_warms 97 = .ok (.goto 4, 3) := by decide +kernel
theorem dX4_warms_100 : decode cX4_warms 100 = .ok (.iconst 0, 1) := by decide +kernel
theorem dX4_warms_101 : decode cX4_warms 101 = .ok (.isub, 1) := by decide +kernel
theorem dX4_warms_102 : decode cX4_warms 102 = .ok (.ireturn, 1) := by decide +kernel
theorem dX4_warms_103 : decode cX4_warms 103 = .ok (.iconst 3, 1) := by decide +kernel
theorem dX4_warms_104 : decode cX4_warms 104 = .ok (.iload_n 2, 1) := by decide +kernel
theorem dX4_warms_105 : decode cX4_warms 105 = .ok (.invokestatic 44, 3) := by decide +kernel
theorem dX4_warms_108 : decode cX4_warms 108 = .ok (.ireturn, 1) := by decide +kernel
theorem dX4_warms_109 : decode cX4_warms 109 = .ok (.iload_n 2, 1) := by decide +kernel
theorem dX4_warms_110 : decode cX4_warms 110 = .ok (.ireturn, 1) := by decide +kernel
theorem dX4_cools_0 : decode cX4_cools 0 = .ok (.aload_n 0, 1) := by decide +kernel
theorem dX4_cools_1 : decode cX4_cools 1 = .ok (.getfield 34, 3) := by decide +kernel
theorem dX4_cools_4 : decode cX4_cools 4 = .ok (.tableswitch 64 2 5 #[32, 40, 32, 62], 32) := by decide +kernel
theorem dX4_cools_36 : decode cX4_cools 36 = .ok (.iconst 0, 1) := by decide +kernel
theorem dX4_cools_37 : decode cX4_cools 37 = .ok (.iload_n 1, 1) := by decide +kernel
theorem dX4_cools_38 : decode cX4_cools 38 = .ok (.iconst 2, 1) := by decide +kernel
theorem dX4_cools_39 : decode cX4_cools 39 = .ok (.isub, 1) := by decide +kernel
theorem dX4_cools_40 : decode cX4_cools 40 = .ok (.invokestatic 44, 3) := by decide +kernel
theorem dX4_cools_43 : decode cX4_cools 43 = .ok (.ireturn, 1) := by decide +kernel
theorem dX4_cools_44 : decode cX4_cools 44 = .ok (.iconst 0, 1) := by decide +kernel
theorem dX4_cools_45 : decode cX4_cools 45 = .ok (.aload_n 0, 1) := by decide +kernel
theorem dX4_cools_46 : decode cX4_cools 46 = .ok (.invokevirtual 37, 3) := by decide +kernel
theorem dX4_cools_49 : decode cX4_cools 49 = .ok (.ifCond .eq 12, 3) := by decide +kernel
theorem dX4_cools_52 : decode cX4_cools 52 = .ok (.iload_n 1, 1) := by decide +kernel
theorem dX4_cools_53 : decode cX4_cools 53 = .ok (.aload_n 0, 1) := by decide +kernel
theorem dX4_cools_54 : decode cX4_cools 54 = .ok (.getfield 21, 3) := by decide +kernel
theorem dX4_cools_57 : decode cX4_cools 57 = .ok (.iadd, 1) := by decide +kernel
theorem dX4_cools_58 : decode cX4_cools 58 = .ok (.goto 4, 3) := by decide +kernel
theorem dX4_cools_61 : decode cX4_cools 61 = .ok (.iload_n 1, 1) := by decide +kernel
theorem dX4_cools_62 : decode cX4_cools 62 = .ok (.invokestatic 44, 3) := by decide +kernel
theorem dX4_cools_65 : decode cX4_cools 65 = .ok (.ireturn, 1) := by decide +kernel
theorem dX4_cools_66 : decode cX4_cools 66 = .ok (.iconst 0, 1) := by decide +kernel
theorem dX4_cools_67 : decode cX4_cools 67 = .ok (.ireturn, 1) := by decide +kernel
theorem dX4_cools_68 : decode cX4_cools 68 = .ok (.iconst 0, 1) := by decide +kernel
theorem dX4_cools_69 : decode cX4_cools 69 = .ok (.iload_n 1, 1) := by decide +kernel
theorem dX4_cools_70 : decode cX4_cools 70 = .ok (.invokestatic 44, 3) := by decide +kernel
theorem dX4_cools_73 : decode cX4_cools 73 = .ok (.ireturn, 1) := by decide +kernel
theorem dX4_isAgain_0 : decode cX4_isAgain 0 = .ok (.aload_n 0, 1) := by decide +kernel
theorem dX4_isAgain_1 : decode cX4_isAgain 1 = .ok (.getfield 15, 3) := by decide +kernel
theorem dX4_isAgain_4 : decode cX4_isAgain 4 = .ok (.aload_n 0, 1) := by decide +kernel
theorem dX4_isAgain_5 : decode cX4_isAgain 5 = .ok (.getfield 9, 3) := by decide +kernel
theorem dX4_isAgain_8 : decode cX4_isAgain 8 = .ok (.if_icmp .ne 7, 3) := by decide +kernel
theorem dX4_isAgain_11 : decode cX4_isAgain 11 = .ok (.iconst 1, 1) := by decide +kernel
theorem dX4_isAgain_12 : decode cX4_isAgain 12 = .ok (.goto 4, 3) := by decide +kernel
theorem dX4_isAgain_15 : decode cX4_isAgain 15 = .ok (.iconst 0, 1) := by decide +kernel
theorem dX4_isAgain_16 : decode cX4_isAgain 16 = .ok (.ireturn, 1) := by decide +kernel
theorem dX5_init_0 : decode cX5_init 0 = .ok (.aload_n 0, 1) := by decide +kernel
theorem dX5_init_1 : decode cX5_init 1 = .ok (.invokespecial 3, 3) := by decide +kernel
theorem dX5_init_4 : decode cX5_init 4 = .ok (.aload_n 0, 1) := by decide +kernel
theorem dX5_init_5 : decode cX5_init 5 = .ok (.bipush 20, 2) := by decide +kernel
theorem dX5_init_7 : decode cX5_init 7 = .ok (.putfield 9, 3) := by decide +kernel
theorem dX5_init_10 : decode cX5_init 10 = .ok (.aload_n 0, 1) := by decide +kernel
theorem dX5_init_11 : decode cX5_init 11 = .ok (.bipush 70, 2) := by decide +kernel
theorem dX5_init_13 : decode cX5_init 13 = .ok (.putfield 15, 3) := by decide +kernel
theorem dX5_init_16 : decode cX5_init 16 = .ok (.aload_n 0, 1) := by decide +kernel
theorem dX5_init_17 : decode cX5_init 17 = .ok (.iconst 0, 1) := by decide +kernel
theorem dX5_init_18 : decode cX5_init 18 = .ok (.putfield 18, 3) := by decide +kernel
theorem dX5_init_21 : decode cX5_init 21 = .ok (.aload_n 0, 1) := by decide +kernel
theorem dX5_init_22 : decode cX5_init 22 = .ok (.iconst 0, 1) := by decide +kernel
theorem dX5_init_23 : decode cX5_init 23 = .ok (.putfield 21, 3) := by decide +kernel
theorem dX5_init_26 : decode cX5_init 26 = .ok (.aload_n 0, 1) := by decide +kernel
theorem dX5_init_27 : decode cX5_init 27 = .ok (.iconst 0, 1) := by decide +kernel
theorem dX5_init_28 : decode cX5_init 28 = .ok (.putfield 24, 3) := by decide +kernel
theorem dX5_init_31 : decode cX5_init 31 = .ok (.aload_n 0, 1) := by decide +kernel
theorem dX5_init_32 : decode cX5_init 32 = .ok (.iconst 0, 1) := by decide +kernel
theorem dX5_init_33 : decode cX5_init 33 = .ok (.putfield 27, 3) := by decide +kernel
theorem dX5_init_36 : decode cX5_init 36 = .ok (.aload_n 0, 1) := by decide +kernel
theorem dX5_init_37 : decode cX5_init 37 = .ok (.iconst 5, 1) := by decide +kernel
theorem dX5_init_38 : decode cX5_init 38 = .ok (.newarray .int, 2) := by decide +kernel
theorem dX5_init_40 : decode cX5_init 40 = .ok (.putfield 30, 3) := by decide +kernel
theorem dX5_init_43 : decode cX5_init 43 = .ok (.aload_n 0, 1) := by decide +kernel
theorem dX5_init_44 : decode cX5_init 44 = .ok (.iconst 5, 1) := by decide +kernel
theorem dX5_init_45 : decode cX5_init 45 = .ok (.newarray .int, 2) := by decide +kernel
theorem dX5_init_47 : decode cX5_init 47 = .ok (.putfield 34, 3) := by decide +kernel
theorem dX5_init_50 : decode cX5_init 50 = .ok (.aload_n 0, 1) := by decide +kernel
theorem dX5_init_51 : decode cX5_init 51 = .ok (.iconst 5, 1) := by decide +kernel
theorem dX5_init_52 : decode cX5_init 52 = .ok (.newarray .int, 2) := by decide +kernel
theorem dX5_init_54 : decode cX5_init 54 = .ok (.putfield 37, 3) := by decide +kernel
theorem dX5_init_57 : decode cX5_init 57 = .ok (.aload_n 0, 1) := by decide +kernel
theorem dX5_init_58 : decode cX5_init 58 = .ok (.iconst 5, 1) := by decide +kernel
theorem dX5_init_59 : decode cX5_init 59 = .ok (.newarray .int, 2) := by decide +kernel
theorem dX5_init_61 : decode cX5_init 61 = .ok (.putfield 40, 3) := by decide +kernel
theorem dX5_init_64 : decode cX5_init 64 = .ok (.return_, 1) := by decide +kernel
theorem dX5_has_0 : decode cX5_has 0 = .ok (.iload_n 1, 1) := by decide +kernel
theorem dX5_has_1 : decode cX5_has 1 = .ok (.ifCond .lt 20, 3) := by decide +kernel
theorem dX5_has_4 : decode cX5_has 4 = .ok (.iload_n 1, 1) := by decide +kernel
theorem dX5_has_5 : decode cX5_has 5 = .ok (.aload_n 0, 1) := by decide +kernel
theorem dX5_has_6 : decode cX5_has 6 = .ok (.getfield 27, 3) := by decide +kernel
theorem dX5_has_9 : decode cX5_has 9 = .ok (.if_icmp .ge 12, 3) := by decide +kernel
theorem dX5_has_12 : decode cX5_has 12 = .ok (.iload_n 1, 1) := by decide +kernel
theorem dX5_has_13 : decode cX5_has 13 = .ok (.iconst 5, 1) := by decide +kernel
theorem dX5_has_14 : decode cX5_has 14 = .ok (.if_icmp .ge 7, 3) := by decide +kernel
theorem dX5_has_17 : decode cX5_has 17 = .ok (.iconst 1, 1) := by decide +kernel
theorem dX5_has_18 : decode cX5_has 18 = .ok (.goto 4, 3) := by decide +kernel
theorem dX5_has_21 : decode cX5_has 21 = .ok (.iconst 0, 1) := by decide +kernel
theorem dX5_has_22 : decode cX5_has 22 = .ok (.ireturn, 1) := by decide +kernel
theorem dX5_welcome_0 : decode cX5_welcome 0 = .ok (.aload_n 0, 1) := by decide +kernel
theorem dX5_welcome_1 : decode cX5_welcome 1 = .ok (.getfield 27, 3) := by decide +kernel
theorem dX5_welcome_4 : decode cX5_welcome 4 = .ok (.istore 4, 2) := by decide +kernel
theorem dX5_welcome_6 : decode cX5_welcome 6 = .ok (.iload 4, 2) := by decide +kernel
theorem dX5_welcome_8 : decode cX5_welcome 8 = .ok (.ifCond .lt 9, 3) := by decide +kernel
theorem dX5_welcome_11 : decode cX5_welcome 11 = .ok (.iload 4, 2) := by decide +kernel
theorem dX5_welcome_13 : decode cX5_welcome 13 = .ok (.iconst 5, 1) := by decide +kernel
theorem dX5_welcome_14 : decode cX5_welcome 14 = .ok (.if_icmp .lt 6, 3) := by decide +kernel
theorem dX5_welcome_17 : decode cX5_welcome 17 = .ok (.bipush (-4), 2) := by decide +kernel
theorem dX5_welcome_19 : decode cX5_welcome 19 = .ok (.ireturn, 1) := by decide +kernel
theorem dX5_welcome_20 : decode cX5_welcome 20 = .ok (.aload_n 0, 1) := by decide +kernel
theorem dX5_welcome_21 : decode cX5_welcome 21 = .ok (.getfield 30, 3) := by decide +kernel
theorem dX5_welcome_24 : decode cX5_welcome 24 = .ok (.iload 4, 2) := by decide +kernel
theorem dX5_welcome_26 : decode cX5_welcome 26 = .ok (.iload_n 1, 1) := by decide +kernel
theorem dX5_welcome_27 : decode cX5_welcome 27 = .ok (.iastore, 1) := by decide +kernel
theorem dX5_welcome_28 : decode cX5_welcome 28 = .ok (.aload_n 0, 1) := by decide +kernel
theorem dX5_welcome_29 : decode cX5_welcome 29 = .ok (.getfield 34, 3) := by decide +kernel
theorem dX5_welcome_32 : decode cX5_welcome 32 = .ok (.iload 4, 2) := by decide +kernel
theorem dX5_welcome_34 : decode cX5_welcome 34 = .ok (.iload_n 2, 1) := by decide +kernel
theorem dX5_welcome_35 : decode cX5_welcome 35 = .ok (.iastore, 1) := by decide +kernel
theorem dX5_welcome_36 : decode cX5_welcome 36 = .ok (.aload_n 0, 1) := by decide +kernel
theorem dX5_welcome_37 : decode cX5_welcome 37 = .ok (.getfield 37, 3) := by decide +kernel
theorem dX5_welcome_40 : decode cX5_welcome 40 = .ok (.iload 4, 2) := by decide +kernel
theorem dX5_welcome_42 : decode cX5_welcome 42 = .ok (.iload_n 3, 1) := by decide +kernel
theorem dX5_welcome_43 : decode cX5_welcome 43 = .ok (.iastore, 1) := by decide +kernel
theorem dX5_welcome_44 : decode cX5_welcome 44 = .ok (.aload_n 0, 1) := by decide +kernel
theorem dX5_welcome_45 : decode cX5_welcome 45 = .ok (.getfield 40, 3) := by decide +kernel
theorem dX5_welcome_48 : decode cX5_welcome 48 = .ok (.iload 4, 2) := by decide +kernel
theorem dX5_welcome_50 : decode cX5_welcome 50 = .ok (.iconst 1, 1) := by decide +kernel
theorem dX5_welcome_51 : decode cX5_welcome 51 = .ok (.iastore, 1) := by decide +kernel
theorem dX5_welcome_52 : decode cX5_welcome 52 = .ok (.aload_n 0, 1) := by decide +kernel
theorem dX5_welcome_53 : decode cX5_welcome 53 = .ok (.dup, 1) := by decide +kernel
theorem dX5_welcome_54 : decode cX5_welcome 54 = .ok (.getfield 27, 3) := by decide +kernel
theorem dX5_welcome_57 : decode cX5_welcome 57 = .ok (.iconst 1, 1) := by decide +kernel
theorem dX5_welcome_58 : decode cX5_welcome 58 = .ok (.iadd, 1) := by decide +kernel
theorem dX5_welcome_59 : decode cX5_welcome 59 = .ok (.putfield 27, 3) := by decide +kernel
theorem dX5_welcome_62 : decode cX5_welcome 62 = .ok (.iload 4, 2) := by decide +kernel
theorem dX5_welcome_64 : decode cX5_welcome 64 = .ok (.ireturn, 1) := by decide +kernel
theorem dX5_value_0 : decode cX5_value 0 = .ok (.iload_n 1, 1) := by decide +kernel
theorem dX5_value_1 : decode cX5_value 1 = .ok (.tableswitch 42 0 2 #[27, 32, 37], 27) := by decide +kernel
theorem dX5_value_28 : decode cX5_value 28 = .ok (.aload_n 0, 1) := by decide +kernel
theorem dX5_value_29 : decode cX5_value 29 = .ok (.getfield 9, 3) := by decide +kernel
theorem dX5_value_32 : decode cX5_value 32 = .ok (.ireturn, 1) := by decide +kernel
theorem dX5_value_33 : decode cX5_value 33 = .ok (.aload_n 0, 1) := by decide +kernel
theorem dX5_value_34 : decode cX5_value 34 = .ok (.getfield 15, 3) := by decide +kernel
theorem dX5_value_37 : decode cX5_value 37 = .ok (.ireturn, 1) := by decide +kernel
theorem dX5_value_38 : decode cX5_value 38 = .ok (.aload_n 0, 1) := by decide +kernel
theorem dX5_value_39 : decode cX5_value 39 = .ok (.getfield 18, 3) := by decide +kernel
theorem dX5_value_42 : decode cX5_value 42 = .ok (.ireturn, 1) := by decide +kernel
theorem dX5_value_43 : decode cX5_value 43 = .ok (.aload_n 0, 1) := by decide +kernel
theorem dX5_value_44 : decode cX5_value 44 = .ok (.iload_n 1, 1) := by decide +kernel
theorem dX5_value_45 : decode cX5_value 45 = .ok (.invokevirtual 43, 3) := by decide +kernel
theorem dX5_value_48 : decode cX5_value 48 = .ok (.astore_n 3, 1) := by decide +kernel
theorem dX5_value_49 : decode cX5_value 49 = .ok (.iload_n 2, 1) := by decide +kernel
theorem dX5_value_50 : decode cX5_value 50 = .ok (.ifCond .lt 15, 3) := by decide +kernel
theorem dX5_value_53 : decode cX5_value 53 = .ok (.iload_n 2, 1) := by decide +kernel
theorem dX5_value_54 : decode cX5_value 54 = .ok (.aload_n 3, 1) := by decide +kernel
theorem dX5_value_55 : decode cX5_value 55 = .ok (.arraylength, 1) := by decide +kernel
theorem dX5_value_56 : decode cX5_value 56 = .ok (.if_icmp .ge 9, 3) := by decide +kernel
theorem dX5_value_59 : decode cX5_value 59 = .ok (.aload_n 3, 1) := by decide +kernel
theorem dX5_value_60 : decode cX5_value 60 = .ok (.iload_n 2, 1) := by decide +kernel
theorem dX5_value_61 : decode cX5_value 61 = .ok (.iaload, 1) := by decide +kernel
theorem dX5_value_62 : decode cX5_value 62 = .ok (.goto 4, 3) := by decide +kernel
theorem dX5_value_65 : decode cX5_value 65 = .ok (.iconst (-1), 1) := by decide +kernel
theorem dX5_value_66 : decode cX5_value 66 = .ok (.ireturn, 1) := by decide +kernel
theorem dX5_change_0 : decode cX5_change 0 = .ok (.iload_n 1, 1) := by decide +kernel
theorem dX5_change_1 : decode cX5_change 1 = .ok (.tableswitch 51 0 2 #[27, 35, 43], 27) := by decide +kernel
theorem dX5_change_28 : decode cX5_change 28 = .ok (.aload_n 0, 1) := by decide +kernel
theorem dX5_change_29 : decode cX5_change 29 = .ok (.iload_n 3, 1) := by decide +kernel
theorem dX5_change_30 : decode cX5_change 30 = .ok (.putfield 9, 3) := by decide +kernel
theorem dX5_change_33 : decode cX5_change 33 = .ok (.goto 42, 3) := by decide +kernel
theorem dX5_change_36 : decode cX5_change 36 = .ok (.aload_n 0, 1) := by decide +kernel
theorem dX5_change_37 : decode cX5_change 37 = .ok (.iload_n 3, 1) := by decide +kernel
theorem dX5_change_38 : decode cX5_change 38 = .ok (.putfield 15, 3) := by decide +kernel
theorem dX5_change_41 : decode cX5_change 41 = .ok (.goto 34, 3) := by decide +kernel
theorem dX5_change_44 : decode cX5_change 44 = .ok (.aload_n 0, 1) := by decide +kernel
theorem dX5_change_45 : decode cX5_change 45 = .ok (.iload_n 3, 1) := by decide +kernel
theorem dX5_change_46 : decode cX5_change 46 = .ok (.putfield 18, 3) := by decide +kernel
theorem dX5_change_49 : decode cX5_change 49 = .ok (.goto 26, 3) := by decide +kernel
theorem dX5_change_52 : decode cX5_change 52 = .ok (.aload_n 0, 1) := by decide +kernel
theorem dX5_change_53 : decode cX5_change 53 = .ok (.iload_n 1, 1) := by decide +kernel
theorem dX5_change_54 : decode cX5_change 54 = .ok (.invokevirtual 43, 3) := by decide +kernel
theorem dX5_change_57 : decode cX5_change 57 = .ok (.astore 4, 2) := by decide +kernel
theorem dX5_change_59 : decode cX5_change 59 = .ok (.iload_n 2, 1) := by decide +kernel
theorem dX5_change_60 : decode cX5_change 60 = .ok (.ifCond .lt 15, 3) := by decide +kernel
theorem dX5_change_63 : decode cX5_change 63 = .ok (.iload_n 2, 1) := by decide +kernel
theorem dX5_change_64 : decode cX5_change 64 = .ok (.aload 4, 2) := by decide +kernel
theorem dX5_change_66 : decode cX5_change 66 = .ok (.arraylength, 1) := by decide +kernel
theorem dX5_change_67 : decode cX5_change 67 = .ok (.if_icmp .ge 8, 3) := by decide +kernel
theorem dX5_change_70 : decode cX5_change 70 = .ok (.aload 4, 2) := by decide +kernel
theorem dX5_change_72 : decode cX5_change 72 = .ok (.iload_n 2, 1) := by decide +kernel
theorem dX5_change_73 : decode cX5_change 73 = .ok (.iload_n 3, 1) := by decide +kernel
theorem dX5_change_74 : decode cX5_change 74 = .ok (.iastore, 1) := by decide +kernel
theorem dX5_change_75 : decode cX5_change 75 = .ok (.return_, 1) := by decide +kernel
theorem dX5_rowOf_0 : decode cX5_rowOf 0 = .ok (.iload_n 1, 1) := by decide +kernel
theorem dX5_rowOf_1 : decode cX5_rowOf 1 = .ok (.tableswitch 42 3 5 #[27, 32, 37], 27) := by decide +kernel
theorem dX5_rowOf_28 : decode cX5_rowOf 28 = .ok (.aload_n 0, 1) := by decide +kernel
theorem dX5_rowOf_29 : decode cX5_rowOf 29 = .ok (.getfield 34, 3) := by decide +kernel
theorem dX5_rowOf_32 : decode cX5_rowOf 32 = .ok (.areturn, 1) := by decide +kernel
theorem dX5_rowOf_33 : decode cX5_rowOf 33 = .ok (.aload_n 0, 1) := by decide +kernel
theorem dX5_rowOf_34 : decode cX5_rowOf 34 = .ok (.getfield 37, 3) := by decide +kernel
theorem dX5_rowOf_37 : decode cX5_rowOf 37 = .ok (.areturn, 1) := by decide +kernel
theorem dX5_rowOf_38 : decode cX5_rowOf 38 = .ok (.aload_n 0, 1) := by decide +kernel
theorem dX5_rowOf_39 : decode cX5_rowOf 39 = .ok (.getfield 40, 3) := by decide +kernel
theorem dX5_rowOf_42 : decode cX5_rowOf 42 = .ok (.areturn, 1) := by decide +kernel
theorem dX5_rowOf_43 : decode cX5_rowOf 43 = .ok (.aload_n 0, 1) := by decide +kernel
theorem dX5_rowOf_44 : decode cX5_rowOf 44 = .ok (.getfield 30, 3) := by decide +kernel
theorem dX5_rowOf_47 : decode cX5_rowOf 47 = .ok (.areturn, 1) := by decide +kernel
theorem dX5_likedGuests_0 : decode cX5_likedGuests 0 = .ok (.iconst 0, 1) := by decide +kernel
theorem dX5_likedGuests_1 : decode cX5_likedGuests 1 = .ok (.istore_n 1, 1) := by decide +kernel
theorem dX5_likedGuests_2 : decode cX5_likedGuests 2 = .ok (.iconst 0, 1) := by decide +kernel
theorem dX5_likedGuests_3 : decode cX5_likedGuests 3 = .ok (.istore_n 2, 1) := by decide +kernel
theorem dX5_likedGuests_4 : decode cX5_likedGuests 4 = .ok (.iload_n 2, 1) := by decide +kernel
theorem dX5_likedGuests_5 : decode cX5_likedGuests 5 = .ok (.aload_n 0, 1) := by decide +kernel
theorem dX5_likedGuests_6 : decode cX5_likedGuests 6 = .ok (.getfield 27, 3) := by decide +kernel
theorem dX5_likedGuests_9 : decode cX5_likedGuests 9 = .ok (.if_icmp .ge 27, 3) := by decide +kernel
theorem dX5_likedGuests_12 : decode cX5_likedGuests 12 = .ok (.iload_n 2, 1) := by decide +kernel
theorem dX5_likedGuests_13 : decode cX5_likedGuests 13 = .ok (.aload_n 0, 1) := by decide +kernel
theorem dX5_likedGuests_14 : decode cX5_likedGuests 14 = .ok (.getfield 40, 3) := by decide +kernel
theorem dX5_likedGuests_17 : decode cX5_likedGuests 17 = .ok (.arraylength, 1) := by decide +kernel
theorem dX5_likedGuests_18 : decode cX5_likedGuests 18 = .ok (.if_icmp .ge 18, 3) := by decide +kernel
theorem dX5_likedGuests_21 : decode cX5_likedGuests 21 = .ok (.iload_n 1, 1) := by decide +kernel
theorem dX5_likedGuests_22 : decode cX5_likedGuests 22 = .ok (.aload_n 0, 1) := by decide +kernel
theorem dX5_likedGuests_23 : decode cX5_likedGuests 23 = .ok (.getfield 40, 3) := by decide +kernel
theorem dX5_likedGuests_26 : decode cX5_likedGuests 26 = .ok (.iload_n 2, 1) := by decide +kernel
theorem dX5_likedGuests_27 : decode cX5_likedGuests 27 = .ok (.iaload, 1) := by decide +kernel
theorem dX5_likedGuests_28 : decode cX5_likedGuests 28 = .ok (.iadd, 1) := by decide +kernel
theorem dX5_likedGuests_29 : decode cX5_likedGuests 29 = .ok (.istore_n 1, 1) := by decide +kernel
theorem dX5_likedGuests_30 : decode cX5_likedGuests 30 = .ok (.iinc 2 1, 3) := by decide +kernel
theorem dX5_likedGuests_33 : decode cX5_likedGuests 33 = .ok (.goto (-29), 3) := by decide +kernel
theorem dX5_likedGuests_36 : decode cX5_likedGuests 36 = .ok (.iload_n 1, 1) := by decide +kernel
theorem dX5_likedGuests_37 : decode cX5_likedGuests 37 = .ok (.ireturn, 1) := by decide +kernel
theorem dX5_becomeAs_0 : decode cX5_becomeAs 0 = .ok (.aload_n 0, 1) := by decide +kernel
theorem dX5_becomeAs_1 : decode cX5_becomeAs 1 = .ok (.aload_n 1, 1) := by decide +kernel
theorem dX5_becomeAs_2 : decode cX5_becomeAs 2 = .ok (.getfield 9, 3) := by decide +kernel
theorem dX5_becomeAs_5 : decode cX5_becomeAs 5 = .ok (.putfield 9, 3) := by decide +kernel
theorem dX5_becomeAs_8 : decode cX5_becomeAs 8 = .ok (.aload_n 0, 1) := by decide +kernel
theorem dX5_becomeAs_9 : decode cX5_becomeAs 9 = .ok (.aload_n 1, 1) := by decide +kernel
theorem dX5_becomeAs_10 : decode cX5_becomeAs 10 = .ok (.getfield 15, 3) := by decide +kernel
theorem dX5_becomeAs_13 : decode cX5_becomeAs 13 = .ok (.putfield 15, 3) := by decide +kernel
theorem dX5_becomeAs_16 : decode cX5_becomeAs 16 = .ok (.aload_n 0, 1) := by decide +kernel
theorem dX5_becomeAs_17 : decode cX5_becomeAs 17 = .ok (.aload_n 1, 1) := by decide +kernel
theorem dX5_becomeAs_18 : decode cX5_becomeAs 18 = .ok (.getfield 18, 3) := by decide +kernel
theorem dX5_becomeAs_21 : decode cX5_becomeAs 21 = .ok (.putfield 18, 3) := by decide +kernel
theorem dX5_becomeAs_24 : decode cX5_becomeAs 24 = .ok (.aload_n 0, 1) := by decide +kernel
theorem dX5_becomeAs_25 : decode cX5_becomeAs 25 = .ok (.aload_n 1, 1) := by decide +kernel
theorem dX5_becomeAs_26 : decode cX5_becomeAs 26 = .ok (.getfield 21, 3) := by decide +kernel
theorem dX5_becomeAs_29 : decode cX5_becomeAs 29 = .ok (.putfield 21, 3) := by decide +kernel
theorem dX5_becomeAs_32 : decode cX5_becomeAs 32 = .ok (.aload_n 0, 1) := by decide +kernel
theorem dX5_becomeAs_33 : decode cX5_becomeAs 33 = .ok (.aload_n 1, 1) := by decide +kernel
theorem dX5_becomeAs_34 : decode cX5_becomeAs 34 = .ok (.getfield 24, 3) := by decide +kernel
theorem dX5_becomeAs_37 : decode cX5_becomeAs 37 = .ok (.putfield 24, 3) := by decide +kernel
theorem dX5_becomeAs_40 : decode cX5_becomeAs 40 = .ok (.aload_n 0, 1) := by decide +kernel
theorem dX5_becomeAs_41 : decode cX5_becomeAs 41 = .ok (.aload_n 1, 1) := by decide +kernel
theorem dX5_becomeAs_42 : decode cX5_becomeAs 42 = .ok (.getfield 27, 3) := by decide +kernel
theorem dX5_becomeAs_45 : decode cX5_becomeAs 45 = .ok (.putfield 27, 3) := by decide +kernel
theorem dX5_becomeAs_48 : decode cX5_becomeAs 48 = .ok (.aload_n 1, 1) := by decide +kernel
theorem dX5_becomeAs_49 : decode cX5_becomeAs 49 = .ok (.getfield 30, 3) := by decide +kernel
theorem dX5_becomeAs_52 : decode cX5_becomeAs 52 = .ok (.iconst 0, 1) := by decide +kernel
theorem dX5_becomeAs_53 : decode cX5_becomeAs 53 = .ok (.aload_n 0, 1) := by decide +kernel
theorem dX5_becomeAs_54 : decode cX5_becomeAs 54 = .ok (.getfield 30, 3) := by decide +kernel
theorem dX5_becomeAs_57 : decode cX5_becomeAs 57 = .ok (.iconst 0, 1) := by decide +kernel
theorem dX5_becomeAs_58 : decode cX5_becomeAs 58 = .ok (.iconst 5, 1) := by decide +kernel
theorem dX5_becomeAs_59 : decode cX5_becomeAs 59 = .ok (.invokestatic 47, 3) := by decide +kernel
theorem dX5_becomeAs_62 : decode cX5_becomeAs 62 = .ok (.aload_n 1, 1) := by decide +kernel
theorem dX5_becomeAs_63 : decode cX5_becomeAs 63 = .ok (.getfield 34, 3) := by decide +kernel
theorem dX5_becomeAs_66 : decode cX5_becomeAs 66 = .ok (.iconst 0, 1) := by decide +kernel
theorem dX5_becomeAs_67 : decode cX5_becomeAs 67 = .ok (.aload_n 0, 1) := by decide +kernel
theorem dX5_becomeAs_68 : decode cX5_becomeAs 68 = .ok (.getfield 34, 3) := by decide +kernel
theorem dX5_becomeAs_71 : decode cX5_becomeAs 71 = .ok (.iconst 0, 1) := by decide +kernel
theorem dX5_becomeAs_72 : decode cX5_becomeAs 72 = .ok (.iconst 5, 1) := by decide +kernel
theorem dX5_becomeAs_73 : decode cX5_becomeAs 73 = .ok (.invokestatic 47, 3) := by decide +kernel
theorem dX5_becomeAs_76 : decode cX5_becomeAs 76 = .ok (.aload_n 1, 1) := by decide +kernel
theorem dX5_becomeAs_77 : decode cX5_becomeAs 77 = .ok (.getfield 37, 3) := by decide +kernel
theorem dX5_becomeAs_80 : decode cX5_becomeAs 80 = .ok (.iconst 0, 1) := by decide +kernel
theorem dX5_becomeAs_81 : decode cX5_becomeAs 81 = .ok (.aload_n 0, 1) := by decide +kernel
theorem dX5_becomeAs_82 : decode cX5_becomeAs 82 = .ok (.getfield 37, 3) := by decide +kernel
theorem dX5_becomeAs_85 : decode cX5_becomeAs 85 = .ok (.iconst 0, 1) := by decide +kernel
theorem dX5_becomeAs_86 : decode cX5_becomeAs 86 = .ok (.iconst 5, 1) := by decide +kernel
theorem dX5_becomeAs_87 : decode cX5_becomeAs 87 = .ok (.invokestatic 47, 3) := by decide +kernel
theorem dX5_becomeAs_90 : decode cX5_becomeAs 90 = .ok (.aload_n 1, 1) := by decide +kernel
theorem dX5_becomeAs_91 : decode cX5_becomeAs 91 = .ok (.getfield 40, 3) := by decide +kernel
theorem dX5_becomeAs_94 : decode cX5_becomeAs 94 = .ok (.iconst 0, 1) := by decide +kernel
theorem dX5_becomeAs_95 : decode cX5_becomeAs 95 = .ok (.aload_n 0, 1) := by decide +kernel
theorem dX5_becomeAs_96 : decode cX5_becomeAs 96 = .ok (.getfield 40, 3) := by decide +kernel
theorem dX5_becomeAs_99 : decode cX5_becomeAs 99 = .ok (.iconst 0, 1) := by decide +kernel
theorem dX5_becomeAs_100 : decode cX5_becomeAs 100 = .ok (.iconst 5, 1) := by decide +kernel
theorem dX5_becomeAs_101 : decode cX5_becomeAs 101 = .ok (.invokestatic 47, 3) := by decide +kernel
theorem dX5_becomeAs_104 : decode cX5_becomeAs 104 = .ok (.return_, 1) := by decide +kernel
theorem dX6_init_0 : decode cX6_init 0 = .ok (.aload_n 0, 1) := by decide +kernel
theorem dX6_init_1 : decode cX6_init 1 = .ok (.invokespecial 3, 3) := by decide +kernel
theorem dX6_init_4 : decode cX6_init 4 = .ok (.aload_n 0, 1) := by decide +kernel
theorem dX6_init_5 : decode cX6_init 5 = .ok (.bipush 40, 2) := by decide +kernel
theorem dX6_init_7 : decode cX6_init 7 = .ok (.newarray .int, 2) := by decide +kernel
theorem dX6_init_9 : decode cX6_init 9 = .ok (.putfield 9, 3) := by decide +kernel
theorem dX6_init_12 : decode cX6_init 12 = .ok (.aload_n 0, 1) := by decide +kernel
theorem dX6_init_13 : decode cX6_init 13 = .ok (.iconst (-1), 1) := by decide +kernel
theorem dX6_init_14 : decode cX6_init 14 = .ok (.putfield 15, 3) := by decide +kernel
theorem dX6_init_17 : decode cX6_init 17 = .ok (.aload_n 0, 1) := by decide +kernel
theorem dX6_init_18 : decode cX6_init 18 = .ok (.iconst 0, 1) := by decide +kernel
theorem dX6_init_19 : decode cX6_init 19 = .ok (.putfield 19, 3) := by decide +kernel
theorem dX6_init_22 : decode cX6_init 22 = .ok (.return_, 1) := by decide +kernel
theorem dX6_isSort_0 : decode cX6_isSort 0 = .ok (.iload_n 0, 1) := by decide +kernel
theorem dX6_isSort_1 : decode cX6_isSort 1 = .ok (.ifCond .lt 12, 3) := by decide +kernel
theorem dX6_isSort_4 : decode cX6_isSort 4 = .ok (.iload_n 0, 1) := by decide +kernel
theorem dX6_isSort_5 : decode cX6_isSort 5 = .ok (.iconst 2, 1) := by decide +kernel
theorem dX6_isSort_6 : decode cX6_isSort 6 = .ok (.if_icmp .gt 7, 3) := by decide +kernel
theorem dX6_isSort_9 : decode cX6_isSort 9 = .ok (.iconst 1, 1) := by decide +kernel
theorem dX6_isSort_10 : decode cX6_isSort 10 = .ok (.goto 4, 3) := by decide +kernel
theorem dX6_isSort_13 : decode cX6_isSort 13 = .ok (.iconst 0, 1) := by decide +kernel
theorem dX6_isSort_14 : decode cX6_isSort 14 = .ok (.ireturn, 1) := by decide +kernel
theorem dX6_isMissing_0 : decode cX6_isMissing 0 = .ok (.aload_n 0, 1) := by decide +kernel
theorem dX6_isMissing_1 : decode cX6_isMissing 1 = .ok (.getfield 15, 3) := by decide +kernel
theorem dX6_isMissing_4 : decode cX6_isMissing 4 = .ok (.iconst (-1), 1) := by decide +kernel
theorem dX6_isMissing_5 : decode cX6_isMissing 5 = .ok (.if_icmp .ne 7, 3) := by decide +kernel
theorem dX6_isMissing_8 : decode cX6_isMissing 8 = .ok (.iconst 1, 1) := by decide +kernel
theorem dX6_isMissing_9 : decode cX6_isMissing 9 = .ok (.goto 4, 3) := by decide +kernel
theorem dX6_isMissing_12 : decode cX6_isMissing 12 = .ok (.iconst 0, 1) := by decide +kernel
theorem dX6_isMissing_13 : decode cX6_isMissing 13 = .ok (.ireturn, 1) := by decide +kernel
theorem dX6_become_0 : decode cX6_become 0 = .ok (.aload_n 0, 1) := by decide +kernel
theorem dX6_become_1 : decode cX6_become 1 = .ok (.iload_n 1, 1) := by decide +kernel
theorem dX6_become_2 : decode cX6_become 2 = .ok (.putfield 15, 3) := by decide +kernel
theorem dX6_become_5 : decode cX6_become 5 = .ok (.aload_n 0, 1) := by decide +kernel
theorem dX6_become_6 : decode cX6_become 6 = .ok (.iload_n 2, 1) := by decide +kernel
theorem dX6_become_7 : decode cX6_become 7 = .ok (.iconst 0, 1) := by decide +kernel
theorem dX6_become_8 : decode cX6_become 8 = .ok (.bipush 40, 2) := by decide +kernel
theorem dX6_become_10 : decode cX6_become 10 = .ok (.invokestatic 22, 3) := by decide +kernel
theorem dX6_become_13 : decode cX6_become 13 = .ok (.putfield 19, 3) := by decide +kernel
theorem dX6_become_16 : decode cX6_become 16 = .ok (.iconst 0, 1) := by decide +kernel
theorem dX6_become_17 : decode cX6_become 17 = .ok (.istore_n 3, 1) := by decide +kernel
theorem dX6_become_18 : decode cX6_become 18 = .ok (.iload_n 3, 1) := by decide +kernel
theorem dX6_become_19 : decode cX6_become 19 = .ok (.aload_n 0, 1) := by decide +kernel
theorem dX6_become_20 : decode cX6_become 20 = .ok (.getfield 9, 3) := by decide +kernel
theorem dX6_become_23 : decode cX6_become 23 = .ok (.arraylength, 1) := by decide +kernel
theorem dX6_become_24 : decode cX6_become 24 = .ok (.if_icmp .ge 16, 3) := by decide +kernel
theorem dX6_become_27 : decode cX6_become 27 = .ok (.aload_n 0, 1) := by decide +kernel
theorem dX6_become_28 : decode cX6_become 28 = .ok (.getfield 9, 3) := by decide +kernel
theorem dX6_become_31 : decode cX6_become 31 = .ok (.iload_n 3, 1) := by decide +kernel
theorem dX6_become_32 : decode cX6_become 32 = .ok (.iconst 0, 1) := by decide +kernel
theorem dX6_become_33 : decode cX6_become 33 = .ok (.iastore, 1) := by decide +kernel
theorem dX6_become_34 : decode cX6_become 34 = .ok (.iinc 3 1, 3) := by decide +kernel
theorem dX6_become_37 : decode cX6_become 37 = .ok (.goto (-19), 3) := by decide +kernel
theorem dX6_become_40 : decode cX6_become 40 = .ok (.return_, 1) := by decide +kernel
theorem dX6_spans_0 : decode cX6_spans 0 = .ok (.iload_n 1, 1) := by decide +kernel
theorem dX6_spans_1 : decode cX6_spans 1 = .ok (.ifCond .lt 29, 3) := by decide +kernel
theorem dX6_spans_4 : decode cX6_spans 4 = .ok (.iload_n 2, 1) := by decide +kernel
theorem dX6_spans_5 : decode cX6_spans 5 = .ok (.ifCond .lt 25, 3) := by decide +kernel
theorem dX6_spans_8 : decode cX6_spans 8 = .ok (.iload_n 2, 1) := by decide +kernel
theorem dX6_spans_9 : decode cX6_spans 9 = .ok (.aload_n 0, 1) := by decide +kernel
theorem dX6_spans_10 : decode cX6_spans 10 = .ok (.getfield 19, 3) := by decide +kernel
theorem dX6_spans_13 : decode cX6_spans 13 = .ok (.if_icmp .gt 17, 3) := by decide +kernel
theorem dX6_spans_16 : decode cX6_spans 16 = .ok (.iload_n 1, 1) := by decide +kernel
theorem dX6_spans_17 : decode cX6_spans 17 = .ok (.aload_n 0, 1) := by decide +kernel
theorem dX6_spans_18 : decode cX6_spans 18 = .ok (.getfield 19, 3) := by decide +kernel
theorem dX6_spans_21 : decode cX6_spans 21 = .ok (.iload_n 2, 1) := by decide +kernel
theorem dX6_spans_22 : decode cX6_spans 22 = .ok (.isub, 1) := by decide +kernel
theorem dX6_spans_23 : decode cX6_spans 23 = .ok (.if_icmp .gt 7, 3) := by decide +kernel
theorem dX6_spans_26 : decode cX6_spans 26 = .ok (.iconst 1, 1) := by decide +kernel
theorem dX6_spans_27 : decode cX6_spans 27 = .ok (.goto 4, 3) := by decide +kernel
theorem dX6_spans_30 : decode cX6_spans 30 = .ok (.iconst 0, 1) := by decide +kernel
theorem dX6_spans_31 : decode cX6_spans 31 = .ok (.ireturn, 1) := by decide +kernel
theorem dX6_item_0 : decode cX6_item 0 = .ok (.iload_n 1, 1) := by decide +kernel
theorem dX6_item_1 : decode cX6_item 1 = .ok (.ifCond .lt 29, 3) := by decide +kernel
theorem dX6_item_4 : decode cX6_item 4 = .ok (.iload_n 1, 1) := by decide +kernel
theorem dX6_item_5 : decode cX6_item 5 = .ok (.aload_n 0, 1) := by decide +kernel
theorem dX6_item_6 : decode cX6_item 6 = .ok (.getfield 19, 3) := by decide +kernel
theorem dX6_item_9 : decode cX6_item 9 = .ok (.if_icmp .ge 21, 3) := by decide +kernel
theorem dX6_item_12 : decode cX6_item 12 = .ok (.iload_n 1, 1) := by decide +kernel
theorem dX6_item_13 : decode cX6_item 13 = .ok (.aload_n 0, 1) := by decide +kernel
theorem dX6_item_14 : decode cX6_item 14 = .ok (.getfield 9, 3) := by decide +kernel
theorem dX6_item_17 : decode cX6_item 17 = .ok (.arraylength, 1) := by decide +kernel
theorem dX6_item_18 : decode cX6_item 18 = .ok (.if_icmp .ge 12, 3) := by decide +kernel
theorem dX6_item_21 : decode cX6_item 21 = .ok (.aload_n 0, 1) := by decide +kernel
theorem dX6_item_22 : decode cX6_item 22 = .ok (.getfield 9, 3) := by decide +kernel
theorem dX6_item_25 : decode cX6_item 25 = .ok (.iload_n 1, 1) := by decide +kernel
theorem dX6_item_26 : decode cX6_item 26 = .ok (.iaload, 1) := by decide +kernel
theorem dX6_item_27 : decode cX6_item 27 = .ok (.goto 4, 3) := by decide +kernel
theorem dX6_item_30 : decode cX6_item 30 = .ok (.iconst (-1), 1) := by decide +kernel
theorem dX6_item_31 : decode cX6_item 31 = .ok (.ireturn, 1) := by decide +kernel
theorem dX6_put_0 : decode cX6_put 0 = .ok (.iload_n 1, 1) := by decide +kernel
theorem dX6_put_1 : decode cX6_put 1 = .ok (.ifCond .lt 52, 3) := by decide +kernel
theorem dX6_put_4 : decode cX6_put 4 = .ok (.iload_n 1, 1) := by decide +kernel
theorem dX6_put_5 : decode cX6_put 5 = .ok (.aload_n 0, 1) := by decide +kernel
theorem dX6_put_6 : decode cX6_put 6 = .ok (.getfield 19, 3) := by decide +kernel
theorem dX6_put_9 : decode cX6_put 9 = .ok (.if_icmp .ge 44, 3) := by decide +kernel
theorem dX6_put_12 : decode cX6_put 12 = .ok (.iload_n 1, 1) := by decide +kernel
theorem dX6_put_13 : decode cX6_put 13 = .ok (.aload_n 0, 1) := by decide +kernel
theorem dX6_put_14 : decode cX6_put 14 = .ok (.getfield 9, 3) := by decide +kernel
theorem dX6_put_17 : decode cX6_put 17 = .ok (.arraylength, 1) := by decide +kernel
theorem dX6_put_18 : decode cX6_put 18 = .ok (.if_icmp .ge 35, 3) := by decide +kernel
theorem dX6_put_21 : decode cX6_put 21 = .ok (.aload_n 0, 1) := by decide +kernel
theorem dX6_put_22 : decode cX6_put 22 = .ok (.getfield 9, 3) := by decide +kernel
theorem dX6_put_25 : decode cX6_put 25 = .ok (.iload_n 1, 1) := by decide +kernel
theorem dX6_put_26 : decode cX6_put 26 = .ok (.aload_n 0, 1) := by decide +kernel
theorem dX6_put_27 : decode cX6_put 27 = .ok (.getfield 15, 3) := by decide +kernel
theorem dX6_put_30 : decode cX6_put 30 = .ok (.ifCond .ne 8, 3) := by decide +kernel
theorem dX6_put_33 : decode cX6_put 33 = .ok (.iload_n 2, 1) := by decide +kernel
theorem dX6_put_34 : decode cX6_put 34 = .ok (.i2b, 1) := by decide +kernel
theorem dX6_put_35 : decode cX6_put 35 = .ok (.goto 17, 3) := by decide +kernel
theorem dX6_put_38 : decode cX6_put 38 = .ok (.aload_n 0, 1) := by decide +kernel
theorem dX6_put_39 : decode cX6_put 39 = .ok (.getfield 15, 3) := by decide +kernel
theorem dX6_put_42 : decode cX6_put 42 = .ok (.iconst 1, 1) := by decide +kernel
theorem dX6_put_43 : decode cX6_put 43 = .ok (.if_icmp .ne 8, 3) := by decide +kernel
theorem dX6_put_46 : decode cX6_put 46 = .ok (.iload_n 2, 1) := by decide +kernel
theorem dX6_put_47 : decode cX6_put 47 = .ok (.i2s, 1) := by decide +kernel
theorem dX6_put_48 : decode cX6_put 48 = .ok (.goto 4, 3) := by decide +kernel
theorem dX6_put_51 : decode cX6_put 51 = .ok (.iload_n 2, 1) := by decide +kernel
theorem dX6_put_52 : decode cX6_put 52 = .ok (.iastore, 1) := by decide +kernel
theorem dX6_put_53 : decode cX6_put 53 = .ok (.return_, 1) := by decide +kernel
theorem dX7_init_0 : decode cX7_init 0 = .ok (.aload_n 0, 1) := by decide +kernel
theorem dX7_init_1 : decode cX7_init 1 = .ok (.invokespecial 3, 3) := by decide +kernel
theorem dX7_init_4 : decode cX7_init 4 = .ok (.aload_n 0, 1) := by decide +kernel
theorem dX7_init_5 : decode cX7_init 5 = .ok (.sipush 160, 3) := by decide +kernel
theorem dX7_init_8 : decode cX7_init 8 = .ok (.newarray .int, 2) := by decide +kernel
theorem dX7_init_10 : decode cX7_init 10 = .ok (.putfield 9, 3) := by decide +kernel
theorem dX7_init_13 : decode cX7_init 13 = .ok (.aload_n 0, 1) := by decide +kernel
theorem dX7_init_14 : decode cX7_init 14 = .ok (.iconst 0, 1) := by decide +kernel
theorem dX7_init_15 : decode cX7_init 15 = .ok (.putfield 15, 3) := by decide +kernel
theorem dX7_init_18 : decode cX7_init 18 = .ok (.aload_n 0, 1) := by decide +kernel
theorem dX7_init_19 : decode cX7_init 19 = .ok (.bipush (-22), 2) := by decide +kernel
theorem dX7_init_21 : decode cX7_init 21 = .ok (.putfield 19, 3) := by decide +kernel
theorem dX7_init_24 : decode cX7_init 24 = .ok (.aload_n 0, 1) := by decide +kernel
theorem dX7_init_25 : decode cX7_init 25 = .ok (.iconst 0, 1) := by decide +kernel
theorem dX7_init_26 : decode cX7_init 26 = .ok (.putfield 22, 3) := by decide +kernel
theorem dX7_init_29 : decode cX7_init 29 = .ok (.aload_n 0, 1) := by decide +kernel
theorem dX7_init_30 : decode cX7_init 30 = .ok (.iconst 0, 1) := by decide +kernel
theorem dX7_init_31 : decode cX7_init 31 = .ok (.putfield 25, 3) := by decide +kernel
theorem dX7_init_34 : decode cX7_init 34 = .ok (.return_, 1) := by decide +kernel
theorem dX7_take_0 : decode cX7_take 0 = .ok (.aload_n 0, 1) := by decide +kernel
theorem dX7_take_1 : decode cX7_take 1 = .ok (.getfield 15, 3) := by decide +kernel
theorem dX7_take_4 : decode cX7_take 4 = .ok (.ifCond .lt 15, 3) := by decide +kernel
theorem dX7_take_7 : decode cX7_take 7 = .ok (.aload_n 0, 1) := by decide +kernel
theorem dX7_take_8 : decode cX7_take 8 = .ok (.getfield 15, 3) := by decide +kernel
theorem dX7_take_11 : decode cX7_take 11 = .ok (.aload_n 0, 1) := by decide +kernel
theorem dX7_take_12 : decode cX7_take 12 = .ok (.getfield 9, 3) := by decide +kernel
theorem dX7_take_15 : decode cX7_take 15 = .ok (.arraylength, 1) := by decide +kernel
theorem dX7_take_16 : decode cX7_take 16 = .ok (.if_icmp .lt 6, 3) := by decide +kernel
theorem dX7_take_19 : decode cX7_take 19 = .ok (.bipush (-4), 2) := by decide +kernel
theorem dX7_take_21 : decode cX7_take 21 = .ok (.ireturn, 1) := by decide +kernel
theorem dX7_take_22 : decode cX7_take 22 = .ok (.aload_n 0, 1) := by decide +kernel
theorem dX7_take_23 : decode cX7_take 23 = .ok (.getfield 9, 3) := by decide +kernel
theorem dX7_take_26 : decode cX7_take 26 = .ok (.aload_n 0, 1) := by decide +kernel
theorem dX7_take_27 : decode cX7_take 27 = .ok (.dup, 1) := by decide +kernel
theorem dX7_take_28 : decode cX7_take 28 = .ok (.getfield 15, 3) := by decide +kernel
theorem dX7_take_31 : decode cX7_take 31 = .ok (.dup_x1, 1) := by decide +kernel
theorem dX7_take_32 : decode cX7_take 32 = .ok (.iconst 1, 1) := by decide +kernel
theorem dX7_take_33 : decode cX7_take 33 = .ok (.iadd, 1) := by decide +kernel
theorem dX7_take_34 : decode cX7_take 34 = .ok (.putfield 15, 3) := by decide +kernel
theorem dX7_take_37 : decode cX7_take 37 = .ok (.iload_n 1, 1) := by decide +kernel
theorem dX7_take_38 : decode cX7_take 38 = .ok (.iastore, 1) := by decide +kernel
theorem dX7_take_39 : decode cX7_take 39 = .ok (.aload_n 0, 1) := by decide +kernel
theorem dX7_take_40 : decode cX7_take 40 = .ok (.getfield 15, 3) := by decide +kernel
theorem dX7_take_43 : decode cX7_take 43 = .ok (.ireturn, 1) := by decide +kernel
theorem dX7_clear_0 : decode cX7_clear 0 = .ok (.aload_n 0, 1) := by decide +kernel
theorem dX7_clear_1 : decode cX7_clear 1 = .ok (.iconst 0, 1) := by decide +kernel
theorem dX7_clear_2 : decode cX7_clear 2 = .ok (.putfield 15, 3) := by decide +kernel
theorem dX7_clear_5 : decode cX7_clear 5 = .ok (.return_, 1) := by decide +kernel
theorem dX7_rewind_0 : decode cX7_rewind 0 = .ok (.aload_n 0, 1) := by decide +kernel
theorem dX7_rewind_1 : decode cX7_rewind 1 = .ok (.iconst 0, 1) := by decide +kernel
theorem dX7_rewind_2 : decode cX7_rewind 2 = .ok (.putfield 25, 3) := by decide +kernel
theorem dX7_rewind_5 : decode cX7_rewind 5 = .ok (.aload_n 0, 1) := by decide +kernel
theorem dX7_rewind_6 : decode cX7_rewind 6 = .ok (.invokevirtual 28, 3) := by decide +kernel
theorem dX7_rewind_9 : decode cX7_rewind 9 = .ok (.return_, 1) := by decide +kernel
theorem dX7_step_0 : decode cX7_step 0 = .ok (.aload_n 0, 1) := by decide +kernel
theorem dX7_step_1 : decode cX7_step 1 = .ok (.getfield 25, 3) := by decide +kernel
theorem dX7_step_4 : decode cX7_step 4 = .ok (.aload_n 0, 1) := by decide +kernel
theorem dX7_step_5 : decode cX7_step 5 = .ok (.getfield 15, 3) := by decide +kernel
theorem dX7_step_8 : decode cX7_step 8 = .ok (.if_icmp .ge 30, 3) := by decide +kernel
theorem dX7_step_11 : decode cX7_step 11 = .ok (.aload_n 0, 1) := by decide +kernel
theorem dX7_step_12 : decode cX7_step 12 = .ok (.aload_n 0, 1) := by decide +kernel
theorem dX7_step_13 : decode cX7_step 13 = .ok (.getfield 25, 3) := by decide +kernel
theorem dX7_step_16 : decode cX7_step 16 = .ok (.invokevirtual 31, 3) := by decide +kernel
theorem dX7_step_19 : decode cX7_step 19 = .ok (.invokestatic 35, 3) := by decide +kernel
theorem dX7_step_22 : decode cX7_step 22 = .ok (.ifCond .eq 16, 3) := by decide +kernel
theorem dX7_step_25 : decode cX7_step 25 = .ok (.aload_n 0, 1) := by decide +kernel
theorem dX7_step_26 : decode cX7_step 26 = .ok (.dup, 1) := by decide +kernel
theorem dX7_step_27 : decode cX7_step 27 = .ok (.getfield 25, 3) := by decide +kernel
theorem dX7_step_30 : decode cX7_step 30 = .ok (.iconst 1, 1) := by decide +kernel
theorem dX7_step_31 : decode cX7_step 31 = .ok (.iadd, 1) := by decide +kernel
theorem dX7_step_32 : decode cX7_step 32 = .ok (.putfield 25, 3) := by decide +kernel
theorem dX7_step_35 : decode cX7_step 35 = .ok (.goto (-35), 3) := by decide +kernel
theorem dX7_step_38 : decode cX7_step 38 = .ok (.aload_n 0, 1) := by decide +kernel
theorem dX7_step_39 : decode cX7_step 39 = .ok (.aload_n 0, 1) := by decide +kernel
theorem dX7_step_40 : decode cX7_step 40 = .ok (.getfield 25, 3) := by decide +kernel
theorem dX7_step_43 : decode cX7_step 43 = .ok (.putfield 22, 3) := by decide +kernel
theorem dX7_step_46 : decode cX7_step 46 = .ok (.aload_n 0, 1) := by decide +kernel
theorem dX7_step_47 : decode cX7_step 47 = .ok (.getfield 25, 3) := by decide +kernel
theorem dX7_step_50 : decode cX7_step 50 = .ok (.aload_n 0, 1) := by decide +kernel
theorem dX7_step_51 : decode cX7_step 51 = .ok (.getfield 15, 3) := by decide +kernel
theorem dX7_step_54 : decode cX7_step 54 = .ok (.if_icmp .lt 12, 3) := by decide +kernel
theorem dX7_step_57 : decode cX7_step 57 = .ok (.aload_n 0, 1) := by decide +kernel
theorem dX7_step_58 : decode cX7_step 58 = .ok (.bipush (-22), 2) := by decide +kernel
theorem dX7_step_60 : decode cX7_step 60 = .ok (.putfield 19, 3) := by decide +kernel
theorem dX7_step_63 : decode cX7_step 63 = .ok (.goto 78, 3) := by decide +kernel
theorem dX7_step_66 : decode cX7_step 66 = .ok (.aload_n 0, 1) := by decide +kernel
theorem dX7_step_67 : decode cX7_step 67 = .ok (.aload_n 0, 1) := by decide +kernel
theorem dX7_step_68 : decode cX7_step 68 = .ok (.getfield 25, 3) := by decide +kernel
theorem dX7_step_71 : decode cX7_step 71 = .ok (.invokevirtual 31, 3) := by decide +kernel
theorem dX7_step_74 : decode cX7_step 74 = .ok (.invokestatic 39, 3) := by decide +kernel
theorem dX7_step_77 : decode cX7_step 77 = .ok (.ifCond .eq 14, 3) := by decide +kernel
theorem dX7_step_80 : decode cX7_step 80 = .ok (.aload_n 0, 1) := by decide +kernel
theorem dX7_step_81 : decode cX7_step 81 = .ok (.aload_n 0, 1) := by decide +kernel
theorem dX7_step_82 : decode cX7_step 82 = .ok (.invokevirtual 42, 3) := by decide +kernel
theorem dX7_step_85 : decode cX7_step 85 = .ok (.putfield 19, 3) := by decide +kernel
theorem dX7_step_88 : decode cX7_step 88 = .ok (.goto 53, 3) := by decide +kernel
theorem dX7_step_91 : decode cX7_step 91 = .ok (.aload_n 0, 1) := by decide +kernel
theorem dX7_step_92 : decode cX7_step 92 = .ok (.aload_n 0, 1) := by decide +kernel
theorem dX7_step_93 : decode cX7_step 93 = .ok (.getfield 25, 3) := by decide +kernel
theorem dX7_step_96 : decode cX7_step 96 = .ok (.invokevirtual 31, 3) := by decide +kernel
theorem dX7_step_99 : decode cX7_step 99 = .ok (.invokestatic 46, 3) := by decide +kernel
theorem dX7_step_102 : decode cX7_step 102 = .ok (.ifCond .eq 14, 3) := by decide +kernel
theorem dX7_step_105 : decode cX7_step 105 = .ok (.aload_n 0, 1) := by decide +kernel
theorem dX7_step_106 : decode cX7_step 106 = .ok (.aload_n 0, 1) := by decide +kernel
theorem dX7_step_107 : decode cX7_step 107 = .ok (.invokevirtual 49, 3) := by decide +kernel
theorem dX7_step_110 : decode cX7_step 110 = .ok (.putfield 19, 3) := by decide +kernel
theorem dX7_step_113 : decode cX7_step 113 = .ok (.goto 28, 3) := by decide +kernel
theorem dX7_step_116 : decode cX7_step 116 = .ok (.aload_n 0, 1) := by decide +kernel
theorem dX7_step_117 : decode cX7_step 117 = .ok (.aload_n 0, 1) := by decide +kernel
theorem dX7_step_118 : decode cX7_step 118 = .ok (.aload_n 0, 1) := by decide +kernel
theorem dX7_step_119 : decode cX7_step 119 = .ok (.getfield 25, 3) := by decide +kernel
theorem dX7_step_122 : decode cX7_step 122 = .ok (.invokevirtual 31, 3) := by decide +kernel
theorem dX7_step_125 : decode cX7_step 125 = .ok (.invokestatic 52, 3) := by decide +kernel
theorem dX7_step_128 : decode cX7_step 128 = .ok (.putfield 19, 3) := by decide +kernel
theorem dX7_step_131 : decode cX7_step 131 = .ok (.aload_n 0, 1) := by decide +kernel
theorem dX7_step_132 : decode cX7_step 132 = .ok (.dup, 1) := by decide +kernel
theorem dX7_step_133 : decode cX7_step 133 = .ok (.getfield 25, 3) := by decide +kernel
theorem dX7_step_136 : decode cX7_step 136 = .ok (.iconst 1, 1) := by decide +kernel
theorem dX7_step_137 : decode cX7_step 137 = .ok (.iadd, 1) := by decide +kernel
theorem dX7_step_138 : decode cX7_step 138 = .ok (.putfield 25, 3) := by decide +kernel
theorem dX7_step_141 : decode cX7_step 141 = .ok (.return_, 1) := by decide +kernel
theorem dX7_byteAt_0 : decode cX7_byteAt 0 = .ok (.iload_n 1, 1) := by decide +kernel
theorem dX7_byteAt_1 : decode cX7_byteAt 1 = .ok (.ifCond .lt 29, 3) := by decide +kernel
theorem dX7_byteAt_4 : decode cX7_byteAt 4 = .ok (.iload_n 1, 1) := by decide +kernel
theorem dX7_byteAt_5 : decode cX7_byteAt 5 = .ok (.aload_n 0, 1) := by decide +kernel
theorem dX7_byteAt_6 : decode cX7_byteAt 6 = .ok (.getfield 15, 3) := by decide +kernel
theorem dX7_byteAt_9 : decode cX7_byteAt 9 = .ok (.if_icmp .ge 21, 3) := by decide +kernel
theorem dX7_byteAt_12 : decode cX7_byteAt 12 = .ok (.iload_n 1, 1) := by decide +kernel
theorem dX7_byteAt_13 : decode cX7_byteAt 13 = .ok (.aload_n 0, 1) := by decide +kernel
theorem dX7_byteAt_14 : decode cX7_byteAt 14 = .ok (.getfield 9, 3) := by decide +kernel
theorem dX7_byteAt_17 : decode cX7_byteAt 17 = .ok (.arraylength, 1) := by decide +kernel
theorem dX7_byteAt_18 : decode cX7_byteAt 18 = .ok (.if_icmp .ge 12, 3) := by decide +kernel
theorem dX7_byteAt_21 : decode cX7_byteAt 21 = .ok (.aload_n 0, 1) := by decide +kernel
theorem dX7_byteAt_22 : decode cX7_byteAt 22 = .ok (.getfield 9, 3) := by decide +kernel
theorem dX7_byteAt_25 : decode cX7_byteAt 25 = .ok (.iload_n 1, 1) := by decide +kernel
theorem dX7_byteAt_26 : decode cX7_byteAt 26 = .ok (.iaload, 1) := by decide +kernel
theorem dX7_byteAt_27 : decode cX7_byteAt 27 = .ok (.goto 4, 3) := by decide +kernel
theorem dX7_byteAt_30 : decode cX7_byteAt 30 = .ok (.iconst (-1), 1) := by decide +kernel
theorem dX7_byteAt_31 : decode cX7_byteAt 31 = .ok (.ireturn, 1) := by decide +kernel
theorem dX7_wordFromHere_0 : decode cX7_wordFromHere 0 = .ok (.aload_n 0, 1) := by decide +kernel
theorem dX7_wordFromHere_1 : decode cX7_wordFromHere 1 = .ok (.getfield 25, 3) := by decide +kernel
theorem dX7_wordFromHere_4 : decode cX7_wordFromHere 4 = .ok (.aload_n 0, 1) := by decide +kernel
theorem dX7_wordFromHere_5 : decode cX7_wordFromHere 5 = .ok (.getfield 15, 3) := by decide +kernel
theorem dX7_wordFromHere_8 : decode cX7_wordFromHere 8 = .ok (.if_icmp .ge 30, 3) := by decide +kernel
theorem dX7_wordFromHere_11 : decode cX7_wordFromHere 11 = .ok (.aload_n 0, 1) := by decide +kernel
theorem dX7_wordFromHere_12 : decode cX7_wordFromHere 12 = .ok (.aload_n 0, 1) := by decide +kernel
theorem dX7_wordFromHere_13 : decode cX7_wordFromHere 13 = .ok (.getfield 25, 3) := by decide +kernel
theorem dX7_wordFromHere_16 : decode cX7_wordFromHere 16 = .ok (.invokevirtual 31, 3) := by decide +kernel
theorem dX7_wordFromHere_19 : decode cX7_wordFromHere 19 = .ok (.invokestatic 39, 3) := by decide +kernel
theorem dX7_wordFromHere_22 : decode cX7_wordFromHere 22 = .ok (.ifCond .eq 16, 3) := by decide +kernel
theorem dX7_wordFromHere_25 : decode cX7_wordFromHere 25 = .ok (.aload_n 0, 1) := by decide +kernel
theorem dX7_wordFromHere_26 : decode cX7_wordFromHere 26 = .ok (.dup, 1) := by decide +kernel
theorem dX7_wordFromHere_27 : decode cX7_wordFromHere 27 = .ok (.getfield 25, 3) := by decide +kernel
theorem dX7_wordFromHere_30 : decode cX7_wordFromHere 30 = .ok (.iconst 1, 1) := by decide +kernel
theorem dX7_wordFromHere_31 : decode cX7_wordFromHere 31 = .ok (.iadd, 1) := by decide +kernel
theorem dX7_wordFromHere_32 : decode cX7_wordFromHere 32 = .ok (.putfield 25, 3) := by decide +kernel
theorem dX7_wordFromHere_35 : decode cX7_wordFromHere 35 = .ok (.goto (-35), 3) := by decide +kernel
theorem dX7_wordFromHere_38 : decode cX7_wordFromHere 38 = .ok (.aload_n 0, 1) := by decide +kernel
theorem dX7_wordFromHere_39 : decode cX7_wordFromHere 39 = .ok (.ldc 55, 2) := by decide +kernel
theorem dX7_wordFromHere_41 : decode cX7_wordFromHere 41 = .ok (.invokevirtual 57, 3) := by decide +kernel
theorem dX7_wordFromHere_44 : decode cX7_wordFromHere 44 = .ok (.ifCond .eq 7, 3) := by decide +kernel
theorem dX7_wordFromHere_47 : decode cX7_wordFromHere 47 = .ok (.iconst (-1), 1) := by decide +kernel
theorem dX7_wordFromHere_48 : decode cX7_wordFromHere 48 = .ok (.goto 159, 3) := by decide +kernel
theorem dX7_wordFromHere_51 : decode cX7_wordFromHere 51 = .ok (.aload_n 0, 1) := by decide +kernel
theorem dX7_wordFromHere_52 : decode cX7_wordFromHere 52 = .ok (.ldc 61, 2) := by decide +kernel
theorem dX7_wordFromHere_54 : decode cX7_wordFromHere 54 = .ok (.invokevirtual 57, 3) := by decide +kernel
theorem dX7_wordFromHere_57 : decode cX7_wordFromHere 57 = .ok (.ifCond .eq 8, 3) := by decide +kernel
theorem dX7_wordFromHere_60 : decode cX7_wordFromHere 60 = .ok (.bipush (-2), 2) := by decide +kernel
theorem dX7_wordFromHere_62 : decode cX7_wordFromHere 62 = .ok (.goto 145, 3) := by decide +kernel
theorem dX7_wordFromHere_65 : decode cX7_wordFromHere 65 = .ok (.aload_n 0, 1) := by decide +kernel
theorem dX7_wordFromHere_66 : decode cX7_wordFromHere 66 = .ok (.ldc 63, 2) := by decide +kernel
theorem dX7_wordFromHere_68 : decode cX7_wordFromHere 68 = .ok (.invokevirtual 57, 3) := by decide +kernel
theorem dX7_wordFromHere_71 : decode cX7_wordFromHere 71 = .ok (.ifCond .eq 8, 3) := by decide +kernel
theorem dX7_wordFromHere_74 : decode cX7_wordFromHere 74 = .ok (.bipush (-3), 2) := by decide +kernel
theorem dX7_wordFromHere_76 : decode cX7_wordFromHere 76 = .ok (.goto 131, 3) := by decide +kernel
theorem dX7_wordFromHere_79 : decode cX7_wordFromHere 79 = .ok (.aload_n 0, 1) := by decide +kernel
theorem dX7_wordFromHere_80 : decode cX7_wordFromHere 80 = .ok (.ldc 65, 2) := by decide +kernel
theorem dX7_wordFromHere_82 : decode cX7_wordFromHere 82 = .ok (.invokevirtual 57, 3) := by decide +kernel
theorem dX7_wordFromHere_85 : decode cX7_wordFromHere 85 = .ok (.ifCond .eq 8, 3) := by decide +kernel
theorem dX7_wordFromHere_88 : decode cX7_wordFromHere 88 = .ok (.bipush (-4), 2) := by decide +kernel
theorem dX7_wordFromHere_90 : decode cX7_wordFromHere 90 = .ok (.goto 117, 3) := by decide +kernel
theorem dX7_wordFromHere_93 : decode cX7_wordFromHere 93 = .ok (.aload_n 0, 1) := by decide +kernel
theorem dX7_wordFromHere_94 : decode cX7_wordFromHere 94 = .ok (.ldc 67, 2) := by decide +kernel
theorem dX7_wordFromHere_96 : decode cX7_wordFromHere 96 = .ok (.invokevirtual 57, 3) := by decide +kernel
theorem dX7_wordFromHere_99 : decode cX7_wordFromHere 99 = .ok (.ifCond .eq 8, 3) := by decide +kernel
theorem dX7_wordFromHere_102 : decode cX7_wordFromHere 102 = .ok (.bipush (-5), 2) := by decide +kernel
theorem dX7_wordFromHere_104 : decode cX7_wordFromHere 104 = .ok (.goto 103, 3) := by decide +kernel
theorem dX7_wordFromHere_107 : decode cX7_wordFromHere 107 = .ok (.aload_n 0, 1) := by decide +kernel
theorem dX7_wordFromHere_108 : decode cX7_wordFromHere 108 = .ok (.ldc 69, 2) := by decide +kernel
theorem dX7_wordFromHere_110 : decode cX7_wordFromHere 110 = .ok (.invokevirtual 57, 3) := by decide +kernel
theorem dX7_wordFromHere_113 : decode cX7_wordFromHere 113 = .ok (.ifCond .eq 8, 3) := by decide +kernel
theorem dX7_wordFromHere_116 : decode cX7_wordFromHere 116 = .ok (.bipush (-6), 2) := by decide +kernel
theorem dX7_wordFromHere_118 : decode cX7_wordFromHere 118 = .ok (.goto 89, 3) := by decide +kernel
theorem dX7_wordFromHere_121 : decode cX7_wordFromHere 121 = .ok (.aload_n 0, 1) := by decide +kernel
theorem dX7_wordFromHere_122 : decode cX7_wordFromHere 122 = .ok (.ldc 71, 2) := by decide +kernel
theorem dX7_wordFromHere_124 : decode cX7_wordFromHere 124 = .ok (.invokevirtual 57, 3) := by decide +kernel
theorem dX7_wordFromHere_127 : decode cX7_wordFromHere 127 = .ok (.ifCond .eq 8, 3) := by decide +kernel
theorem dX7_wordFromHere_130 : decode cX7_wordFromHere 130 = .ok (.bipush (-16), 2) := by decide +kernel
theorem dX7_wordFromHere_132 : decode cX7_wordFromHere 132 = .ok (.goto 75, 3) := by decide +kernel
theorem dX7_wordFromHere_135 : decode cX7_wordFromHere 135 = .ok (.aload_n 0, 1) := by decide +kernel
theorem dX7_wordFromHere_136 : decode cX7_wordFromHere 136 = .ok (.ldc 73, 2) := by decide +kernel
theorem dX7_wordFromHere_138 : decode cX7_wordFromHere 138 = .ok (.invokevirtual 57, 3) := by decide +kernel
theorem dX7_wordFromHere_141 : decode cX7_wordFromHere 141 = .ok (.ifCond .eq 8, 3) := by decide +kernel
theorem dX7_wordFromHere_144 : decode cX7_wordFromHere 144 = .ok (.bipush (-17), 2) := by decide +kernel
theorem dX7_wordFromHere_146 : decode cX7_wordFromHere 146 = .ok (.goto 61, 3) := by decide +kernel
theorem dX7_wordFromHere_149 : decode cX7_wordFromHere 149 = .ok (.aload_n 0, 1) := by decide +kernel
theorem dX7_wordFromHere_150 : decode cX7_wordFromHere 150 = .ok (.ldc 75, 2) := by decide +kernel
theorem dX7_wordFromHere_152 : decode cX7_wordFromHere 152 = .ok (.invokevirtual 57, 3) := by decide +kernel
theorem dX7_wordFromHere_155 : decode cX7_wordFromHere 155 = .ok (.ifCond .eq 8, 3) := by decide +kernel
theorem dX7_wordFromHere_158 : decode cX7_wordFromHere 158 = .ok (.bipush (-18), 2) := by decide +kernel
theorem dX7_wordFromHere_160 : decode cX7_wordFromHere 160 = .ok (.goto 47, 3) := by decide +kernel
theorem dX7_wordFromHere_163 : decode cX7_wordFromHere 163 = .ok (.aload_n 0, 1) := by decide +kernel
theorem dX7_wordFromHere_164 : decode cX7_wordFromHere 164 = .ok (.ldc 77, 2) := by decide +kernel
theorem dX7_wordFromHere_166 : decode cX7_wordFromHere 166 = .ok (.invokevirtual 57, 3) := by decide +kernel
theorem dX7_wordFromHere_169 : decode cX7_wordFromHere 169 = .ok (.ifCond .eq 8, 3) := by decide +kernel
theorem dX7_wordFromHere_172 : decode cX7_wordFromHere 172 = .ok (.bipush (-7), 2) := by decide +kernel
theorem dX7_wordFromHere_174 : decode cX7_wordFromHere 174 = .ok (.goto 33, 3) := by decide +kernel
theorem dX7_wordFromHere_177 : decode cX7_wordFromHere 177 = .ok (.aload_n 0, 1) := by decide +kernel
theorem dX7_wordFromHere_178 : decode cX7_wordFromHere 178 = .ok (.ldc 79, 2) := by decide +kernel
theorem dX7_wordFromHere_180 : decode cX7_wordFromHere 180 = .ok (.invokevirtual 57, 3) := by decide +kernel
theorem dX7_wordFromHere_183 : decode cX7_wordFromHere 183 = .ok (.ifCond .eq 8, 3) := by decide +kernel
theorem dX7_wordFromHere_186 : decode cX7_wordFromHere 186 = .ok (.bipush (-8), 2) := by decide +kernel
theorem dX7_wordFromHere_188 : decode cX7_wordFromHere 188 = .ok (.goto 19, 3) := by decide +kernel
theorem dX7_wordFromHere_191 : decode cX7_wordFromHere 191 = .ok (.aload_n 0, 1) := by decide +kernel
theorem dX7_wordFromHere_192 : decode cX7_wordFromHere 192 = .ok (.ldc 81, 2) := by decide +kernel
theorem dX7_wordFromHere_194 : decode cX7_wordFromHere 194 = .ok (.invokevirtual 57, 3) := by decide +kernel
theorem dX7_wordFromHere_197 : decode cX7_wordFromHere 197 = .ok (.ifCond .eq 8, 3) := by decide +kernel
theorem dX7_wordFromHere_200 : decode cX7_wordFromHere 200 = .ok (.bipush (-9), 2) := by decide +kernel
theorem dX7_wordFromHere_202 : decode cX7_wordFromHere 202 = .ok (.goto 5, 3) := by decide +kernel
theorem dX7_wordFromHere_205 : decode cX7_wordFromHere 205 = .ok (.bipush (-23), 2) := by decide +kernel
theorem dX7_wordFromHere_207 : decode cX7_wordFromHere 207 = .ok (.ireturn, 1) := by decide +kernel
theorem dX7_isWord_0 : decode cX7_isWord 0 = .ok (.aload_n 0, 1) := by decide +kernel
theorem dX7_isWord_1 : decode cX7_isWord 1 = .ok (.getfield 25, 3) := by decide +kernel
theorem dX7_isWord_4 : decode cX7_isWord 4 = .ok (.aload_n 0, 1) := by decide +kernel
theorem dX7_isWord_5 : decode cX7_isWord 5 = .ok (.getfield 22, 3) := by decide +kernel
theorem dX7_isWord_8 : decode cX7_isWord 8 = .ok (.isub, 1) := by decide +kernel
theorem dX7_isWord_9 : decode cX7_isWord 9 = .ok (.aload_n 1, 1) := by decide +kernel
theorem dX7_isWord_10 : decode cX7_isWord 10 = .ok (.invokevirtual 83, 3) := by decide +kernel
theorem dX7_isWord_13 : decode cX7_isWord 13 = .ok (.if_icmp .eq 5, 3) := by decide +kernel
theorem dX7_isWord_16 : decode cX7_isWord 16 = .ok (.iconst 0, 1) := by decide +kernel
theorem dX7_isWord_17 : decode cX7_isWord 17 = .ok (.ireturn, 1) := by decide +kernel
theorem dX7_isWord_18 : decode cX7_isWord 18 = .ok (.iconst 0, 1) := by decide +kernel
theorem dX7_isWord_19 : decode cX7_isWord 19 = .ok (.istore_n 2, 1) := by decide +kernel
theorem dX7_isWord_20 : decode cX7_isWord 20 = .ok (.iload_n 2, 1) := by decide +kernel
theorem dX7_isWord_21 : decode cX7_isWord 21 = .ok (.aload_n 1, 1) := by decide +kernel
theorem dX7_isWord_22 : decode cX7_isWord 22 = .ok (.invokevirtual 83, 3) := by decide +kernel
theorem dX7_isWord_25 : decode cX7_isWord 25 = .ok (.if_icmp .ge 45, 3) := by decide +kernel
theorem dX7_isWord_28 : decode cX7_isWord 28 = .ok (.aload_n 0, 1) := by decide +kernel
theorem dX7_isWord_29 : decode cX7_isWord 29 = .ok (.getfield 22, 3) := by decide +kernel
theorem dX7_isWord_32 : decode cX7_isWord 32 = .ok (.iload_n 2, 1) := by decide +kernel
theorem dX7_isWord_33 : decode cX7_isWord 33 = .ok (.iadd, 1) := by decide +kernel
theorem dX7_isWord_34 : decode cX7_isWord 34 = .ok (.istore_n 3, 1) := by decide +kernel
theorem dX7_isWord_35 : decode cX7_isWord 35 = .ok (.iload_n 3, 1) := by decide +kernel
theorem dX7_isWord_36 : decode cX7_isWord 36 = .ok (.ifCond .lt 26, 3) := by decide +kernel
theorem dX7_isWord_39 : decode cX7_isWord 39 = .ok (.iload_n 3, 1) := by decide +kernel
theorem dX7_isWord_40 : decode cX7_isWord 40 = .ok (.aload_n 0, 1) := by decide +kernel
theorem dX7_isWord_41 : decode cX7_isWord 41 = .ok (.getfield 9, 3) := by decide +kernel
theorem dX7_isWord_44 : decode cX7_isWord 44 = .ok (.arraylength, 1) := by decide +kernel
theorem dX7_isWord_45 : decode cX7_isWord 45 = .ok (.if_icmp .ge 17, 3) := by decide +kernel
theorem dX7_isWord_48 : decode cX7_isWord 48 = .ok (.aload_n 0, 1) := by decide +kernel
theorem dX7_isWord_49 : decode cX7_isWord 49 = .ok (.getfield 9, 3) := by decide +kernel
theorem dX7_isWord_52 : decode cX7_isWord 52 = .ok (.iload_n 3, 1) := by decide +kernel
theorem dX7_isWord_53 : decode cX7_isWord 53 = .ok (.iaload, 1) := by decide +kernel
theorem dX7_isWord_54 : decode cX7_isWord 54 = .ok (.aload_n 1, 1) := by decide +kernel
theorem dX7_isWord_55 : decode cX7_isWord 55 = .ok (.iload_n 2, 1) := by decide +kernel
theorem dX7_isWord_56 : decode cX7_isWord 56 = .ok (.invokevirtual 88, 3) := by decide +kernel
theorem dX7_isWord_59 : decode cX7_isWord 59 = .ok (.if_icmp .eq 5, 3) := by decide +kernel
theorem dX7_isWord_62 : decode cX7_isWord 62 = .ok (.iconst 0, 1) := by decide +kernel
theorem dX7_isWord_63 : decode cX7_isWord 63 = .ok (.ireturn, 1) := by decide +kernel
theorem dX7_isWord_64 : decode cX7_isWord 64 = .ok (.iinc 2 1, 3) := by decide +kernel
theorem dX7_isWord_67 : decode cX7_isWord 67 = .ok (.goto (-47), 3) := by decide +kernel
theorem dX7_isWord_70 : decode cX7_isWord 70 = .ok (.iconst 1, 1) := by decide +kernel
theorem dX7_isWord_71 : decode cX7_isWord 71 = .ok (.ireturn, 1) := by decide +kernel
theorem dX7_numberFromHere_0 : decode cX7_numberFromHere 0 = .ok (.iconst 0, 1) := by decide +kernel
theorem dX7_numberFromHere_1 : decode cX7_numberFromHere 1 = .ok (.istore_n 1, 1) := by decide +kernel
theorem dX7_numberFromHere_2 : decode cX7_numberFromHere 2 = .ok (.aload_n 0, 1) := by decide +kernel
theorem dX7_numberFromHere_3 : decode cX7_numberFromHere 3 = .ok (.getfield 25, 3) := by decide +kernel
theorem dX7_numberFromHere_6 : decode cX7_numberFromHere 6 = .ok (.aload_n 0, 1) := by decide +kernel
theorem dX7_numberFromHere_7 : decode cX7_numberFromHere 7 = .ok (.getfield 15, 3) := by decide +kernel
theorem dX7_numberFromHere_10 : decode cX7_numberFromHere 10 = .ok (.if_icmp .ge 47, 3) := by decide +kernel
theorem dX7_numberFromHere_13 : decode cX7_numberFromHere 13 = .ok (.aload_n 0, 1) := by decide +kernel
theorem dX7_numberFromHere_14 : decode cX7_numberFromHere 14 = .ok (.aload_n 0, 1) := by decide +kernel
theorem dX7_numberFromHere_15 : decode cX7_numberFromHere 15 = .ok (.getfield 25, 3) := by decide +kernel
theorem dX7_numberFromHere_18 : decode cX7_numberFromHere 18 = .ok (.invokevirtual 31, 3) := by decide +kernel
theorem dX7_numberFromHere_21 : decode cX7_numberFromHere 21 = .ok (.invokestatic 46, 3) := by decide +kernel
theorem dX7_numberFromHere_24 : decode cX7_numberFromHere 24 = .ok (.ifCond .eq 33, 3) := by decide +kernel
theorem dX7_numberFromHere_27 : decode cX7_numberFromHere 27 = .ok (.iload_n 1, 1) := by decide +kernel
theorem dX7_numberFromHere_28 : decode cX7_numberFromHere 28 = .ok (.bipush 10, 2) := by decide +kernel
theorem dX7_numberFromHere_30 : decode cX7_numberFromHere 30 = .ok (.imul, 1) := by decide +kernel
theorem dX7_numberFromHere_31 : decode cX7_numberFromHere 31 = .ok (.aload_n 0, 1) := by decide +kernel
theorem dX7_numberFromHere_32 : decode cX7_numberFromHere 32 = .ok (.aload_n 0, 1) := by decide +kernel
theorem dX7_numberFromHere_33 : decode cX7_numberFromHere 33 = .ok (.getfield 25, 3) := by decide +kernel
theorem dX7_numberFromHere_36 : decode cX7_numberFromHere 36 = .ok (.invokevirtual 31, 3) := by decide +kernel
theorem dX7_numberFromHere_39 : decode cX7_numberFromHere 39 = .ok (.iadd, 1) := by decide +kernel
theorem dX7_numberFromHere_40 : decode cX7_numberFromHere 40 = .ok (.bipush 48, 2) := by decide +kernel
theorem dX7_numberFromHere_42 : decode cX7_numberFromHere 42 = .ok (.isub, 1) := by decide +kernel
theorem dX7_numberFromHere_43 : decode cX7_numberFromHere 43 = .ok (.istore_n 1, 1) := by decide +kernel
theorem dX7_numberFromHere_44 : decode cX7_numberFromHere 44 = .ok (.aload_n 0, 1) := by decide +kernel
theorem dX7_numberFromHere_45 : decode cX7_numberFromHere 45 = .ok (.dup, 1) := by decide +kernel
theorem dX7_numberFromHere_46 : decode cX7_numberFromHere 46 = .ok (.getfield 25, 3) := by decide +kernel
theorem dX7_numberFromHere_49 : decode cX7_numberFromHere 49 = .ok (.iconst 1, 1) := by decide +kernel
theorem dX7_numberFromHere_50 : decode cX7_numberFromHere 50 = .ok (.iadd, 1) := by decide +kernel
theorem dX7_numberFromHere_51 : decode cX7_numberFromHere 51 = .ok (.putfield 25, 3) := by decide +kernel
theorem dX7_numberFromHere_54 : decode cX7_numberFromHere 54 = .ok (.goto (-52), 3) := by decide +kernel
theorem dX7_numberFromHere_57 : decode cX7_numberFromHere 57 = .ok (.aload_n 0, 1) := by decide +kernel
theorem dX7_numberFromHere_58 : decode cX7_numberFromHere 58 = .ok (.getfield 25, 3) := by decide +kernel
theorem dX7_numberFromHere_61 : decode cX7_numberFromHere 61 = .ok (.aload_n 0, 1) := by decide +kernel
theorem dX7_numberFromHere_62 : decode cX7_numberFromHere 62 = .ok (.getfield 22, 3) := by decide +kernel
theorem dX7_numberFromHere_65 : decode cX7_numberFromHere 65 = .ok (.isub, 1) := by decide +kernel
theorem dX7_numberFromHere_66 : decode cX7_numberFromHere 66 = .ok (.iconst 4, 1) := by decide +kernel
theorem dX7_numberFromHere_67 : decode cX7_numberFromHere 67 = .ok (.if_icmp .le 8, 3) := by decide +kernel
theorem dX7_numberFromHere_70 : decode cX7_numberFromHere 70 = .ok (.bipush (-23), 2) := by decide +kernel
theorem dX7_numberFromHere_72 : decode cX7_numberFromHere 72 = .ok (.goto 4, 3) := by decide +kernel
theorem dX7_numberFromHere_75 : decode cX7_numberFromHere 75 = .ok (.iload_n 1, 1) := by decide +kernel
theorem dX7_numberFromHere_76 : decode cX7_numberFromHere 76 = .ok (.ireturn, 1) := by decide +kernel
theorem dX7_signOf_0 : decode cX7_signOf 0 = .ok (.iload_n 0, 1) := by decide +kernel
theorem dX7_signOf_1 : decode cX7_signOf 1 = .ok (.tableswitch 127 40 61 #[103, 106, 118, 112, 127, 115, 127, 127, 127, 127, 127, 127, 127, 127, 127, 127, 127, 127, 127, 109, 121, 124], 103) := by decide +kernel
theorem dX7_signOf_104 : decode cX7_signOf 104 = .ok (.bipush (-19), 2) := by decide +kernel
theorem dX7_signOf_106 : decode cX7_signOf 106 = .ok (.ireturn, 1) := by decide +kernel
theorem dX7_signOf_107 : decode cX7_signOf 107 = .ok (.bipush (-20), 2) := by decide +kernel
theorem dX7_signOf_109 : decode cX7_signOf 109 = .ok (.ireturn, 1) := by decide +kernel
theorem dX7_signOf_110 : decode cX7_signOf 110 = .ok (.bipush (-21), 2) := by decide +kernel
theorem dX7_signOf_112 : decode cX7_signOf 112 = .ok (.ireturn, 1) := by decide +kernel
theorem dX7_signOf_113 : decode cX7_signOf 113 = .ok (.bipush (-12), 2) := by decide +kernel
theorem dX7_signOf_115 : decode cX7_signOf 115 = .ok (.ireturn, 1) := by decide +kernel
theorem dX7_signOf_116 : decode cX7_signOf 116 = .ok (.bipush (-13), 2) := by decide +kernel
theorem dX7_signOf_118 : decode cX7_signOf 118 = .ok (.ireturn, 1) := by decide +kernel
theorem dX7_signOf_119 : decode cX7_signOf 119 = .ok (.bipush (-14), 2) := by decide +kernel
theorem dX7_signOf_121 : decode cX7_signOf 121 = .ok (.ireturn, 1) := by decide +kernel
theorem dX7_signOf_122 : decode cX7_signOf 122 = .ok (.bipush (-10), 2) := by decide +kernel
theorem dX7_signOf_124 : decode cX7_signOf 124 = .ok (.ireturn, 1) := by decide +kernel
theorem dX7_signOf_125 : decode cX7_signOf 125 = .ok (.bipush (-11), 2) := by decide +kernel
theorem dX7_signOf_127 : decode cX7_signOf 127 = .ok (.ireturn, 1) := by decide +kernel
theorem dX7_signOf_128 : decode cX7_signOf 128 = .ok (.bipush (-23), 2) := by decide +kernel
theorem dX7_signOf_130 : decode cX7_signOf 130 = .ok (.ireturn, 1) := by decide +kernel
theorem dX7_isBlank_0 : decode cX7_isBlank 0 = .ok (.iload_n 0, 1) := by decide +kernel
theorem dX7_isBlank_1 : decode cX7_isBlank 1 = .ok (.bipush 32, 2) := by decide +kernel
theorem dX7_isBlank_3 : decode cX7_isBlank 3 = .ok (.if_icmp .eq 9, 3) := by decide +kernel
theorem dX7_isBlank_6 : decode cX7_isBlank 6 = .ok (.iload_n 0, 1) := by decide +kernel
theorem dX7_isBlank_7 : decode cX7_isBlank 7 = .ok (.bipush 10, 2) := by decide +kernel
theorem dX7_isBlank_9 : decode cX7_isBlank 9 = .ok (.if_icmp .ne 7, 3) := by decide +kernel
theorem dX7_isBlank_12 : decode cX7_isBlank 12 = .ok (.iconst 1, 1) := by decide +kernel
theorem dX7_isBlank_13 : decode cX7_isBlank 13 = .ok (.goto 4, 3) := by decide +kernel
theorem dX7_isBlank_16 : decode cX7_isBlank 16 = .ok (.iconst 0, 1) := by decide +kernel
theorem dX7_isBlank_17 : decode cX7_isBlank 17 = .ok (.ireturn, 1) := by decide +kernel
theorem dX7_isLetter_0 : decode cX7_isLetter 0 = .ok (.iload_n 0, 1) := by decide +kernel
theorem dX7_isLetter_1 : decode cX7_isLetter 1 = .ok (.bipush 97, 2) := by decide +kernel
theorem dX7_isLetter_3 : decode cX7_isLetter 3 = .ok (.if_icmp .lt 13, 3) := by decide +kernel
theorem dX7_isLetter_6 : decode cX7_isLetter 6 = .ok (.iload_n 0, 1) := by decide +kernel
theorem dX7_isLetter_7 : decode cX7_isLetter 7 = .ok (.bipush 122, 2) := by decide +kernel
theorem dX7_isLetter_9 : decode cX7_isLetter 9 = .ok (.if_icmp .gt 7, 3) := by decide +kernel
theorem dX7_isLetter_12 : decode cX7_isLetter 12 = .ok (.iconst 1, 1) := by decide +kernel
theorem dX7_isLetter_13 : decode cX7_isLetter 13 = .ok (.goto 4, 3) := by decide +kernel
theorem dX7_isLetter_16 : decode cX7_isLetter 16 = .ok (.iconst 0, 1) := by decide +kernel
theorem dX7_isLetter_17 : decode cX7_isLetter 17 = .ok (.ireturn, 1) := by decide +kernel
theorem dX7_isDigit_0 : decode cX7_isDigit 0 = .ok (.iload_n 0, 1) := by decide +kernel
theorem dX7_isDigit_1 : decode cX7_isDigit 1 = .ok (.bipush 48, 2) := by decide +kernel
theorem dX7_isDigit_3 : decode cX7_isDigit 3 = .ok (.if_icmp .lt 13, 3) := by decide +kernel
theorem dX7_isDigit_6 : decode cX7_isDigit 6 = .ok (.iload_n 0, 1) := by decide +kernel
theorem dX7_isDigit_7 : decode cX7_isDigit 7 = .ok (.bipush 57, 2) := by decide +kernel
theorem dX7_isDigit_9 : decode cX7_isDigit 9 = .ok (.if_icmp .gt 7, 3) := by decide +kernel
theorem dX7_isDigit_12 : decode cX7_isDigit 12 = .ok (.iconst 1, 1) := by decide +kernel
theorem dX7_isDigit_13 : decode cX7_isDigit 13 = .ok (.goto 4, 3) := by decide +kernel
theorem dX7_isDigit_16 : decode cX7_isDigit 16 = .ok (.iconst 0, 1) := by decide +kernel
theorem dX7_isDigit_17 : decode cX7_isDigit 17 = .ok (.ireturn, 1) := by decide +kernel
theorem dX8_init_0 : decode cX8_init 0 = .ok (.aload_n 0, 1) := by decide +kernel
theorem dX8_init_1 : decode cX8_init 1 = .ok (.invokespecial 3, 3) := by decide +kernel
theorem dX8_init_4 : decode cX8_init 4 = .ok (.aload_n 0, 1) := by decide +kernel
theorem dX8_init_5 : decode cX8_init 5 = .ok (.bipush 6, 2) := by decide +kernel
theorem dX8_init_7 : decode cX8_init 7 = .ok (.sipush 160, 3) := by decide +kernel
theorem dX8_init_10 : decode cX8_init 10 = .ok (.multianewarray 9 2, 4) := by decide +kernel
theorem dX8_init_14 : decode cX8_init 14 = .ok (.putfield 11, 3) := by decide +kernel
theorem dX8_init_17 : decode cX8_init 17 = .ok (.aload_n 0, 1) := by decide +kernel
theorem dX8_init_18 : decode cX8_init 18 = .ok (.bipush 6, 2) := by decide +kernel
theorem dX8_init_20 : decode cX8_init 20 = .ok (.newarray .int, 2) := by decide +kernel
theorem dX8_init_22 : decode cX8_init 22 = .ok (.putfield 16, 3) := by decide +kernel
theorem dX8_init_25 : decode cX8_init 25 = .ok (.aload_n 0, 1) := by decide +kernel
theorem dX8_init_26 : decode cX8_init 26 = .ok (.bipush 6, 2) := by decide +kernel
theorem dX8_init_28 : decode cX8_init 28 = .ok (.newarray .int, 2) := by decide +kernel
theorem dX8_init_30 : decode cX8_init 30 = .ok (.putfield 20, 3) := by decide +kernel
theorem dX8_init_33 : decode cX8_init 33 = .ok (.aload_n 0, 1) := by decide +kernel
theorem dX8_init_34 : decode cX8_init 34 = .ok (.bipush 6, 2) := by decide +kernel
theorem dX8_init_36 : decode cX8_init 36 = .ok (.newarray .int, 2) := by decide +kernel
theorem dX8_init_38 : decode cX8_init 38 = .ok (.putfield 23, 3) := by decide +kernel
theorem dX8_init_41 : decode cX8_init 41 = .ok (.aload_n 0, 1) := by decide +kernel
theorem dX8_init_42 : decode cX8_init 42 = .ok (.sipush 160, 3) := by decide +kernel
theorem dX8_init_45 : decode cX8_init 45 = .ok (.newarray .int, 2) := by decide +kernel
theorem dX8_init_47 : decode cX8_init 47 = .ok (.putfield 26, 3) := by decide +kernel
theorem dX8_init_50 : decode cX8_init 50 = .ok (.aload_n 0, 1) := by decide +kernel
theorem dX8_init_51 : decode cX8_init 51 = .ok (.iconst 0, 1) := by decide +kernel
theorem dX8_init_52 : decode cX8_init 52 = .ok (.putfield 29, 3) := by decide +kernel
theorem dX8_init_55 : decode cX8_init 55 = .ok (.return_, 1) := by decide +kernel
theorem dX8_isFull_0 : decode cX8_isFull 0 = .ok (.aload_n 0, 1) := by decide +kernel
theorem dX8_isFull_1 : decode cX8_isFull 1 = .ok (.getfield 29, 3) := by decide +kernel
theorem dX8_isFull_4 : decode cX8_isFull 4 = .ok (.ifCond .lt 12, 3) := by decide +kernel
theorem dX8_isFull_7 : decode cX8_isFull 7 = .ok (.aload_n 0, 1) := by decide +kernel
theorem dX8_isFull_8 : decode cX8_isFull 8 = .ok (.getfield 29, 3) := by decide +kernel
theorem dX8_isFull_11 : decode cX8_isFull 11 = .ok (.bipush 6, 2) := by decide +kernel
theorem dX8_isFull_13 : decode cX8_isFull 13 = .ok (.if_icmp .lt 7, 3) := by decide +kernel
theorem dX8_isFull_16 : decode cX8_isFull 16 = .ok (.iconst 1, 1) := by decide +kernel
theorem dX8_isFull_17 : decode cX8_isFull 17 = .ok (.goto 4, 3) := by decide +kernel
theorem dX8_isFull_20 : decode cX8_isFull 20 = .ok (.iconst 0, 1) := by decide +kernel
theorem dX8_isFull_21 : decode cX8_isFull 21 = .ok (.ireturn, 1) := by decide +kernel
theorem dX8_beginDraft_0 : decode cX8_beginDraft 0 = .ok (.aload_n 0, 1) := by decide +kernel
theorem dX8_beginDraft_1 : decode cX8_beginDraft 1 = .ok (.invokevirtual 33, 3) := by decide +kernel
theorem dX8_beginDraft_4 : decode cX8_beginDraft 4 = .ok (.ifCond .ne 13, 3) := by decide +kernel
theorem dX8_beginDraft_7 : decode cX8_beginDraft 7 = .ok (.aload_n 0, 1) := by decide +kernel
theorem dX8_beginDraft_8 : decode cX8_beginDraft 8 = .ok (.getfield 23, 3) := by decide +kernel
theorem dX8_beginDraft_11 : decode cX8_beginDraft 11 = .ok (.aload_n 0, 1) := by decide +kernel
theorem dX8_beginDraft_12 : decode cX8_beginDraft 12 = .ok (.getfield 29, 3) := by decide +kernel
theorem dX8_beginDraft_15 : decode cX8_beginDraft 15 = .ok (.iconst 0, 1) := by decide +kernel
theorem dX8_beginDraft_16 : decode cX8_beginDraft 16 = .ok (.iastore, 1) := by decide +kernel
theorem dX8_beginDraft_17 : decode cX8_beginDraft 17 = .ok (.return_, 1) := by decide +kernel
theorem dX8_beginPart_0 : decode cX8_beginPart 0 = .ok (.aload_n 0, 1) := by decide +kernel
theorem dX8_beginPart_1 : decode cX8_beginPart 1 = .ok (.invokevirtual 33, 3) := by decide +kernel
theorem dX8_beginPart_4 : decode cX8_beginPart 4 = .ok (.ifCond .eq 4, 3) := by decide +kernel
theorem dX8_beginPart_7 : decode cX8_beginPart 7 = .ok (.return_, 1) := by decide +kernel
theorem dX8_beginPart_8 : decode cX8_beginPart 8 = .ok (.iload_n 1, 1) := by decide +kernel
theorem dX8_beginPart_9 : decode cX8_beginPart 9 = .ok (.bipush (-17), 2) := by decide +kernel
theorem dX8_beginPart_11 : decode cX8_beginPart 11 = .ok (.if_icmp .ne 24, 3) := by decide +kernel
theorem dX8_beginPart_14 : decode cX8_beginPart 14 = .ok (.aload_n 0, 1) := by decide +kernel
theorem dX8_beginPart_15 : decode cX8_beginPart 15 = .ok (.getfield 16, 3) := by decide +kernel
theorem dX8_beginPart_18 : decode cX8_beginPart 18 = .ok (.aload_n 0, 1) := by decide +kernel
theorem dX8_beginPart_19 : decode cX8_beginPart 19 = .ok (.getfield 29, 3) := by decide +kernel
theorem dX8_beginPart_22 : decode cX8_beginPart 22 = .ok (.aload_n 0, 1) := by decide +kernel
theorem dX8_beginPart_23 : decode cX8_beginPart 23 = .ok (.getfield 23, 3) := by decide +kernel
theorem dX8_beginPart_26 : decode cX8_beginPart 26 = .ok (.aload_n 0, 1) := by decide +kernel
theorem dX8_beginPart_27 : decode cX8_beginPart 27 = .ok (.getfield 29, 3) := by decide +kernel
theorem dX8_beginPart_30 : decode cX8_beginPart 30 = .ok (.iaload, 1) := by decide +kernel
theorem dX8_beginPart_31 : decode cX8_beginPart 31 = .ok (.iastore, 1) := by decide +kernel
theorem dX8_beginPart_32 : decode cX8_beginPart 32 = .ok (.goto 27, 3) := by decide +kernel
theorem dX8_beginPart_35 : decode cX8_beginPart 35 = .ok (.iload_n 1, 1) := by decide +kernel
theorem dX8_beginPart_36 : decode cX8_beginPart 36 = .ok (.bipush (-18), 2) := by decide +kernel
theorem dX8_beginPart_38 : decode cX8_beginPart 38 = .ok (.if_icmp .ne 21, 3) := by decide +kernel
theorem dX8_beginPart_41 : decode cX8_beginPart 41 = .ok (.aload_n 0, 1) := by decide +kernel
theorem dX8_beginPart_42 : decode cX8_beginPart 42 = .ok (.getfield 20, 3) := by decide +kernel
theorem dX8_beginPart_45 : decode cX8_beginPart 45 = .ok (.aload_n 0, 1) := by decide +kernel
theorem dX8_beginPart_46 : decode cX8_beginPart 46 = .ok (.getfield 29, 3) := by decide +kernel
theorem dX8_beginPart_49 : decode cX8_beginPart 49 = .ok (.aload_n 0, 1) := by decide +kernel
theorem dX8_beginPart_50 : decode cX8_beginPart 50 = .ok (.getfield 23, 3) := by decide +kernel
theorem dX8_beginPart_53 : decode cX8_beginPart 53 = .ok (.aload_n 0, 1) := by decide +kernel
theorem dX8_beginPart_54 : decode cX8_beginPart 54 = .ok (.getfield 29, 3) := by decide +kernel
theorem dX8_beginPart_57 : decode cX8_beginPart 57 = .ok (.iaload, 1) := by decide +kernel
theorem dX8_beginPart_58 : decode cX8_beginPart 58 = .ok (.iastore, 1) := by decide +kernel
theorem dX8_beginPart_59 : decode cX8_beginPart 59 = .ok (.return_, 1) := by decide +kernel
theorem dX8_write_0 : decode cX8_write 0 = .ok (.aload_n 0, 1) := by decide +kernel
theorem dX8_write_1 : decode cX8_write 1 = .ok (.invokevirtual 33, 3) := by decide +kernel
theorem dX8_write_4 : decode cX8_write 4 = .ok (.ifCond .ne 30, 3) := by decide +kernel
theorem dX8_write_7 : decode cX8_write 7 = .ok (.aload_n 0, 1) := by decide +kernel
theorem dX8_write_8 : decode cX8_write 8 = .ok (.getfield 23, 3) := by decide +kernel
theorem dX8_write_11 : decode cX8_write 11 = .ok (.aload_n 0, 1) := by decide +kernel
theorem dX8_write_12 : decode cX8_write 12 = .ok (.getfield 29, 3) := by decide +kernel
theorem dX8_write_15 : decode cX8_write 15 = .ok (.iaload, 1) := by decide +kernel
theorem dX8_write_16 : decode cX8_write 16 = .ok (.ifCond .lt 18, 3) := by decide +kernel
theorem dX8_write_19 : decode cX8_write 19 = .ok (.aload_n 0, 1) := by decide +kernel
theorem dX8_write_20 : decode cX8_write 20 = .ok (.getfield 23, 3) := by decide +kernel
theorem dX8_write_23 : decode cX8_write 23 = .ok (.aload_n 0, 1) := by decide +kernel
theorem dX8_write_24 : decode cX8_write 24 = .ok (.getfield 29, 3) := by decide +kernel
theorem dX8_write_27 : decode cX8_write 27 = .ok (.iaload, 1) := by decide +kernel
theorem dX8_write_28 : decode cX8_write 28 = .ok (.sipush 160, 3) := by decide +kernel
theorem dX8_write_31 : decode cX8_write 31 = .ok (.if_icmp .lt 5, 3) := by decide +kernel
theorem dX8_write_34 : decode cX8_write 34 = .ok (.iconst 0, 1) := by decide +kernel
theorem dX8_write_35 : decode cX8_write 35 = .ok (.ireturn, 1) := by decide +kernel
theorem dX8_write_36 : decode cX8_write 36 = .ok (.aload_n 0, 1) := by decide +kernel
theorem dX8_write_37 : decode cX8_write 37 = .ok (.getfield 11, 3) := by decide +kernel
theorem dX8_write_40 : decode cX8_write 40 = .ok (.aload_n 0, 1) := by decide +kernel
theorem dX8_write_41 : decode cX8_write 41 = .ok (.getfield 29, 3) := by decide +kernel
theorem dX8_write_44 : decode cX8_write 44 = .ok (.aaload, 1) := by decide +kernel
theorem dX8_write_45 : decode cX8_write 45 = .ok (.aload_n 0, 1) := by decide +kernel
theorem dX8_write_46 : decode cX8_write 46 = .ok (.getfield 23, 3) := by decide +kernel
theorem dX8_write_49 : decode cX8_write 49 = .ok (.aload_n 0, 1) := by decide +kernel
theorem dX8_write_50 : decode cX8_write 50 = .ok (.getfield 29, 3) := by decide +kernel
theorem dX8_write_53 : decode cX8_write 53 = .ok (.iaload, 1) := by decide +kernel
theorem dX8_write_54 : decode cX8_write 54 = .ok (.iload_n 1, 1) := by decide +kernel
theorem dX8_write_55 : decode cX8_write 55 = .ok (.iastore, 1) := by decide +kernel
theorem dX8_write_56 : decode cX8_write 56 = .ok (.aload_n 0, 1) := by decide +kernel
theorem dX8_write_57 : decode cX8_write 57 = .ok (.getfield 23, 3) := by decide +kernel
theorem dX8_write_60 : decode cX8_write 60 = .ok (.aload_n 0, 1) := by decide +kernel
theorem dX8_write_61 : decode cX8_write 61 = .ok (.getfield 29, 3) := by decide +kernel
theorem dX8_write_64 : decode cX8_write 64 = .ok (.dup2, 1) := by decide +kernel
theorem dX8_write_65 : decode cX8_write 65 = .ok (.iaload, 1) := by decide +kernel
theorem dX8_write_66 : decode cX8_write 66 = .ok (.iconst 1, 1) := by decide +kernel
theorem dX8_write_67 : decode cX8_write 67 = .ok (.iadd, 1) := by decide +kernel
theorem dX8_write_68 : decode cX8_write 68 = .ok (.iastore, 1) := by decide +kernel
theorem dX8_write_69 : decode cX8_write 69 = .ok (.iconst 1, 1) := by decide +kernel
theorem dX8_write_70 : decode cX8_write 70 = .ok (.ireturn, 1) := by decide +kernel
theorem dX8_keepDraft_0 : decode cX8_keepDraft 0 = .ok (.aload_n 0, 1) := by decide +kernel
theorem dX8_keepDraft_1 : decode cX8_keepDraft 1 = .ok (.invokevirtual 33, 3) := by decide +kernel
theorem dX8_keepDraft_4 : decode cX8_keepDraft 4 = .ok (.ifCond .eq 8, 3) := by decide +kernel
theorem dX8_keepDraft_7 : decode cX8_keepDraft 7 = .ok (.bipush (-4), 2) := by decide +kernel
theorem dX8_keepDraft_9 : decode cX8_keepDraft 9 = .ok (.goto 14, 3) := by decide +kernel
theorem dX8_keepDraft_12 : decode cX8_keepDraft 12 = .ok (.aload_n 0, 1) := by decide +kernel
theorem dX8_keepDraft_13 : decode cX8_keepDraft 13 = .ok (.dup, 1) := by decide +kernel
theorem dX8_keepDraft_14 : decode cX8_keepDraft 14 = .ok (.getfield 29, 3) := by decide +kernel
theorem dX8_keepDraft_17 : decode cX8_keepDraft 17 = .ok (.dup_x1, 1) := by decide +kernel
theorem dX8_keepDraft_18 : decode cX8_keepDraft 18 = .ok (.iconst 1, 1) := by decide +kernel
theorem dX8_keepDraft_19 : decode cX8_keepDraft 19 = .ok (.iadd, 1) := by decide +kernel
theorem dX8_keepDraft_20 : decode cX8_keepDraft 20 = .ok (.putfield 29, 3) := by decide +kernel
theorem dX8_keepDraft_23 : decode cX8_keepDraft 23 = .ok (.ireturn, 1) := by decide +kernel
theorem dX8_tell_0 : decode cX8_tell 0 = .ok (.iload_n 1, 1) := by decide +kernel
theorem dX8_tell_1 : decode cX8_tell 1 = .ok (.ifCond .lt 9, 3) := by decide +kernel
theorem dX8_tell_4 : decode cX8_tell 4 = .ok (.iload_n 1, 1) := by decide +kernel
theorem dX8_tell_5 : decode cX8_tell 5 = .ok (.bipush 6, 2) := by decide +kernel
theorem dX8_tell_7 : decode cX8_tell 7 = .ok (.if_icmp .lt 5, 3) := by decide +kernel
theorem dX8_tell_10 : decode cX8_tell 10 = .ok (.iconst 0, 1) := by decide +kernel
theorem dX8_tell_11 : decode cX8_tell 11 = .ok (.ireturn, 1) := by decide +kernel
theorem dX8_tell_12 : decode cX8_tell 12 = .ok (.iload_n 2, 1) := by decide +kernel
theorem dX8_tell_13 : decode cX8_tell 13 = .ok (.bipush (-16), 2) := by decide +kernel
theorem dX8_tell_15 : decode cX8_tell 15 = .ok (.if_icmp .ne 7, 3) := by decide +kernel
theorem dX8_tell_18 : decode cX8_tell 18 = .ok (.iconst 0, 1) := by decide +kernel
theorem dX8_tell_19 : decode cX8_tell 19 = .ok (.goto 24, 3) := by decide +kernel
theorem dX8_tell_22 : decode cX8_tell 22 = .ok (.iload_n 2, 1) := by decide +kernel
theorem dX8_tell_23 : decode cX8_tell 23 = .ok (.bipush (-17), 2) := by decide +kernel
theorem dX8_tell_25 : decode cX8_tell 25 = .ok (.if_icmp .ne 12, 3) := by decide +kernel
theorem dX8_tell_28 : decode cX8_tell 28 = .ok (.aload_n 0, 1) := by decide +kernel
theorem dX8_tell_29 : decode cX8_tell 29 = .ok (.getfield 16, 3) := by decide +kernel
theorem dX8_tell_32 : decode cX8_tell 32 = .ok (.iload_n 1, 1) := by decide +kernel
theorem dX8_tell_33 : decode cX8_tell 33 = .ok (.iaload, 1) := by decide +kernel
theorem dX8_tell_34 : decode cX8_tell 34 = .ok (.goto 9, 3) := by decide +kernel
theorem dX8_tell_37 : decode cX8_tell 37 = .ok (.aload_n 0, 1) := by decide +kernel
theorem dX8_tell_38 : decode cX8_tell 38 = .ok (.getfield 20, 3) := by decide +kernel
theorem dX8_tell_41 : decode cX8_tell 41 = .ok (.iload_n 1, 1) := by decide +kernel
theorem dX8_tell_42 : decode cX8_tell 42 = .ok (.iaload, 1) := by decide +kernel
theorem dX8_tell_43 : decode cX8_tell 43 = .ok (.istore 4, 2) := by decide +kernel
theorem dX8_tell_45 : decode cX8_tell 45 = .ok (.iload_n 2, 1) := by decide +kernel
theorem dX8_tell_46 : decode cX8_tell 46 = .ok (.bipush (-16), 2) := by decide +kernel
theorem dX8_tell_48 : decode cX8_tell 48 = .ok (.if_icmp .ne 12, 3) := by decide +kernel
theorem dX8_tell_51 : decode cX8_tell 51 = .ok (.aload_n 0, 1) := by decide +kernel
theorem dX8_tell_52 : decode cX8_tell 52 = .ok (.getfield 16, 3) := by decide +kernel
theorem dX8_tell_55 : decode cX8_tell 55 = .ok (.iload_n 1, 1) := by decide +kernel
theorem dX8_tell_56 : decode cX8_tell 56 = .ok (.iaload, 1) := by decide +kernel
theorem dX8_tell_57 : decode cX8_tell 57 = .ok (.goto 24, 3) := by decide +kernel
theorem dX8_tell_60 : decode cX8_tell 60 = .ok (.iload_n 2, 1) := by decide +kernel
theorem dX8_tell_61 : decode cX8_tell 61 = .ok (.bipush (-17), 2) := by decide +kernel
theorem dX8_tell_63 : decode cX8_tell 63 = .ok (.if_icmp .ne 12, 3) := by decide +kernel
theorem dX8_tell_66 : decode cX8_tell 66 = .ok (.aload_n 0, 1) := by decide +kernel
theorem dX8_tell_67 : decode cX8_tell 67 = .ok (.getfield 20, 3) := by decide +kernel
theorem dX8_tell_70 : decode cX8_tell 70 = .ok (.iload_n 1, 1) := by decide +kernel
theorem dX8_tell_71 : decode cX8_tell 71 = .ok (.iaload, 1) := by decide +kernel
theorem dX8_tell_72 : decode cX8_tell 72 = .ok (.goto 9, 3) := by decide +kernel
theorem dX8_tell_75 : decode cX8_tell 75 = .ok (.aload_n 0, 1) := by decide +kernel
theorem dX8_tell_76 : decode cX8_tell 76 = .ok (.getfield 23, 3) := by decide +kernel
theorem dX8_tell_79 : decode cX8_tell 79 = .ok (.iload_n 1, 1) := by decide +kernel
theorem dX8_tell_80 : decode cX8_tell 80 = .ok (.iaload, 1) := by decide +kernel
theorem dX8_tell_81 : decode cX8_tell 81 = .ok (.istore 5, 2) := by decide +kernel
theorem dX8_tell_83 : decode cX8_tell 83 = .ok (.iconst 0, 1) := by decide +kernel
theorem dX8_tell_84 : decode cX8_tell 84 = .ok (.istore 6, 2) := by decide +kernel
theorem dX8_tell_86 : decode cX8_tell 86 = .ok (.iload 4, 2) := by decide +kernel
theorem dX8_tell_88 : decode cX8_tell 88 = .ok (.istore 7, 2) := by decide +kernel
theorem dX8_tell_90 : decode cX8_tell 90 = .ok (.iload 7, 2) := by decide +kernel
theorem dX8_tell_92 : decode cX8_tell 92 = .ok (.ifCond .lt 195, 3) := by decide +kernel
theorem dX8_tell_95 : decode cX8_tell 95 = .ok (.iload 7, 2) := by decide +kernel
theorem dX8_tell_97 : decode cX8_tell 97 = .ok (.iload 5, 2) := by decide +kernel
theorem dX8_tell_99 : decode cX8_tell 99 = .ok (.if_icmp .ge 188, 3) := by decide +kernel
theorem dX8_tell_102 : decode cX8_tell 102 = .ok (.iload 7, 2) := by decide +kernel
theorem dX8_tell_104 : decode cX8_tell 104 = .ok (.sipush 160, 3) := by decide +kernel
theorem dX8_tell_107 : decode cX8_tell 107 = .ok (.if_icmp .ge 180, 3) := by decide +kernel
theorem dX8_tell_110 : decode cX8_tell 110 = .ok (.aload_n 0, 1) := by decide +kernel
theorem dX8_tell_111 : decode cX8_tell 111 = .ok (.getfield 11, 3) := by decide +kernel
theorem dX8_tell_114 : decode cX8_tell 114 = .ok (.iload_n 1, 1) := by decide +kernel
theorem dX8_tell_115 : decode cX8_tell 115 = .ok (.aaload, 1) := by decide +kernel
theorem dX8_tell_116 : decode cX8_tell 116 = .ok (.iload 7, 2) := by decide +kernel
theorem dX8_tell_118 : decode cX8_tell 118 = .ok (.iaload, 1) := by decide +kernel
theorem dX8_tell_119 : decode cX8_tell 119 = .ok (.istore 8, 2) := by decide +kernel
theorem dX8_tell_121 : decode cX8_tell 121 = .ok (.iload 8, 2) := by decide +kernel
theorem dX8_tell_123 : decode cX8_tell 123 = .ok (.bipush (-7), 2) := by decide +kernel
theorem dX8_tell_125 : decode cX8_tell 125 = .ok (.if_icmp .le 42, 3) := by decide +kernel
theorem dX8_tell_128 : decode cX8_tell 128 = .ok (.iload 6, 2) := by decide +kernel
theorem dX8_tell_130 : decode cX8_tell 130 = .ok (.sipush 160, 3) := by decide +kernel
theorem dX8_tell_133 : decode cX8_tell 133 = .ok (.if_icmp .lt 5, 3) := by decide +kernel
theorem dX8_tell_136 : decode cX8_tell 136 = .ok (.iconst 0, 1) := by decide +kernel
theorem dX8_tell_137 : decode cX8_tell 137 = .ok (.ireturn, 1) := by decide +kernel
theorem dX8_tell_138 : decode cX8_tell 138 = .ok (.aload_n 0, 1) := by decide +kernel
theorem dX8_tell_139 : decode cX8_tell 139 = .ok (.getfield 26, 3) := by decide +kernel
theorem dX8_tell_142 : decode cX8_tell 142 = .ok (.iload 6, 2) := by decide +kernel
theorem dX8_tell_144 : decode cX8_tell 144 = .ok (.iinc 6 1, 3) := by decide +kernel
theorem dX8_tell_147 : decode cX8_tell 147 = .ok (.iload 8, 2) := by decide +kernel
theorem dX8_tell_149 : decode cX8_tell 149 = .ok (.ifCond .lt 8, 3) := by decide +kernel
theorem dX8_tell_152 : decode cX8_tell 152 = .ok (.iload 8, 2) := by decide +kernel
theorem dX8_tell_154 : decode cX8_tell 154 = .ok (.goto 9, 3) := by decide +kernel
theorem dX8_tell_157 : decode cX8_tell 157 = .ok (.aload_n 3, 1) := by decide +kernel
theorem dX8_tell_158 : decode cX8_tell 158 = .ok (.iload 8, 2) := by decide +kernel
theorem dX8_tell_160 : decode cX8_tell 160 = .ok (.invokevirtual 37, 3) := by decide +kernel
theorem dX8_tell_163 : decode cX8_tell 163 = .ok (.iastore, 1) := by decide +kernel
theorem dX8_tell_164 : decode cX8_tell 164 = .ok (.goto 117, 3) := by decide +kernel
theorem dX8_tell_167 : decode cX8_tell 167 = .ok (.iload 6, 2) := by decide +kernel
theorem dX8_tell_169 : decode cX8_tell 169 = .ok (.iconst 1, 1) := by decide +kernel
theorem dX8_tell_170 : decode cX8_tell 170 = .ok (.if_icmp .ge 5, 3) := by decide +kernel
theorem dX8_tell_173 : decode cX8_tell 173 = .ok (.iconst 0, 1) := by decide +kernel
theorem dX8_tell_174 : decode cX8_tell 174 = .ok (.ireturn, 1) := by decide +kernel
theorem dX8_tell_175 : decode cX8_tell 175 = .ok (.iload 8, 2) := by decide +kernel
theorem dX8_tell_177 : decode cX8_tell 177 = .ok (.bipush (-9), 2) := by decide +kernel
theorem dX8_tell_179 : decode cX8_tell 179 = .ok (.if_icmp .ne 32, 3) := by decide +kernel
theorem dX8_tell_182 : decode cX8_tell 182 = .ok (.aload_n 0, 1) := by decide +kernel
theorem dX8_tell_183 : decode cX8_tell 183 = .ok (.getfield 26, 3) := by decide +kernel
theorem dX8_tell_186 : decode cX8_tell 186 = .ok (.iload 6, 2) := by decide +kernel
theorem dX8_tell_188 : decode cX8_tell 188 = .ok (.iconst 1, 1) := by decide +kernel
theorem dX8_tell_189 : decode cX8_tell 189 = .ok (.isub, 1) := by decide +kernel
theorem dX8_tell_190 : decode cX8_tell 190 = .ok (.aload_n 0, 1) := by decide +kernel
theorem dX8_tell_191 : decode cX8_tell 191 = .ok (.getfield 26, 3) := by decide +kernel
theorem dX8_tell_194 : decode cX8_tell 194 = .ok (.iload 6, 2) := by decide +kernel
theorem dX8_tell_196 : decode cX8_tell 196 = .ok (.iconst 1, 1) := by decide +kernel
theorem dX8_tell_197 : decode cX8_tell 197 = .ok (.isub, 1) := by decide +kernel
theorem dX8_tell_198 : decode cX8_tell 198 = .ok (.iaload, 1) := by decide +kernel
theorem dX8_tell_199 : decode cX8_tell 199 = .ok (.ifCond .ne 7, 3) := by decide +kernel
theorem dX8_tell_202 : decode cX8_tell 202 = .ok (.iconst 1, 1) := by decide +kernel
theorem dX8_tell_203 : decode cX8_tell 203 = .ok (.goto 4, 3) := by decide +kernel
theorem dX8_tell_206 : decode cX8_tell 206 = .ok (.iconst 0, 1) := by decide +kernel
theorem dX8_tell_207 : decode cX8_tell 207 = .ok (.iastore, 1) := by decide +kernel
theorem dX8_tell_208 : decode cX8_tell 208 = .ok (.goto 73, 3) := by decide +kernel
theorem dX8_tell_211 : decode cX8_tell 211 = .ok (.iload 8, 2) := by decide +kernel
theorem dX8_tell_213 : decode cX8_tell 213 = .ok (.bipush (-15), 2) := by decide +kernel
theorem dX8_tell_215 : decode cX8_tell 215 = .ok (.if_icmp .ne 25, 3) := by decide +kernel
theorem dX8_tell_218 : decode cX8_tell 218 = .ok (.aload_n 0, 1) := by decide +kernel
theorem dX8_tell_219 : decode cX8_tell 219 = .ok (.getfield 26, 3) := by decide +kernel
theorem dX8_tell_222 : decode cX8_tell 222 = .ok (.iload 6, 2) := by decide +kernel
theorem dX8_tell_224 : decode cX8_tell 224 = .ok (.iconst 1, 1) := by decide +kernel
theorem dX8_tell_225 : decode cX8_tell 225 = .ok (.isub, 1) := by decide +kernel
theorem dX8_tell_226 : decode cX8_tell 226 = .ok (.aload_n 0, 1) := by decide +kernel
theorem dX8_tell_227 : decode cX8_tell 227 = .ok (.getfield 26, 3) := by decide +kernel
theorem dX8_tell_230 : decode cX8_tell 230 = .ok (.iload 6, 2) := by decide +kernel
theorem dX8_tell_232 : decode cX8_tell 232 = .ok (.iconst 1, 1) := by decide +kernel
theorem dX8_tell_233 : decode cX8_tell 233 = .ok (.isub, 1) := by decide +kernel
theorem dX8_tell_234 : decode cX8_tell 234 = .ok (.iaload, 1) := by decide +kernel
theorem dX8_tell_235 : decode cX8_tell 235 = .ok (.ineg, 1) := by decide +kernel
theorem dX8_tell_236 : decode cX8_tell 236 = .ok (.iastore, 1) := by decide +kernel
theorem dX8_tell_237 : decode cX8_tell 237 = .ok (.goto 44, 3) := by decide +kernel
theorem dX8_tell_240 : decode cX8_tell 240 = .ok (.iload 6, 2) := by decide +kernel
theorem dX8_tell_242 : decode cX8_tell 242 = .ok (.iconst 2, 1) := by decide +kernel
theorem dX8_tell_243 : decode cX8_tell 243 = .ok (.if_icmp .ge 5, 3) := by decide +kernel
theorem dX8_tell_246 : decode cX8_tell 246 = .ok (.iconst 0, 1) := by decide +kernel
theorem dX8_tell_247 : decode cX8_tell 247 = .ok (.ireturn, 1) := by decide +kernel
theorem dX8_tell_248 : decode cX8_tell 248 = .ok (.iinc 6 (-1), 3) := by decide +kernel
theorem dX8_tell_251 : decode cX8_tell 251 = .ok (.aload_n 0, 1) := by decide +kernel
theorem dX8_tell_252 : decode cX8_tell 252 = .ok (.getfield 26, 3) := by decide +kernel
theorem dX8_tell_255 : decode cX8_tell 255 = .ok (.iload 6, 2) := by decide +kernel
theorem dX8_tell_257 : decode cX8_tell 257 = .ok (.iconst 1, 1) := by decide +kernel
theorem dX8_tell_258 : decode cX8_tell 258 = .ok (.isub, 1) := by decide +kernel
theorem dX8_tell_259 : decode cX8_tell 259 = .ok (.iload 8, 2) := by decide +kernel
theorem dX8_tell_261 : decode cX8_tell 261 = .ok (.aload_n 0, 1) := by decide +kernel
theorem dX8_tell_262 : decode cX8_tell 262 = .ok (.getfield 26, 3) := by decide +kernel
theorem dX8_tell_265 : decode cX8_tell 265 = .ok (.iload 6, 2) := by decide +kernel
theorem dX8_tell_267 : decode cX8_tell 267 = .ok (.iconst 1, 1) := by decide +kernel
theorem dX8_tell_268 : decode cX8_tell 268 = .ok (.isub, 1) := by decide +kernel
theorem dX8_tell_269 : decode cX8_tell 269 = .ok (.iaload, 1) := by decide +kernel
theorem dX8_tell_270 : decode cX8_tell 270 = .ok (.aload_n 0, 1) := by decide +kernel
theorem dX8_tell_271 : decode cX8_tell 271 = .ok (.getfield 26, 3) := by decide +kernel
theorem dX8_tell_274 : decode cX8_tell 274 = .ok (.iload 6, 2) := by decide +kernel
theorem dX8_tell_276 : decode cX8_tell 276 = .ok (.iaload, 1) := by decide +kernel
theorem dX8_tell_277 : decode cX8_tell 277 = .ok (.invokestatic 43, 3) := by decide +kernel
theorem dX8_tell_280 : decode cX8_tell 280 = .ok (.iastore, 1) := by decide +kernel
theorem dX8_tell_281 : decode cX8_tell 281 = .ok (.iinc 7 1, 3) := by decide +kernel
theorem dX8_tell_284 : decode cX8_tell 284 = .ok (.goto (-194), 3) := by decide +kernel
theorem dX8_tell_287 : decode cX8_tell 287 = .ok (.iload 6, 2) := by decide +kernel
theorem dX8_tell_289 : decode cX8_tell 289 = .ok (.ifCond .le 15, 3) := by decide +kernel
theorem dX8_tell_292 : decode cX8_tell 292 = .ok (.aload_n 0, 1) := by decide +kernel
theorem dX8_tell_293 : decode cX8_tell 293 = .ok (.getfield 26, 3) := by decide +kernel
theorem dX8_tell_296 : decode cX8_tell 296 = .ok (.iload 6, 2) := by decide +kernel
theorem dX8_tell_298 : decode cX8_tell 298 = .ok (.iconst 1, 1) := by decide +kernel
theorem dX8_tell_299 : decode cX8_tell 299 = .ok (.isub, 1) := by decide +kernel
theorem dX8_tell_300 : decode cX8_tell 300 = .ok (.iaload, 1) := by decide +kernel
theorem dX8_tell_301 : decode cX8_tell 301 = .ok (.goto 4, 3) := by decide +kernel
theorem dX8_tell_304 : decode cX8_tell 304 = .ok (.iconst 0, 1) := by decide +kernel
theorem dX8_tell_305 : decode cX8_tell 305 = .ok (.ireturn, 1) := by decide +kernel
theorem dX8_joined_0 : decode cX8_joined 0 = .ok (.iload_n 0, 1) := by decide +kernel
theorem dX8_joined_1 : decode cX8_joined 1 = .ok (.tableswitch 101 (-13) (-7) #[97, 93, 82, 71, 101, 57, 43], 43) := by decide +kernel
theorem dX8_joined_44 : decode cX8_joined 44 = .ok (.iload_n 1, 1) := by decide +kernel
theorem dX8_joined_45 : decode cX8_joined 45 = .ok (.ifCond .ne 7, 3) := by decide +kernel
theorem dX8_joined_48 : decode cX8_joined 48 = .ok (.iload_n 2, 1) := by decide +kernel
theorem dX8_joined_49 : decode cX8_joined 49 = .ok (.ifCond .eq 7, 3) := by decide +kernel
theorem dX8_joined_52 : decode cX8_joined 52 = .ok (.iconst 1, 1) := by decide +kernel
theorem dX8_joined_53 : decode cX8_joined 53 = .ok (.goto 4, 3) := by decide +kernel
theorem dX8_joined_56 : decode cX8_joined 56 = .ok (.iconst 0, 1) := by decide +kernel
theorem dX8_joined_57 : decode cX8_joined 57 = .ok (.ireturn, 1) := by decide +kernel
theorem dX8_joined_58 : decode cX8_joined 58 = .ok (.iload_n 1, 1) := by decide +kernel
theorem dX8_joined_59 : decode cX8_joined 59 = .ok (.ifCond .eq 11, 3) := by decide +kernel
theorem dX8_joined_62 : decode cX8_joined 62 = .ok (.iload_n 2, 1) := by decide +kernel
theorem dX8_joined_63 : decode cX8_joined 63 = .ok (.ifCond .eq 7, 3) := by decide +kernel
theorem dX8_joined_66 : decode cX8_joined 66 = .ok (.iconst 1, 1) := by decide +kernel
theorem dX8_joined_67 : decode cX8_joined 67 = .ok (.goto 4, 3) := by decide +kernel
theorem dX8_joined_70 : decode cX8_joined 70 = .ok (.iconst 0, 1) := by decide +kernel
theorem dX8_joined_71 : decode cX8_joined 71 = .ok (.ireturn, 1) := by decide +kernel
theorem dX8_joined_72 : decode cX8_joined 72 = .ok (.iload_n 1, 1) := by decide +kernel
theorem dX8_joined_73 : decode cX8_joined 73 = .ok (.iload_n 2, 1) := by decide +kernel
theorem dX8_joined_74 : decode cX8_joined 74 = .ok (.if_icmp .ge 7, 3) := by decide +kernel
theorem dX8_joined_77 : decode cX8_joined 77 = .ok (.iconst 1, 1) := by decide +kernel
theorem dX8_joined_78 : decode cX8_joined 78 = .ok (.goto 4, 3) := by decide +kernel
theorem dX8_joined_81 : decode cX8_joined 81 = .ok (.iconst 0, 1) := by decide +kernel
theorem dX8_joined_82 : decode cX8_joined 82 = .ok (.ireturn, 1) := by decide +kernel
theorem dX8_joined_83 : decode cX8_joined 83 = .ok (.iload_n 1, 1) := by decide +kernel
theorem dX8_joined_84 : decode cX8_joined 84 = .ok (.iload_n 2, 1) := by decide +kernel
theorem dX8_joined_85 : decode cX8_joined 85 = .ok (.if_icmp .ne 7, 3) := by decide +kernel
theorem dX8_joined_88 : decode cX8_joined 88 = .ok (.iconst 1, 1) := by decide +kernel
theorem dX8_joined_89 : decode cX8_joined 89 = .ok (.goto 4, 3) := by decide +kernel
theorem dX8_joined_92 : decode cX8_joined 92 = .ok (.iconst 0, 1) := by decide +kernel
theorem dX8_joined_93 : decode cX8_joined 93 = .ok (.ireturn, 1) := by decide +kernel
theorem dX8_joined_94 : decode cX8_joined 94 = .ok (.iload_n 1, 1) := by decide +kernel
theorem dX8_joined_95 : decode cX8_joined 95 = .ok (.iload_n 2, 1) := by decide +kernel
theorem dX8_joined_96 : decode cX8_joined 96 = .ok (.iadd, 1) := by decide +kernel
theorem dX8_joined_97 : decode cX8_joined 97 = .ok (.ireturn, 1) := by decide +kernel
theorem dX8_joined_98 : decode cX8_joined 98 = .ok (.iload_n 1, 1) := by decide +kernel
theorem dX8_joined_99 : decode cX8_joined 99 = .ok (.iload_n 2, 1) := by decide +kernel
theorem dX8_joined_100 : decode cX8_joined 100 = .ok (.isub, 1) := by decide +kernel
theorem dX8_joined_101 : decode cX8_joined 101 = .ok (.ireturn, 1) := by decide +kernel
theorem dX8_joined_102 : decode cX8_joined 102 = .ok (.iload_n 1, 1) := by decide +kernel
theorem dX8_joined_103 : decode cX8_joined 103 = .ok (.iload_n 2, 1) := by decide +kernel
theorem dX8_joined_104 : decode cX8_joined 104 = .ok (.imul, 1) := by decide +kernel
theorem dX8_joined_105 : decode cX8_joined 105 = .ok (.ireturn, 1) := by decide +kernel
theorem dX9_init_0 : decode cX9_init 0 = .ok (.aload_n 0, 1) := by decide +kernel
theorem dX9_init_1 : decode cX9_init 1 = .ok (.invokespecial 1, 3) := by decide +kernel
theorem dX9_init_4 : decode cX9_init 4 = .ok (.aload_n 0, 1) := by decide +kernel
theorem dX9_init_5 : decode cX9_init 5 = .ok (.new 7, 3) := by decide +kernel
theorem dX9_init_8 : decode cX9_init 8 = .ok (.dup, 1) := by decide +kernel
theorem dX9_init_9 : decode cX9_init 9 = .ok (.invokespecial 9, 3) := by decide +kernel
theorem dX9_init_12 : decode cX9_init 12 = .ok (.putfield 10, 3) := by decide +kernel
theorem dX9_init_15 : decode cX9_init 15 = .ok (.aload_n 0, 1) := by decide +kernel
theorem dX9_init_16 : decode cX9_init 16 = .ok (.new 7, 3) := by decide +kernel
theorem dX9_init_19 : decode cX9_init 19 = .ok (.dup, 1) := by decide +kernel
theorem dX9_init_20 : decode cX9_init 20 = .ok (.invokespecial 9, 3) := by decide +kernel
theorem dX9_init_23 : decode cX9_init 23 = .ok (.putfield 16, 3) := by decide +kernel
theorem dX9_init_26 : decode cX9_init 26 = .ok (.aload_n 0, 1) := by decide +kernel
theorem dX9_init_27 : decode cX9_init 27 = .ok (.iconst 0, 1) := by decide +kernel
theorem dX9_init_28 : decode cX9_init 28 = .ok (.putfield 19, 3) := by decide +kernel
theorem dX9_init_31 : decode cX9_init 31 = .ok (.aload_n 0, 1) := by decide +kernel
theorem dX9_init_32 : decode cX9_init 32 = .ok (.new 23, 3) := by decide +kernel
theorem dX9_init_35 : decode cX9_init 35 = .ok (.dup, 1) := by decide +kernel
theorem dX9_init_36 : decode cX9_init 36 = .ok (.invokespecial 25, 3) := by decide +kernel
theorem dX9_init_39 : decode cX9_init 39 = .ok (.putfield 26, 3) := by decide +kernel
theorem dX9_init_42 : decode cX9_init 42 = .ok (.aload_n 0, 1) := by decide +kernel
theorem dX9_init_43 : decode cX9_init 43 = .ok (.new 30, 3) := by decide +kernel
theorem dX9_init_46 : decode cX9_init 46 = .ok (.dup, 1) := by decide +kernel
theorem dX9_init_47 : decode cX9_init 47 = .ok (.invokespecial 32, 3) := by decide +kernel
theorem dX9_init_50 : decode cX9_init 50 = .ok (.putfield 33, 3) := by decide +kernel
theorem dX9_init_53 : decode cX9_init 53 = .ok (.aload_n 0, 1) := by decide +kernel
theorem dX9_init_54 : decode cX9_init 54 = .ok (.new 37, 3) := by decide +kernel
theorem dX9_init_57 : decode cX9_init 57 = .ok (.dup, 1) := by decide +kernel
theorem dX9_init_58 : decode cX9_init 58 = .ok (.aload_n 0, 1) := by decide +kernel
theorem dX9_init_59 : decode cX9_init 59 = .ok (.getfield 26, 3) := by decide +kernel
theorem dX9_init_62 : decode cX9_init 62 = .ok (.aload_n 0, 1) := by decide +kernel
theorem dX9_init_63 : decode cX9_init 63 = .ok (.getfield 33, 3) := by decide +kernel
theorem dX9_init_66 : decode cX9_init 66 = .ok (.invokespecial 39, 3) := by decide +kernel
theorem dX9_init_69 : decode cX9_init 69 = .ok (.putfield 42, 3) := by decide +kernel
theorem dX9_init_72 : decode cX9_init 72 = .ok (.aload_n 0, 1) := by decide +kernel
theorem dX9_init_73 : decode cX9_init 73 = .ok (.iconst 4, 1) := by decide +kernel
theorem dX9_init_74 : decode cX9_init 74 = .ok (.anewarray 46, 3) := by decide +kernel
theorem dX9_init_77 : decode cX9_init 77 = .ok (.putfield 48, 3) := by decide +kernel
theorem dX9_init_80 : decode cX9_init 80 = .ok (.aload_n 0, 1) := by decide +kernel
theorem dX9_init_81 : decode cX9_init 81 = .ok (.new 52, 3) := by decide +kernel
theorem dX9_init_84 : decode cX9_init 84 = .ok (.dup, 1) := by decide +kernel
theorem dX9_init_85 : decode cX9_init 85 = .ok (.aload_n 0, 1) := by decide +kernel
theorem dX9_init_86 : decode cX9_init 86 = .ok (.getfield 10, 3) := by decide +kernel
theorem dX9_init_89 : decode cX9_init 89 = .ok (.aload_n 0, 1) := by decide +kernel
theorem dX9_init_90 : decode cX9_init 90 = .ok (.getfield 33, 3) := by decide +kernel
theorem dX9_init_93 : decode cX9_init 93 = .ok (.invokespecial 54, 3) := by decide +kernel
theorem dX9_init_96 : decode cX9_init 96 = .ok (.putfield 57, 3) := by decide +kernel
theorem dX9_init_99 : decode cX9_init 99 = .ok (.aload_n 0, 1) := by decide +kernel
theorem dX9_init_100 : decode cX9_init 100 = .ok (.new 61, 3) := by decide +kernel
theorem dX9_init_103 : decode cX9_init 103 = .ok (.dup, 1) := by decide +kernel
theorem dX9_init_104 : decode cX9_init 104 = .ok (.aload_n 0, 1) := by decide +kernel
theorem dX9_init_105 : decode cX9_init 105 = .ok (.getfield 10, 3) := by decide +kernel
theorem dX9_init_108 : decode cX9_init 108 = .ok (.aload_n 0, 1) := by decide +kernel
theorem dX9_init_109 : decode cX9_init 109 = .ok (.getfield 57, 3) := by decide +kernel
theorem dX9_init_112 : decode cX9_init 112 = .ok (.invokespecial 63, 3) := by decide +kernel
theorem dX9_init_115 : decode cX9_init 115 = .ok (.putfield 66, 3) := by decide +kernel
theorem dX9_init_118 : decode cX9_init 118 = .ok (.aload_n 0, 1) := by decide +kernel
theorem dX9_init_119 : decode cX9_init 119 = .ok (.new 70, 3) := by decide +kernel
theorem dX9_init_122 : decode cX9_init 122 = .ok (.dup, 1) := by decide +kernel
theorem dX9_init_123 : decode cX9_init 123 = .ok (.aload_n 0, 1) := by decide +kernel
theorem dX9_init_124 : decode cX9_init 124 = .ok (.getfield 10, 3) := by decide +kernel
theorem dX9_init_127 : decode cX9_init 127 = .ok (.aload_n 0, 1) := by decide +kernel
theorem dX9_init_128 : decode cX9_init 128 = .ok (.getfield 57, 3) := by decide +kernel
theorem dX9_init_131 : decode cX9_init 131 = .ok (.invokespecial 72, 3) := by decide +kernel
theorem dX9_init_134 : decode cX9_init 134 = .ok (.putfield 73, 3) := by decide +kernel
theorem dX9_init_137 : decode cX9_init 137 = .ok (.iconst 0, 1) := by decide +kernel
theorem dX9_init_138 : decode cX9_init 138 = .ok (.istore_n 1, 1) := by decide +kernel
theorem dX9_init_139 : decode cX9_init 139 = .ok (.iload_n 1, 1) := by decide +kernel
theorem dX9_init_140 : decode cX9_init 140 = .ok (.aload_n 0, 1) := by decide +kernel
theorem dX9_init_141 : decode cX9_init 141 = .ok (.getfield 48, 3) := by decide +kernel
theorem dX9_init_144 : decode cX9_init 144 = .ok (.arraylength, 1) := by decide +kernel
theorem dX9_init_145 : decode cX9_init 145 = .ok (.if_icmp .ge 22, 3) := by decide +kernel
theorem dX9_init_148 : decode cX9_init 148 = .ok (.aload_n 0, 1) := by decide +kernel
theorem dX9_init_149 : decode cX9_init 149 = .ok (.getfield 48, 3) := by decide +kernel
theorem dX9_init_152 : decode cX9_init 152 = .ok (.iload_n 1, 1) := by decide +kernel
theorem dX9_init_153 : decode cX9_init 153 = .ok (.new 46, 3) := by decide +kernel
theorem dX9_init_156 : decode cX9_init 156 = .ok (.dup, 1) := by decide +kernel
theorem dX9_init_157 : decode cX9_init 157 = .ok (.invokespecial 77, 3) := by decide +kernel
theorem dX9_init_160 : decode cX9_init 160 = .ok (.aastore, 1) := by decide +kernel
theorem dX9_init_161 : decode cX9_init 161 = .ok (.iinc 1 1, 3) := by decide +kernel
theorem dX9_init_164 : decode cX9_init 164 = .ok (.goto (-25), 3) := by decide +kernel
theorem dX9_init_167 : decode cX9_init 167 = .ok (.iconst 0, 1) := by decide +kernel
theorem dX9_init_168 : decode cX9_init 168 = .ok (.istore_n 1, 1) := by decide +kernel
theorem dX9_init_169 : decode cX9_init 169 = .ok (.iload_n 1, 1) := by decide +kernel
theorem dX9_init_170 : decode cX9_init 170 = .ok (.ldc 78, 2) := by decide +kernel
theorem dX9_init_172 : decode cX9_init 172 = .ok (.invokevirtual 80, 3) := by decide +kernel
theorem dX9_init_175 : decode cX9_init 175 = .ok (.if_icmp .ge 23, 3) := by decide +kernel
theorem dX9_init_178 : decode cX9_init 178 = .ok (.aload_n 0, 1) := by decide +kernel
theorem dX9_init_179 : decode cX9_init 179 = .ok (.getfield 26, 3) := by decide +kernel
theorem dX9_init_182 : decode cX9_init 182 = .ok (.ldc 78, 2) := by decide +kernel
theorem dX9_init_184 : decode cX9_init 184 = .ok (.iload_n 1, 1) := by decide +kernel
theorem dX9_init_185 : decode cX9_init 185 = .ok (.invokevirtual 86, 3) := by decide +kernel
theorem dX9_init_188 : decode cX9_init 188 = .ok (.invokevirtual 90, 3) := by decide +kernel
theorem dX9_init_191 : decode cX9_init 191 = .ok (.pop, 1) := by decide +kernel
theorem dX9_init_192 : decode cX9_init 192 = .ok (.iinc 1 1, 3) := by decide +kernel
theorem dX9_init_195 : decode cX9_init 195 = .ok (.goto (-26), 3) := by decide +kernel
theorem dX9_init_198 : decode cX9_init 198 = .ok (.aload_n 0, 1) := by decide +kernel
theorem dX9_init_199 : decode cX9_init 199 = .ok (.invokevirtual 94, 3) := by decide +kernel
theorem dX9_init_202 : decode cX9_init 202 = .ok (.pop, 1) := by decide +kernel
theorem dX9_init_203 : decode cX9_init 203 = .ok (.return_, 1) := by decide +kernel
theorem dX9_set_0 : decode cX9_set 0 = .ok (.iload_n 1, 1) := by decide +kernel
theorem dX9_set_1 : decode cX9_set 1 = .ok (.ifCond .lt 16, 3) := by decide +kernel
theorem dX9_set_4 : decode cX9_set 4 = .ok (.iload_n 1, 1) := by decide +kernel
theorem dX9_set_5 : decode cX9_set 5 = .ok (.iconst 5, 1) := by decide +kernel
theorem dX9_set_6 : decode cX9_set 6 = .ok (.if_icmp .gt 11, 3) := by decide +kernel
theorem dX9_set_9 : decode cX9_set 9 = .ok (.iload_n 1, 1) := by decide +kernel
theorem dX9_set_10 : decode cX9_set 10 = .ok (.iload_n 3, 1) := by decide +kernel
theorem dX9_set_11 : decode cX9_set 11 = .ok (.invokestatic 97, 3) := by decide +kernel
theorem dX9_set_14 : decode cX9_set 14 = .ok (.ifCond .ne 6, 3) := by decide +kernel
theorem dX9_set_17 : decode cX9_set 17 = .ok (.bipush (-2), 2) := by decide +kernel
theorem dX9_set_19 : decode cX9_set 19 = .ok (.ireturn, 1) := by decide +kernel
theorem dX9_set_20 : decode cX9_set 20 = .ok (.iload_n 1, 1) := by decide +kernel
theorem dX9_set_21 : decode cX9_set 21 = .ok (.iconst 3, 1) := by decide +kernel
theorem dX9_set_22 : decode cX9_set 22 = .ok (.if_icmp .lt 17, 3) := by decide +kernel
theorem dX9_set_25 : decode cX9_set 25 = .ok (.aload_n 0, 1) := by decide +kernel
theorem dX9_set_26 : decode cX9_set 26 = .ok (.getfield 10, 3) := by decide +kernel
theorem dX9_set_29 : decode cX9_set 29 = .ok (.iload_n 2, 1) := by decide +kernel
theorem dX9_set_30 : decode cX9_set 30 = .ok (.invokevirtual 101, 3) := by decide +kernel
theorem dX9_set_33 : decode cX9_set 33 = .ok (.ifCond .ne 6, 3) := by decide +kernel
theorem dX9_set_36 : decode cX9_set 36 = .ok (.bipush (-2), 2) := by decide +kernel
theorem dX9_set_38 : decode cX9_set 38 = .ok (.ireturn, 1) := by decide +kernel
theorem dX9_set_39 : decode cX9_set 39 = .ok (.aload_n 0, 1) := by decide +kernel
theorem dX9_set_40 : decode cX9_set 40 = .ok (.getfield 10, 3) := by decide +kernel
theorem dX9_set_43 : decode cX9_set 43 = .ok (.iload_n 1, 1) := by decide +kernel
theorem dX9_set_44 : decode cX9_set 44 = .ok (.iload_n 2, 1) := by decide +kernel
theorem dX9_set_45 : decode cX9_set 45 = .ok (.invokevirtual 105, 3) := by decide +kernel
theorem dX9_set_48 : decode cX9_set 48 = .ok (.istore 4, 2) := by decide +kernel
theorem dX9_set_50 : decode cX9_set 50 = .ok (.aload_n 0, 1) := by decide +kernel
theorem dX9_set_51 : decode cX9_set 51 = .ok (.getfield 10, 3) := by decide +kernel
theorem dX9_set_54 : decode cX9_set 54 = .ok (.iload_n 1, 1) := by decide +kernel
theorem dX9_set_55 : decode cX9_set 55 = .ok (.iload_n 2, 1) := by decide +kernel
theorem dX9_set_56 : decode cX9_set 56 = .ok (.iload_n 3, 1) := by decide +kernel
theorem dX9_set_57 : decode cX9_set 57 = .ok (.invokevirtual 109, 3) := by decide +kernel
theorem dX9_set_60 : decode cX9_set 60 = .ok (.iload 4, 2) := by decide +kernel
theorem dX9_set_62 : decode cX9_set 62 = .ok (.ireturn, 1) := by decide +kernel
theorem dX9_guest_0 : decode cX9_guest 0 = .ok (.bipush 6, 2) := by decide +kernel
theorem dX9_guest_2 : decode cX9_guest 2 = .ok (.iload_n 1, 1) := by decide +kernel
theorem dX9_guest_3 : decode cX9_guest 3 = .ok (.invokestatic 97, 3) := by decide +kernel
theorem dX9_guest_6 : decode cX9_guest 6 = .ok (.ifCond .eq 19, 3) := by decide +kernel
theorem dX9_guest_9 : decode cX9_guest 9 = .ok (.iconst 3, 1) := by decide +kernel
theorem dX9_guest_10 : decode cX9_guest 10 = .ok (.iload_n 2, 1) := by decide +kernel
theorem dX9_guest_11 : decode cX9_guest 11 = .ok (.invokestatic 97, 3) := by decide +kernel
theorem dX9_guest_14 : decode cX9_guest 14 = .ok (.ifCond .eq 11, 3) := by decide +kernel
theorem dX9_guest_17 : decode cX9_guest 17 = .ok (.iconst 4, 1) := by decide +kernel
theorem dX9_guest_18 : decode cX9_guest 18 = .ok (.iload_n 3, 1) := by decide +kernel
theorem dX9_guest_19 : decode cX9_guest 19 = .ok (.invokestatic 97, 3) := by decide +kernel
theorem dX9_guest_22 : decode cX9_guest 22 = .ok (.ifCond .ne 6, 3) := by decide +kernel
theorem dX9_guest_25 : decode cX9_guest 25 = .ok (.bipush (-2), 2) := by decide +kernel
theorem dX9_guest_27 : decode cX9_guest 27 = .ok (.ireturn, 1) := by decide +kernel
theorem dX9_guest_28 : decode cX9_guest 28 = .ok (.aload_n 0, 1) := by decide +kernel
theorem dX9_guest_29 : decode cX9_guest 29 = .ok (.getfield 10, 3) := by decide +kernel
theorem dX9_guest_32 : decode cX9_guest 32 = .ok (.iload_n 1, 1) := by decide +kernel
theorem dX9_guest_33 : decode cX9_guest 33 = .ok (.iload_n 2, 1) := by decide +kernel
theorem dX9_guest_34 : decode cX9_guest 34 = .ok (.iload_n 3, 1) := by decide +kernel
theorem dX9_guest_35 : decode cX9_guest 35 = .ok (.invokevirtual 113, 3) := by decide +kernel
theorem dX9_guest_38 : decode cX9_guest 38 = .ok (.ireturn, 1) := by decide +kernel
theorem dX9_told_0 : decode cX9_told 0 = .ok (.iload_n 2, 1) := by decide +kernel
theorem dX9_told_1 : decode cX9_told 1 = .ok (.ifCond .lt 9, 3) := by decide +kernel
theorem dX9_told_4 : decode cX9_told 4 = .ok (.iload_n 2, 1) := by decide +kernel
theorem dX9_told_5 : decode cX9_told 5 = .ok (.bipush 8, 2) := by decide +kernel
theorem dX9_told_7 : decode cX9_told 7 = .ok (.if_icmp .le 7, 3) := by decide +kernel
theorem dX9_told_10 : decode cX9_told 10 = .ok (.sipush (-1000), 3) := by decide +kernel
theorem dX9_told_13 : decode cX9_told 13 = .ok (.ireturn, 1) := by decide +kernel
theorem dX9_told_14 : decode cX9_told 14 = .ok (.iload_n 2, 1) := by decide +kernel
theorem dX9_told_15 : decode cX9_told 15 = .ok (.iconst 3, 1) := by decide +kernel
theorem dX9_told_16 : decode cX9_told 16 = .ok (.if_icmp .lt 18, 3) := by decide +kernel
theorem dX9_told_19 : decode cX9_told 19 = .ok (.aload_n 0, 1) := by decide +kernel
theorem dX9_told_20 : decode cX9_told 20 = .ok (.getfield 10, 3) := by decide +kernel
theorem dX9_told_23 : decode cX9_told 23 = .ok (.iload_n 1, 1) := by decide +kernel
theorem dX9_told_24 : decode cX9_told 24 = .ok (.invokevirtual 101, 3) := by decide +kernel
theorem dX9_told_27 : decode cX9_told 27 = .ok (.ifCond .ne 7, 3) := by decide +kernel
theorem dX9_told_30 : decode cX9_told 30 = .ok (.sipush (-1000), 3) := by decide +kernel
theorem dX9_told_33 : decode cX9_told 33 = .ok (.ireturn, 1) := by decide +kernel
theorem dX9_told_34 : decode cX9_told 34 = .ok (.iload_n 2, 1) := by decide +kernel
theorem dX9_told_35 : decode cX9_told 35 = .ok (.bipush 6, 2) := by decide +kernel
theorem dX9_told_37 : decode cX9_told 37 = .ok (.if_icmp .gt 13, 3) := by decide +kernel
theorem dX9_told_40 : decode cX9_told 40 = .ok (.aload_n 0, 1) := by decide +kernel
theorem dX9_told_41 : decode cX9_told 41 = .ok (.getfield 10, 3) := by decide +kernel
theorem dX9_told_44 : decode cX9_told 44 = .ok (.iload_n 2, 1) := by decide +kernel
theorem dX9_told_45 : decode cX9_told 45 = .ok (.iload_n 1, 1) := by decide +kernel
theorem dX9_told_46 : decode cX9_told 46 = .ok (.invokevirtual 105, 3) := by decide +kernel
theorem dX9_told_49 : decode cX9_told 49 = .ok (.ireturn, 1) := by decide +kernel
theorem dX9_told_50 : decode cX9_told 50 = .ok (.aload_n 0, 1) := by decide +kernel
theorem dX9_told_51 : decode cX9_told 51 = .ok (.getfield 57, 3) := by decide +kernel
theorem dX9_told_54 : decode cX9_told 54 = .ok (.invokevirtual 117, 3) := by decide +kernel
theorem dX9_told_57 : decode cX9_told 57 = .ok (.aload_n 0, 1) := by decide +kernel
theorem dX9_told_58 : decode cX9_told 58 = .ok (.getfield 57, 3) := by decide +kernel
theorem dX9_told_61 : decode cX9_told 61 = .ok (.iload_n 1, 1) := by decide +kernel
theorem dX9_told_62 : decode cX9_told 62 = .ok (.invokevirtual 120, 3) := by decide +kernel
theorem dX9_told_65 : decode cX9_told 65 = .ok (.iload_n 2, 1) := by decide +kernel
theorem dX9_told_66 : decode cX9_told 66 = .ok (.bipush 7, 2) := by decide +kernel
theorem dX9_told_68 : decode cX9_told 68 = .ok (.if_icmp .ne 13, 3) := by decide +kernel
theorem dX9_told_71 : decode cX9_told 71 = .ok (.aload_n 0, 1) := by decide +kernel
theorem dX9_told_72 : decode cX9_told 72 = .ok (.getfield 57, 3) := by decide +kernel
theorem dX9_told_75 : decode cX9_told 75 = .ok (.invokevirtual 124, 3) := by decide +kernel
theorem dX9_told_78 : decode cX9_told 78 = .ok (.goto 10, 3) := by decide +kernel
theorem dX9_told_81 : decode cX9_told 81 = .ok (.aload_n 0, 1) := by decide +kernel
theorem dX9_told_82 : decode cX9_told 82 = .ok (.getfield 57, 3) := by decide +kernel
theorem dX9_told_85 : decode cX9_told 85 = .ok (.invokevirtual 127, 3) := by decide +kernel
theorem dX9_told_88 : decode cX9_told 88 = .ok (.ireturn, 1) := by decide +kernel
theorem dX9_feed_0 : decode cX9_feed 0 = .ok (.iload_n 1, 1) := by decide +kernel
theorem dX9_feed_1 : decode cX9_feed 1 = .ok (.ifCond .lt 10, 3) := by decide +kernel
theorem dX9_feed_4 : decode cX9_feed 4 = .ok (.iload_n 1, 1) := by decide +kernel
theorem dX9_feed_5 : decode cX9_feed 5 = .ok (.sipush 255, 3) := by decide +kernel
theorem dX9_feed_8 : decode cX9_feed 8 = .ok (.if_icmp .le 6, 3) := by decide +kernel
theorem dX9_feed_11 : decode cX9_feed 11 = .ok (.bipush (-2), 2) := by decide +kernel
theorem dX9_feed_13 : decode cX9_feed 13 = .ok (.ireturn, 1) := by decide +kernel
theorem dX9_feed_14 : decode cX9_feed 14 = .ok (.aload_n 0, 1) := by decide +kernel
theorem dX9_feed_15 : decode cX9_feed 15 = .ok (.getfield 26, 3) := by decide +kernel
theorem dX9_feed_18 : decode cX9_feed 18 = .ok (.iload_n 1, 1) := by decide +kernel
theorem dX9_feed_19 : decode cX9_feed 19 = .ok (.invokevirtual 90, 3) := by decide +kernel
theorem dX9_feed_22 : decode cX9_feed 22 = .ok (.ireturn, 1) := by decide +kernel
theorem dX9_text_0 : decode cX9_text 0 = .ok (.aload_n 0, 1) := by decide +kernel
theorem dX9_text_1 : decode cX9_text 1 = .ok (.getfield 33, 3) := by decide +kernel
theorem dX9_text_4 : decode cX9_text 4 = .ok (.invokevirtual 130, 3) := by decide +kernel
theorem dX9_text_7 : decode cX9_text 7 = .ok (.ifCond .eq 6, 3) := by decide +kernel
theorem dX9_text_10 : decode cX9_text 10 = .ok (.bipush (-4), 2) := by decide +kernel
theorem dX9_text_12 : decode cX9_text 12 = .ok (.ireturn, 1) := by decide +kernel
theorem dX9_text_13 : decode cX9_text 13 = .ok (.aload_n 0, 1) := by decide +kernel
theorem dX9_text_14 : decode cX9_text 14 = .ok (.getfield 42, 3) := by decide +kernel
theorem dX9_text_17 : decode cX9_text 17 = .ok (.invokevirtual 134, 3) := by decide +kernel
theorem dX9_text_20 : decode cX9_text 20 = .ok (.istore_n 1, 1) := by decide +kernel
theorem dX9_text_21 : decode cX9_text 21 = .ok (.aload_n 0, 1) := by decide +kernel
theorem dX9_text_22 : decode cX9_text 22 = .ok (.getfield 26, 3) := by decide +kernel
theorem dX9_text_25 : decode cX9_text 25 = .ok (.invokevirtual 137, 3) := by decide +kernel
theorem dX9_text_28 : decode cX9_text 28 = .ok (.iload_n 1, 1) := by decide +kernel
theorem dX9_text_29 : decode cX9_text 29 = .ok (.iconst (-1), 1) := by decide +kernel
theorem dX9_text_30 : decode cX9_text 30 = .ok (.if_icmp .ne 13, 3) := by decide +kernel
theorem dX9_text_33 : decode cX9_text 33 = .ok (.aload_n 0, 1) := by decide +kernel
theorem dX9_text_34 : decode cX9_text 34 = .ok (.getfield 33, 3) := by decide +kernel
theorem dX9_text_37 : decode cX9_text 37 = .ok (.invokevirtual 140, 3) := by decide +kernel
theorem dX9_text_40 : decode cX9_text 40 = .ok (.goto 7, 3) := by decide +kernel
theorem dX9_text_43 : decode cX9_text 43 = .ok (.bipush (-100), 2) := by decide +kernel
theorem dX9_text_45 : decode cX9_text 45 = .ok (.iload_n 1, 1) := by decide +kernel
theorem dX9_text_46 : decode cX9_text 46 = .ok (.isub, 1) := by decide +kernel
theorem dX9_text_47 : decode cX9_text 47 = .ok (.ireturn, 1) := by decide +kernel
theorem dX9_force_0 : decode cX9_force 0 = .ok (.iload_n 1, 1) := by decide +kernel
theorem dX9_force_1 : decode cX9_force 1 = .ok (.ifCond .lt 14, 3) := by decide +kernel
theorem dX9_force_4 : decode cX9_force 4 = .ok (.iload_n 1, 1) := by decide +kernel
theorem dX9_force_5 : decode cX9_force 5 = .ok (.aload_n 0, 1) := by decide +kernel
theorem dX9_force_6 : decode cX9_force 6 = .ok (.getfield 33, 3) := by decide +kernel
theorem dX9_force_9 : decode cX9_force 9 = .ok (.getfield 143, 3) := by decide +kernel
theorem dX9_force_12 : decode cX9_force 12 = .ok (.if_icmp .lt 6, 3) := by decide +kernel
theorem dX9_force_15 : decode cX9_force 15 = .ok (.bipush (-2), 2) := by decide +kernel
theorem dX9_force_17 : decode cX9_force 17 = .ok (.ireturn, 1) := by decide +kernel
theorem dX9_force_18 : decode cX9_force 18 = .ok (.aload_n 0, 1) := by decide +kernel
theorem dX9_force_19 : decode cX9_force 19 = .ok (.getfield 10, 3) := by decide +kernel
theorem dX9_force_22 : decode cX9_force 22 = .ok (.getfield 147, 3) := by decide +kernel
theorem dX9_force_25 : decode cX9_force 25 = .ok (.istore_n 2, 1) := by decide +kernel
theorem dX9_force_26 : decode cX9_force 26 = .ok (.aload_n 0, 1) := by decide +kernel
theorem dX9_force_27 : decode cX9_force 27 = .ok (.getfield 10, 3) := by decide +kernel
theorem dX9_force_30 : decode cX9_force 30 = .ok (.iload_n 1, 1) := by decide +kernel
theorem dX9_force_31 : decode cX9_force 31 = .ok (.putfield 147, 3) := by decide +kernel
theorem dX9_force_34 : decode cX9_force 34 = .ok (.iload_n 2, 1) := by decide +kernel
theorem dX9_force_35 : decode cX9_force 35 = .ok (.ireturn, 1) := by decide +kernel
theorem dX9_evening_0 : decode cX9_evening 0 = .ok (.aload_n 0, 1) := by decide +kernel
theorem dX9_evening_1 : decode cX9_evening 1 = .ok (.iload_n 1, 1) := by decide +kernel
theorem dX9_evening_2 : decode cX9_evening 2 = .ok (.invokevirtual 150, 3) := by decide +kernel
theorem dX9_evening_5 : decode cX9_evening 5 = .ok (.astore_n 3, 1) := by decide +kernel
theorem dX9_evening_6 : decode cX9_evening 6 = .ok (.aload_n 3, 1) := by decide +kernel
theorem dX9_evening_7 : decode cX9_evening 7 = .ok (.ifnull 21, 3) := by decide +kernel
theorem dX9_evening_10 : decode cX9_evening 10 = .ok (.aload_n 3, 1) := by decide +kernel
theorem dX9_evening_11 : decode cX9_evening 11 = .ok (.invokevirtual 154, 3) := by decide +kernel
theorem dX9_evening_14 : decode cX9_evening 14 = .ok (.ifCond .ne 14, 3) := by decide +kernel
theorem dX9_evening_17 : decode cX9_evening 17 = .ok (.aload_n 0, 1) := by decide +kernel
theorem dX9_evening_18 : decode cX9_evening 18 = .ok (.getfield 57, 3) := by decide +kernel
theorem dX9_evening_21 : decode cX9_evening 21 = .ok (.aload_n 3, 1) := by decide +kernel
theorem dX9_evening_22 : decode cX9_evening 22 = .ok (.invokevirtual 157, 3) := by decide +kernel
theorem dX9_evening_25 : decode cX9_evening 25 = .ok (.ifCond .ne 7, 3) := by decide +kernel
theorem dX9_evening_28 : decode cX9_evening 28 = .ok (.sipush (-1000), 3) := by decide +kernel
theorem dX9_evening_31 : decode cX9_evening 31 = .ok (.ireturn, 1) := by decide +kernel
theorem dX9_evening_32 : decode cX9_evening 32 = .ok (.iload_n 2, 1) := by decide +kernel
theorem dX9_evening_33 : decode cX9_evening 33 = .ok (.tableswitch 51 0 2 #[27, 35, 43], 27) := by decide +kernel
theorem dX9_evening_60 : decode cX9_evening 60 = .ok (.aload_n 0, 1) := by decide +kernel
theorem dX9_evening_61 : decode cX9_evening 61 = .ok (.getfield 57, 3) := by decide +kernel
theorem dX9_evening_64 : decode cX9_evening 64 = .ok (.invokevirtual 161, 3) := by decide +kernel
theorem dX9_evening_67 : decode cX9_evening 67 = .ok (.ireturn, 1) := by decide +kernel
theorem dX9_evening_68 : decode cX9_evening 68 = .ok (.aload_n 0, 1) := by decide +kernel
theorem dX9_evening_69 : decode cX9_evening 69 = .ok (.getfield 57, 3) := by decide +kernel
theorem dX9_evening_72 : decode cX9_evening 72 = .ok (.invokevirtual 164, 3) := by decide +kernel
theorem dX9_evening_75 : decode cX9_evening 75 = .ok (.ireturn, 1) := by decide +kernel
theorem dX9_evening_76 : decode cX9_evening 76 = .ok (.aload_n 0, 1) := by decide +kernel
theorem dX9_evening_77 : decode cX9_evening 77 = .ok (.getfield 57, 3) := by decide +kernel
theorem dX9_evening_80 : decode cX9_evening 80 = .ok (.invokevirtual 167, 3) := by decide +kernel
theorem dX9_evening_83 : decode cX9_evening 83 = .ok (.ireturn, 1) := by decide +kernel
theorem dX9_evening_84 : decode cX9_evening 84 = .ok (.iload_n 2, 1) := by decide +kernel
theorem dX9_evening_85 : decode cX9_evening 85 = .ok (.bipush 10, 2) := by decide +kernel
theorem dX9_evening_87 : decode cX9_evening 87 = .ok (.if_icmp .lt 28, 3) := by decide +kernel
theorem dX9_evening_90 : decode cX9_evening 90 = .ok (.iload_n 2, 1) := by decide +kernel
theorem dX9_evening_91 : decode cX9_evening 91 = .ok (.bipush 10, 2) := by decide +kernel
theorem dX9_evening_93 : decode cX9_evening 93 = .ok (.isub, 1) := by decide +kernel
theorem dX9_evening_94 : decode cX9_evening 94 = .ok (.aload_n 3, 1) := by decide +kernel
theorem dX9_evening_95 : decode cX9_evening 95 = .ok (.getfield 170, 3) := by decide +kernel
theorem dX9_evening_98 : decode cX9_evening 98 = .ok (.if_icmp .ge 17, 3) := by decide +kernel
theorem dX9_evening_101 : decode cX9_evening 101 = .ok (.aload_n 0, 1) := by decide +kernel
theorem dX9_evening_102 : decode cX9_evening 102 = .ok (.getfield 57, 3) := by decide +kernel
theorem dX9_evening_105 : decode cX9_evening 105 = .ok (.iload_n 2, 1) := by decide +kernel
theorem dX9_evening_106 : decode cX9_evening 106 = .ok (.bipush 10, 2) := by decide +kernel
theorem dX9_evening_108 : decode cX9_evening 108 = .ok (.isub, 1) := by decide +kernel
theorem dX9_evening_109 : decode cX9_evening 109 = .ok (.invokevirtual 173, 3) := by decide +kernel
theorem dX9_evening_112 : decode cX9_evening 112 = .ok (.goto 6, 3) := by decide +kernel
theorem dX9_evening_115 : decode cX9_evening 115 = .ok (.sipush (-1000), 3) := by decide +kernel
theorem dX9_evening_118 : decode cX9_evening 118 = .ok (.ireturn, 1) := by decide +kernel
theorem dX9_hold_0 : decode cX9_hold 0 = .ok (.aload_n 0, 1) := by decide +kernel
theorem dX9_hold_1 : decode cX9_hold 1 = .ok (.iload_n 1, 1) := by decide +kernel
theorem dX9_hold_2 : decode cX9_hold 2 = .ok (.invokevirtual 150, 3) := by decide +kernel
theorem dX9_hold_5 : decode cX9_hold 5 = .ok (.astore_n 2, 1) := by decide +kernel
theorem dX9_hold_6 : decode cX9_hold 6 = .ok (.aload_n 2, 1) := by decide +kernel
theorem dX9_hold_7 : decode cX9_hold 7 = .ok (.ifnonnull 6, 3) := by decide +kernel
theorem dX9_hold_10 : decode cX9_hold 10 = .ok (.bipush (-2), 2) := by decide +kernel
theorem dX9_hold_12 : decode cX9_hold 12 = .ok (.ireturn, 1) := by decide +kernel
theorem dX9_hold_13 : decode cX9_hold 13 = .ok (.aload_n 2, 1) := by decide +kernel
theorem dX9_hold_14 : decode cX9_hold 14 = .ok (.invokevirtual 154, 3) := by decide +kernel
theorem dX9_hold_17 : decode cX9_hold 17 = .ok (.ifCond .eq 6, 3) := by decide +kernel
theorem dX9_hold_20 : decode cX9_hold 20 = .ok (.bipush (-11), 2) := by decide +kernel
theorem dX9_hold_22 : decode cX9_hold 22 = .ok (.ireturn, 1) := by decide +kernel
theorem dX9_hold_23 : decode cX9_hold 23 = .ok (.aload_n 0, 1) := by decide +kernel
theorem dX9_hold_24 : decode cX9_hold 24 = .ok (.getfield 57, 3) := by decide +kernel
theorem dX9_hold_27 : decode cX9_hold 27 = .ok (.aload_n 2, 1) := by decide +kernel
theorem dX9_hold_28 : decode cX9_hold 28 = .ok (.invokevirtual 157, 3) := by decide +kernel
theorem dX9_hold_31 : decode cX9_hold 31 = .ok (.ifCond .ne 6, 3) := by decide +kernel
theorem dX9_hold_34 : decode cX9_hold 34 = .ok (.bipush (-2), 2) := by decide +kernel
theorem dX9_hold_36 : decode cX9_hold 36 = .ok (.ireturn, 1) := by decide +kernel
theorem dX9_hold_37 : decode cX9_hold 37 = .ok (.aload_n 0, 1) := by decide +kernel
theorem dX9_hold_38 : decode cX9_hold 38 = .ok (.getfield 10, 3) := by decide +kernel
theorem dX9_hold_41 : decode cX9_hold 41 = .ok (.getfield 176, 3) := by decide +kernel
theorem dX9_hold_44 : decode cX9_hold 44 = .ok (.getstatic 179, 3) := by decide +kernel
theorem dX9_hold_47 : decode cX9_hold 47 = .ok (.iconst 2, 1) := by decide +kernel
theorem dX9_hold_48 : decode cX9_hold 48 = .ok (.iaload, 1) := by decide +kernel
theorem dX9_hold_49 : decode cX9_hold 49 = .ok (.if_icmp .lt 6, 3) := by decide +kernel
theorem dX9_hold_52 : decode cX9_hold 52 = .ok (.bipush (-3), 2) := by decide +kernel
theorem dX9_hold_54 : decode cX9_hold 54 = .ok (.ireturn, 1) := by decide +kernel
theorem dX9_hold_55 : decode cX9_hold 55 = .ok (.aload_n 0, 1) := by decide +kernel
theorem dX9_hold_56 : decode cX9_hold 56 = .ok (.getfield 10, 3) := by decide +kernel
theorem dX9_hold_59 : decode cX9_hold 59 = .ok (.aload_n 0, 1) := by decide +kernel
theorem dX9_hold_60 : decode cX9_hold 60 = .ok (.getfield 57, 3) := by decide +kernel
theorem dX9_hold_63 : decode cX9_hold 63 = .ok (.invokevirtual 161, 3) := by decide +kernel
theorem dX9_hold_66 : decode cX9_hold 66 = .ok (.putfield 183, 3) := by decide +kernel
theorem dX9_hold_69 : decode cX9_hold 69 = .ok (.aload_n 0, 1) := by decide +kernel
theorem dX9_hold_70 : decode cX9_hold 70 = .ok (.getfield 10, 3) := by decide +kernel
theorem dX9_hold_73 : decode cX9_hold 73 = .ok (.dup, 1) := by decide +kernel
theorem dX9_hold_74 : decode cX9_hold 74 = .ok (.getfield 186, 3) := by decide +kernel
theorem dX9_hold_77 : decode cX9_hold 77 = .ok (.aload_n 0, 1) := by decide +kernel
theorem dX9_hold_78 : decode cX9_hold 78 = .ok (.getfield 57, 3) := by decide +kernel
theorem dX9_hold_81 : decode cX9_hold 81 = .ok (.invokevirtual 167, 3) := by decide +kernel
theorem dX9_hold_84 : decode cX9_hold 84 = .ok (.iadd, 1) := by decide +kernel
theorem dX9_hold_85 : decode cX9_hold 85 = .ok (.putfield 186, 3) := by decide +kernel
theorem dX9_hold_88 : decode cX9_hold 88 = .ok (.aload_n 0, 1) := by decide +kernel
theorem dX9_hold_89 : decode cX9_hold 89 = .ok (.getfield 10, 3) := by decide +kernel
theorem dX9_hold_92 : decode cX9_hold 92 = .ok (.dup, 1) := by decide +kernel
theorem dX9_hold_93 : decode cX9_hold 93 = .ok (.getfield 176, 3) := by decide +kernel
theorem dX9_hold_96 : decode cX9_hold 96 = .ok (.iconst 1, 1) := by decide +kernel
theorem dX9_hold_97 : decode cX9_hold 97 = .ok (.iadd, 1) := by decide +kernel
theorem dX9_hold_98 : decode cX9_hold 98 = .ok (.putfield 176, 3) := by decide +kernel
theorem dX9_hold_101 : decode cX9_hold 101 = .ok (.aload_n 0, 1) := by decide +kernel
theorem dX9_hold_102 : decode cX9_hold 102 = .ok (.getfield 57, 3) := by decide +kernel
theorem dX9_hold_105 : decode cX9_hold 105 = .ok (.invokevirtual 167, 3) := by decide +kernel
theorem dX9_hold_108 : decode cX9_hold 108 = .ok (.ireturn, 1) := by decide +kernel
theorem dX9_warmest_0 : decode cX9_warmest 0 = .ok (.iload_n 1, 1) := by decide +kernel
theorem dX9_warmest_1 : decode cX9_warmest 1 = .ok (.ifCond .lt 8, 3) := by decide +kernel
theorem dX9_warmest_4 : decode cX9_warmest 4 = .ok (.iload_n 1, 1) := by decide +kernel
theorem dX9_warmest_5 : decode cX9_warmest 5 = .ok (.iconst 1, 1) := by decide +kernel
theorem dX9_warmest_6 : decode cX9_warmest 6 = .ok (.if_icmp .le 6, 3) := by decide +kernel
theorem dX9_warmest_9 : decode cX9_warmest 9 = .ok (.bipush (-2), 2) := by decide +kernel
theorem dX9_warmest_11 : decode cX9_warmest 11 = .ok (.ireturn, 1) := by decide +kernel
theorem dX9_warmest_12 : decode cX9_warmest 12 = .ok (.aload_n 0, 1) := by decide +kernel
theorem dX9_warmest_13 : decode cX9_warmest 13 = .ok (.getfield 66, 3) := by decide +kernel
theorem dX9_warmest_16 : decode cX9_warmest 16 = .ok (.iconst (-1), 1) := by decide +kernel
theorem dX9_warmest_17 : decode cX9_warmest 17 = .ok (.invokevirtual 189, 3) := by decide +kernel
theorem dX9_warmest_20 : decode cX9_warmest 20 = .ok (.iload_n 1, 1) := by decide +kernel
theorem dX9_warmest_21 : decode cX9_warmest 21 = .ok (.ifCond .ne 13, 3) := by decide +kernel
theorem dX9_warmest_24 : decode cX9_warmest 24 = .ok (.aload_n 0, 1) := by decide +kernel
theorem dX9_warmest_25 : decode cX9_warmest 25 = .ok (.getfield 66, 3) := by decide +kernel
theorem dX9_warmest_28 : decode cX9_warmest 28 = .ok (.getfield 192, 3) := by decide +kernel
theorem dX9_warmest_31 : decode cX9_warmest 31 = .ok (.goto 10, 3) := by decide +kernel
theorem dX9_warmest_34 : decode cX9_warmest 34 = .ok (.aload_n 0, 1) := by decide +kernel
theorem dX9_warmest_35 : decode cX9_warmest 35 = .ok (.getfield 66, 3) := by decide +kernel
theorem dX9_warmest_38 : decode cX9_warmest 38 = .ok (.getfield 195, 3) := by decide +kernel
theorem dX9_warmest_41 : decode cX9_warmest 41 = .ok (.ireturn, 1) := by decide +kernel
theorem dX9_soonest_0 : decode cX9_soonest 0 = .ok (.iload_n 1, 1) := by decide +kernel
theorem dX9_soonest_1 : decode cX9_soonest 1 = .ok (.ifCond .lt 8, 3) := by decide +kernel
theorem dX9_soonest_4 : decode cX9_soonest 4 = .ok (.iload_n 1, 1) := by decide +kernel
theorem dX9_soonest_5 : decode cX9_soonest 5 = .ok (.iconst 3, 1) := by decide +kernel
theorem dX9_soonest_6 : decode cX9_soonest 6 = .ok (.if_icmp .le 6, 3) := by decide +kernel
theorem dX9_soonest_9 : decode cX9_soonest 9 = .ok (.bipush (-2), 2) := by decide +kernel
theorem dX9_soonest_11 : decode cX9_soonest 11 = .ok (.ireturn, 1) := by decide +kernel
theorem dX9_soonest_12 : decode cX9_soonest 12 = .ok (.aload_n 0, 1) := by decide +kernel
theorem dX9_soonest_13 : decode cX9_soonest 13 = .ok (.getfield 66, 3) := by decide +kernel
theorem dX9_soonest_16 : decode cX9_soonest 16 = .ok (.invokevirtual 196, 3) := by decide +kernel
theorem dX9_soonest_19 : decode cX9_soonest 19 = .ok (.iload_n 1, 1) := by decide +kernel
theorem dX9_soonest_20 : decode cX9_soonest 20 = .ok (.tableswitch 52 0 2 #[28, 36, 44], 28) := by decide +kernel
theorem dX9_soonest_48 : decode cX9_soonest 48 = .ok (.aload_n 0, 1) := by decide +kernel
theorem dX9_soonest_49 : decode cX9_soonest 49 = .ok (.getfield 66, 3) := by decide +kernel
theorem dX9_soonest_52 : decode cX9_soonest 52 = .ok (.getfield 192, 3) := by decide +kernel
theorem dX9_soonest_55 : decode cX9_soonest 55 = .ok (.ireturn, 1) := by decide +kernel
theorem dX9_soonest_56 : decode cX9_soonest 56 = .ok (.aload_n 0, 1) := by decide +kernel
theorem dX9_soonest_57 : decode cX9_soonest 57 = .ok (.getfield 66, 3) := by decide +kernel
theorem dX9_soonest_60 : decode cX9_soonest 60 = .ok (.getfield 199, 3) := by decide +kernel
theorem dX9_soonest_63 : decode cX9_soonest 63 = .ok (.ireturn, 1) := by decide +kernel
theorem dX9_soonest_64 : decode cX9_soonest 64 = .ok (.aload_n 0, 1) := by decide +kernel
theorem dX9_soonest_65 : decode cX9_soonest 65 = .ok (.getfield 66, 3) := by decide +kernel
theorem dX9_soonest_68 : decode cX9_soonest 68 = .ok (.getfield 202, 3) := by decide +kernel
theorem dX9_soonest_71 : decode cX9_soonest 71 = .ok (.ireturn, 1) := by decide +kernel
theorem dX9_soonest_72 : decode cX9_soonest 72 = .ok (.aload_n 0, 1) := by decide +kernel
theorem dX9_soonest_73 : decode cX9_soonest 73 = .ok (.getfield 66, 3) := by decide +kernel
theorem dX9_soonest_76 : decode cX9_soonest 76 = .ok (.getfield 199, 3) := by decide +kernel
theorem dX9_soonest_79 : decode cX9_soonest 79 = .ok (.iconst (-1), 1) := by decide +kernel
theorem dX9_soonest_80 : decode cX9_soonest 80 = .ok (.if_icmp .ne 7, 3) := by decide +kernel
theorem dX9_soonest_83 : decode cX9_soonest 83 = .ok (.iconst (-1), 1) := by decide +kernel
theorem dX9_soonest_84 : decode cX9_soonest 84 = .ok (.goto 12, 3) := by decide +kernel
theorem dX9_soonest_87 : decode cX9_soonest 87 = .ok (.aload_n 0, 1) := by decide +kernel
theorem dX9_soonest_88 : decode cX9_soonest 88 = .ok (.getfield 66, 3) := by decide +kernel
theorem dX9_soonest_91 : decode cX9_soonest 91 = .ok (.getfield 199, 3) := by decide +kernel
theorem dX9_soonest_94 : decode cX9_soonest 94 = .ok (.iconst 1, 1) := by decide +kernel
theorem dX9_soonest_95 : decode cX9_soonest 95 = .ok (.iadd, 1) := by decide +kernel
theorem dX9_soonest_96 : decode cX9_soonest 96 = .ok (.ireturn, 1) := by decide +kernel
theorem dX9_ratherNot_0 : decode cX9_ratherNot 0 = .ok (.iload_n 1, 1) := by decide +kernel
theorem dX9_ratherNot_1 : decode cX9_ratherNot 1 = .ok (.ifCond .lt 8, 3) := by decide +kernel
theorem dX9_ratherNot_4 : decode cX9_ratherNot 4 = .ok (.iload_n 1, 1) := by decide +kernel
theorem dX9_ratherNot_5 : decode cX9_ratherNot 5 = .ok (.iconst 1, 1) := by decide +kernel
theorem dX9_ratherNot_6 : decode cX9_ratherNot 6 = .ok (.if_icmp .le 6, 3) := by decide +kernel
theorem dX9_ratherNot_9 : decode cX9_ratherNot 9 = .ok (.bipush (-2), 2) := by decide +kernel
theorem dX9_ratherNot_11 : decode cX9_ratherNot 11 = .ok (.ireturn, 1) := by decide +kernel
theorem dX9_ratherNot_12 : decode cX9_ratherNot 12 = .ok (.aload_n 0, 1) := by decide +kernel
theorem dX9_ratherNot_13 : decode cX9_ratherNot 13 = .ok (.getfield 66, 3) := by decide +kernel
theorem dX9_ratherNot_16 : decode cX9_ratherNot 16 = .ok (.iconst (-1), 1) := by decide +kernel
theorem dX9_ratherNot_17 : decode cX9_ratherNot 17 = .ok (.invokevirtual 189, 3) := by decide +kernel
theorem dX9_ratherNot_20 : decode cX9_ratherNot 20 = .ok (.aload_n 0, 1) := by decide +kernel
theorem dX9_ratherNot_21 : decode cX9_ratherNot 21 = .ok (.getfield 66, 3) := by decide +kernel
theorem dX9_ratherNot_24 : decode cX9_ratherNot 24 = .ok (.getfield 195, 3) := by decide +kernel
theorem dX9_ratherNot_27 : decode cX9_ratherNot 27 = .ok (.istore_n 2, 1) := by decide +kernel
theorem dX9_ratherNot_28 : decode cX9_ratherNot 28 = .ok (.iconst (-1), 1) := by decide +kernel
theorem dX9_ratherNot_29 : decode cX9_ratherNot 29 = .ok (.istore_n 3, 1) := by decide +kernel
theorem dX9_ratherNot_30 : decode cX9_ratherNot 30 = .ok (.iconst 0, 1) := by decide +kernel
theorem dX9_ratherNot_31 : decode cX9_ratherNot 31 = .ok (.istore 4, 2) := by decide +kernel
theorem dX9_ratherNot_33 : decode cX9_ratherNot 33 = .ok (.iload 4, 2) := by decide +kernel
theorem dX9_ratherNot_35 : decode cX9_ratherNot 35 = .ok (.aload_n 0, 1) := by decide +kernel
theorem dX9_ratherNot_36 : decode cX9_ratherNot 36 = .ok (.getfield 10, 3) := by decide +kernel
theorem dX9_ratherNot_39 : decode cX9_ratherNot 39 = .ok (.getfield 205, 3) := by decide +kernel
theorem dX9_ratherNot_42 : decode cX9_ratherNot 42 = .ok (.if_icmp .ge 40, 3) := by decide +kernel
theorem dX9_ratherNot_45 : decode cX9_ratherNot 45 = .ok (.aload_n 0, 1) := by decide +kernel
theorem dX9_ratherNot_46 : decode cX9_ratherNot 46 = .ok (.getfield 66, 3) := by decide +kernel
theorem dX9_ratherNot_49 : decode cX9_ratherNot 49 = .ok (.iload 4, 2) := by decide +kernel
theorem dX9_ratherNot_51 : decode cX9_ratherNot 51 = .ok (.invokevirtual 189, 3) := by decide +kernel
theorem dX9_ratherNot_54 : decode cX9_ratherNot 54 = .ok (.aload_n 0, 1) := by decide +kernel
theorem dX9_ratherNot_55 : decode cX9_ratherNot 55 = .ok (.getfield 66, 3) := by decide +kernel
theorem dX9_ratherNot_58 : decode cX9_ratherNot 58 = .ok (.getfield 195, 3) := by decide +kernel
theorem dX9_ratherNot_61 : decode cX9_ratherNot 61 = .ok (.iload_n 2, 1) := by decide +kernel
theorem dX9_ratherNot_62 : decode cX9_ratherNot 62 = .ok (.if_icmp .le 14, 3) := by decide +kernel
theorem dX9_ratherNot_65 : decode cX9_ratherNot 65 = .ok (.aload_n 0, 1) := by decide +kernel
theorem dX9_ratherNot_66 : decode cX9_ratherNot 66 = .ok (.getfield 66, 3) := by decide +kernel
theorem dX9_ratherNot_69 : decode cX9_ratherNot 69 = .ok (.getfield 195, 3) := by decide +kernel
theorem dX9_ratherNot_72 : decode cX9_ratherNot 72 = .ok (.istore_n 2, 1) := by decide +kernel
theorem dX9_ratherNot_73 : decode cX9_ratherNot 73 = .ok (.iload 4, 2) := by decide +kernel
theorem dX9_ratherNot_75 : decode cX9_ratherNot 75 = .ok (.istore_n 3, 1) := by decide +kernel
theorem dX9_ratherNot_76 : decode cX9_ratherNot 76 = .ok (.iinc 4 1, 3) := by decide +kernel
theorem dX9_ratherNot_79 : decode cX9_ratherNot 79 = .ok (.goto (-46), 3) := by decide +kernel
theorem dX9_ratherNot_82 : decode cX9_ratherNot 82 = .ok (.iload_n 1, 1) := by decide +kernel
theorem dX9_ratherNot_83 : decode cX9_ratherNot 83 = .ok (.ifCond .ne 7, 3) := by decide +kernel
theorem dX9_ratherNot_86 : decode cX9_ratherNot 86 = .ok (.iload_n 3, 1) := by decide +kernel
theorem dX9_ratherNot_87 : decode cX9_ratherNot 87 = .ok (.goto 4, 3) := by decide +kernel
theorem dX9_ratherNot_90 : decode cX9_ratherNot 90 = .ok (.iload_n 2, 1) := by decide +kernel
theorem dX9_ratherNot_91 : decode cX9_ratherNot 91 = .ok (.ireturn, 1) := by decide +kernel
theorem dX9_topic_0 : decode cX9_topic 0 = .ok (.aload_n 0, 1) := by decide +kernel
theorem dX9_topic_1 : decode cX9_topic 1 = .ok (.getfield 10, 3) := by decide +kernel
theorem dX9_topic_4 : decode cX9_topic 4 = .ok (.iload_n 1, 1) := by decide +kernel
theorem dX9_topic_5 : decode cX9_topic 5 = .ok (.invokevirtual 101, 3) := by decide +kernel
theorem dX9_topic_8 : decode cX9_topic 8 = .ok (.ifCond .eq 12, 3) := by decide +kernel
theorem dX9_topic_11 : decode cX9_topic 11 = .ok (.iload_n 2, 1) := by decide +kernel
theorem dX9_topic_12 : decode cX9_topic 12 = .ok (.ifCond .lt 8, 3) := by decide +kernel
theorem dX9_topic_15 : decode cX9_topic 15 = .ok (.iload_n 2, 1) := by decide +kernel
theorem dX9_topic_16 : decode cX9_topic 16 = .ok (.iconst 1, 1) := by decide +kernel
theorem dX9_topic_17 : decode cX9_topic 17 = .ok (.if_icmp .le 6, 3) := by decide +kernel
theorem dX9_topic_20 : decode cX9_topic 20 = .ok (.bipush (-2), 2) := by decide +kernel
theorem dX9_topic_22 : decode cX9_topic 22 = .ok (.ireturn, 1) := by decide +kernel
theorem dX9_topic_23 : decode cX9_topic 23 = .ok (.aload_n 0, 1) := by decide +kernel
theorem dX9_topic_24 : decode cX9_topic 24 = .ok (.getfield 10, 3) := by decide +kernel
theorem dX9_topic_27 : decode cX9_topic 27 = .ok (.iconst 4, 1) := by decide +kernel
theorem dX9_topic_28 : decode cX9_topic 28 = .ok (.iload_n 1, 1) := by decide +kernel
theorem dX9_topic_29 : decode cX9_topic 29 = .ok (.invokevirtual 105, 3) := by decide +kernel
theorem dX9_topic_32 : decode cX9_topic 32 = .ok (.istore_n 3, 1) := by decide +kernel
theorem dX9_topic_33 : decode cX9_topic 33 = .ok (.iconst (-1), 1) := by decide +kernel
theorem dX9_topic_34 : decode cX9_topic 34 = .ok (.istore 4, 2) := by decide +kernel
theorem dX9_topic_36 : decode cX9_topic 36 = .ok (.iconst (-1), 1) := by decide +kernel
theorem dX9_topic_37 : decode cX9_topic 37 = .ok (.istore 5, 2) := by decide +kernel
theorem dX9_topic_39 : decode cX9_topic 39 = .ok (.iconst 0, 1) := by decide +kernel
theorem dX9_topic_40 : decode cX9_topic 40 = .ok (.istore 6, 2) := by decide +kernel
theorem dX9_topic_42 : decode cX9_topic 42 = .ok (.iload 6, 2) := by decide +kernel
theorem dX9_topic_44 : decode cX9_topic 44 = .ok (.getstatic 179, 3) := by decide +kernel
theorem dX9_topic_47 : decode cX9_topic 47 = .ok (.iconst 4, 1) := by decide +kernel
theorem dX9_topic_48 : decode cX9_topic 48 = .ok (.iaload, 1) := by decide +kernel
theorem dX9_topic_49 : decode cX9_topic 49 = .ok (.if_icmp .gt 53, 3) := by decide +kernel
theorem dX9_topic_52 : decode cX9_topic 52 = .ok (.aload_n 0, 1) := by decide +kernel
theorem dX9_topic_53 : decode cX9_topic 53 = .ok (.getfield 10, 3) := by decide +kernel
theorem dX9_topic_56 : decode cX9_topic 56 = .ok (.iconst 4, 1) := by decide +kernel
theorem dX9_topic_57 : decode cX9_topic 57 = .ok (.iload_n 1, 1) := by decide +kernel
theorem dX9_topic_58 : decode cX9_topic 58 = .ok (.iload 6, 2) := by decide +kernel
theorem dX9_topic_60 : decode cX9_topic 60 = .ok (.invokevirtual 109, 3) := by decide +kernel
theorem dX9_topic_63 : decode cX9_topic 63 = .ok (.aload_n 0, 1) := by decide +kernel
theorem dX9_topic_64 : decode cX9_topic 64 = .ok (.getfield 66, 3) := by decide +kernel
theorem dX9_topic_67 : decode cX9_topic 67 = .ok (.iconst (-1), 1) := by decide +kernel
theorem dX9_topic_68 : decode cX9_topic 68 = .ok (.invokevirtual 189, 3) := by decide +kernel
theorem dX9_topic_71 : decode cX9_topic 71 = .ok (.aload_n 0, 1) := by decide +kernel
theorem dX9_topic_72 : decode cX9_topic 72 = .ok (.getfield 66, 3) := by decide +kernel
theorem dX9_topic_75 : decode cX9_topic 75 = .ok (.getfield 195, 3) := by decide +kernel
theorem dX9_topic_78 : decode cX9_topic 78 = .ok (.iload 4, 2) := by decide +kernel
theorem dX9_topic_80 : decode cX9_topic 80 = .ok (.if_icmp .le 16, 3) := by decide +kernel
theorem dX9_topic_83 : decode cX9_topic 83 = .ok (.aload_n 0, 1) := by decide +kernel
theorem dX9_topic_84 : decode cX9_topic 84 = .ok (.getfield 66, 3) := by decide +kernel
theorem dX9_topic_87 : decode cX9_topic 87 = .ok (.getfield 195, 3) := by decide +kernel
theorem dX9_topic_90 : decode cX9_topic 90 = .ok (.istore 4, 2) := by decide +kernel
theorem dX9_topic_92 : decode cX9_topic 92 = .ok (.iload 6, 2) := by decide +kernel
theorem dX9_topic_94 : decode cX9_topic 94 = .ok (.istore 5, 2) := by decide +kernel
theorem dX9_topic_96 : decode cX9_topic 96 = .ok (.iinc 6 1, 3) := by decide +kernel
theorem dX9_topic_99 : decode cX9_topic 99 = .ok (.goto (-57), 3) := by decide +kernel
theorem dX9_topic_102 : decode cX9_topic 102 = .ok (.aload_n 0, 1) := by decide +kernel
theorem dX9_topic_103 : decode cX9_topic 103 = .ok (.getfield 10, 3) := by decide +kernel
theorem dX9_topic_106 : decode cX9_topic 106 = .ok (.iconst 4, 1) := by decide +kernel
theorem dX9_topic_107 : decode cX9_topic 107 = .ok (.iload_n 1, 1) := by decide +kernel
theorem dX9_topic_108 : decode cX9_topic 108 = .ok (.iload_n 3, 1) := by decide +kernel
theorem dX9_topic_109 : decode cX9_topic 109 = .ok (.invokevirtual 109, 3) := by decide +kernel
theorem dX9_topic_112 : decode cX9_topic 112 = .ok (.iload_n 2, 1) := by decide +kernel
theorem dX9_topic_113 : decode cX9_topic 113 = .ok (.ifCond .ne 8, 3) := by decide +kernel
theorem dX9_topic_116 : decode cX9_topic 116 = .ok (.iload 5, 2) := by decide +kernel
theorem dX9_topic_118 : decode cX9_topic 118 = .ok (.goto 5, 3) := by decide +kernel
theorem dX9_topic_121 : decode cX9_topic 121 = .ok (.iload 4, 2) := by decide +kernel
theorem dX9_topic_123 : decode cX9_topic 123 = .ok (.ireturn, 1) := by decide +kernel
theorem dX9_turns_0 : decode cX9_turns 0 = .ok (.iload_n 1, 1) := by decide +kernel
theorem dX9_turns_1 : decode cX9_turns 1 = .ok (.ifCond .lt 8, 3) := by decide +kernel
theorem dX9_turns_4 : decode cX9_turns 4 = .ok (.iload_n 1, 1) := by decide +kernel
theorem dX9_turns_5 : decode cX9_turns 5 = .ok (.iconst 1, 1) := by decide +kernel
theorem dX9_turns_6 : decode cX9_turns 6 = .ok (.if_icmp .le 6, 3) := by decide +kernel
theorem dX9_turns_9 : decode cX9_turns 9 = .ok (.bipush (-2), 2) := by decide +kernel
theorem dX9_turns_11 : decode cX9_turns 11 = .ok (.ireturn, 1) := by decide +kernel
theorem dX9_turns_12 : decode cX9_turns 12 = .ok (.aload_n 0, 1) := by decide +kernel
theorem dX9_turns_13 : decode cX9_turns 13 = .ok (.getfield 66, 3) := by decide +kernel
theorem dX9_turns_16 : decode cX9_turns 16 = .ok (.invokevirtual 208, 3) := by decide +kernel
theorem dX9_turns_19 : decode cX9_turns 19 = .ok (.iload_n 1, 1) := by decide +kernel
theorem dX9_turns_20 : decode cX9_turns 20 = .ok (.ifCond .ne 13, 3) := by decide +kernel
theorem dX9_turns_23 : decode cX9_turns 23 = .ok (.aload_n 0, 1) := by decide +kernel
theorem dX9_turns_24 : decode cX9_turns 24 = .ok (.getfield 66, 3) := by decide +kernel
theorem dX9_turns_27 : decode cX9_turns 27 = .ok (.getfield 195, 3) := by decide +kernel
theorem dX9_turns_30 : decode cX9_turns 30 = .ok (.goto 10, 3) := by decide +kernel
theorem dX9_turns_33 : decode cX9_turns 33 = .ok (.aload_n 0, 1) := by decide +kernel
theorem dX9_turns_34 : decode cX9_turns 34 = .ok (.getfield 66, 3) := by decide +kernel
theorem dX9_turns_37 : decode cX9_turns 37 = .ok (.getfield 211, 3) := by decide +kernel
theorem dX9_turns_40 : decode cX9_turns 40 = .ok (.ireturn, 1) := by decide +kernel
theorem dX9_tells_0 : decode cX9_tells 0 = .ok (.aload_n 0, 1) := by decide +kernel
theorem dX9_tells_1 : decode cX9_tells 1 = .ok (.iload_n 1, 1) := by decide +kernel
theorem dX9_tells_2 : decode cX9_tells 2 = .ok (.invokevirtual 150, 3) := by decide +kernel
theorem dX9_tells_5 : decode cX9_tells 5 = .ok (.astore_n 3, 1) := by decide +kernel
theorem dX9_tells_6 : decode cX9_tells 6 = .ok (.aload_n 3, 1) := by decide +kernel
theorem dX9_tells_7 : decode cX9_tells 7 = .ok (.ifnull 11, 3) := by decide +kernel
theorem dX9_tells_10 : decode cX9_tells 10 = .ok (.aload_n 0, 1) := by decide +kernel
theorem dX9_tells_11 : decode cX9_tells 11 = .ok (.iload_n 2, 1) := by decide +kernel
theorem dX9_tells_12 : decode cX9_tells 12 = .ok (.invokevirtual 214, 3) := by decide +kernel
theorem dX9_tells_15 : decode cX9_tells 15 = .ok (.ifCond .ne 6, 3) := by decide +kernel
theorem dX9_tells_18 : decode cX9_tells 18 = .ok (.bipush (-2), 2) := by decide +kernel
theorem dX9_tells_20 : decode cX9_tells 20 = .ok (.ireturn, 1) := by decide +kernel
theorem dX9_tells_21 : decode cX9_tells 21 = .ok (.aload_n 3, 1) := by decide +kernel
theorem dX9_tells_22 : decode cX9_tells 22 = .ok (.invokevirtual 154, 3) := by decide +kernel
theorem dX9_tells_25 : decode cX9_tells 25 = .ok (.ifCond .eq 6, 3) := by decide +kernel
theorem dX9_tells_28 : decode cX9_tells 28 = .ok (.bipush (-11), 2) := by decide +kernel
theorem dX9_tells_30 : decode cX9_tells 30 = .ok (.ireturn, 1) := by decide +kernel
theorem dX9_tells_31 : decode cX9_tells 31 = .ok (.aload_n 3, 1) := by decide +kernel
theorem dX9_tells_32 : decode cX9_tells 32 = .ok (.getfield 170, 3) := by decide +kernel
theorem dX9_tells_35 : decode cX9_tells 35 = .ok (.aload_n 0, 1) := by decide +kernel
theorem dX9_tells_36 : decode cX9_tells 36 = .ok (.getfield 10, 3) := by decide +kernel
theorem dX9_tells_39 : decode cX9_tells 39 = .ok (.getfield 205, 3) := by decide +kernel
theorem dX9_tells_42 : decode cX9_tells 42 = .ok (.if_icmp .eq 6, 3) := by decide +kernel
theorem dX9_tells_45 : decode cX9_tells 45 = .ok (.bipush (-2), 2) := by decide +kernel
theorem dX9_tells_47 : decode cX9_tells 47 = .ok (.ireturn, 1) := by decide +kernel
theorem dX9_tells_48 : decode cX9_tells 48 = .ok (.iload_n 2, 1) := by decide +kernel
theorem dX9_tells_49 : decode cX9_tells 49 = .ok (.bipush 10, 2) := by decide +kernel
theorem dX9_tells_51 : decode cX9_tells 51 = .ok (.if_icmp .lt 20, 3) := by decide +kernel
theorem dX9_tells_54 : decode cX9_tells 54 = .ok (.aload_n 0, 1) := by decide +kernel
theorem dX9_tells_55 : decode cX9_tells 55 = .ok (.getfield 73, 3) := by decide +kernel
theorem dX9_tells_58 : decode cX9_tells 58 = .ok (.aload_n 3, 1) := by decide +kernel
theorem dX9_tells_59 : decode cX9_tells 59 = .ok (.iload_n 2, 1) := by decide +kernel
theorem dX9_tells_60 : decode cX9_tells 60 = .ok (.bipush 10, 2) := by decide +kernel
theorem dX9_tells_62 : decode cX9_tells 62 = .ok (.idiv, 1) := by decide +kernel
theorem dX9_tells_63 : decode cX9_tells 63 = .ok (.iload_n 2, 1) := by decide +kernel
theorem dX9_tells_64 : decode cX9_tells 64 = .ok (.bipush 10, 2) := by decide +kernel
theorem dX9_tells_66 : decode cX9_tells 66 = .ok (.irem, 1) := by decide +kernel
theorem dX9_tells_67 : decode cX9_tells 67 = .ok (.invokevirtual 217, 3) := by decide +kernel
theorem dX9_tells_70 : decode cX9_tells 70 = .ok (.ireturn, 1) := by decide +kernel
theorem dX9_tells_71 : decode cX9_tells 71 = .ok (.iload_n 2, 1) := by decide +kernel
theorem dX9_tells_72 : decode cX9_tells 72 = .ok (.lookupswitch 53 #[(3, 28), (4, 37)], 28) := by decide +kernel
theorem dX9_tells_100 : decode cX9_tells 100 = .ok (.aload_n 0, 1) := by decide +kernel
theorem dX9_tells_101 : decode cX9_tells 101 = .ok (.getfield 73, 3) := by decide +kernel
theorem dX9_tells_104 : decode cX9_tells 104 = .ok (.aload_n 3, 1) := by decide +kernel
theorem dX9_tells_105 : decode cX9_tells 105 = .ok (.invokevirtual 221, 3) := by decide +kernel
theorem dX9_tells_108 : decode cX9_tells 108 = .ok (.ireturn, 1) := by decide +kernel
theorem dX9_tells_109 : decode cX9_tells 109 = .ok (.aload_n 0, 1) := by decide +kernel
theorem dX9_tells_110 : decode cX9_tells 110 = .ok (.getfield 73, 3) := by decide +kernel
theorem dX9_tells_113 : decode cX9_tells 113 = .ok (.aload_n 3, 1) := by decide +kernel
theorem dX9_tells_114 : decode cX9_tells 114 = .ok (.aload_n 0, 1) := by decide +kernel
theorem dX9_tells_115 : decode cX9_tells 115 = .ok (.getfield 33, 3) := by decide +kernel
theorem dX9_tells_118 : decode cX9_tells 118 = .ok (.getfield 143, 3) := by decide +kernel
theorem dX9_tells_121 : decode cX9_tells 121 = .ok (.invokevirtual 225, 3) := by decide +kernel
theorem dX9_tells_124 : decode cX9_tells 124 = .ok (.ireturn, 1) := by decide +kernel
theorem dX9_tells_125 : decode cX9_tells 125 = .ok (.aload_n 0, 1) := by decide +kernel
theorem dX9_tells_126 : decode cX9_tells 126 = .ok (.getfield 73, 3) := by decide +kernel
theorem dX9_tells_129 : decode cX9_tells 129 = .ok (.aload_n 3, 1) := by decide +kernel
theorem dX9_tells_130 : decode cX9_tells 130 = .ok (.invokevirtual 229, 3) := by decide +kernel
theorem dX9_tells_133 : decode cX9_tells 133 = .ok (.iload_n 2, 1) := by decide +kernel
theorem dX9_tells_134 : decode cX9_tells 134 = .ok (.ifCond .ne 13, 3) := by decide +kernel
theorem dX9_tells_137 : decode cX9_tells 137 = .ok (.aload_n 0, 1) := by decide +kernel
theorem dX9_tells_138 : decode cX9_tells 138 = .ok (.getfield 73, 3) := by decide +kernel
theorem dX9_tells_141 : decode cX9_tells 141 = .ok (.getfield 233, 3) := by decide +kernel
theorem dX9_tells_144 : decode cX9_tells 144 = .ok (.goto 25, 3) := by decide +kernel
theorem dX9_tells_147 : decode cX9_tells 147 = .ok (.iload_n 2, 1) := by decide +kernel
theorem dX9_tells_148 : decode cX9_tells 148 = .ok (.iconst 1, 1) := by decide +kernel
theorem dX9_tells_149 : decode cX9_tells 149 = .ok (.if_icmp .ne 13, 3) := by decide +kernel
theorem dX9_tells_152 : decode cX9_tells 152 = .ok (.aload_n 0, 1) := by decide +kernel
theorem dX9_tells_153 : decode cX9_tells 153 = .ok (.getfield 73, 3) := by decide +kernel
theorem dX9_tells_156 : decode cX9_tells 156 = .ok (.getfield 236, 3) := by decide +kernel
theorem dX9_tells_159 : decode cX9_tells 159 = .ok (.goto 10, 3) := by decide +kernel
theorem dX9_tells_162 : decode cX9_tells 162 = .ok (.aload_n 0, 1) := by decide +kernel
theorem dX9_tells_163 : decode cX9_tells 163 = .ok (.getfield 73, 3) := by decide +kernel
theorem dX9_tells_166 : decode cX9_tells 166 = .ok (.getfield 239, 3) := by decide +kernel
theorem dX9_tells_169 : decode cX9_tells 169 = .ok (.ireturn, 1) := by decide +kernel
theorem dX9_film_0 : decode cX9_film 0 = .ok (.aload_n 0, 1) := by decide +kernel
theorem dX9_film_1 : decode cX9_film 1 = .ok (.iload_n 1, 1) := by decide +kernel
theorem dX9_film_2 : decode cX9_film 2 = .ok (.invokevirtual 150, 3) := by decide +kernel
theorem dX9_film_5 : decode cX9_film 5 = .ok (.astore_n 2, 1) := by decide +kernel
theorem dX9_film_6 : decode cX9_film 6 = .ok (.aload_n 2, 1) := by decide +kernel
theorem dX9_film_7 : decode cX9_film 7 = .ok (.ifnonnull 6, 3) := by decide +kernel
theorem dX9_film_10 : decode cX9_film 10 = .ok (.bipush (-2), 2) := by decide +kernel
theorem dX9_film_12 : decode cX9_film 12 = .ok (.ireturn, 1) := by decide +kernel
theorem dX9_film_13 : decode cX9_film 13 = .ok (.aload_n 0, 1) := by decide +kernel
theorem dX9_film_14 : decode cX9_film 14 = .ok (.getfield 57, 3) := by decide +kernel
theorem dX9_film_17 : decode cX9_film 17 = .ok (.invokevirtual 242, 3) := by decide +kernel
theorem dX9_film_20 : decode cX9_film 20 = .ok (.aload_n 2, 1) := by decide +kernel
theorem dX9_film_21 : decode cX9_film 21 = .ok (.iconst 0, 1) := by decide +kernel
theorem dX9_film_22 : decode cX9_film 22 = .ok (.aload_n 0, 1) := by decide +kernel
theorem dX9_film_23 : decode cX9_film 23 = .ok (.getfield 10, 3) := by decide +kernel
theorem dX9_film_26 : decode cX9_film 26 = .ok (.getfield 205, 3) := by decide +kernel
theorem dX9_film_29 : decode cX9_film 29 = .ok (.invokevirtual 245, 3) := by decide +kernel
theorem dX9_film_32 : decode cX9_film 32 = .ok (.iconst 0, 1) := by decide +kernel
theorem dX9_film_33 : decode cX9_film 33 = .ok (.istore_n 3, 1) := by decide +kernel
theorem dX9_film_34 : decode cX9_film 34 = .ok (.iload_n 3, 1) := by decide +kernel
theorem dX9_film_35 : decode cX9_film 35 = .ok (.aload_n 2, 1) := by decide +kernel
theorem dX9_film_36 : decode cX9_film 36 = .ok (.getfield 170, 3) := by decide +kernel
theorem dX9_film_39 : decode cX9_film 39 = .ok (.if_icmp .ge 22, 3) := by decide +kernel
theorem dX9_film_42 : decode cX9_film 42 = .ok (.aload_n 2, 1) := by decide +kernel
theorem dX9_film_43 : decode cX9_film 43 = .ok (.iload_n 3, 1) := by decide +kernel
theorem dX9_film_44 : decode cX9_film 44 = .ok (.aload_n 0, 1) := by decide +kernel
theorem dX9_film_45 : decode cX9_film 45 = .ok (.getfield 57, 3) := by decide +kernel
theorem dX9_film_48 : decode cX9_film 48 = .ok (.iload_n 3, 1) := by decide +kernel
theorem dX9_film_49 : decode cX9_film 49 = .ok (.invokevirtual 173, 3) := by decide +kernel
theorem dX9_film_52 : decode cX9_film 52 = .ok (.invokevirtual 249, 3) := by decide +kernel
theorem dX9_film_55 : decode cX9_film 55 = .ok (.iinc 3 1, 3) := by decide +kernel
theorem dX9_film_58 : decode cX9_film 58 = .ok (.goto (-24), 3) := by decide +kernel
theorem dX9_film_61 : decode cX9_film 61 = .ok (.aload_n 2, 1) := by decide +kernel
theorem dX9_film_62 : decode cX9_film 62 = .ok (.getfield 170, 3) := by decide +kernel
theorem dX9_film_65 : decode cX9_film 65 = .ok (.ireturn, 1) := by decide +kernel
theorem dX9_drawn_0 : decode cX9_drawn 0 = .ok (.aload_n 0, 1) := by decide +kernel
theorem dX9_drawn_1 : decode cX9_drawn 1 = .ok (.getfield 73, 3) := by decide +kernel
theorem dX9_drawn_4 : decode cX9_drawn 4 = .ok (.iload_n 1, 1) := by decide +kernel
theorem dX9_drawn_5 : decode cX9_drawn 5 = .ok (.invokevirtual 252, 3) := by decide +kernel
theorem dX9_drawn_8 : decode cX9_drawn 8 = .ok (.aload_n 0, 1) := by decide +kernel
theorem dX9_drawn_9 : decode cX9_drawn 9 = .ok (.getfield 57, 3) := by decide +kernel
theorem dX9_drawn_12 : decode cX9_drawn 12 = .ok (.invokevirtual 161, 3) := by decide +kernel
theorem dX9_drawn_15 : decode cX9_drawn 15 = .ok (.ireturn, 1) := by decide +kernel
theorem dX9_chance_0 : decode cX9_chance 0 = .ok (.iload_n 2, 1) := by decide +kernel
theorem dX9_chance_1 : decode cX9_chance 1 = .ok (.iconst 1, 1) := by decide +kernel
theorem dX9_chance_2 : decode cX9_chance 2 = .ok (.if_icmp .lt 18, 3) := by decide +kernel
theorem dX9_chance_5 : decode cX9_chance 5 = .ok (.iload_n 2, 1) := by decide +kernel
theorem dX9_chance_6 : decode cX9_chance 6 = .ok (.bipush 20, 2) := by decide +kernel
theorem dX9_chance_8 : decode cX9_chance 8 = .ok (.if_icmp .gt 12, 3) := by decide +kernel
theorem dX9_chance_11 : decode cX9_chance 11 = .ok (.iload_n 3, 1) := by decide +kernel
theorem dX9_chance_12 : decode cX9_chance 12 = .ok (.ifCond .lt 8, 3) := by decide +kernel
theorem dX9_chance_15 : decode cX9_chance 15 = .ok (.iload_n 3, 1) := by decide +kernel
theorem dX9_chance_16 : decode cX9_chance 16 = .ok (.iconst 1, 1) := by decide +kernel
theorem dX9_chance_17 : decode cX9_chance 17 = .ok (.if_icmp .le 7, 3) := by decide +kernel
theorem dX9_chance_20 : decode cX9_chance 20 = .ok (.ldc2_w 255, 3) := by decide +kernel
theorem dX9_chance_23 : decode cX9_chance 23 = .ok (.lreturn, 1) := by decide +kernel
theorem dX9_chance_24 : decode cX9_chance 24 = .ok (.iconst 0, 1) := by decide +kernel
theorem dX9_chance_25 : decode cX9_chance 25 = .ok (.istore 4, 2) := by decide +kernel
theorem dX9_chance_27 : decode cX9_chance 27 = .ok (.iconst 0, 1) := by decide +kernel
theorem dX9_chance_28 : decode cX9_chance 28 = .ok (.istore 5, 2) := by decide +kernel
theorem dX9_chance_30 : decode cX9_chance 30 = .ok (.iload 5, 2) := by decide +kernel
theorem dX9_chance_32 : decode cX9_chance 32 = .ok (.iload_n 2, 1) := by decide +kernel
theorem dX9_chance_33 : decode cX9_chance 33 = .ok (.if_icmp .ge 33, 3) := by decide +kernel
theorem dX9_chance_36 : decode cX9_chance 36 = .ok (.aload_n 0, 1) := by decide +kernel
theorem dX9_chance_37 : decode cX9_chance 37 = .ok (.getfield 73, 3) := by decide +kernel
theorem dX9_chance_40 : decode cX9_chance 40 = .ok (.iload_n 1, 1) := by decide +kernel
theorem dX9_chance_41 : decode cX9_chance 41 = .ok (.iload 5, 2) := by decide +kernel
theorem dX9_chance_43 : decode cX9_chance 43 = .ok (.iadd, 1) := by decide +kernel
theorem dX9_chance_44 : decode cX9_chance 44 = .ok (.invokevirtual 252, 3) := by decide +kernel
theorem dX9_chance_47 : decode cX9_chance 47 = .ok (.aload_n 0, 1) := by decide +kernel
theorem dX9_chance_48 : decode cX9_chance 48 = .ok (.getfield 57, 3) := by decide +kernel
theorem dX9_chance_51 : decode cX9_chance 51 = .ok (.invokevirtual 167, 3) := by decide +kernel
theorem dX9_chance_54 : decode cX9_chance 54 = .ok (.ifCond .le 6, 3) := by decide +kernel
theorem dX9_chance_57 : decode cX9_chance 57 = .ok (.iinc 4 1, 3) := by decide +kernel
theorem dX9_chance_60 : decode cX9_chance 60 = .ok (.iinc 5 1, 3) := by decide +kernel
theorem dX9_chance_63 : decode cX9_chance 63 = .ok (.goto (-33), 3) := by decide +kernel
theorem dX9_chance_66 : decode cX9_chance 66 = .ok (.iload 4, 2) := by decide +kernel
theorem dX9_chance_68 : decode cX9_chance 68 = .ok (.iload_n 2, 1) := by decide +kernel
theorem dX9_chance_69 : decode cX9_chance 69 = .ok (.invokestatic 257, 3) := by decide +kernel
theorem dX9_chance_72 : decode cX9_chance 72 = .ok (.istore 5, 2) := by decide +kernel
theorem dX9_chance_74 : decode cX9_chance 74 = .ok (.iload 5, 2) := by decide +kernel
theorem dX9_chance_76 : decode cX9_chance 76 = .ok (.iconst 1, 1) := by decide +kernel
theorem dX9_chance_77 : decode cX9_chance 77 = .ok (.if_icmp .ge 7, 3) := by decide +kernel
theorem dX9_chance_80 : decode cX9_chance 80 = .ok (.ldc2_w 255, 3) := by decide +kernel
theorem dX9_chance_83 : decode cX9_chance 83 = .ok (.lreturn, 1) := by decide +kernel
theorem dX9_chance_84 : decode cX9_chance 84 = .ok (.iload_n 3, 1) := by decide +kernel
theorem dX9_chance_85 : decode cX9_chance 85 = .ok (.ifCond .ne 12, 3) := by decide +kernel
theorem dX9_chance_88 : decode cX9_chance 88 = .ok (.iload 4, 2) := by decide +kernel
theorem dX9_chance_90 : decode cX9_chance 90 = .ok (.iload 5, 2) := by decide +kernel
theorem dX9_chance_92 : decode cX9_chance 92 = .ok (.idiv, 1) := by decide +kernel
theorem dX9_chance_93 : decode cX9_chance 93 = .ok (.i2l, 1) := by decide +kernel
theorem dX9_chance_94 : decode cX9_chance 94 = .ok (.goto 8, 3) := by decide +kernel
theorem dX9_chance_97 : decode cX9_chance 97 = .ok (.iload_n 2, 1) := by decide +kernel
theorem dX9_chance_98 : decode cX9_chance 98 = .ok (.iload 5, 2) := by decide +kernel
theorem dX9_chance_100 : decode cX9_chance 100 = .ok (.idiv, 1) := by decide +kernel
theorem dX9_chance_101 : decode cX9_chance 101 = .ok (.i2l, 1) := by decide +kernel
theorem dX9_chance_102 : decode cX9_chance 102 = .ok (.lreturn, 1) := by decide +kernel
theorem dX9_image_0 : decode cX9_image 0 = .ok (.aload_n 0, 1) := by decide +kernel
theorem dX9_image_1 : decode cX9_image 1 = .ok (.getfield 16, 3) := by decide +kernel
theorem dX9_image_4 : decode cX9_image 4 = .ok (.aload_n 0, 1) := by decide +kernel
theorem dX9_image_5 : decode cX9_image 5 = .ok (.getfield 10, 3) := by decide +kernel
theorem dX9_image_8 : decode cX9_image 8 = .ok (.invokevirtual 260, 3) := by decide +kernel
theorem dX9_image_11 : decode cX9_image 11 = .ok (.aload_n 0, 1) := by decide +kernel
theorem dX9_image_12 : decode cX9_image 12 = .ok (.iconst 1, 1) := by decide +kernel
theorem dX9_image_13 : decode cX9_image 13 = .ok (.putfield 19, 3) := by decide +kernel
theorem dX9_image_16 : decode cX9_image 16 = .ok (.aload_n 0, 1) := by decide +kernel
theorem dX9_image_17 : decode cX9_image 17 = .ok (.getfield 10, 3) := by decide +kernel
theorem dX9_image_20 : decode cX9_image 20 = .ok (.getfield 205, 3) := by decide +kernel
theorem dX9_image_23 : decode cX9_image 23 = .ok (.ireturn, 1) := by decide +kernel
theorem dX9_back_0 : decode cX9_back 0 = .ok (.aload_n 0, 1) := by decide +kernel
theorem dX9_back_1 : decode cX9_back 1 = .ok (.getfield 19, 3) := by decide +kernel
theorem dX9_back_4 : decode cX9_back 4 = .ok (.ifCond .ne 6, 3) := by decide +kernel
theorem dX9_back_7 : decode cX9_back 7 = .ok (.bipush (-3), 2) := by decide +kernel
theorem dX9_back_9 : decode cX9_back 9 = .ok (.ireturn, 1) := by decide +kernel
theorem dX9_back_10 : decode cX9_back 10 = .ok (.aload_n 0, 1) := by decide +kernel
theorem dX9_back_11 : decode cX9_back 11 = .ok (.getfield 10, 3) := by decide +kernel
theorem dX9_back_14 : decode cX9_back 14 = .ok (.aload_n 0, 1) := by decide +kernel
theorem dX9_back_15 : decode cX9_back 15 = .ok (.getfield 16, 3) := by decide +kernel
theorem dX9_back_18 : decode cX9_back 18 = .ok (.invokevirtual 260, 3) := by decide +kernel
theorem dX9_back_21 : decode cX9_back 21 = .ok (.aload_n 0, 1) := by decide +kernel
theorem dX9_back_22 : decode cX9_back 22 = .ok (.getfield 10, 3) := by decide +kernel
theorem dX9_back_25 : decode cX9_back 25 = .ok (.getfield 205, 3) := by decide +kernel
theorem dX9_back_28 : decode cX9_back 28 = .ok (.ireturn, 1) := by decide +kernel
theorem dX9_count_0 : decode cX9_count 0 = .ok (.iload_n 1, 1) := by decide +kernel
theorem dX9_count_1 : decode cX9_count 1 = .ok (.tableswitch 99 0 6 #[43, 51, 59, 67, 75, 83, 91], 43) := by decide +kernel
theorem dX9_count_44 : decode cX9_count 44 = .ok (.aload_n 0, 1) := by decide +kernel
theorem dX9_count_45 : decode cX9_count 45 = .ok (.getfield 10, 3) := by decide +kernel
theorem dX9_count_48 : decode cX9_count 48 = .ok (.getfield 205, 3) := by decide +kernel
theorem dX9_count_51 : decode cX9_count 51 = .ok (.ireturn, 1) := by decide +kernel
theorem dX9_count_52 : decode cX9_count 52 = .ok (.aload_n 0, 1) := by decide +kernel
theorem dX9_count_53 : decode cX9_count 53 = .ok (.getfield 10, 3) := by decide +kernel
theorem dX9_count_56 : decode cX9_count 56 = .ok (.invokevirtual 264, 3) := by decide +kernel
theorem dX9_count_59 : decode cX9_count 59 = .ok (.ireturn, 1) := by decide +kernel
theorem dX9_count_60 : decode cX9_count 60 = .ok (.aload_n 0, 1) := by decide +kernel
theorem dX9_count_61 : decode cX9_count 61 = .ok (.getfield 10, 3) := by decide +kernel
theorem dX9_count_64 : decode cX9_count 64 = .ok (.getfield 186, 3) := by decide +kernel
theorem dX9_count_67 : decode cX9_count 67 = .ok (.ireturn, 1) := by decide +kernel
theorem dX9_count_68 : decode cX9_count 68 = .ok (.aload_n 0, 1) := by decide +kernel
theorem dX9_count_69 : decode cX9_count 69 = .ok (.getfield 10, 3) := by decide +kernel
theorem dX9_count_72 : decode cX9_count 72 = .ok (.getfield 176, 3) := by decide +kernel
theorem dX9_count_75 : decode cX9_count 75 = .ok (.ireturn, 1) := by decide +kernel
theorem dX9_count_76 : decode cX9_count 76 = .ok (.aload_n 0, 1) := by decide +kernel
theorem dX9_count_77 : decode cX9_count 77 = .ok (.getfield 33, 3) := by decide +kernel
theorem dX9_count_80 : decode cX9_count 80 = .ok (.getfield 143, 3) := by decide +kernel
theorem dX9_count_83 : decode cX9_count 83 = .ok (.ireturn, 1) := by decide +kernel
theorem dX9_count_84 : decode cX9_count 84 = .ok (.aload_n 0, 1) := by decide +kernel
theorem dX9_count_85 : decode cX9_count 85 = .ok (.getfield 26, 3) := by decide +kernel
theorem dX9_count_88 : decode cX9_count 88 = .ok (.getfield 267, 3) := by decide +kernel
theorem dX9_count_91 : decode cX9_count 91 = .ok (.ireturn, 1) := by decide +kernel
theorem dX9_count_92 : decode cX9_count 92 = .ok (.aload_n 0, 1) := by decide +kernel
theorem dX9_count_93 : decode cX9_count 93 = .ok (.getfield 10, 3) := by decide +kernel
theorem dX9_count_96 : decode cX9_count 96 = .ok (.getfield 147, 3) := by decide +kernel
theorem dX9_count_99 : decode cX9_count 99 = .ok (.ireturn, 1) := by decide +kernel
theorem dX9_count_100 : decode cX9_count 100 = .ok (.bipush (-2), 2) := by decide +kernel
theorem dX9_count_102 : decode cX9_count 102 = .ok (.ireturn, 1) := by decide +kernel
theorem dX9_sheet_0 : decode cX9_sheet 0 = .ok (.aload_n 0, 1) := by decide +kernel
theorem dX9_sheet_1 : decode cX9_sheet 1 = .ok (.iload_n 1, 1) := by decide +kernel
theorem dX9_sheet_2 : decode cX9_sheet 2 = .ok (.invokevirtual 150, 3) := by decide +kernel
theorem dX9_sheet_5 : decode cX9_sheet 5 = .ok (.astore 4, 2) := by decide +kernel
theorem dX9_sheet_7 : decode cX9_sheet 7 = .ok (.aload 4, 2) := by decide +kernel
theorem dX9_sheet_9 : decode cX9_sheet 9 = .ok (.ifnull 15, 3) := by decide +kernel
theorem dX9_sheet_12 : decode cX9_sheet 12 = .ok (.iload_n 2, 1) := by decide +kernel
theorem dX9_sheet_13 : decode cX9_sheet 13 = .ok (.iconst (-1), 1) := by decide +kernel
theorem dX9_sheet_14 : decode cX9_sheet 14 = .ok (.if_icmp .eq 13, 3) := by decide +kernel
theorem dX9_sheet_17 : decode cX9_sheet 17 = .ok (.iload_n 2, 1) := by decide +kernel
theorem dX9_sheet_18 : decode cX9_sheet 18 = .ok (.invokestatic 268, 3) := by decide +kernel
theorem dX9_sheet_21 : decode cX9_sheet 21 = .ok (.ifCond .ne 6, 3) := by decide +kernel
theorem dX9_sheet_24 : decode cX9_sheet 24 = .ok (.bipush (-2), 2) := by decide +kernel
theorem dX9_sheet_26 : decode cX9_sheet 26 = .ok (.ireturn, 1) := by decide +kernel
theorem dX9_sheet_27 : decode cX9_sheet 27 = .ok (.iload_n 2, 1) := by decide +kernel
theorem dX9_sheet_28 : decode cX9_sheet 28 = .ok (.iconst (-1), 1) := by decide +kernel
theorem dX9_sheet_29 : decode cX9_sheet 29 = .ok (.if_icmp .ne 12, 3) := by decide +kernel
theorem dX9_sheet_32 : decode cX9_sheet 32 = .ok (.aload 4, 2) := by decide +kernel
theorem dX9_sheet_34 : decode cX9_sheet 34 = .ok (.iconst (-1), 1) := by decide +kernel
theorem dX9_sheet_35 : decode cX9_sheet 35 = .ok (.iconst 0, 1) := by decide +kernel
theorem dX9_sheet_36 : decode cX9_sheet 36 = .ok (.invokevirtual 245, 3) := by decide +kernel
theorem dX9_sheet_39 : decode cX9_sheet 39 = .ok (.iconst 1, 1) := by decide +kernel
theorem dX9_sheet_40 : decode cX9_sheet 40 = .ok (.ireturn, 1) := by decide +kernel
theorem dX9_sheet_41 : decode cX9_sheet 41 = .ok (.iload_n 3, 1) := by decide +kernel
theorem dX9_sheet_42 : decode cX9_sheet 42 = .ok (.bipush 40, 2) := by decide +kernel
theorem dX9_sheet_44 : decode cX9_sheet 44 = .ok (.if_icmp .le 6, 3) := by decide +kernel
theorem dX9_sheet_47 : decode cX9_sheet 47 = .ok (.bipush (-2), 2) := by decide +kernel
theorem dX9_sheet_49 : decode cX9_sheet 49 = .ok (.ireturn, 1) := by decide +kernel
theorem dX9_sheet_50 : decode cX9_sheet 50 = .ok (.iload_n 3, 1) := by decide +kernel
theorem dX9_sheet_51 : decode cX9_sheet 51 = .ok (.ifCond .ge 6, 3) := by decide +kernel
theorem dX9_sheet_54 : decode cX9_sheet 54 = .ok (.bipush (-14), 2) := by decide +kernel
theorem dX9_sheet_56 : decode cX9_sheet 56 = .ok (.ireturn, 1) := by decide +kernel
theorem dX9_sheet_57 : decode cX9_sheet 57 = .ok (.aload 4, 2) := by decide +kernel
theorem dX9_sheet_59 : decode cX9_sheet 59 = .ok (.iload_n 2, 1) := by decide +kernel
theorem dX9_sheet_60 : decode cX9_sheet 60 = .ok (.iload_n 3, 1) := by decide +kernel
theorem dX9_sheet_61 : decode cX9_sheet 61 = .ok (.invokevirtual 245, 3) := by decide +kernel
theorem dX9_sheet_64 : decode cX9_sheet 64 = .ok (.iconst 1, 1) := by decide +kernel
theorem dX9_sheet_65 : decode cX9_sheet 65 = .ok (.ireturn, 1) := by decide +kernel
theorem dX9_cell_0 : decode cX9_cell 0 = .ok (.aload_n 0, 1) := by decide +kernel
theorem dX9_cell_1 : decode cX9_cell 1 = .ok (.iload_n 1, 1) := by decide +kernel
theorem dX9_cell_2 : decode cX9_cell 2 = .ok (.invokevirtual 150, 3) := by decide +kernel
theorem dX9_cell_5 : decode cX9_cell 5 = .ok (.astore 4, 2) := by decide +kernel
theorem dX9_cell_7 : decode cX9_cell 7 = .ok (.aload 4, 2) := by decide +kernel
theorem dX9_cell_9 : decode cX9_cell 9 = .ok (.ifnonnull 6, 3) := by decide +kernel
theorem dX9_cell_12 : decode cX9_cell 12 = .ok (.bipush (-2), 2) := by decide +kernel
theorem dX9_cell_14 : decode cX9_cell 14 = .ok (.ireturn, 1) := by decide +kernel
theorem dX9_cell_15 : decode cX9_cell 15 = .ok (.aload 4, 2) := by decide +kernel
theorem dX9_cell_17 : decode cX9_cell 17 = .ok (.invokevirtual 154, 3) := by decide +kernel
theorem dX9_cell_20 : decode cX9_cell 20 = .ok (.ifCond .eq 6, 3) := by decide +kernel
theorem dX9_cell_23 : decode cX9_cell 23 = .ok (.bipush (-11), 2) := by decide +kernel
theorem dX9_cell_25 : decode cX9_cell 25 = .ok (.ireturn, 1) := by decide +kernel
theorem dX9_cell_26 : decode cX9_cell 26 = .ok (.aload 4, 2) := by decide +kernel
theorem dX9_cell_28 : decode cX9_cell 28 = .ok (.iload_n 2, 1) := by decide +kernel
theorem dX9_cell_29 : decode cX9_cell 29 = .ok (.iconst 1, 1) := by decide +kernel
theorem dX9_cell_30 : decode cX9_cell 30 = .ok (.invokevirtual 271, 3) := by decide +kernel
theorem dX9_cell_33 : decode cX9_cell 33 = .ok (.ifCond .ne 6, 3) := by decide +kernel
theorem dX9_cell_36 : decode cX9_cell 36 = .ok (.bipush (-12), 2) := by decide +kernel
theorem dX9_cell_38 : decode cX9_cell 38 = .ok (.ireturn, 1) := by decide +kernel
theorem dX9_cell_39 : decode cX9_cell 39 = .ok (.aload 4, 2) := by decide +kernel
theorem dX9_cell_41 : decode cX9_cell 41 = .ok (.iload_n 2, 1) := by decide +kernel
theorem dX9_cell_42 : decode cX9_cell 42 = .ok (.iload_n 3, 1) := by decide +kernel
theorem dX9_cell_43 : decode cX9_cell 43 = .ok (.invokevirtual 249, 3) := by decide +kernel
theorem dX9_cell_46 : decode cX9_cell 46 = .ok (.iconst 1, 1) := by decide +kernel
theorem dX9_cell_47 : decode cX9_cell 47 = .ok (.ireturn, 1) := by decide +kernel
theorem dX9_copy_0 : decode cX9_copy 0 = .ok (.aload_n 0, 1) := by decide +kernel
theorem dX9_copy_1 : decode cX9_copy 1 = .ok (.iload_n 1, 1) := by decide +kernel
theorem dX9_copy_2 : decode cX9_copy 2 = .ok (.invokevirtual 150, 3) := by decide +kernel
theorem dX9_copy_5 : decode cX9_copy 5 = .ok (.astore 6, 2) := by decide +kernel
theorem dX9_copy_7 : decode cX9_copy 7 = .ok (.aload_n 0, 1) := by decide +kernel
theorem dX9_copy_8 : decode cX9_copy 8 = .ok (.iload_n 3, 1) := by decide +kernel
theorem dX9_copy_9 : decode cX9_copy 9 = .ok (.invokevirtual 150, 3) := by decide +kernel
theorem dX9_copy_12 : decode cX9_copy 12 = .ok (.astore 7, 2) := by decide +kernel
theorem dX9_copy_14 : decode cX9_copy 14 = .ok (.aload 6, 2) := by decide +kernel
theorem dX9_copy_16 : decode cX9_copy 16 = .ok (.ifnull 8, 3) := by decide +kernel
theorem dX9_copy_19 : decode cX9_copy 19 = .ok (.aload 7, 2) := by decide +kernel
theorem dX9_copy_21 : decode cX9_copy 21 = .ok (.ifnonnull 6, 3) := by decide +kernel
theorem dX9_copy_24 : decode cX9_copy 24 = .ok (.bipush (-2), 2) := by decide +kernel
theorem dX9_copy_26 : decode cX9_copy 26 = .ok (.ireturn, 1) := by decide +kernel
theorem dX9_copy_27 : decode cX9_copy 27 = .ok (.aload 6, 2) := by decide +kernel
theorem dX9_copy_29 : decode cX9_copy 29 = .ok (.invokevirtual 154, 3) := by decide +kernel
theorem dX9_copy_32 : decode cX9_copy 32 = .ok (.ifCond .ne 11, 3) := by decide +kernel
theorem dX9_copy_35 : decode cX9_copy 35 = .ok (.aload 7, 2) := by decide +kernel
theorem dX9_copy_37 : decode cX9_copy 37 = .ok (.invokevirtual 154, 3) := by decide +kernel
theorem dX9_copy_40 : decode cX9_copy 40 = .ok (.ifCond .eq 6, 3) := by decide +kernel
theorem dX9_copy_43 : decode cX9_copy 43 = .ok (.bipush (-11), 2) := by decide +kernel
theorem dX9_copy_45 : decode cX9_copy 45 = .ok (.ireturn, 1) := by decide +kernel
theorem dX9_copy_46 : decode cX9_copy 46 = .ok (.aload 6, 2) := by decide +kernel
theorem dX9_copy_48 : decode cX9_copy 48 = .ok (.getfield 274, 3) := by decide +kernel
theorem dX9_copy_51 : decode cX9_copy 51 = .ok (.aload 7, 2) := by decide +kernel
theorem dX9_copy_53 : decode cX9_copy 53 = .ok (.getfield 274, 3) := by decide +kernel
theorem dX9_copy_56 : decode cX9_copy 56 = .ok (.if_icmp .eq 6, 3) := by decide +kernel
theorem dX9_copy_59 : decode cX9_copy 59 = .ok (.bipush (-13), 2) := by decide +kernel
theorem dX9_copy_61 : decode cX9_copy 61 = .ok (.ireturn, 1) := by decide +kernel
theorem dX9_copy_62 : decode cX9_copy 62 = .ok (.aload 6, 2) := by decide +kernel
theorem dX9_copy_64 : decode cX9_copy 64 = .ok (.iload_n 2, 1) := by decide +kernel
theorem dX9_copy_65 : decode cX9_copy 65 = .ok (.iload 5, 2) := by decide +kernel
theorem dX9_copy_67 : decode cX9_copy 67 = .ok (.invokevirtual 271, 3) := by decide +kernel
theorem dX9_copy_70 : decode cX9_copy 70 = .ok (.ifCond .eq 15, 3) := by decide +kernel
theorem dX9_copy_73 : decode cX9_copy 73 = .ok (.aload 7, 2) := by decide +kernel
theorem dX9_copy_75 : decode cX9_copy 75 = .ok (.iload 4, 2) := by decide +kernel
theorem dX9_copy_77 : decode cX9_copy 77 = .ok (.iload 5, 2) := by decide +kernel
theorem dX9_copy_79 : decode cX9_copy 79 = .ok (.invokevirtual 271, 3) := by decide +kernel
theorem dX9_copy_82 : decode cX9_copy 82 = .ok (.ifCond .ne 6, 3) := by decide +kernel
theorem dX9_copy_85 : decode cX9_copy 85 = .ok (.bipush (-12), 2) := by decide +kernel
theorem dX9_copy_87 : decode cX9_copy 87 = .ok (.ireturn, 1) := by decide +kernel
theorem dX9_copy_88 : decode cX9_copy 88 = .ok (.aload 6, 2) := by decide +kernel
theorem dX9_copy_90 : decode cX9_copy 90 = .ok (.getfield 277, 3) := by decide +kernel
theorem dX9_copy_93 : decode cX9_copy 93 = .ok (.iload_n 2, 1) := by decide +kernel
theorem dX9_copy_94 : decode cX9_copy 94 = .ok (.aload 7, 2) := by decide +kernel
theorem dX9_copy_96 : decode cX9_copy 96 = .ok (.getfield 277, 3) := by decide +kernel
theorem dX9_copy_99 : decode cX9_copy 99 = .ok (.iload 4, 2) := by decide +kernel
theorem dX9_copy_101 : decode cX9_copy 101 = .ok (.iload 5, 2) := by decide +kernel
theorem dX9_copy_103 : decode cX9_copy 103 = .ok (.invokestatic 280, 3) := by decide +kernel
theorem dX9_copy_106 : decode cX9_copy 106 = .ok (.iload 5, 2) := by decide +kernel
theorem dX9_copy_108 : decode cX9_copy 108 = .ok (.ireturn, 1) := by decide +kernel
theorem dX9_guests_0 : decode cX9_guests 0 = .ok (.aload_n 0, 1) := by decide +kernel
theorem dX9_guests_1 : decode cX9_guests 1 = .ok (.iload_n 1, 1) := by decide +kernel
theorem dX9_guests_2 : decode cX9_guests 2 = .ok (.invokevirtual 150, 3) := by decide +kernel
theorem dX9_guests_5 : decode cX9_guests 5 = .ok (.astore 5, 2) := by decide +kernel
theorem dX9_guests_7 : decode cX9_guests 7 = .ok (.aload 5, 2) := by decide +kernel
theorem dX9_guests_9 : decode cX9_guests 9 = .ok (.ifnull 21, 3) := by decide +kernel
theorem dX9_guests_12 : decode cX9_guests 12 = .ok (.iload_n 2, 1) := by decide +kernel
theorem dX9_guests_13 : decode cX9_guests 13 = .ok (.invokestatic 268, 3) := by decide +kernel
theorem dX9_guests_16 : decode cX9_guests 16 = .ok (.ifCond .eq 14, 3) := by decide +kernel
theorem dX9_guests_19 : decode cX9_guests 19 = .ok (.iload 4, 2) := by decide +kernel
theorem dX9_guests_21 : decode cX9_guests 21 = .ok (.ifCond .lt 9, 3) := by decide +kernel
theorem dX9_guests_24 : decode cX9_guests 24 = .ok (.iload 4, 2) := by decide +kernel
theorem dX9_guests_26 : decode cX9_guests 26 = .ok (.iconst 5, 1) := by decide +kernel
theorem dX9_guests_27 : decode cX9_guests 27 = .ok (.if_icmp .le 6, 3) := by decide +kernel
theorem dX9_guests_30 : decode cX9_guests 30 = .ok (.bipush (-2), 2) := by decide +kernel
theorem dX9_guests_32 : decode cX9_guests 32 = .ok (.ireturn, 1) := by decide +kernel
theorem dX9_guests_33 : decode cX9_guests 33 = .ok (.aload 5, 2) := by decide +kernel
theorem dX9_guests_35 : decode cX9_guests 35 = .ok (.invokevirtual 154, 3) := by decide +kernel
theorem dX9_guests_38 : decode cX9_guests 38 = .ok (.ifCond .eq 6, 3) := by decide +kernel
theorem dX9_guests_41 : decode cX9_guests 41 = .ok (.bipush (-11), 2) := by decide +kernel
theorem dX9_guests_43 : decode cX9_guests 43 = .ok (.ireturn, 1) := by decide +kernel
theorem dX9_guests_44 : decode cX9_guests 44 = .ok (.aload 5, 2) := by decide +kernel
theorem dX9_guests_46 : decode cX9_guests 46 = .ok (.getfield 274, 3) := by decide +kernel
theorem dX9_guests_49 : decode cX9_guests 49 = .ok (.iload_n 2, 1) := by decide +kernel
theorem dX9_guests_50 : decode cX9_guests 50 = .ok (.if_icmp .eq 6, 3) := by decide +kernel
theorem dX9_guests_53 : decode cX9_guests 53 = .ok (.bipush (-13), 2) := by decide +kernel
theorem dX9_guests_55 : decode cX9_guests 55 = .ok (.ireturn, 1) := by decide +kernel
theorem dX9_guests_56 : decode cX9_guests 56 = .ok (.iconst 0, 1) := by decide +kernel
theorem dX9_guests_57 : decode cX9_guests 57 = .ok (.istore 6, 2) := by decide +kernel
theorem dX9_guests_59 : decode cX9_guests 59 = .ok (.iconst 0, 1) := by decide +kernel
theorem dX9_guests_60 : decode cX9_guests 60 = .ok (.istore 7, 2) := by decide +kernel
theorem dX9_guests_62 : decode cX9_guests 62 = .ok (.iload 7, 2) := by decide +kernel
theorem dX9_guests_64 : decode cX9_guests 64 = .ok (.iload 4, 2) := by decide +kernel
theorem dX9_guests_66 : decode cX9_guests 66 = .ok (.if_icmp .ge 66, 3) := by decide +kernel
theorem dX9_guests_69 : decode cX9_guests 69 = .ok (.iload_n 3, 1) := by decide +kernel
theorem dX9_guests_70 : decode cX9_guests 70 = .ok (.iconst 3, 1) := by decide +kernel
theorem dX9_guests_71 : decode cX9_guests 71 = .ok (.iload 7, 2) := by decide +kernel
theorem dX9_guests_73 : decode cX9_guests 73 = .ok (.imul, 1) := by decide +kernel
theorem dX9_guests_74 : decode cX9_guests 74 = .ok (.iadd, 1) := by decide +kernel
theorem dX9_guests_75 : decode cX9_guests 75 = .ok (.istore 8, 2) := by decide +kernel
theorem dX9_guests_77 : decode cX9_guests 77 = .ok (.aload 5, 2) := by decide +kernel
theorem dX9_guests_79 : decode cX9_guests 79 = .ok (.iload 8, 2) := by decide +kernel
theorem dX9_guests_81 : decode cX9_guests 81 = .ok (.iconst 3, 1) := by decide +kernel
theorem dX9_guests_82 : decode cX9_guests 82 = .ok (.invokevirtual 271, 3) := by decide +kernel
theorem dX9_guests_85 : decode cX9_guests 85 = .ok (.ifCond .ne 6, 3) := by decide +kernel
theorem dX9_guests_88 : decode cX9_guests 88 = .ok (.bipush (-12), 2) := by decide +kernel
theorem dX9_guests_90 : decode cX9_guests 90 = .ok (.ireturn, 1) := by decide +kernel
theorem dX9_guests_91 : decode cX9_guests 91 = .ok (.aload_n 0, 1) := by decide +kernel
theorem dX9_guests_92 : decode cX9_guests 92 = .ok (.aload 5, 2) := by decide +kernel
theorem dX9_guests_94 : decode cX9_guests 94 = .ok (.iload 8, 2) := by decide +kernel
theorem dX9_guests_96 : decode cX9_guests 96 = .ok (.invokevirtual 286, 3) := by decide +kernel
theorem dX9_guests_99 : decode cX9_guests 99 = .ok (.aload 5, 2) := by decide +kernel
theorem dX9_guests_101 : decode cX9_guests 101 = .ok (.iload 8, 2) := by decide +kernel
theorem dX9_guests_103 : decode cX9_guests 103 = .ok (.iconst 1, 1) := by decide +kernel
theorem dX9_guests_104 : decode cX9_guests 104 = .ok (.iadd, 1) := by decide +kernel
theorem dX9_guests_105 : decode cX9_guests 105 = .ok (.invokevirtual 286, 3) := by decide +kernel
theorem dX9_guests_108 : decode cX9_guests 108 = .ok (.aload 5, 2) := by decide +kernel
theorem dX9_guests_110 : decode cX9_guests 110 = .ok (.iload 8, 2) := by decide +kernel
theorem dX9_guests_112 : decode cX9_guests 112 = .ok (.iconst 2, 1) := by decide +kernel
theorem dX9_guests_113 : decode cX9_guests 113 = .ok (.iadd, 1) := by decide +kernel
theorem dX9_guests_114 : decode cX9_guests 114 = .ok (.invokevirtual 286, 3) := by decide +kernel
theorem dX9_guests_117 : decode cX9_guests 117 = .ok (.invokevirtual 289, 3) := by decide +kernel
theorem dX9_guests_120 : decode cX9_guests 120 = .ok (.ifCond .lt 6, 3) := by decide +kernel
theorem dX9_guests_123 : decode cX9_guests 123 = .ok (.iinc 6 1, 3) := by decide +kernel
theorem dX9_guests_126 : decode cX9_guests 126 = .ok (.iinc 7 1, 3) := by decide +kernel
theorem dX9_guests_129 : decode cX9_guests 129 = .ok (.goto (-67), 3) := by decide +kernel
theorem dX9_guests_132 : decode cX9_guests 132 = .ok (.iload 6, 2) := by decide +kernel
theorem dX9_guests_134 : decode cX9_guests 134 = .ok (.ireturn, 1) := by decide +kernel
theorem dX9_taken_0 : decode cX9_taken 0 = .ok (.bipush 6, 2) := by decide +kernel
theorem dX9_taken_2 : decode cX9_taken 2 = .ok (.iload_n 2, 1) := by decide +kernel
theorem dX9_taken_3 : decode cX9_taken 3 = .ok (.invokestatic 97, 3) := by decide +kernel
theorem dX9_taken_6 : decode cX9_taken 6 = .ok (.ifCond .ne 6, 3) := by decide +kernel
theorem dX9_taken_9 : decode cX9_taken 9 = .ok (.bipush (-2), 2) := by decide +kernel
theorem dX9_taken_11 : decode cX9_taken 11 = .ok (.ireturn, 1) := by decide +kernel
theorem dX9_taken_12 : decode cX9_taken 12 = .ok (.aload_n 0, 1) := by decide +kernel
theorem dX9_taken_13 : decode cX9_taken 13 = .ok (.getfield 10, 3) := by decide +kernel
theorem dX9_taken_16 : decode cX9_taken 16 = .ok (.iload_n 1, 1) := by decide +kernel
theorem dX9_taken_17 : decode cX9_taken 17 = .ok (.invokevirtual 101, 3) := by decide +kernel
theorem dX9_taken_20 : decode cX9_taken 20 = .ok (.ifCond .ne 6, 3) := by decide +kernel
theorem dX9_taken_23 : decode cX9_taken 23 = .ok (.bipush (-11), 2) := by decide +kernel
theorem dX9_taken_25 : decode cX9_taken 25 = .ok (.ireturn, 1) := by decide +kernel
theorem dX9_taken_26 : decode cX9_taken 26 = .ok (.aload_n 0, 1) := by decide +kernel
theorem dX9_taken_27 : decode cX9_taken 27 = .ok (.getfield 10, 3) := by decide +kernel
theorem dX9_taken_30 : decode cX9_taken 30 = .ok (.bipush 6, 2) := by decide +kernel
theorem dX9_taken_32 : decode cX9_taken 32 = .ok (.iload_n 1, 1) := by decide +kernel
theorem dX9_taken_33 : decode cX9_taken 33 = .ok (.invokevirtual 105, 3) := by decide +kernel
theorem dX9_taken_36 : decode cX9_taken 36 = .ok (.iload_n 2, 1) := by decide +kernel
theorem dX9_taken_37 : decode cX9_taken 37 = .ok (.invokestatic 292, 3) := by decide +kernel
theorem dX9_taken_40 : decode cX9_taken 40 = .ok (.ifCond .eq 15, 3) := by decide +kernel
theorem dX9_taken_43 : decode cX9_taken 43 = .ok (.aload_n 0, 1) := by decide +kernel
theorem dX9_taken_44 : decode cX9_taken 44 = .ok (.getfield 10, 3) := by decide +kernel
theorem dX9_taken_47 : decode cX9_taken 47 = .ok (.iconst 3, 1) := by decide +kernel
theorem dX9_taken_48 : decode cX9_taken 48 = .ok (.iload_n 1, 1) := by decide +kernel
theorem dX9_taken_49 : decode cX9_taken 49 = .ok (.invokevirtual 105, 3) := by decide +kernel
theorem dX9_taken_52 : decode cX9_taken 52 = .ok (.goto 5, 3) := by decide +kernel
theorem dX9_taken_55 : decode cX9_taken 55 = .ok (.bipush (-13), 2) := by decide +kernel
theorem dX9_taken_57 : decode cX9_taken 57 = .ok (.ireturn, 1) := by decide +kernel
theorem dX9_sheetOf_0 : decode cX9_sheetOf 0 = .ok (.iload_n 1, 1) := by decide +kernel
theorem dX9_sheetOf_1 : decode cX9_sheetOf 1 = .ok (.ifCond .lt 21, 3) := by decide +kernel
theorem dX9_sheetOf_4 : decode cX9_sheetOf 4 = .ok (.iload_n 1, 1) := by decide +kernel
theorem dX9_sheetOf_5 : decode cX9_sheetOf 5 = .ok (.aload_n 0, 1) := by decide +kernel
theorem dX9_sheetOf_6 : decode cX9_sheetOf 6 = .ok (.getfield 48, 3) := by decide +kernel
theorem dX9_sheetOf_9 : decode cX9_sheetOf 9 = .ok (.arraylength, 1) := by decide +kernel
theorem dX9_sheetOf_10 : decode cX9_sheetOf 10 = .ok (.if_icmp .ge 12, 3) := by decide +kernel
theorem dX9_sheetOf_13 : decode cX9_sheetOf 13 = .ok (.aload_n 0, 1) := by decide +kernel
theorem dX9_sheetOf_14 : decode cX9_sheetOf 14 = .ok (.getfield 48, 3) := by decide +kernel
theorem dX9_sheetOf_17 : decode cX9_sheetOf 17 = .ok (.iload_n 1, 1) := by decide +kernel
theorem dX9_sheetOf_18 : decode cX9_sheetOf 18 = .ok (.aaload, 1) := by decide +kernel
theorem dX9_sheetOf_19 : decode cX9_sheetOf 19 = .ok (.goto 4, 3) := by decide +kernel
theorem dX9_sheetOf_22 : decode cX9_sheetOf 22 = .ok (.aconst_null, 1) := by decide +kernel
theorem dX9_sheetOf_23 : decode cX9_sheetOf 23 = .ok (.areturn, 1) := by decide +kernel
theorem dX9_mayBeAskedOfTold_0 : decode cX9_mayBeAskedOfTold 0 = .ok (.iload_n 1, 1) := by decide +kernel
theorem dX9_mayBeAskedOfTold_1 : decode cX9_mayBeAskedOfTold 1 = .ok (.ifCond .lt 8, 3) := by decide +kernel
theorem dX9_mayBeAskedOfTold_4 : decode cX9_mayBeAskedOfTold 4 = .ok (.iload_n 1, 1) := by decide +kernel
theorem dX9_mayBeAskedOfTold_5 : decode cX9_mayBeAskedOfTold 5 = .ok (.iconst 4, 1) := by decide +kernel
theorem dX9_mayBeAskedOfTold_6 : decode cX9_mayBeAskedOfTold 6 = .ok (.if_icmp .le 29, 3) := by decide +kernel
theorem dX9_mayBeAskedOfTold_9 : decode cX9_mayBeAskedOfTold 9 = .ok (.iload_n 1, 1) := by decide +kernel
theorem dX9_mayBeAskedOfTold_10 : decode cX9_mayBeAskedOfTold 10 = .ok (.bipush 10, 2) := by decide +kernel
theorem dX9_mayBeAskedOfTold_12 : decode cX9_mayBeAskedOfTold 12 = .ok (.if_icmp .lt 27, 3) := by decide +kernel
theorem dX9_mayBeAskedOfTold_15 : decode cX9_mayBeAskedOfTold 15 = .ok (.iload_n 1, 1) := by decide +kernel
theorem dX9_mayBeAskedOfTold_16 : decode cX9_mayBeAskedOfTold 16 = .ok (.bipush 40, 2) := by decide +kernel
theorem dX9_mayBeAskedOfTold_18 : decode cX9_mayBeAskedOfTold 18 = .ok (.if_icmp .ge 21, 3) := by decide +kernel
theorem dX9_mayBeAskedOfTold_21 : decode cX9_mayBeAskedOfTold 21 = .ok (.aload_n 0, 1) := by decide +kernel
theorem dX9_mayBeAskedOfTold_22 : decode cX9_mayBeAskedOfTold 22 = .ok (.getfield 10, 3) := by decide +kernel
theorem dX9_mayBeAskedOfTold_25 : decode cX9_mayBeAskedOfTold 25 = .ok (.iload_n 1, 1) := by decide +kernel
theorem dX9_mayBeAskedOfTold_26 : decode cX9_mayBeAskedOfTold 26 = .ok (.bipush 10, 2) := by decide +kernel
theorem dX9_mayBeAskedOfTold_28 : decode cX9_mayBeAskedOfTold 28 = .ok (.irem, 1) := by decide +kernel
theorem dX9_mayBeAskedOfTold_29 : decode cX9_mayBeAskedOfTold 29 = .ok (.invokevirtual 101, 3) := by decide +kernel
theorem dX9_mayBeAskedOfTold_32 : decode cX9_mayBeAskedOfTold 32 = .ok (.ifCond .eq 7, 3) := by decide +kernel
theorem dX9_mayBeAskedOfTold_35 : decode cX9_mayBeAskedOfTold 35 = .ok (.iconst 1, 1) := by decide +kernel
theorem dX9_mayBeAskedOfTold_36 : decode cX9_mayBeAskedOfTold 36 = .ok (.goto 4, 3) := by decide +kernel
theorem dX9_mayBeAskedOfTold_39 : decode cX9_mayBeAskedOfTold 39 = .ok (.iconst 0, 1) := by decide +kernel
theorem dX9_mayBeAskedOfTold_40 : decode cX9_mayBeAskedOfTold 40 = .ok (.ireturn, 1) := by decide +kernel
theorem dX9_mayBe_0 : decode cX9_mayBe 0 = .ok (.iload_n 0, 1) := by decide +kernel
theorem dX9_mayBe_1 : decode cX9_mayBe 1 = .ok (.ifCond .lt 41, 3) := by decide +kernel
theorem dX9_mayBe_4 : decode cX9_mayBe 4 = .ok (.iload_n 0, 1) := by decide +kernel
theorem dX9_mayBe_5 : decode cX9_mayBe 5 = .ok (.getstatic 295, 3) := by decide +kernel
theorem dX9_mayBe_8 : decode cX9_mayBe 8 = .ok (.arraylength, 1) := by decide +kernel
theorem dX9_mayBe_9 : decode cX9_mayBe 9 = .ok (.if_icmp .ge 33, 3) := by decide +kernel
theorem dX9_mayBe_12 : decode cX9_mayBe 12 = .ok (.iload_n 0, 1) := by decide +kernel
theorem dX9_mayBe_13 : decode cX9_mayBe 13 = .ok (.getstatic 179, 3) := by decide +kernel
theorem dX9_mayBe_16 : decode cX9_mayBe 16 = .ok (.arraylength, 1) := by decide +kernel
theorem dX9_mayBe_17 : decode cX9_mayBe 17 = .ok (.if_icmp .ge 25, 3) := by decide +kernel
theorem dX9_mayBe_20 : decode cX9_mayBe 20 = .ok (.iload_n 1, 1) := by decide +kernel
theorem dX9_mayBe_21 : decode cX9_mayBe 21 = .ok (.getstatic 295, 3) := by decide +kernel
theorem dX9_mayBe_24 : decode cX9_mayBe 24 = .ok (.iload_n 0, 1) := by decide +kernel
theorem dX9_mayBe_25 : decode cX9_mayBe 25 = .ok (.iaload, 1) := by decide +kernel
theorem dX9_mayBe_26 : decode cX9_mayBe 26 = .ok (.if_icmp .lt 16, 3) := by decide +kernel
theorem dX9_mayBe_29 : decode cX9_mayBe 29 = .ok (.iload_n 1, 1) := by decide +kernel
theorem dX9_mayBe_30 : decode cX9_mayBe 30 = .ok (.getstatic 179, 3) := by decide +kernel
theorem dX9_mayBe_33 : decode cX9_mayBe 33 = .ok (.iload_n 0, 1) := by decide +kernel
theorem dX9_mayBe_34 : decode cX9_mayBe 34 = .ok (.iaload, 1) := by decide +kernel
theorem dX9_mayBe_35 : decode cX9_mayBe 35 = .ok (.if_icmp .gt 7, 3) := by decide +kernel
theorem dX9_mayBe_38 : decode cX9_mayBe 38 = .ok (.iconst 1, 1) := by decide +kernel
theorem dX9_mayBe_39 : decode cX9_mayBe 39 = .ok (.goto 4, 3) := by decide +kernel
theorem dX9_mayBe_42 : decode cX9_mayBe 42 = .ok (.iconst 0, 1) := by decide +kernel
theorem dX9_mayBe_43 : decode cX9_mayBe 43 = .ok (.ireturn, 1) := by decide +kernel
theorem dX9_isUnder_0 : decode cX9_isUnder 0 = .ok (.iload_n 0, 1) := by decide +kernel
theorem dX9_isUnder_1 : decode cX9_isUnder 1 = .ok (.istore_n 2, 1) := by decide +kernel
theorem dX9_isUnder_2 : decode cX9_isUnder 2 = .ok (.iconst 0, 1) := by decide +kernel
theorem dX9_isUnder_3 : decode cX9_isUnder 3 = .ok (.istore_n 3, 1) := by decide +kernel
theorem dX9_isUnder_4 : decode cX9_isUnder 4 = .ok (.iload_n 3, 1) := by decide +kernel
theorem dX9_isUnder_5 : decode cX9_isUnder 5 = .ok (.getstatic 298, 3) := by decide +kernel
theorem dX9_isUnder_8 : decode cX9_isUnder 8 = .ok (.arraylength, 1) := by decide +kernel
theorem dX9_isUnder_9 : decode cX9_isUnder 9 = .ok (.if_icmp .ge 34, 3) := by decide +kernel
theorem dX9_isUnder_12 : decode cX9_isUnder 12 = .ok (.iload_n 2, 1) := by decide +kernel
theorem dX9_isUnder_13 : decode cX9_isUnder 13 = .ok (.iload_n 1, 1) := by decide +kernel
theorem dX9_isUnder_14 : decode cX9_isUnder 14 = .ok (.if_icmp .eq 29, 3) := by decide +kernel
theorem dX9_isUnder_17 : decode cX9_isUnder 17 = .ok (.iload_n 2, 1) := by decide +kernel
theorem dX9_isUnder_18 : decode cX9_isUnder 18 = .ok (.ifCond .lt 11, 3) := by decide +kernel
theorem dX9_isUnder_21 : decode cX9_isUnder 21 = .ok (.iload_n 2, 1) := by decide +kernel
theorem dX9_isUnder_22 : decode cX9_isUnder 22 = .ok (.getstatic 298, 3) := by decide +kernel
theorem dX9_isUnder_25 : decode cX9_isUnder 25 = .ok (.arraylength, 1) := by decide +kernel
theorem dX9_isUnder_26 : decode cX9_isUnder 26 = .ok (.if_icmp .lt 5, 3) := by decide +kernel
theorem dX9_isUnder_29 : decode cX9_isUnder 29 = .ok (.iconst 0, 1) := by decide +kernel
theorem dX9_isUnder_30 : decode cX9_isUnder 30 = .ok (.ireturn, 1) := by decide +kernel
theorem dX9_isUnder_31 : decode cX9_isUnder 31 = .ok (.getstatic 298, 3) := by decide +kernel
theorem dX9_isUnder_34 : decode cX9_isUnder 34 = .ok (.iload_n 2, 1) := by decide +kernel
theorem dX9_isUnder_35 : decode cX9_isUnder 35 = .ok (.iaload, 1) := by decide +kernel
theorem dX9_isUnder_36 : decode cX9_isUnder 36 = .ok (.istore_n 2, 1) := by decide +kernel
theorem dX9_isUnder_37 : decode cX9_isUnder 37 = .ok (.iinc 3 1, 3) := by decide +kernel
theorem dX9_isUnder_40 : decode cX9_isUnder 40 = .ok (.goto (-36), 3) := by decide +kernel
theorem dX9_isUnder_43 : decode cX9_isUnder 43 = .ok (.iload_n 2, 1) := by decide +kernel
theorem dX9_isUnder_44 : decode cX9_isUnder 44 = .ok (.iload_n 1, 1) := by decide +kernel
theorem dX9_isUnder_45 : decode cX9_isUnder 45 = .ok (.if_icmp .ne 7, 3) := by decide +kernel
theorem dX9_isUnder_48 : decode cX9_isUnder 48 = .ok (.iconst 1, 1) := by decide +kernel
theorem dX9_isUnder_49 : decode cX9_isUnder 49 = .ok (.goto 4, 3) := by decide +kernel
theorem dX9_isUnder_52 : decode cX9_isUnder 52 = .ok (.iconst 0, 1) := by decide +kernel
theorem dX9_isUnder_53 : decode cX9_isUnder 53 = .ok (.ireturn, 1) := by decide +kernel
theorem dX9_commonDivisor_0 : decode cX9_commonDivisor 0 = .ok (.iload_n 1, 1) := by decide +kernel
theorem dX9_commonDivisor_1 : decode cX9_commonDivisor 1 = .ok (.istore_n 2, 1) := by decide +kernel
theorem dX9_commonDivisor_2 : decode cX9_commonDivisor 2 = .ok (.iload_n 0, 1) := by decide +kernel
theorem dX9_commonDivisor_3 : decode cX9_commonDivisor 3 = .ok (.istore_n 3, 1) := by decide +kernel
theorem dX9_commonDivisor_4 : decode cX9_commonDivisor 4 = .ok (.iconst 0, 1) := by decide +kernel
theorem dX9_commonDivisor_5 : decode cX9_commonDivisor 5 = .ok (.istore 4, 2) := by decide +kernel
theorem dX9_commonDivisor_7 : decode cX9_commonDivisor 7 = .ok (.iload 4, 2) := by decide +kernel
theorem dX9_commonDivisor_9 : decode cX9_commonDivisor 9 = .ok (.bipush 100, 2) := by decide +kernel
theorem dX9_commonDivisor_11 : decode cX9_commonDivisor 11 = .ok (.if_icmp .ge 23, 3) := by decide +kernel
theorem dX9_commonDivisor_14 : decode cX9_commonDivisor 14 = .ok (.iload_n 3, 1) := by decide +kernel
theorem dX9_commonDivisor_15 : decode cX9_commonDivisor 15 = .ok (.ifCond .eq 19, 3) := by decide +kernel
theorem dX9_commonDivisor_18 : decode cX9_commonDivisor 18 = .ok (.iload_n 2, 1) := by decide +kernel
theorem dX9_commonDivisor_19 : decode cX9_commonDivisor 19 = .ok (.iload_n 3, 1) := by decide +kernel
theorem dX9_commonDivisor_20 : decode cX9_commonDivisor 20 = .ok (.irem, 1) := by decide +kernel
theorem dX9_commonDivisor_21 : decode cX9_commonDivisor 21 = .ok (.istore 5, 2) := by decide +kernel
theorem dX9_commonDivisor_23 : decode cX9_commonDivisor 23 = .ok (.iload_n 3, 1) := by decide +kernel
theorem dX9_commonDivisor_24 : decode cX9_commonDivisor 24 = .ok (.istore_n 2, 1) := by decide +kernel
theorem dX9_commonDivisor_25 : decode cX9_commonDivisor 25 = .ok (.iload 5, 2) := by decide +kernel
theorem dX9_commonDivisor_27 : decode cX9_commonDivisor 27 = .ok (.istore_n 3, 1) := by decide +kernel
theorem dX9_commonDivisor_28 : decode cX9_commonDivisor 28 = .ok (.iinc 4 1, 3) := by decide +kernel
theorem dX9_commonDivisor_31 : decode cX9_commonDivisor 31 = .ok (.goto (-24), 3) := by decide +kernel
theorem dX9_commonDivisor_34 : decode cX9_commonDivisor 34 = .ok (.iload_n 2, 1) := by decide +kernel
theorem dX9_commonDivisor_35 : decode cX9_commonDivisor 35 = .ok (.ireturn, 1) := by decide +kernel
theorem dX9_within_0 : decode cX9_within 0 = .ok (.iload_n 1, 1) := by decide +kernel
theorem dX9_within_1 : decode cX9_within 1 = .ok (.iload_n 2, 1) := by decide +kernel
theorem dX9_within_2 : decode cX9_within 2 = .ok (.iload_n 0, 1) := by decide +kernel
theorem dX9_within_3 : decode cX9_within 3 = .ok (.invokestatic 301, 3) := by decide +kernel
theorem dX9_within_6 : decode cX9_within 6 = .ok (.invokestatic 306, 3) := by decide +kernel
theorem dX9_within_9 : decode cX9_within 9 = .ok (.ireturn, 1) := by decide +kernel
end
section
theorem dX10_in_0 : decode cX10_in 0 = .ok (.lload_n 0, 1) := by decide +kernel
theorem dX10_in_1 : decode cX10_in 1 = .ok (.lload_n 2, 1) := by decide +kernel
theorem dX10_in_2 : decode cX10_in 2 = .ok (.lcmp, 1) := by decide +kernel
theorem dX10_in_3 : decode cX10_in 3 = .ok (.ifCond .lt 14, 3) := by decide +kernel
theorem dX10_in_6 : decode cX10_in 6 = .ok (.lload_n 0, 1) := by decide +kernel
theorem dX10_in_7 : decode cX10_in 7 = .ok (.lload 4, 2) := by decide +kernel
theorem dX10_in_9 : decode cX10_in 9 = .ok (.lcmp, 1) := by decide +kernel
theorem dX10_in_10 : decode cX10_in 10 = .ok (.ifCond .gt 7, 3) := by decide +kernel
theorem dX10_in_13 : decode cX10_in 13 = .ok (.iconst 1, 1) := by decide +kernel
theorem dX10_in_14 : decode cX10_in 14 = .ok (.goto 4, 3) := by decide +kernel
theorem dX10_in_17 : decode cX10_in 17 = .ok (.iconst 0, 1) := by decide +kernel
theorem dX10_in_18 : decode cX10_in 18 = .ok (.ireturn, 1) := by decide +kernel
theorem dX10_within_0 : decode cX10_within 0 = .ok (.iload_n 0, 1) := by decide +kernel
theorem dX10_within_1 : decode cX10_within 1 = .ok (.iload_n 1, 1) := by decide +kernel
theorem dX10_within_2 : decode cX10_within 2 = .ok (.if_icmp .ge 7, 3) := by decide +kernel
theorem dX10_within_5 : decode cX10_within 5 = .ok (.iload_n 1, 1) := by decide +kernel
theorem dX10_within_6 : decode cX10_within 6 = .ok (.goto 13, 3) := by decide +kernel
theorem dX10_within_9 : decode cX10_within 9 = .ok (.iload_n 0, 1) := by decide +kernel
theorem dX10_within_10 : decode cX10_within 10 = .ok (.iload_n 2, 1) := by decide +kernel
theorem dX10_within_11 : decode cX10_within 11 = .ok (.if_icmp .le 7, 3) := by decide +kernel
theorem dX10_within_14 : decode cX10_within 14 = .ok (.iload_n 2, 1) := by decide +kernel
theorem dX10_within_15 : decode cX10_within 15 = .ok (.goto 4, 3) := by decide +kernel
theorem dX10_within_18 : decode cX10_within 18 = .ok (.iload_n 0, 1) := by decide +kernel
theorem dX10_within_19 : decode cX10_within 19 = .ok (.ireturn, 1) := by decide +kernel
theorem dX10_init_0 : decode cX10_init 0 = .ok (.aload_n 0, 1) := by decide +kernel
theorem dX10_init_1 : decode cX10_init 1 = .ok (.invokespecial 7, 3) := by decide +kernel
theorem dX10_init_4 : decode cX10_init 4 = .ok (.aload_n 0, 1) := by decide +kernel
theorem dX10_init_5 : decode cX10_init 5 = .ok (.sipush 960, 3) := by decide +kernel
theorem dX10_init_8 : decode cX10_init 8 = .ok (.newarray .int, 2) := by decide +kernel
theorem dX10_init_10 : decode cX10_init 10 = .ok (.putfield 13, 3) := by decide +kernel
theorem dX10_init_13 : decode cX10_init 13 = .ok (.aload_n 0, 1) := by decide +kernel
theorem dX10_init_14 : decode cX10_init 14 = .ok (.bipush 6, 2) := by decide +kernel
theorem dX10_init_16 : decode cX10_init 16 = .ok (.newarray .int, 2) := by decide +kernel
theorem dX10_init_18 : decode cX10_init 18 = .ok (.putfield 17, 3) := by decide +kernel
theorem dX10_init_21 : decode cX10_init 21 = .ok (.aload_n 0, 1) := by decide +kernel
theorem dX10_init_22 : decode cX10_init 22 = .ok (.sipush 160, 3) := by decide +kernel
theorem dX10_init_25 : decode cX10_init 25 = .ok (.newarray .int, 2) := by decide +kernel
theorem dX10_init_27 : decode cX10_init 27 = .ok (.putfield 20, 3) := by decide +kernel
theorem dX10_init_30 : decode cX10_init 30 = .ok (.aload_n 0, 1) := by decide +kernel
theorem dX10_init_31 : decode cX10_init 31 = .ok (.iconst 3, 1) := by decide +kernel
theorem dX10_init_32 : decode cX10_init 32 = .ok (.newarray .int, 2) := by decide +kernel
theorem dX10_init_34 : decode cX10_init 34 = .ok (.putfield 23, 3) := by decide +kernel
theorem dX10_init_37 : decode cX10_init 37 = .ok (.aload_n 0, 1) := by decide +kernel
theorem dX10_init_38 : decode cX10_init 38 = .ok (.iconst 5, 1) := by decide +kernel
theorem dX10_init_39 : decode cX10_init 39 = .ok (.newarray .int, 2) := by decide +kernel
theorem dX10_init_41 : decode cX10_init 41 = .ok (.putfield 26, 3) := by decide +kernel
theorem dX10_init_44 : decode cX10_init 44 = .ok (.aload_n 0, 1) := by decide +kernel
theorem dX10_init_45 : decode cX10_init 45 = .ok (.bipush 15, 2) := by decide +kernel
theorem dX10_init_47 : decode cX10_init 47 = .ok (.newarray .int, 2) := by decide +kernel
theorem dX10_init_49 : decode cX10_init 49 = .ok (.putfield 29, 3) := by decide +kernel
theorem dX10_init_52 : decode cX10_init 52 = .ok (.aload_n 0, 1) := by decide +kernel
theorem dX10_init_53 : decode cX10_init 53 = .ok (.iconst 5, 1) := by decide +kernel
theorem dX10_init_54 : decode cX10_init 54 = .ok (.newarray .int, 2) := by decide +kernel
theorem dX10_init_56 : decode cX10_init 56 = .ok (.putfield 32, 3) := by decide +kernel
theorem dX10_init_59 : decode cX10_init 59 = .ok (.aload_n 0, 1) := by decide +kernel
theorem dX10_init_60 : decode cX10_init 60 = .ok (.bipush 6, 2) := by decide +kernel
theorem dX10_init_62 : decode cX10_init 62 = .ok (.newarray .int, 2) := by decide +kernel
theorem dX10_init_64 : decode cX10_init 64 = .ok (.putfield 35, 3) := by decide +kernel
theorem dX10_init_67 : decode cX10_init 67 = .ok (.aload_n 0, 1) := by decide +kernel
theorem dX10_init_68 : decode cX10_init 68 = .ok (.iconst 5, 1) := by decide +kernel
theorem dX10_init_69 : decode cX10_init 69 = .ok (.newarray .boolean, 2) := by decide +kernel
theorem dX10_init_71 : decode cX10_init 71 = .ok (.putfield 38, 3) := by decide +kernel
theorem dX10_init_74 : decode cX10_init 74 = .ok (.aload_n 0, 1) := by decide +kernel
theorem dX10_init_75 : decode cX10_init 75 = .ok (.iconst 5, 1) := by decide +kernel
theorem dX10_init_76 : decode cX10_init 76 = .ok (.newarray .boolean, 2) := by decide +kernel
theorem dX10_init_78 : decode cX10_init 78 = .ok (.putfield 42, 3) := by decide +kernel
theorem dX10_init_81 : decode cX10_init 81 = .ok (.aload_n 0, 1) := by decide +kernel
theorem dX10_init_82 : decode cX10_init 82 = .ok (.iconst 5, 1) := by decide +kernel
theorem dX10_init_83 : decode cX10_init 83 = .ok (.newarray .int, 2) := by decide +kernel
theorem dX10_init_85 : decode cX10_init 85 = .ok (.putfield 45, 3) := by decide +kernel
theorem dX10_init_88 : decode cX10_init 88 = .ok (.aload_n 0, 1) := by decide +kernel
theorem dX10_init_89 : decode cX10_init 89 = .ok (.iconst 5, 1) := by decide +kernel
theorem dX10_init_90 : decode cX10_init 90 = .ok (.newarray .int, 2) := by decide +kernel
theorem dX10_init_92 : decode cX10_init 92 = .ok (.putfield 48, 3) := by decide +kernel
theorem dX10_init_95 : decode cX10_init 95 = .ok (.aload_n 0, 1) := by decide +kernel
theorem dX10_init_96 : decode cX10_init 96 = .ok (.iconst 3, 1) := by decide +kernel
theorem dX10_init_97 : decode cX10_init 97 = .ok (.newarray .int, 2) := by decide +kernel
theorem dX10_init_99 : decode cX10_init 99 = .ok (.putfield 51, 3) := by decide +kernel
theorem dX10_init_102 : decode cX10_init 102 = .ok (.aload_n 0, 1) := by decide +kernel
theorem dX10_init_103 : decode cX10_init 103 = .ok (.bipush 15, 2) := by decide +kernel
theorem dX10_init_105 : decode cX10_init 105 = .ok (.newarray .int, 2) := by decide +kernel
theorem dX10_init_107 : decode cX10_init 107 = .ok (.putfield 54, 3) := by decide +kernel
theorem dX10_init_110 : decode cX10_init 110 = .ok (.aload_n 0, 1) := by decide +kernel
theorem dX10_init_111 : decode cX10_init 111 = .ok (.iconst (-1), 1) := by decide +kernel
theorem dX10_init_112 : decode cX10_init 112 = .ok (.putfield 57, 3) := by decide +kernel
theorem dX10_init_115 : decode cX10_init 115 = .ok (.aload_n 0, 1) := by decide +kernel
theorem dX10_init_116 : decode cX10_init 116 = .ok (.iconst 4, 1) := by decide +kernel
theorem dX10_init_117 : decode cX10_init 117 = .ok (.newarray .boolean, 2) := by decide +kernel
theorem dX10_init_119 : decode cX10_init 119 = .ok (.putfield 60, 3) := by decide +kernel
theorem dX10_init_122 : decode cX10_init 122 = .ok (.aload_n 0, 1) := by decide +kernel
theorem dX10_init_123 : decode cX10_init 123 = .ok (.iconst 4, 1) := by decide +kernel
theorem dX10_init_124 : decode cX10_init 124 = .ok (.newarray .int, 2) := by decide +kernel
theorem dX10_init_126 : decode cX10_init 126 = .ok (.putfield 63, 3) := by decide +kernel
theorem dX10_init_129 : decode cX10_init 129 = .ok (.aload_n 0, 1) := by decide +kernel
theorem dX10_init_130 : decode cX10_init 130 = .ok (.iconst 4, 1) := by decide +kernel
theorem dX10_init_131 : decode cX10_init 131 = .ok (.newarray .int, 2) := by decide +kernel
theorem dX10_init_133 : decode cX10_init 133 = .ok (.putfield 66, 3) := by decide +kernel
theorem dX10_init_136 : decode cX10_init 136 = .ok (.aload_n 0, 1) := by decide +kernel
theorem dX10_init_137 : decode cX10_init 137 = .ok (.sipush 160, 3) := by decide +kernel
theorem dX10_init_140 : decode cX10_init 140 = .ok (.newarray .int, 2) := by decide +kernel
theorem dX10_init_142 : decode cX10_init 142 = .ok (.putfield 69, 3) := by decide +kernel
theorem dX10_init_145 : decode cX10_init 145 = .ok (.aload_n 0, 1) := by decide +kernel
theorem dX10_init_146 : decode cX10_init 146 = .ok (.getfield 23, 3) := by decide +kernel
theorem dX10_init_149 : decode cX10_init 149 = .ok (.iconst 0, 1) := by decide +kernel
theorem dX10_init_150 : decode cX10_init 150 = .ok (.bipush 20, 2) := by decide +kernel
theorem dX10_init_152 : decode cX10_init 152 = .ok (.iastore, 1) := by decide +kernel
theorem dX10_init_153 : decode cX10_init 153 = .ok (.aload_n 0, 1) := by decide +kernel
theorem dX10_init_154 : decode cX10_init 154 = .ok (.getfield 23, 3) := by decide +kernel
theorem dX10_init_157 : decode cX10_init 157 = .ok (.iconst 1, 1) := by decide +kernel
theorem dX10_init_158 : decode cX10_init 158 = .ok (.bipush 70, 2) := by decide +kernel
theorem dX10_init_160 : decode cX10_init 160 = .ok (.iastore, 1) := by decide +kernel
theorem dX10_init_161 : decode cX10_init 161 = .ok (.aload_n 0, 1) := by decide +kernel
theorem dX10_init_162 : decode cX10_init 162 = .ok (.iconst 0, 1) := by decide +kernel
theorem dX10_init_163 : decode cX10_init 163 = .ok (.bipush 119, 2) := by decide +kernel
theorem dX10_init_165 : decode cX10_init 165 = .ok (.bipush 97, 2) := by decide +kernel
theorem dX10_init_167 : decode cX10_init 167 = .ok (.bipush 114, 2) := by decide +kernel
theorem dX10_init_169 : decode cX10_init 169 = .ok (.bipush 109, 2) := by decide +kernel
theorem dX10_init_171 : decode cX10_init 171 = .ok (.bipush 115, 2) := by decide +kernel
theorem dX10_init_173 : decode cX10_init 173 = .ok (.bipush 32, 2) := by decide +kernel
theorem dX10_init_175 : decode cX10_init 175 = .ok (.bipush 53, 2) := by decide +kernel
theorem dX10_init_177 : decode cX10_init 177 = .ok (.bipush 32, 2) := by decide +kernel
theorem dX10_init_179 : decode cX10_init 179 = .ok (.invokevirtual 72, 3) := by decide +kernel
theorem dX10_init_182 : decode cX10_init 182 = .ok (.aload_n 0, 1) := by decide +kernel
theorem dX10_init_183 : decode cX10_init 183 = .ok (.bipush 8, 2) := by decide +kernel
theorem dX10_init_185 : decode cX10_init 185 = .ok (.bipush 43, 2) := by decide +kernel
theorem dX10_init_187 : decode cX10_init 187 = .ok (.bipush 32, 2) := by decide +kernel
theorem dX10_init_189 : decode cX10_init 189 = .ok (.bipush 116, 2) := by decide +kernel
theorem dX10_init_191 : decode cX10_init 191 = .ok (.bipush 111, 2) := by decide +kernel
theorem dX10_init_193 : decode cX10_init 193 = .ok (.bipush 112, 2) := by decide +kernel
theorem dX10_init_195 : decode cX10_init 195 = .ok (.bipush 105, 2) := by decide +kernel
theorem dX10_init_197 : decode cX10_init 197 = .ok (.bipush 99, 2) := by decide +kernel
theorem dX10_init_199 : decode cX10_init 199 = .ok (.bipush 32, 2) := by decide +kernel
theorem dX10_init_201 : decode cX10_init 201 = .ok (.invokevirtual 72, 3) := by decide +kernel
theorem dX10_init_204 : decode cX10_init 204 = .ok (.aload_n 0, 1) := by decide +kernel
theorem dX10_init_205 : decode cX10_init 205 = .ok (.bipush 16, 2) := by decide +kernel
theorem dX10_init_207 : decode cX10_init 207 = .ok (.bipush 59, 2) := by decide +kernel
theorem dX10_init_209 : decode cX10_init 209 = .ok (.bipush 32, 2) := by decide +kernel
theorem dX10_init_211 : decode cX10_init 211 = .ok (.bipush 99, 2) := by decide +kernel
theorem dX10_init_213 : decode cX10_init 213 = .ok (.bipush 111, 2) := by decide +kernel
theorem dX10_init_215 : decode cX10_init 215 = .ok (.bipush 111, 2) := by decide +kernel
theorem dX10_init_217 : decode cX10_init 217 = .ok (.bipush 108, 2) := by decide +kernel
theorem dX10_init_219 : decode cX10_init 219 = .ok (.bipush 115, 2) := by decide +kernel
theorem dX10_init_221 : decode cX10_init 221 = .ok (.bipush 32, 2) := by decide +kernel
theorem dX10_init_223 : decode cX10_init 223 = .ok (.invokevirtual 72, 3) := by decide +kernel
theorem dX10_init_226 : decode cX10_init 226 = .ok (.aload_n 0, 1) := by decide +kernel
theorem dX10_init_227 : decode cX10_init 227 = .ok (.bipush 24, 2) := by decide +kernel
theorem dX10_init_229 : decode cX10_init 229 = .ok (.bipush 50, 2) := by decide +kernel
theorem dX10_init_231 : decode cX10_init 231 = .ok (.bipush 32, 2) := by decide +kernel
theorem dX10_init_233 : decode cX10_init 233 = .ok (.bipush 59, 2) := by decide +kernel
theorem dX10_init_235 : decode cX10_init 235 = .ok (.bipush 32, 2) := by decide +kernel
theorem dX10_init_237 : decode cX10_init 237 = .ok (.bipush 115, 2) := by decide +kernel
theorem dX10_init_239 : decode cX10_init 239 = .ok (.bipush 99, 2) := by decide +kernel
theorem dX10_init_241 : decode cX10_init 241 = .ok (.bipush 114, 2) := by decide +kernel
theorem dX10_init_243 : decode cX10_init 243 = .ok (.bipush 101, 2) := by decide +kernel
theorem dX10_init_245 : decode cX10_init 245 = .ok (.invokevirtual 72, 3) := by decide +kernel
theorem dX10_init_248 : decode cX10_init 248 = .ok (.aload_n 0, 1) := by decide +kernel
theorem dX10_init_249 : decode cX10_init 249 = .ok (.bipush 32, 2) := by decide +kernel
theorem dX10_init_251 : decode cX10_init 251 = .ok (.bipush 97, 2) := by decide +kernel
theorem dX10_init_253 : decode cX10_init 253 = .ok (.bipush 109, 2) := by decide +kernel
theorem dX10_init_255 : decode cX10_init 255 = .ok (.bipush 115, 2) := by decide +kernel
theorem dX10_init_257 : decode cX10_init 257 = .ok (.bipush 32, 2) := by decide +kernel
theorem dX10_init_259 : decode cX10_init 259 = .ok (.bipush 108, 2) := by decide +kernel
theorem dX10_init_261 : decode cX10_init 261 = .ok (.bipush 97, 2) := by decide +kernel
theorem dX10_init_263 : decode cX10_init 263 = .ok (.bipush 115, 2) := by decide +kernel
theorem dX10_init_265 : decode cX10_init 265 = .ok (.bipush 116, 2) := by decide +kernel
theorem dX10_init_267 : decode cX10_init 267 = .ok (.invokevirtual 72, 3) := by decide +kernel
theorem dX10_init_270 : decode cX10_init 270 = .ok (.aload_n 0, 1) := by decide +kernel
theorem dX10_init_271 : decode cX10_init 271 = .ok (.bipush 40, 2) := by decide +kernel
theorem dX10_init_273 : decode cX10_init 273 = .ok (.bipush 32, 2) := by decide +kernel
theorem dX10_init_275 : decode cX10_init 275 = .ok (.bipush 60, 2) := by decide +kernel
theorem dX10_init_277 : decode cX10_init 277 = .ok (.bipush 32, 2) := by decide +kernel
theorem dX10_init_279 : decode cX10_init 279 = .ok (.bipush 52, 2) := by decide +kernel
theorem dX10_init_281 : decode cX10_init 281 = .ok (.bipush 32, 2) := by decide +kernel
theorem dX10_init_283 : decode cX10_init 283 = .ok (.bipush 59, 2) := by decide +kernel
theorem dX10_init_285 : decode cX10_init 285 = .ok (.bipush 32, 2) := by decide +kernel
theorem dX10_init_287 : decode cX10_init 287 = .ok (.bipush 32, 2) := by decide +kernel
theorem dX10_init_289 : decode cX10_init 289 = .ok (.invokevirtual 72, 3) := by decide +kernel
theorem dX10_init_292 : decode cX10_init 292 = .ok (.aload_n 0, 1) := by decide +kernel
theorem dX10_init_293 : decode cX10_init 293 = .ok (.getfield 17, 3) := by decide +kernel
theorem dX10_init_296 : decode cX10_init 296 = .ok (.iconst 0, 1) := by decide +kernel
theorem dX10_init_297 : decode cX10_init 297 = .ok (.bipush 48, 2) := by decide +kernel
theorem dX10_init_299 : decode cX10_init 299 = .ok (.iastore, 1) := by decide +kernel
theorem dX10_init_300 : decode cX10_init 300 = .ok (.aload_n 0, 1) := by decide +kernel
theorem dX10_init_301 : decode cX10_init 301 = .ok (.iconst 1, 1) := by decide +kernel
theorem dX10_init_302 : decode cX10_init 302 = .ok (.putfield 76, 3) := by decide +kernel
theorem dX10_init_305 : decode cX10_init 305 = .ok (.return_, 1) := by decide +kernel
theorem dX10_spell_0 : decode cX10_spell 0 = .ok (.aload_n 0, 1) := by decide +kernel
theorem dX10_spell_1 : decode cX10_spell 1 = .ok (.getfield 13, 3) := by decide +kernel
theorem dX10_spell_4 : decode cX10_spell 4 = .ok (.iload_n 1, 1) := by decide +kernel
theorem dX10_spell_5 : decode cX10_spell 5 = .ok (.iload_n 2, 1) := by decide +kernel
theorem dX10_spell_6 : decode cX10_spell 6 = .ok (.iastore, 1) := by decide +kernel
theorem dX10_spell_7 : decode cX10_spell 7 = .ok (.aload_n 0, 1) := by decide +kernel
theorem dX10_spell_8 : decode cX10_spell 8 = .ok (.getfield 13, 3) := by decide +kernel
theorem dX10_spell_11 : decode cX10_spell 11 = .ok (.iload_n 1, 1) := by decide +kernel
theorem dX10_spell_12 : decode cX10_spell 12 = .ok (.iconst 1, 1) := by decide +kernel
theorem dX10_spell_13 : decode cX10_spell 13 = .ok (.iadd, 1) := by decide +kernel
theorem dX10_spell_14 : decode cX10_spell 14 = .ok (.iload_n 3, 1) := by decide +kernel
theorem dX10_spell_15 : decode cX10_spell 15 = .ok (.iastore, 1) := by decide +kernel
theorem dX10_spell_16 : decode cX10_spell 16 = .ok (.aload_n 0, 1) := by decide +kernel
theorem dX10_spell_17 : decode cX10_spell 17 = .ok (.getfield 13, 3) := by decide +kernel
theorem dX10_spell_20 : decode cX10_spell 20 = .ok (.iload_n 1, 1) := by decide +kernel
theorem dX10_spell_21 : decode cX10_spell 21 = .ok (.iconst 2, 1) := by decide +kernel
theorem dX10_spell_22 : decode cX10_spell 22 = .ok (.iadd, 1) := by decide +kernel
theorem dX10_spell_23 : decode cX10_spell 23 = .ok (.iload 4, 2) := by decide +kernel
theorem dX10_spell_25 : decode cX10_spell 25 = .ok (.iastore, 1) := by decide +kernel
theorem dX10_spell_26 : decode cX10_spell 26 = .ok (.aload_n 0, 1) := by decide +kernel
theorem dX10_spell_27 : decode cX10_spell 27 = .ok (.getfield 13, 3) := by decide +kernel
theorem dX10_spell_30 : decode cX10_spell 30 = .ok (.iload_n 1, 1) := by decide +kernel
theorem dX10_spell_31 : decode cX10_spell 31 = .ok (.iconst 3, 1) := by decide +kernel
theorem dX10_spell_32 : decode cX10_spell 32 = .ok (.iadd, 1) := by decide +kernel
theorem dX10_spell_33 : decode cX10_spell 33 = .ok (.iload 5, 2) := by decide +kernel
theorem dX10_spell_35 : decode cX10_spell 35 = .ok (.iastore, 1) := by decide +kernel
theorem dX10_spell_36 : decode cX10_spell 36 = .ok (.aload_n 0, 1) := by decide +kernel
theorem dX10_spell_37 : decode cX10_spell 37 = .ok (.getfield 13, 3) := by decide +kernel
theorem dX10_spell_40 : decode cX10_spell 40 = .ok (.iload_n 1, 1) := by decide +kernel
theorem dX10_spell_41 : decode cX10_spell 41 = .ok (.iconst 4, 1) := by decide +kernel
theorem dX10_spell_42 : decode cX10_spell 42 = .ok (.iadd, 1) := by decide +kernel
theorem dX10_spell_43 : decode cX10_spell 43 = .ok (.iload 6, 2) := by decide +kernel
theorem dX10_spell_45 : decode cX10_spell 45 = .ok (.iastore, 1) := by decide +kernel
theorem dX10_spell_46 : decode cX10_spell 46 = .ok (.aload_n 0, 1) := by decide +kernel
theorem dX10_spell_47 : decode cX10_spell 47 = .ok (.getfield 13, 3) := by decide +kernel
theorem dX10_spell_50 : decode cX10_spell 50 = .ok (.iload_n 1, 1) := by decide +kernel
theorem dX10_spell_51 : decode cX10_spell 51 = .ok (.iconst 5, 1) := by decide +kernel
theorem dX10_spell_52 : decode cX10_spell 52 = .ok (.iadd, 1) := by decide +kernel
theorem dX10_spell_53 : decode cX10_spell 53 = .ok (.iload 7, 2) := by decide +kernel
theorem dX10_spell_55 : decode cX10_spell 55 = .ok (.iastore, 1) := by decide +kernel
theorem dX10_spell_56 : decode cX10_spell 56 = .ok (.aload_n 0, 1) := by decide +kernel
theorem dX10_spell_57 : decode cX10_spell 57 = .ok (.getfield 13, 3) := by decide +kernel
theorem dX10_spell_60 : decode cX10_spell 60 = .ok (.iload_n 1, 1) := by decide +kernel
theorem dX10_spell_61 : decode cX10_spell 61 = .ok (.bipush 6, 2) := by decide +kernel
theorem dX10_spell_63 : decode cX10_spell 63 = .ok (.iadd, 1) := by decide +kernel
theorem dX10_spell_64 : decode cX10_spell 64 = .ok (.iload 8, 2) := by decide +kernel
theorem dX10_spell_66 : decode cX10_spell 66 = .ok (.iastore, 1) := by decide +kernel
theorem dX10_spell_67 : decode cX10_spell 67 = .ok (.aload_n 0, 1) := by decide +kernel
theorem dX10_spell_68 : decode cX10_spell 68 = .ok (.getfield 13, 3) := by decide +kernel
theorem dX10_spell_71 : decode cX10_spell 71 = .ok (.iload_n 1, 1) := by decide +kernel
theorem dX10_spell_72 : decode cX10_spell 72 = .ok (.bipush 7, 2) := by decide +kernel
theorem dX10_spell_74 : decode cX10_spell 74 = .ok (.iadd, 1) := by decide +kernel
theorem dX10_spell_75 : decode cX10_spell 75 = .ok (.iload 9, 2) := by decide +kernel
theorem dX10_spell_77 : decode cX10_spell 77 = .ok (.iastore, 1) := by decide +kernel
theorem dX10_spell_78 : decode cX10_spell 78 = .ok (.return_, 1) := by decide +kernel
theorem dX10_isOne_0 : decode cX10_isOne 0 = .ok (.iload_n 1, 1) := by decide +kernel
theorem dX10_isOne_1 : decode cX10_isOne 1 = .ok (.i2l, 1) := by decide +kernel
theorem dX10_isOne_2 : decode cX10_isOne 2 = .ok (.lconst 0, 1) := by decide +kernel
theorem dX10_isOne_3 : decode cX10_isOne 3 = .ok (.aload_n 0, 1) := by decide +kernel
theorem dX10_isOne_4 : decode cX10_isOne 4 = .ok (.getfield 79, 3) := by decide +kernel
theorem dX10_isOne_7 : decode cX10_isOne 7 = .ok (.iconst 1, 1) := by decide +kernel
theorem dX10_isOne_8 : decode cX10_isOne 8 = .ok (.isub, 1) := by decide +kernel
theorem dX10_isOne_9 : decode cX10_isOne 9 = .ok (.i2l, 1) := by decide +kernel
theorem dX10_isOne_10 : decode cX10_isOne 10 = .ok (.invokestatic 82, 3) := by decide +kernel
theorem dX10_isOne_13 : decode cX10_isOne 13 = .ok (.ireturn, 1) := by decide +kernel
theorem dX10_mostOf_0 : decode cX10_mostOf 0 = .ok (.iload_n 0, 1) := by decide +kernel
theorem dX10_mostOf_1 : decode cX10_mostOf 1 = .ok (.iconst 2, 1) := by decide +kernel
theorem dX10_mostOf_2 : decode cX10_mostOf 2 = .ok (.if_icmp .ge 8, 3) := by decide +kernel
theorem dX10_mostOf_5 : decode cX10_mostOf 5 = .ok (.bipush 99, 2) := by decide +kernel
theorem dX10_mostOf_7 : decode cX10_mostOf 7 = .ok (.goto 35, 3) := by decide +kernel
theorem dX10_mostOf_10 : decode cX10_mostOf 10 = .ok (.iload_n 0, 1) := by decide +kernel
theorem dX10_mostOf_11 : decode cX10_mostOf 11 = .ok (.iconst 2, 1) := by decide +kernel
theorem dX10_mostOf_12 : decode cX10_mostOf 12 = .ok (.if_icmp .ne 9, 3) := by decide +kernel
theorem dX10_mostOf_15 : decode cX10_mostOf 15 = .ok (.sipush 999, 3) := by decide +kernel
theorem dX10_mostOf_18 : decode cX10_mostOf 18 = .ok (.goto 24, 3) := by decide +kernel
theorem dX10_mostOf_21 : decode cX10_mostOf 21 = .ok (.iload_n 0, 1) := by decide +kernel
theorem dX10_mostOf_22 : decode cX10_mostOf 22 = .ok (.iconst 3, 1) := by decide +kernel
theorem dX10_mostOf_23 : decode cX10_mostOf 23 = .ok (.if_icmp .ne 8, 3) := by decide +kernel
theorem dX10_mostOf_26 : decode cX10_mostOf 26 = .ok (.bipush 9, 2) := by decide +kernel
theorem dX10_mostOf_28 : decode cX10_mostOf 28 = .ok (.goto 14, 3) := by decide +kernel
theorem dX10_mostOf_31 : decode cX10_mostOf 31 = .ok (.iload_n 0, 1) := by decide +kernel
theorem dX10_mostOf_32 : decode cX10_mostOf 32 = .ok (.iconst 4, 1) := by decide +kernel
theorem dX10_mostOf_33 : decode cX10_mostOf 33 = .ok (.if_icmp .ne 8, 3) := by decide +kernel
theorem dX10_mostOf_36 : decode cX10_mostOf 36 = .ok (.bipush 7, 2) := by decide +kernel
theorem dX10_mostOf_38 : decode cX10_mostOf 38 = .ok (.goto 4, 3) := by decide +kernel
theorem dX10_mostOf_41 : decode cX10_mostOf 41 = .ok (.iconst 1, 1) := by decide +kernel
theorem dX10_mostOf_42 : decode cX10_mostOf 42 = .ok (.ireturn, 1) := by decide +kernel
theorem dX10_set_0 : decode cX10_set 0 = .ok (.iload_n 1, 1) := by decide +kernel
theorem dX10_set_1 : decode cX10_set 1 = .ok (.i2l, 1) := by decide +kernel
theorem dX10_set_2 : decode cX10_set 2 = .ok (.lconst 0, 1) := by decide +kernel
theorem dX10_set_3 : decode cX10_set 3 = .ok (.ldc2_w 86, 3) := by decide +kernel
theorem dX10_set_6 : decode cX10_set 6 = .ok (.invokestatic 82, 3) := by decide +kernel
theorem dX10_set_9 : decode cX10_set 9 = .ok (.ifCond .eq 39, 3) := by decide +kernel
theorem dX10_set_12 : decode cX10_set 12 = .ok (.iload_n 1, 1) := by decide +kernel
theorem dX10_set_13 : decode cX10_set 13 = .ok (.iconst 2, 1) := by decide +kernel
theorem dX10_set_14 : decode cX10_set 14 = .ok (.if_icmp .le 11, 3) := by decide +kernel
theorem dX10_set_17 : decode cX10_set 17 = .ok (.aload_n 0, 1) := by decide +kernel
theorem dX10_set_18 : decode cX10_set 18 = .ok (.iload_n 2, 1) := by decide +kernel
theorem dX10_set_19 : decode cX10_set 19 = .ok (.invokevirtual 88, 3) := by decide +kernel
theorem dX10_set_22 : decode cX10_set 22 = .ok (.ifCond .eq 26, 3) := by decide +kernel
theorem dX10_set_25 : decode cX10_set 25 = .ok (.iload_n 3, 1) := by decide +kernel
theorem dX10_set_26 : decode cX10_set 26 = .ok (.i2l, 1) := by decide +kernel
theorem dX10_set_27 : decode cX10_set 27 = .ok (.iload_n 1, 1) := by decide +kernel
theorem dX10_set_28 : decode cX10_set 28 = .ok (.iconst 1, 1) := by decide +kernel
theorem dX10_set_29 : decode cX10_set 29 = .ok (.if_icmp .ne 7, 3) := by decide +kernel
theorem dX10_set_32 : decode cX10_set 32 = .ok (.lconst 1, 1) := by decide +kernel
theorem dX10_set_33 : decode cX10_set 33 = .ok (.goto 4, 3) := by decide +kernel
theorem dX10_set_36 : decode cX10_set 36 = .ok (.lconst 0, 1) := by decide +kernel
theorem dX10_set_37 : decode cX10_set 37 = .ok (.iload_n 1, 1) := by decide +kernel
theorem dX10_set_38 : decode cX10_set 38 = .ok (.invokestatic 92, 3) := by decide +kernel
theorem dX10_set_41 : decode cX10_set 41 = .ok (.i2l, 1) := by decide +kernel
theorem dX10_set_42 : decode cX10_set 42 = .ok (.invokestatic 82, 3) := by decide +kernel
theorem dX10_set_45 : decode cX10_set 45 = .ok (.ifCond .ne 6, 3) := by decide +kernel
theorem dX10_set_48 : decode cX10_set 48 = .ok (.bipush (-2), 2) := by decide +kernel
theorem dX10_set_50 : decode cX10_set 50 = .ok (.ireturn, 1) := by decide +kernel
theorem dX10_set_51 : decode cX10_set 51 = .ok (.aload_n 0, 1) := by decide +kernel
theorem dX10_set_52 : decode cX10_set 52 = .ok (.iload_n 2, 1) := by decide +kernel
theorem dX10_set_53 : decode cX10_set 53 = .ok (.iload_n 1, 1) := by decide +kernel
theorem dX10_set_54 : decode cX10_set 54 = .ok (.invokevirtual 96, 3) := by decide +kernel
theorem dX10_set_57 : decode cX10_set 57 = .ok (.istore 4, 2) := by decide +kernel
theorem dX10_set_59 : decode cX10_set 59 = .ok (.aload_n 0, 1) := by decide +kernel
theorem dX10_set_60 : decode cX10_set 60 = .ok (.iload_n 1, 1) := by decide +kernel
theorem dX10_set_61 : decode cX10_set 61 = .ok (.iload_n 2, 1) := by decide +kernel
theorem dX10_set_62 : decode cX10_set 62 = .ok (.iload_n 3, 1) := by decide +kernel
theorem dX10_set_63 : decode cX10_set 63 = .ok (.invokevirtual 100, 3) := by decide +kernel
theorem dX10_set_66 : decode cX10_set 66 = .ok (.iload 4, 2) := by decide +kernel
theorem dX10_set_68 : decode cX10_set 68 = .ok (.ireturn, 1) := by decide +kernel
theorem dX10_lays_0 : decode cX10_lays 0 = .ok (.iload_n 1, 1) := by decide +kernel
theorem dX10_lays_1 : decode cX10_lays 1 = .ok (.iconst 3, 1) := by decide +kernel
theorem dX10_lays_2 : decode cX10_lays 2 = .ok (.if_icmp .ge 13, 3) := by decide +kernel
theorem dX10_lays_5 : decode cX10_lays 5 = .ok (.aload_n 0, 1) := by decide +kernel
theorem dX10_lays_6 : decode cX10_lays 6 = .ok (.getfield 23, 3) := by decide +kernel
theorem dX10_lays_9 : decode cX10_lays 9 = .ok (.iload_n 1, 1) := by decide +kernel
theorem dX10_lays_10 : decode cX10_lays 10 = .ok (.iload_n 3, 1) := by decide +kernel
theorem dX10_lays_11 : decode cX10_lays 11 = .ok (.iastore, 1) := by decide +kernel
theorem dX10_lays_12 : decode cX10_lays 12 = .ok (.goto 46, 3) := by decide +kernel
theorem dX10_lays_15 : decode cX10_lays 15 = .ok (.iload_n 1, 1) := by decide +kernel
theorem dX10_lays_16 : decode cX10_lays 16 = .ok (.bipush 6, 2) := by decide +kernel
theorem dX10_lays_18 : decode cX10_lays 18 = .ok (.if_icmp .ge 19, 3) := by decide +kernel
theorem dX10_lays_21 : decode cX10_lays 21 = .ok (.aload_n 0, 1) := by decide +kernel
theorem dX10_lays_22 : decode cX10_lays 22 = .ok (.getfield 29, 3) := by decide +kernel
theorem dX10_lays_25 : decode cX10_lays 25 = .ok (.iconst 3, 1) := by decide +kernel
theorem dX10_lays_26 : decode cX10_lays 26 = .ok (.iload_n 2, 1) := by decide +kernel
theorem dX10_lays_27 : decode cX10_lays 27 = .ok (.imul, 1) := by decide +kernel
theorem dX10_lays_28 : decode cX10_lays 28 = .ok (.iload_n 1, 1) := by decide +kernel
theorem dX10_lays_29 : decode cX10_lays 29 = .ok (.iadd, 1) := by decide +kernel
theorem dX10_lays_30 : decode cX10_lays 30 = .ok (.iconst 3, 1) := by decide +kernel
theorem dX10_lays_31 : decode cX10_lays 31 = .ok (.isub, 1) := by decide +kernel
theorem dX10_lays_32 : decode cX10_lays 32 = .ok (.iload_n 3, 1) := by decide +kernel
theorem dX10_lays_33 : decode cX10_lays 33 = .ok (.iastore, 1) := by decide +kernel
theorem dX10_lays_34 : decode cX10_lays 34 = .ok (.goto 24, 3) := by decide +kernel
theorem dX10_lays_37 : decode cX10_lays 37 = .ok (.iload_n 1, 1) := by decide +kernel
theorem dX10_lays_38 : decode cX10_lays 38 = .ok (.bipush 6, 2) := by decide +kernel
theorem dX10_lays_40 : decode cX10_lays 40 = .ok (.if_icmp .ne 13, 3) := by decide +kernel
theorem dX10_lays_43 : decode cX10_lays 43 = .ok (.aload_n 0, 1) := by decide +kernel
theorem dX10_lays_44 : decode cX10_lays 44 = .ok (.getfield 26, 3) := by decide +kernel
theorem dX10_lays_47 : decode cX10_lays 47 = .ok (.iload_n 2, 1) := by decide +kernel
theorem dX10_lays_48 : decode cX10_lays 48 = .ok (.iload_n 3, 1) := by decide +kernel
theorem dX10_lays_49 : decode cX10_lays 49 = .ok (.iastore, 1) := by decide +kernel
theorem dX10_lays_50 : decode cX10_lays 50 = .ok (.goto 8, 3) := by decide +kernel
theorem dX10_lays_53 : decode cX10_lays 53 = .ok (.aload_n 0, 1) := by decide +kernel
theorem dX10_lays_54 : decode cX10_lays 54 = .ok (.iload_n 3, 1) := by decide +kernel
theorem dX10_lays_55 : decode cX10_lays 55 = .ok (.putfield 104, 3) := by decide +kernel
theorem dX10_lays_58 : decode cX10_lays 58 = .ok (.return_, 1) := by decide +kernel
theorem dX10_guest_0 : decode cX10_guest 0 = .ok (.iload_n 1, 1) := by decide +kernel
theorem dX10_guest_1 : decode cX10_guest 1 = .ok (.i2l, 1) := by decide +kernel
theorem dX10_guest_2 : decode cX10_guest 2 = .ok (.lconst 0, 1) := by decide +kernel
theorem dX10_guest_3 : decode cX10_guest 3 = .ok (.ldc2_w 86, 3) := by decide +kernel
theorem dX10_guest_6 : decode cX10_guest 6 = .ok (.invokestatic 82, 3) := by decide +kernel
theorem dX10_guest_9 : decode cX10_guest 9 = .ok (.ifCond .eq 27, 3) := by decide +kernel
theorem dX10_guest_12 : decode cX10_guest 12 = .ok (.iload_n 2, 1) := by decide +kernel
theorem dX10_guest_13 : decode cX10_guest 13 = .ok (.i2l, 1) := by decide +kernel
theorem dX10_guest_14 : decode cX10_guest 14 = .ok (.lconst 0, 1) := by decide +kernel
theorem dX10_guest_15 : decode cX10_guest 15 = .ok (.ldc2_w 107, 3) := by decide +kernel
theorem dX10_guest_18 : decode cX10_guest 18 = .ok (.invokestatic 82, 3) := by decide +kernel
theorem dX10_guest_21 : decode cX10_guest 21 = .ok (.ifCond .eq 15, 3) := by decide +kernel
theorem dX10_guest_24 : decode cX10_guest 24 = .ok (.iload_n 3, 1) := by decide +kernel
theorem dX10_guest_25 : decode cX10_guest 25 = .ok (.i2l, 1) := by decide +kernel
theorem dX10_guest_26 : decode cX10_guest 26 = .ok (.lconst 0, 1) := by decide +kernel
theorem dX10_guest_27 : decode cX10_guest 27 = .ok (.ldc2_w 109, 3) := by decide +kernel
theorem dX10_guest_30 : decode cX10_guest 30 = .ok (.invokestatic 82, 3) := by decide +kernel
theorem dX10_guest_33 : decode cX10_guest 33 = .ok (.ifCond .ne 6, 3) := by decide +kernel
theorem dX10_guest_36 : decode cX10_guest 36 = .ok (.bipush (-2), 2) := by decide +kernel
theorem dX10_guest_38 : decode cX10_guest 38 = .ok (.ireturn, 1) := by decide +kernel
theorem dX10_guest_39 : decode cX10_guest 39 = .ok (.aload_n 0, 1) := by decide +kernel
theorem dX10_guest_40 : decode cX10_guest 40 = .ok (.getfield 79, 3) := by decide +kernel
theorem dX10_guest_43 : decode cX10_guest 43 = .ok (.iconst 5, 1) := by decide +kernel
theorem dX10_guest_44 : decode cX10_guest 44 = .ok (.if_icmp .ne 6, 3) := by decide +kernel
theorem dX10_guest_47 : decode cX10_guest 47 = .ok (.bipush (-4), 2) := by decide +kernel
theorem dX10_guest_49 : decode cX10_guest 49 = .ok (.ireturn, 1) := by decide +kernel
theorem dX10_guest_50 : decode cX10_guest 50 = .ok (.aload_n 0, 1) := by decide +kernel
theorem dX10_guest_51 : decode cX10_guest 51 = .ok (.getfield 26, 3) := by decide +kernel
theorem dX10_guest_54 : decode cX10_guest 54 = .ok (.aload_n 0, 1) := by decide +kernel
theorem dX10_guest_55 : decode cX10_guest 55 = .ok (.getfield 79, 3) := by decide +kernel
theorem dX10_guest_58 : decode cX10_guest 58 = .ok (.iload_n 1, 1) := by decide +kernel
theorem dX10_guest_59 : decode cX10_guest 59 = .ok (.iastore, 1) := by decide +kernel
theorem dX10_guest_60 : decode cX10_guest 60 = .ok (.aload_n 0, 1) := by decide +kernel
theorem dX10_guest_61 : decode cX10_guest 61 = .ok (.getfield 29, 3) := by decide +kernel
theorem dX10_guest_64 : decode cX10_guest 64 = .ok (.iconst 3, 1) := by decide +kernel
theorem dX10_guest_65 : decode cX10_guest 65 = .ok (.aload_n 0, 1) := by decide +kernel
theorem dX10_guest_66 : decode cX10_guest 66 = .ok (.getfield 79, 3) := by decide +kernel
theorem dX10_guest_69 : decode cX10_guest 69 = .ok (.imul, 1) := by decide +kernel
theorem dX10_guest_70 : decode cX10_guest 70 = .ok (.iload_n 2, 1) := by decide +kernel
theorem dX10_guest_71 : decode cX10_guest 71 = .ok (.iastore, 1) := by decide +kernel
theorem dX10_guest_72 : decode cX10_guest 72 = .ok (.aload_n 0, 1) := by decide +kernel
theorem dX10_guest_73 : decode cX10_guest 73 = .ok (.getfield 29, 3) := by decide +kernel
theorem dX10_guest_76 : decode cX10_guest 76 = .ok (.iconst 3, 1) := by decide +kernel
theorem dX10_guest_77 : decode cX10_guest 77 = .ok (.aload_n 0, 1) := by decide +kernel
theorem dX10_guest_78 : decode cX10_guest 78 = .ok (.getfield 79, 3) := by decide +kernel
theorem dX10_guest_81 : decode cX10_guest 81 = .ok (.imul, 1) := by decide +kernel
theorem dX10_guest_82 : decode cX10_guest 82 = .ok (.iconst 1, 1) := by decide +kernel
theorem dX10_guest_83 : decode cX10_guest 83 = .ok (.iadd, 1) := by decide +kernel
theorem dX10_guest_84 : decode cX10_guest 84 = .ok (.iload_n 3, 1) := by decide +kernel
theorem dX10_guest_85 : decode cX10_guest 85 = .ok (.iastore, 1) := by decide +kernel
theorem dX10_guest_86 : decode cX10_guest 86 = .ok (.aload_n 0, 1) := by decide +kernel
theorem dX10_guest_87 : decode cX10_guest 87 = .ok (.getfield 29, 3) := by decide +kernel
theorem dX10_guest_90 : decode cX10_guest 90 = .ok (.iconst 3, 1) := by decide +kernel
theorem dX10_guest_91 : decode cX10_guest 91 = .ok (.aload_n 0, 1) := by decide +kernel
theorem dX10_guest_92 : decode cX10_guest 92 = .ok (.getfield 79, 3) := by decide +kernel
theorem dX10_guest_95 : decode cX10_guest 95 = .ok (.imul, 1) := by decide +kernel
theorem dX10_guest_96 : decode cX10_guest 96 = .ok (.iconst 2, 1) := by decide +kernel
theorem dX10_guest_97 : decode cX10_guest 97 = .ok (.iadd, 1) := by decide +kernel
theorem dX10_guest_98 : decode cX10_guest 98 = .ok (.iconst 1, 1) := by decide +kernel
theorem dX10_guest_99 : decode cX10_guest 99 = .ok (.iastore, 1) := by decide +kernel
theorem dX10_guest_100 : decode cX10_guest 100 = .ok (.aload_n 0, 1) := by decide +kernel
theorem dX10_guest_101 : decode cX10_guest 101 = .ok (.dup, 1) := by decide +kernel
theorem dX10_guest_102 : decode cX10_guest 102 = .ok (.getfield 79, 3) := by decide +kernel
theorem dX10_guest_105 : decode cX10_guest 105 = .ok (.iconst 1, 1) := by decide +kernel
theorem dX10_guest_106 : decode cX10_guest 106 = .ok (.iadd, 1) := by decide +kernel
theorem dX10_guest_107 : decode cX10_guest 107 = .ok (.putfield 79, 3) := by decide +kernel
theorem dX10_guest_110 : decode cX10_guest 110 = .ok (.aload_n 0, 1) := by decide +kernel
theorem dX10_guest_111 : decode cX10_guest 111 = .ok (.getfield 79, 3) := by decide +kernel
theorem dX10_guest_114 : decode cX10_guest 114 = .ok (.iconst 1, 1) := by decide +kernel
theorem dX10_guest_115 : decode cX10_guest 115 = .ok (.isub, 1) := by decide +kernel
theorem dX10_guest_116 : decode cX10_guest 116 = .ok (.ireturn, 1) := by decide +kernel
theorem dX10_told_0 : decode cX10_told 0 = .ok (.iload_n 2, 1) := by decide +kernel
theorem dX10_told_1 : decode cX10_told 1 = .ok (.i2l, 1) := by decide +kernel
theorem dX10_told_2 : decode cX10_told 2 = .ok (.lconst 0, 1) := by decide +kernel
theorem dX10_told_3 : decode cX10_told 3 = .ok (.ldc2_w 111, 3) := by decide +kernel
theorem dX10_told_6 : decode cX10_told 6 = .ok (.invokestatic 82, 3) := by decide +kernel
theorem dX10_told_9 : decode cX10_told 9 = .ok (.ifCond .eq 16, 3) := by decide +kernel
theorem dX10_told_12 : decode cX10_told 12 = .ok (.iload_n 2, 1) := by decide +kernel
theorem dX10_told_13 : decode cX10_told 13 = .ok (.iconst 2, 1) := by decide +kernel
theorem dX10_told_14 : decode cX10_told 14 = .ok (.if_icmp .le 15, 3) := by decide +kernel
theorem dX10_told_17 : decode cX10_told 17 = .ok (.aload_n 0, 1) := by decide +kernel
theorem dX10_told_18 : decode cX10_told 18 = .ok (.iload_n 1, 1) := by decide +kernel
theorem dX10_told_19 : decode cX10_told 19 = .ok (.invokevirtual 88, 3) := by decide +kernel
theorem dX10_told_22 : decode cX10_told 22 = .ok (.ifCond .ne 7, 3) := by decide +kernel
theorem dX10_told_25 : decode cX10_told 25 = .ok (.sipush (-1000), 3) := by decide +kernel
theorem dX10_told_28 : decode cX10_told 28 = .ok (.ireturn, 1) := by decide +kernel
theorem dX10_told_29 : decode cX10_told 29 = .ok (.iload_n 2, 1) := by decide +kernel
theorem dX10_told_30 : decode cX10_told 30 = .ok (.bipush 7, 2) := by decide +kernel
theorem dX10_told_32 : decode cX10_told 32 = .ok (.if_icmp .ge 45, 3) := by decide +kernel
theorem dX10_told_35 : decode cX10_told 35 = .ok (.iload_n 2, 1) := by decide +kernel
theorem dX10_told_36 : decode cX10_told 36 = .ok (.iconst 3, 1) := by decide +kernel
theorem dX10_told_37 : decode cX10_told 37 = .ok (.if_icmp .ge 12, 3) := by decide +kernel
theorem dX10_told_40 : decode cX10_told 40 = .ok (.aload_n 0, 1) := by decide +kernel
theorem dX10_told_41 : decode cX10_told 41 = .ok (.getfield 23, 3) := by decide +kernel
theorem dX10_told_44 : decode cX10_told 44 = .ok (.iload_n 2, 1) := by decide +kernel
theorem dX10_told_45 : decode cX10_told 45 = .ok (.iaload, 1) := by decide +kernel
theorem dX10_told_46 : decode cX10_told 46 = .ok (.goto 30, 3) := by decide +kernel
theorem dX10_told_49 : decode cX10_told 49 = .ok (.iload_n 2, 1) := by decide +kernel
theorem dX10_told_50 : decode cX10_told 50 = .ok (.bipush 6, 2) := by decide +kernel
theorem dX10_told_52 : decode cX10_told 52 = .ok (.if_icmp .ge 18, 3) := by decide +kernel
theorem dX10_told_55 : decode cX10_told 55 = .ok (.aload_n 0, 1) := by decide +kernel
theorem dX10_told_56 : decode cX10_told 56 = .ok (.getfield 29, 3) := by decide +kernel
theorem dX10_told_59 : decode cX10_told 59 = .ok (.iconst 3, 1) := by decide +kernel
theorem dX10_told_60 : decode cX10_told 60 = .ok (.iload_n 1, 1) := by decide +kernel
theorem dX10_told_61 : decode cX10_told 61 = .ok (.imul, 1) := by decide +kernel
theorem dX10_told_62 : decode cX10_told 62 = .ok (.iload_n 2, 1) := by decide +kernel
theorem dX10_told_63 : decode cX10_told 63 = .ok (.iadd, 1) := by decide +kernel
theorem dX10_told_64 : decode cX10_told 64 = .ok (.iconst 3, 1) := by decide +kernel
theorem dX10_told_65 : decode cX10_told 65 = .ok (.isub, 1) := by decide +kernel
theorem dX10_told_66 : decode cX10_told 66 = .ok (.iaload, 1) := by decide +kernel
theorem dX10_told_67 : decode cX10_told 67 = .ok (.goto 9, 3) := by decide +kernel
theorem dX10_told_70 : decode cX10_told 70 = .ok (.aload_n 0, 1) := by decide +kernel
theorem dX10_told_71 : decode cX10_told 71 = .ok (.getfield 26, 3) := by decide +kernel
theorem dX10_told_74 : decode cX10_told 74 = .ok (.iload_n 1, 1) := by decide +kernel
theorem dX10_told_75 : decode cX10_told 75 = .ok (.iaload, 1) := by decide +kernel
theorem dX10_told_76 : decode cX10_told 76 = .ok (.ireturn, 1) := by decide +kernel
theorem dX10_told_77 : decode cX10_told 77 = .ok (.aload_n 0, 1) := by decide +kernel
theorem dX10_told_78 : decode cX10_told 78 = .ok (.invokevirtual 113, 3) := by decide +kernel
theorem dX10_told_81 : decode cX10_told 81 = .ok (.aload_n 0, 1) := by decide +kernel
theorem dX10_told_82 : decode cX10_told 82 = .ok (.iload_n 1, 1) := by decide +kernel
theorem dX10_told_83 : decode cX10_told 83 = .ok (.iconst 0, 1) := by decide +kernel
theorem dX10_told_84 : decode cX10_told 84 = .ok (.invokevirtual 116, 3) := by decide +kernel
theorem dX10_told_87 : decode cX10_told 87 = .ok (.iload_n 2, 1) := by decide +kernel
theorem dX10_told_88 : decode cX10_told 88 = .ok (.bipush 7, 2) := by decide +kernel
theorem dX10_told_90 : decode cX10_told 90 = .ok (.if_icmp .ne 12, 3) := by decide +kernel
theorem dX10_told_93 : decode cX10_told 93 = .ok (.aload_n 0, 1) := by decide +kernel
theorem dX10_told_94 : decode cX10_told 94 = .ok (.iload_n 1, 1) := by decide +kernel
theorem dX10_told_95 : decode cX10_told 95 = .ok (.iconst 0, 1) := by decide +kernel
theorem dX10_told_96 : decode cX10_told 96 = .ok (.invokevirtual 120, 3) := by decide +kernel
theorem dX10_told_99 : decode cX10_told 99 = .ok (.goto 9, 3) := by decide +kernel
theorem dX10_told_102 : decode cX10_told 102 = .ok (.aload_n 0, 1) := by decide +kernel
theorem dX10_told_103 : decode cX10_told 103 = .ok (.iload_n 1, 1) := by decide +kernel
theorem dX10_told_104 : decode cX10_told 104 = .ok (.iconst 0, 1) := by decide +kernel
theorem dX10_told_105 : decode cX10_told 105 = .ok (.invokevirtual 124, 3) := by decide +kernel
theorem dX10_told_108 : decode cX10_told 108 = .ok (.ireturn, 1) := by decide +kernel
theorem dX10_feed_0 : decode cX10_feed 0 = .ok (.iload_n 1, 1) := by decide +kernel
theorem dX10_feed_1 : decode cX10_feed 1 = .ok (.i2l, 1) := by decide +kernel
theorem dX10_feed_2 : decode cX10_feed 2 = .ok (.lconst 0, 1) := by decide +kernel
theorem dX10_feed_3 : decode cX10_feed 3 = .ok (.ldc2_w 127, 3) := by decide +kernel
theorem dX10_feed_6 : decode cX10_feed 6 = .ok (.invokestatic 82, 3) := by decide +kernel
theorem dX10_feed_9 : decode cX10_feed 9 = .ok (.ifCond .ne 6, 3) := by decide +kernel
theorem dX10_feed_12 : decode cX10_feed 12 = .ok (.bipush (-2), 2) := by decide +kernel
theorem dX10_feed_14 : decode cX10_feed 14 = .ok (.ireturn, 1) := by decide +kernel
theorem dX10_feed_15 : decode cX10_feed 15 = .ok (.aload_n 0, 1) := by decide +kernel
theorem dX10_feed_16 : decode cX10_feed 16 = .ok (.getfield 129, 3) := by decide +kernel
theorem dX10_feed_19 : decode cX10_feed 19 = .ok (.sipush 160, 3) := by decide +kernel
theorem dX10_feed_22 : decode cX10_feed 22 = .ok (.if_icmp .ne 6, 3) := by decide +kernel
theorem dX10_feed_25 : decode cX10_feed 25 = .ok (.bipush (-4), 2) := by decide +kernel
theorem dX10_feed_27 : decode cX10_feed 27 = .ok (.ireturn, 1) := by decide +kernel
theorem dX10_feed_28 : decode cX10_feed 28 = .ok (.aload_n 0, 1) := by decide +kernel
theorem dX10_feed_29 : decode cX10_feed 29 = .ok (.getfield 20, 3) := by decide +kernel
theorem dX10_feed_32 : decode cX10_feed 32 = .ok (.aload_n 0, 1) := by decide +kernel
theorem dX10_feed_33 : decode cX10_feed 33 = .ok (.getfield 129, 3) := by decide +kernel
theorem dX10_feed_36 : decode cX10_feed 36 = .ok (.iload_n 1, 1) := by decide +kernel
theorem dX10_feed_37 : decode cX10_feed 37 = .ok (.iastore, 1) := by decide +kernel
theorem dX10_feed_38 : decode cX10_feed 38 = .ok (.aload_n 0, 1) := by decide +kernel
theorem dX10_feed_39 : decode cX10_feed 39 = .ok (.dup, 1) := by decide +kernel
theorem dX10_feed_40 : decode cX10_feed 40 = .ok (.getfield 129, 3) := by decide +kernel
theorem dX10_feed_43 : decode cX10_feed 43 = .ok (.iconst 1, 1) := by decide +kernel
theorem dX10_feed_44 : decode cX10_feed 44 = .ok (.iadd, 1) := by decide +kernel
theorem dX10_feed_45 : decode cX10_feed 45 = .ok (.putfield 129, 3) := by decide +kernel
theorem dX10_feed_48 : decode cX10_feed 48 = .ok (.aload_n 0, 1) := by decide +kernel
theorem dX10_feed_49 : decode cX10_feed 49 = .ok (.getfield 129, 3) := by decide +kernel
theorem dX10_feed_52 : decode cX10_feed 52 = .ok (.ireturn, 1) := by decide +kernel
theorem dX10_byteAt_0 : decode cX10_byteAt 0 = .ok (.iload_n 1, 1) := by decide +kernel
theorem dX10_byteAt_1 : decode cX10_byteAt 1 = .ok (.aload_n 0, 1) := by decide +kernel
theorem dX10_byteAt_2 : decode cX10_byteAt 2 = .ok (.getfield 132, 3) := by decide +kernel
theorem dX10_byteAt_5 : decode cX10_byteAt 5 = .ok (.if_icmp .ge 17, 3) := by decide +kernel
theorem dX10_byteAt_8 : decode cX10_byteAt 8 = .ok (.aload_n 0, 1) := by decide +kernel
theorem dX10_byteAt_9 : decode cX10_byteAt 9 = .ok (.getfield 13, 3) := by decide +kernel
theorem dX10_byteAt_12 : decode cX10_byteAt 12 = .ok (.aload_n 0, 1) := by decide +kernel
theorem dX10_byteAt_13 : decode cX10_byteAt 13 = .ok (.getfield 135, 3) := by decide +kernel
theorem dX10_byteAt_16 : decode cX10_byteAt 16 = .ok (.iload_n 1, 1) := by decide +kernel
theorem dX10_byteAt_17 : decode cX10_byteAt 17 = .ok (.iadd, 1) := by decide +kernel
theorem dX10_byteAt_18 : decode cX10_byteAt 18 = .ok (.iaload, 1) := by decide +kernel
theorem dX10_byteAt_19 : decode cX10_byteAt 19 = .ok (.goto 4, 3) := by decide +kernel
theorem dX10_byteAt_22 : decode cX10_byteAt 22 = .ok (.iconst (-1), 1) := by decide +kernel
theorem dX10_byteAt_23 : decode cX10_byteAt 23 = .ok (.ireturn, 1) := by decide +kernel
theorem dX10_next_0 : decode cX10_next 0 = .ok (.aload_n 0, 1) := by decide +kernel
theorem dX10_next_1 : decode cX10_next 1 = .ok (.aload_n 0, 1) := by decide +kernel
theorem dX10_next_2 : decode cX10_next 2 = .ok (.getfield 138, 3) := by decide +kernel
theorem dX10_next_5 : decode cX10_next 5 = .ok (.invokevirtual 141, 3) := by decide +kernel
theorem dX10_next_8 : decode cX10_next 8 = .ok (.bipush 32, 2) := by decide +kernel
theorem dX10_next_10 : decode cX10_next 10 = .ok (.if_icmp .eq 16, 3) := by decide +kernel
theorem dX10_next_13 : decode cX10_next 13 = .ok (.aload_n 0, 1) := by decide +kernel
theorem dX10_next_14 : decode cX10_next 14 = .ok (.aload_n 0, 1) := by decide +kernel
theorem dX10_next_15 : decode cX10_next 15 = .ok (.getfield 138, 3) := by decide +kernel
theorem dX10_next_18 : decode cX10_next 18 = .ok (.invokevirtual 141, 3) := by decide +kernel
theorem dX10_next_21 : decode cX10_next 21 = .ok (.bipush 10, 2) := by decide +kernel
theorem dX10_next_23 : decode cX10_next 23 = .ok (.if_icmp .ne 16, 3) := by decide +kernel
theorem dX10_next_26 : decode cX10_next 26 = .ok (.aload_n 0, 1) := by decide +kernel
theorem dX10_next_27 : decode cX10_next 27 = .ok (.dup, 1) := by decide +kernel
theorem dX10_next_28 : decode cX10_next 28 = .ok (.getfield 138, 3) := by decide +kernel
theorem dX10_next_31 : decode cX10_next 31 = .ok (.iconst 1, 1) := by decide +kernel
theorem dX10_next_32 : decode cX10_next 32 = .ok (.iadd, 1) := by decide +kernel
theorem dX10_next_33 : decode cX10_next 33 = .ok (.putfield 138, 3) := by decide +kernel
theorem dX10_next_36 : decode cX10_next 36 = .ok (.goto (-36), 3) := by decide +kernel
theorem dX10_next_39 : decode cX10_next 39 = .ok (.aload_n 0, 1) := by decide +kernel
theorem dX10_next_40 : decode cX10_next 40 = .ok (.aload_n 0, 1) := by decide +kernel
theorem dX10_next_41 : decode cX10_next 41 = .ok (.getfield 138, 3) := by decide +kernel
theorem dX10_next_44 : decode cX10_next 44 = .ok (.putfield 144, 3) := by decide +kernel
theorem dX10_next_47 : decode cX10_next 47 = .ok (.aload_n 0, 1) := by decide +kernel
theorem dX10_next_48 : decode cX10_next 48 = .ok (.aload_n 0, 1) := by decide +kernel
theorem dX10_next_49 : decode cX10_next 49 = .ok (.getfield 138, 3) := by decide +kernel
theorem dX10_next_52 : decode cX10_next 52 = .ok (.invokevirtual 141, 3) := by decide +kernel
theorem dX10_next_55 : decode cX10_next 55 = .ok (.istore_n 1, 1) := by decide +kernel
theorem dX10_next_56 : decode cX10_next 56 = .ok (.aload_n 0, 1) := by decide +kernel
theorem dX10_next_57 : decode cX10_next 57 = .ok (.iconst 4, 1) := by decide +kernel
theorem dX10_next_58 : decode cX10_next 58 = .ok (.putfield 147, 3) := by decide +kernel
theorem dX10_next_61 : decode cX10_next 61 = .ok (.iload_n 1, 1) := by decide +kernel
theorem dX10_next_62 : decode cX10_next 62 = .ok (.ifCond .ge 19, 3) := by decide +kernel
theorem dX10_next_65 : decode cX10_next 65 = .ok (.aload_n 0, 1) := by decide +kernel
theorem dX10_next_66 : decode cX10_next 66 = .ok (.iconst 0, 1) := by decide +kernel
theorem dX10_next_67 : decode cX10_next 67 = .ok (.putfield 147, 3) := by decide +kernel
theorem dX10_next_70 : decode cX10_next 70 = .ok (.aload_n 0, 1) := by decide +kernel
theorem dX10_next_71 : decode cX10_next 71 = .ok (.aload_n 0, 1) := by decide +kernel
theorem dX10_next_72 : decode cX10_next 72 = .ok (.getfield 132, 3) := by decide +kernel
theorem dX10_next_75 : decode cX10_next 75 = .ok (.putfield 144, 3) := by decide +kernel
theorem dX10_next_78 : decode cX10_next 78 = .ok (.goto 243, 3) := by decide +kernel
theorem dX10_next_81 : decode cX10_next 81 = .ok (.iload_n 1, 1) := by decide +kernel
theorem dX10_next_82 : decode cX10_next 82 = .ok (.i2l, 1) := by decide +kernel
theorem dX10_next_83 : decode cX10_next 83 = .ok (.ldc2_w 150, 3) := by decide +kernel
theorem dX10_next_86 : decode cX10_next 86 = .ok (.ldc2_w 152, 3) := by decide +kernel
theorem dX10_next_89 : decode cX10_next 89 = .ok (.invokestatic 82, 3) := by decide +kernel
theorem dX10_next_92 : decode cX10_next 92 = .ok (.ifCond .eq 42, 3) := by decide +kernel
theorem dX10_next_95 : decode cX10_next 95 = .ok (.aload_n 0, 1) := by decide +kernel
theorem dX10_next_96 : decode cX10_next 96 = .ok (.iconst 1, 1) := by decide +kernel
theorem dX10_next_97 : decode cX10_next 97 = .ok (.putfield 147, 3) := by decide +kernel
theorem dX10_next_100 : decode cX10_next 100 = .ok (.aload_n 0, 1) := by decide +kernel
theorem dX10_next_101 : decode cX10_next 101 = .ok (.aload_n 0, 1) := by decide +kernel
theorem dX10_next_102 : decode cX10_next 102 = .ok (.getfield 138, 3) := by decide +kernel
theorem dX10_next_105 : decode cX10_next 105 = .ok (.invokevirtual 141, 3) := by decide +kernel
theorem dX10_next_108 : decode cX10_next 108 = .ok (.i2l, 1) := by decide +kernel
theorem dX10_next_109 : decode cX10_next 109 = .ok (.ldc2_w 150, 3) := by decide +kernel
theorem dX10_next_112 : decode cX10_next 112 = .ok (.ldc2_w 152, 3) := by decide +kernel
theorem dX10_next_115 : decode cX10_next 115 = .ok (.invokestatic 82, 3) := by decide +kernel
theorem dX10_next_118 : decode cX10_next 118 = .ok (.ifCond .eq 203, 3) := by decide +kernel
theorem dX10_next_121 : decode cX10_next 121 = .ok (.aload_n 0, 1) := by decide +kernel
theorem dX10_next_122 : decode cX10_next 122 = .ok (.dup, 1) := by decide +kernel
theorem dX10_next_123 : decode cX10_next 123 = .ok (.getfield 138, 3) := by decide +kernel
theorem dX10_next_126 : decode cX10_next 126 = .ok (.iconst 1, 1) := by decide +kernel
theorem dX10_next_127 : decode cX10_next 127 = .ok (.iadd, 1) := by decide +kernel
theorem dX10_next_128 : decode cX10_next 128 = .ok (.putfield 138, 3) := by decide +kernel
theorem dX10_next_131 : decode cX10_next 131 = .ok (.goto (-31), 3) := by decide +kernel
theorem dX10_next_134 : decode cX10_next 134 = .ok (.iload_n 1, 1) := by decide +kernel
theorem dX10_next_135 : decode cX10_next 135 = .ok (.i2l, 1) := by decide +kernel
theorem dX10_next_136 : decode cX10_next 136 = .ok (.ldc2_w 154, 3) := by decide +kernel
theorem dX10_next_139 : decode cX10_next 139 = .ok (.ldc2_w 156, 3) := by decide +kernel
theorem dX10_next_142 : decode cX10_next 142 = .ok (.invokestatic 82, 3) := by decide +kernel
theorem dX10_next_145 : decode cX10_next 145 = .ok (.ifCond .eq 107, 3) := by decide +kernel
theorem dX10_next_148 : decode cX10_next 148 = .ok (.aload_n 0, 1) := by decide +kernel
theorem dX10_next_149 : decode cX10_next 149 = .ok (.iconst 2, 1) := by decide +kernel
theorem dX10_next_150 : decode cX10_next 150 = .ok (.putfield 147, 3) := by decide +kernel
theorem dX10_next_153 : decode cX10_next 153 = .ok (.aload_n 0, 1) := by decide +kernel
theorem dX10_next_154 : decode cX10_next 154 = .ok (.lconst 0, 1) := by decide +kernel
theorem dX10_next_155 : decode cX10_next 155 = .ok (.putfield 158, 3) := by decide +kernel
theorem dX10_next_158 : decode cX10_next 158 = .ok (.iconst 0, 1) := by decide +kernel
theorem dX10_next_159 : decode cX10_next 159 = .ok (.istore_n 2, 1) := by decide +kernel
theorem dX10_next_160 : decode cX10_next 160 = .ok (.aload_n 0, 1) := by decide +kernel
theorem dX10_next_161 : decode cX10_next 161 = .ok (.aload_n 0, 1) := by decide +kernel
theorem dX10_next_162 : decode cX10_next 162 = .ok (.getfield 138, 3) := by decide +kernel
theorem dX10_next_165 : decode cX10_next 165 = .ok (.invokevirtual 141, 3) := by decide +kernel
theorem dX10_next_168 : decode cX10_next 168 = .ok (.i2l, 1) := by decide +kernel
theorem dX10_next_169 : decode cX10_next 169 = .ok (.ldc2_w 154, 3) := by decide +kernel
theorem dX10_next_172 : decode cX10_next 172 = .ok (.ldc2_w 156, 3) := by decide +kernel
theorem dX10_next_175 : decode cX10_next 175 = .ok (.invokestatic 82, 3) := by decide +kernel
theorem dX10_next_178 : decode cX10_next 178 = .ok (.ifCond .eq 57, 3) := by decide +kernel
theorem dX10_next_181 : decode cX10_next 181 = .ok (.aload_n 0, 1) := by decide +kernel
theorem dX10_next_182 : decode cX10_next 182 = .ok (.iload_n 2, 1) := by decide +kernel
theorem dX10_next_183 : decode cX10_next 183 = .ok (.iconst 4, 1) := by decide +kernel
theorem dX10_next_184 : decode cX10_next 184 = .ok (.if_icmp .ge 28, 3) := by decide +kernel
theorem dX10_next_187 : decode cX10_next 187 = .ok (.ldc2_w 162, 3) := by decide +kernel
theorem dX10_next_190 : decode cX10_next 190 = .ok (.aload_n 0, 1) := by decide +kernel
theorem dX10_next_191 : decode cX10_next 191 = .ok (.getfield 158, 3) := by decide +kernel
theorem dX10_next_194 : decode cX10_next 194 = .ok (.lmul, 1) := by decide +kernel
theorem dX10_next_195 : decode cX10_next 195 = .ok (.aload_n 0, 1) := by decide +kernel
theorem dX10_next_196 : decode cX10_next 196 = .ok (.aload_n 0, 1) := by decide +kernel
theorem dX10_next_197 : decode cX10_next 197 = .ok (.getfield 138, 3) := by decide +kernel
theorem dX10_next_200 : decode cX10_next 200 = .ok (.invokevirtual 141, 3) := by decide +kernel
theorem dX10_next_203 : decode cX10_next 203 = .ok (.i2l, 1) := by decide +kernel
theorem dX10_next_204 : decode cX10_next 204 = .ok (.ladd, 1) := by decide +kernel
theorem dX10_next_205 : decode cX10_next 205 = .ok (.ldc2_w 154, 3) := by decide +kernel
theorem dX10_next_208 : decode cX10_next 208 = .ok (.lsub, 1) := by decide +kernel
theorem dX10_next_209 : decode cX10_next 209 = .ok (.goto 7, 3) := by decide +kernel
theorem dX10_next_212 : decode cX10_next 212 = .ok (.aload_n 0, 1) := by decide +kernel
theorem dX10_next_213 : decode cX10_next 213 = .ok (.getfield 158, 3) := by decide +kernel
theorem dX10_next_216 : decode cX10_next 216 = .ok (.putfield 158, 3) := by decide +kernel
theorem dX10_next_219 : decode cX10_next 219 = .ok (.iinc 2 1, 3) := by decide +kernel
theorem dX10_next_222 : decode cX10_next 222 = .ok (.aload_n 0, 1) := by decide +kernel
theorem dX10_next_223 : decode cX10_next 223 = .ok (.dup, 1) := by decide +kernel
theorem dX10_next_224 : decode cX10_next 224 = .ok (.getfield 138, 3) := by decide +kernel
theorem dX10_next_227 : decode cX10_next 227 = .ok (.iconst 1, 1) := by decide +kernel
theorem dX10_next_228 : decode cX10_next 228 = .ok (.iadd, 1) := by decide +kernel
theorem dX10_next_229 : decode cX10_next 229 = .ok (.putfield 138, 3) := by decide +kernel
theorem dX10_next_232 : decode cX10_next 232 = .ok (.goto (-72), 3) := by decide +kernel
theorem dX10_next_235 : decode cX10_next 235 = .ok (.aload_n 0, 1) := by decide +kernel
theorem dX10_next_236 : decode cX10_next 236 = .ok (.iload_n 2, 1) := by decide +kernel
theorem dX10_next_237 : decode cX10_next 237 = .ok (.iconst 4, 1) := by decide +kernel
theorem dX10_next_238 : decode cX10_next 238 = .ok (.if_icmp .le 7, 3) := by decide +kernel
theorem dX10_next_241 : decode cX10_next 241 = .ok (.iconst 4, 1) := by decide +kernel
theorem dX10_next_242 : decode cX10_next 242 = .ok (.goto 4, 3) := by decide +kernel
theorem dX10_next_245 : decode cX10_next 245 = .ok (.iconst 2, 1) := by decide +kernel
theorem dX10_next_246 : decode cX10_next 246 = .ok (.putfield 147, 3) := by decide +kernel
theorem dX10_next_249 : decode cX10_next 249 = .ok (.goto 72, 3) := by decide +kernel
theorem dX10_next_252 : decode cX10_next 252 = .ok (.iload_n 1, 1) := by decide +kernel
theorem dX10_next_253 : decode cX10_next 253 = .ok (.bipush 40, 2) := by decide +kernel
theorem dX10_next_255 : decode cX10_next 255 = .ok (.if_icmp .eq 45, 3) := by decide +kernel
theorem dX10_next_258 : decode cX10_next 258 = .ok (.iload_n 1, 1) := by decide +kernel
theorem dX10_next_259 : decode cX10_next 259 = .ok (.bipush 41, 2) := by decide +kernel
theorem dX10_next_261 : decode cX10_next 261 = .ok (.if_icmp .eq 39, 3) := by decide +kernel
theorem dX10_next_264 : decode cX10_next 264 = .ok (.iload_n 1, 1) := by decide +kernel
theorem dX10_next_265 : decode cX10_next 265 = .ok (.bipush 59, 2) := by decide +kernel
theorem dX10_next_267 : decode cX10_next 267 = .ok (.if_icmp .eq 33, 3) := by decide +kernel
theorem dX10_next_270 : decode cX10_next 270 = .ok (.iload_n 1, 1) := by decide +kernel
theorem dX10_next_271 : decode cX10_next 271 = .ok (.bipush 43, 2) := by decide +kernel
theorem dX10_next_273 : decode cX10_next 273 = .ok (.if_icmp .eq 27, 3) := by decide +kernel
theorem dX10_next_276 : decode cX10_next 276 = .ok (.iload_n 1, 1) := by decide +kernel
theorem dX10_next_277 : decode cX10_next 277 = .ok (.bipush 45, 2) := by decide +kernel
theorem dX10_next_279 : decode cX10_next 279 = .ok (.if_icmp .eq 21, 3) := by decide +kernel
theorem dX10_next_282 : decode cX10_next 282 = .ok (.iload_n 1, 1) := by decide +kernel
theorem dX10_next_283 : decode cX10_next 283 = .ok (.bipush 42, 2) := by decide +kernel
theorem dX10_next_285 : decode cX10_next 285 = .ok (.if_icmp .eq 15, 3) := by decide +kernel
theorem dX10_next_288 : decode cX10_next 288 = .ok (.iload_n 1, 1) := by decide +kernel
theorem dX10_next_289 : decode cX10_next 289 = .ok (.bipush 60, 2) := by decide +kernel
theorem dX10_next_291 : decode cX10_next 291 = .ok (.if_icmp .eq 9, 3) := by decide +kernel
theorem dX10_next_294 : decode cX10_next 294 = .ok (.iload_n 1, 1) := by decide +kernel
theorem dX10_next_295 : decode cX10_next 295 = .ok (.bipush 61, 2) := by decide +kernel
theorem dX10_next_297 : decode cX10_next 297 = .ok (.if_icmp .ne 24, 3) := by decide +kernel
theorem dX10_next_300 : decode cX10_next 300 = .ok (.aload_n 0, 1) := by decide +kernel
theorem dX10_next_301 : decode cX10_next 301 = .ok (.iconst 3, 1) := by decide +kernel
theorem dX10_next_302 : decode cX10_next 302 = .ok (.putfield 147, 3) := by decide +kernel
theorem dX10_next_305 : decode cX10_next 305 = .ok (.aload_n 0, 1) := by decide +kernel
theorem dX10_next_306 : decode cX10_next 306 = .ok (.iload_n 1, 1) := by decide +kernel
theorem dX10_next_307 : decode cX10_next 307 = .ok (.i2l, 1) := by decide +kernel
theorem dX10_next_308 : decode cX10_next 308 = .ok (.putfield 158, 3) := by decide +kernel
theorem dX10_next_311 : decode cX10_next 311 = .ok (.aload_n 0, 1) := by decide +kernel
theorem dX10_next_312 : decode cX10_next 312 = .ok (.dup, 1) := by decide +kernel
theorem dX10_next_313 : decode cX10_next 313 = .ok (.getfield 138, 3) := by decide +kernel
theorem dX10_next_316 : decode cX10_next 316 = .ok (.iconst 1, 1) := by decide +kernel
theorem dX10_next_317 : decode cX10_next 317 = .ok (.iadd, 1) := by decide +kernel
theorem dX10_next_318 : decode cX10_next 318 = .ok (.putfield 138, 3) := by decide +kernel
theorem dX10_next_321 : decode cX10_next 321 = .ok (.return_, 1) := by decide +kernel
theorem dX10_fail_0 : decode cX10_fail 0 = .ok (.aload_n 0, 1) := by decide +kernel
theorem dX10_fail_1 : decode cX10_fail 1 = .ok (.getfield 164, 3) := by decide +kernel
theorem dX10_fail_4 : decode cX10_fail 4 = .ok (.ifCond .ne 16, 3) := by decide +kernel
theorem dX10_fail_7 : decode cX10_fail 7 = .ok (.aload_n 0, 1) := by decide +kernel
theorem dX10_fail_8 : decode cX10_fail 8 = .ok (.iconst 1, 1) := by decide +kernel
theorem dX10_fail_9 : decode cX10_fail 9 = .ok (.putfield 164, 3) := by decide +kernel
theorem dX10_fail_12 : decode cX10_fail 12 = .ok (.aload_n 0, 1) := by decide +kernel
theorem dX10_fail_13 : decode cX10_fail 13 = .ok (.aload_n 0, 1) := by decide +kernel
theorem dX10_fail_14 : decode cX10_fail 14 = .ok (.getfield 144, 3) := by decide +kernel
theorem dX10_fail_17 : decode cX10_fail 17 = .ok (.putfield 168, 3) := by decide +kernel
theorem dX10_fail_20 : decode cX10_fail 20 = .ok (.return_, 1) := by decide +kernel
theorem dX10_isLetter_0 : decode cX10_isLetter 0 = .ok (.aload_n 0, 1) := by decide +kernel
theorem dX10_isLetter_1 : decode cX10_isLetter 1 = .ok (.getfield 144, 3) := by decide +kernel
theorem dX10_isLetter_4 : decode cX10_isLetter 4 = .ok (.iload_n 1, 1) := by decide +kernel
theorem dX10_isLetter_5 : decode cX10_isLetter 5 = .ok (.iadd, 1) := by decide +kernel
theorem dX10_isLetter_6 : decode cX10_isLetter 6 = .ok (.aload_n 0, 1) := by decide +kernel
theorem dX10_isLetter_7 : decode cX10_isLetter 7 = .ok (.getfield 138, 3) := by decide +kernel
theorem dX10_isLetter_10 : decode cX10_isLetter 10 = .ok (.if_icmp .ge 25, 3) := by decide +kernel
theorem dX10_isLetter_13 : decode cX10_isLetter 13 = .ok (.aload_n 0, 1) := by decide +kernel
theorem dX10_isLetter_14 : decode cX10_isLetter 14 = .ok (.aload_n 0, 1) := by decide +kernel
theorem dX10_isLetter_15 : decode cX10_isLetter 15 = .ok (.getfield 144, 3) := by decide +kernel
theorem dX10_isLetter_18 : decode cX10_isLetter 18 = .ok (.iload_n 1, 1) := by decide +kernel
theorem dX10_isLetter_19 : decode cX10_isLetter 19 = .ok (.iadd, 1) := by decide +kernel
theorem dX10_isLetter_20 : decode cX10_isLetter 20 = .ok (.invokevirtual 141, 3) := by decide +kernel
theorem dX10_isLetter_23 : decode cX10_isLetter 23 = .ok (.iload_n 2, 1) := by decide +kernel
theorem dX10_isLetter_24 : decode cX10_isLetter 24 = .ok (.if_icmp .ne 7, 3) := by decide +kernel
theorem dX10_isLetter_27 : decode cX10_isLetter 27 = .ok (.iconst 1, 1) := by decide +kernel
theorem dX10_isLetter_28 : decode cX10_isLetter 28 = .ok (.goto 16, 3) := by decide +kernel
theorem dX10_isLetter_31 : decode cX10_isLetter 31 = .ok (.iconst 0, 1) := by decide +kernel
theorem dX10_isLetter_32 : decode cX10_isLetter 32 = .ok (.goto 12, 3) := by decide +kernel
theorem dX10_isLetter_35 : decode cX10_isLetter 35 = .ok (.iload_n 2, 1) := by decide +kernel
theorem dX10_isLetter_36 : decode cX10_isLetter 36 = .ok (.ifCond .ne 7, 3) := by decide +kernel
theorem dX10_isLetter_39 : decode cX10_isLetter 39 = .ok (.iconst 1, 1) := by decide +kernel
theorem dX10_isLetter_40 : decode cX10_isLetter 40 = .ok (.goto 4, 3) := by decide +kernel
theorem dX10_isLetter_43 : decode cX10_isLetter 43 = .ok (.iconst 0, 1) := by decide +kernel
theorem dX10_isLetter_44 : decode cX10_isLetter 44 = .ok (.ireturn, 1) := by decide +kernel
theorem dX10_isWord_0 : decode cX10_isWord 0 = .ok (.aload_n 0, 1) := by decide +kernel
theorem dX10_isWord_1 : decode cX10_isWord 1 = .ok (.getfield 164, 3) := by decide +kernel
theorem dX10_isWord_4 : decode cX10_isWord 4 = .ok (.ifCond .ne 108, 3) := by decide +kernel
theorem dX10_isWord_7 : decode cX10_isWord 7 = .ok (.aload_n 0, 1) := by decide +kernel
theorem dX10_isWord_8 : decode cX10_isWord 8 = .ok (.getfield 147, 3) := by decide +kernel
theorem dX10_isWord_11 : decode cX10_isWord 11 = .ok (.iconst 1, 1) := by decide +kernel
theorem dX10_isWord_12 : decode cX10_isWord 12 = .ok (.if_icmp .ne 100, 3) := by decide +kernel
theorem dX10_isWord_15 : decode cX10_isWord 15 = .ok (.aload_n 0, 1) := by decide +kernel
theorem dX10_isWord_16 : decode cX10_isWord 16 = .ok (.getfield 138, 3) := by decide +kernel
theorem dX10_isWord_19 : decode cX10_isWord 19 = .ok (.aload_n 0, 1) := by decide +kernel
theorem dX10_isWord_20 : decode cX10_isWord 20 = .ok (.getfield 144, 3) := by decide +kernel
theorem dX10_isWord_23 : decode cX10_isWord 23 = .ok (.bipush 8, 2) := by decide +kernel
theorem dX10_isWord_25 : decode cX10_isWord 25 = .ok (.iadd, 1) := by decide +kernel
theorem dX10_isWord_26 : decode cX10_isWord 26 = .ok (.if_icmp .gt 86, 3) := by decide +kernel
theorem dX10_isWord_29 : decode cX10_isWord 29 = .ok (.aload_n 0, 1) := by decide +kernel
theorem dX10_isWord_30 : decode cX10_isWord 30 = .ok (.iconst 0, 1) := by decide +kernel
theorem dX10_isWord_31 : decode cX10_isWord 31 = .ok (.iload_n 1, 1) := by decide +kernel
theorem dX10_isWord_32 : decode cX10_isWord 32 = .ok (.invokevirtual 171, 3) := by decide +kernel
theorem dX10_isWord_35 : decode cX10_isWord 35 = .ok (.ifCond .eq 77, 3) := by decide +kernel
theorem dX10_isWord_38 : decode cX10_isWord 38 = .ok (.aload_n 0, 1) := by decide +kernel
theorem dX10_isWord_39 : decode cX10_isWord 39 = .ok (.iconst 1, 1) := by decide +kernel
theorem dX10_isWord_40 : decode cX10_isWord 40 = .ok (.iload_n 2, 1) := by decide +kernel
theorem dX10_isWord_41 : decode cX10_isWord 41 = .ok (.invokevirtual 171, 3) := by decide +kernel
theorem dX10_isWord_44 : decode cX10_isWord 44 = .ok (.ifCond .eq 68, 3) := by decide +kernel
theorem dX10_isWord_47 : decode cX10_isWord 47 = .ok (.aload_n 0, 1) := by decide +kernel
theorem dX10_isWord_48 : decode cX10_isWord 48 = .ok (.iconst 2, 1) := by decide +kernel
theorem dX10_isWord_49 : decode cX10_isWord 49 = .ok (.iload_n 3, 1) := by decide +kernel
theorem dX10_isWord_50 : decode cX10_isWord 50 = .ok (.invokevirtual 171, 3) := by decide +kernel
theorem dX10_isWord_53 : decode cX10_isWord 53 = .ok (.ifCond .eq 59, 3) := by decide +kernel
theorem dX10_isWord_56 : decode cX10_isWord 56 = .ok (.aload_n 0, 1) := by decide +kernel
theorem dX10_isWord_57 : decode cX10_isWord 57 = .ok (.iconst 3, 1) := by decide +kernel
theorem dX10_isWord_58 : decode cX10_isWord 58 = .ok (.iload 4, 2) := by decide +kernel
theorem dX10_isWord_60 : decode cX10_isWord 60 = .ok (.invokevirtual 171, 3) := by decide +kernel
theorem dX10_isWord_63 : decode cX10_isWord 63 = .ok (.ifCond .eq 49, 3) := by decide +kernel
theorem dX10_isWord_66 : decode cX10_isWord 66 = .ok (.aload_n 0, 1) := by decide +kernel
theorem dX10_isWord_67 : decode cX10_isWord 67 = .ok (.iconst 4, 1) := by decide +kernel
theorem dX10_isWord_68 : decode cX10_isWord 68 = .ok (.iload 5, 2) := by decide +kernel
theorem dX10_isWord_70 : decode cX10_isWord 70 = .ok (.invokevirtual 171, 3) := by decide +kernel
theorem dX10_isWord_73 : decode cX10_isWord 73 = .ok (.ifCond .eq 39, 3) := by decide +kernel
theorem dX10_isWord_76 : decode cX10_isWord 76 = .ok (.aload_n 0, 1) := by decide +kernel
theorem dX10_isWord_77 : decode cX10_isWord 77 = .ok (.iconst 5, 1) := by decide +kernel
theorem dX10_isWord_78 : decode cX10_isWord 78 = .ok (.iload 6, 2) := by decide +kernel
theorem dX10_isWord_80 : decode cX10_isWord 80 = .ok (.invokevirtual 171, 3) := by decide +kernel
theorem dX10_isWord_83 : decode cX10_isWord 83 = .ok (.ifCond .eq 29, 3) := by decide +kernel
theorem dX10_isWord_86 : decode cX10_isWord 86 = .ok (.aload_n 0, 1) := by decide +kernel
theorem dX10_isWord_87 : decode cX10_isWord 87 = .ok (.bipush 6, 2) := by decide +kernel
theorem dX10_isWord_89 : decode cX10_isWord 89 = .ok (.iload 7, 2) := by decide +kernel
theorem dX10_isWord_91 : decode cX10_isWord 91 = .ok (.invokevirtual 171, 3) := by decide +kernel
theorem dX10_isWord_94 : decode cX10_isWord 94 = .ok (.ifCond .eq 18, 3) := by decide +kernel
theorem dX10_isWord_97 : decode cX10_isWord 97 = .ok (.aload_n 0, 1) := by decide +kernel
theorem dX10_isWord_98 : decode cX10_isWord 98 = .ok (.bipush 7, 2) := by decide +kernel
theorem dX10_isWord_100 : decode cX10_isWord 100 = .ok (.iload 8, 2) := by decide +kernel
theorem dX10_isWord_102 : decode cX10_isWord 102 = .ok (.invokevirtual 171, 3) := by decide +kernel
theorem dX10_isWord_105 : decode cX10_isWord 105 = .ok (.ifCond .eq 7, 3) := by decide +kernel
theorem dX10_isWord_108 : decode cX10_isWord 108 = .ok (.iconst 1, 1) := by decide +kernel
theorem dX10_isWord_109 : decode cX10_isWord 109 = .ok (.goto 4, 3) := by decide +kernel
theorem dX10_isWord_112 : decode cX10_isWord 112 = .ok (.iconst 0, 1) := by decide +kernel
theorem dX10_isWord_113 : decode cX10_isWord 113 = .ok (.ireturn, 1) := by decide +kernel
theorem dX10_isSign_0 : decode cX10_isSign 0 = .ok (.aload_n 0, 1) := by decide +kernel
theorem dX10_isSign_1 : decode cX10_isSign 1 = .ok (.getfield 164, 3) := by decide +kernel
theorem dX10_isSign_4 : decode cX10_isSign 4 = .ok (.ifCond .ne 25, 3) := by decide +kernel
theorem dX10_isSign_7 : decode cX10_isSign 7 = .ok (.aload_n 0, 1) := by decide +kernel
theorem dX10_isSign_8 : decode cX10_isSign 8 = .ok (.getfield 147, 3) := by decide +kernel
theorem dX10_isSign_11 : decode cX10_isSign 11 = .ok (.iconst 3, 1) := by decide +kernel
theorem dX10_isSign_12 : decode cX10_isSign 12 = .ok (.if_icmp .ne 17, 3) := by decide +kernel
theorem dX10_isSign_15 : decode cX10_isSign 15 = .ok (.aload_n 0, 1) := by decide +kernel
theorem dX10_isSign_16 : decode cX10_isSign 16 = .ok (.getfield 158, 3) := by decide +kernel
theorem dX10_isSign_19 : decode cX10_isSign 19 = .ok (.iload_n 1, 1) := by decide +kernel
theorem dX10_isSign_20 : decode cX10_isSign 20 = .ok (.i2l, 1) := by decide +kernel
theorem dX10_isSign_21 : decode cX10_isSign 21 = .ok (.lcmp, 1) := by decide +kernel
theorem dX10_isSign_22 : decode cX10_isSign 22 = .ok (.ifCond .ne 7, 3) := by decide +kernel
theorem dX10_isSign_25 : decode cX10_isSign 25 = .ok (.iconst 1, 1) := by decide +kernel
theorem dX10_isSign_26 : decode cX10_isSign 26 = .ok (.goto 4, 3) := by decide +kernel
theorem dX10_isSign_29 : decode cX10_isSign 29 = .ok (.iconst 0, 1) := by decide +kernel
theorem dX10_isSign_30 : decode cX10_isSign 30 = .ok (.ireturn, 1) := by decide +kernel
theorem dX10_opens_0 : decode cX10_opens 0 = .ok (.aload_n 0, 1) := by decide +kernel
theorem dX10_opens_1 : decode cX10_opens 1 = .ok (.getfield 175, 3) := by decide +kernel
theorem dX10_opens_4 : decode cX10_opens 4 = .ok (.iconst 5, 1) := by decide +kernel
theorem dX10_opens_5 : decode cX10_opens 5 = .ok (.if_icmp .ne 9, 3) := by decide +kernel
theorem dX10_opens_8 : decode cX10_opens 8 = .ok (.aload_n 0, 1) := by decide +kernel
theorem dX10_opens_9 : decode cX10_opens 9 = .ok (.invokevirtual 178, 3) := by decide +kernel
theorem dX10_opens_12 : decode cX10_opens 12 = .ok (.iconst 0, 1) := by decide +kernel
theorem dX10_opens_13 : decode cX10_opens 13 = .ok (.ireturn, 1) := by decide +kernel
theorem dX10_opens_14 : decode cX10_opens 14 = .ok (.aload_n 0, 1) := by decide +kernel
theorem dX10_opens_15 : decode cX10_opens 15 = .ok (.dup, 1) := by decide +kernel
theorem dX10_opens_16 : decode cX10_opens 16 = .ok (.getfield 175, 3) := by decide +kernel
theorem dX10_opens_19 : decode cX10_opens 19 = .ok (.iconst 1, 1) := by decide +kernel
theorem dX10_opens_20 : decode cX10_opens 20 = .ok (.iadd, 1) := by decide +kernel
theorem dX10_opens_21 : decode cX10_opens 21 = .ok (.putfield 175, 3) := by decide +kernel
theorem dX10_opens_24 : decode cX10_opens 24 = .ok (.aload_n 0, 1) := by decide +kernel
theorem dX10_opens_25 : decode cX10_opens 25 = .ok (.invokevirtual 181, 3) := by decide +kernel
theorem dX10_opens_28 : decode cX10_opens 28 = .ok (.iconst 1, 1) := by decide +kernel
theorem dX10_opens_29 : decode cX10_opens 29 = .ok (.ireturn, 1) := by decide +kernel
theorem dX10_name_0 : decode cX10_name 0 = .ok (.aload_n 0, 1) := by decide +kernel
theorem dX10_name_1 : decode cX10_name 1 = .ok (.bipush 116, 2) := by decide +kernel
theorem dX10_name_3 : decode cX10_name 3 = .ok (.bipush 111, 2) := by decide +kernel
theorem dX10_name_5 : decode cX10_name 5 = .ok (.bipush 112, 2) := by decide +kernel
theorem dX10_name_7 : decode cX10_name 7 = .ok (.bipush 105, 2) := by decide +kernel
theorem dX10_name_9 : decode cX10_name 9 = .ok (.bipush 99, 2) := by decide +kernel
theorem dX10_name_11 : decode cX10_name 11 = .ok (.iconst 0, 1) := by decide +kernel
theorem dX10_name_12 : decode cX10_name 12 = .ok (.iconst 0, 1) := by decide +kernel
theorem dX10_name_13 : decode cX10_name 13 = .ok (.iconst 0, 1) := by decide +kernel
theorem dX10_name_14 : decode cX10_name 14 = .ok (.invokevirtual 184, 3) := by decide +kernel
theorem dX10_name_17 : decode cX10_name 17 = .ok (.ifCond .eq 8, 3) := by decide +kernel
theorem dX10_name_20 : decode cX10_name 20 = .ok (.aload_n 0, 1) := by decide +kernel
theorem dX10_name_21 : decode cX10_name 21 = .ok (.getfield 188, 3) := by decide +kernel
theorem dX10_name_24 : decode cX10_name 24 = .ok (.ireturn, 1) := by decide +kernel
theorem dX10_name_25 : decode cX10_name 25 = .ok (.aload_n 0, 1) := by decide +kernel
theorem dX10_name_26 : decode cX10_name 26 = .ok (.bipush 108, 2) := by decide +kernel
theorem dX10_name_28 : decode cX10_name 28 = .ok (.bipush 97, 2) := by decide +kernel
theorem dX10_name_30 : decode cX10_name 30 = .ok (.bipush 115, 2) := by decide +kernel
theorem dX10_name_32 : decode cX10_name 32 = .ok (.bipush 116, 2) := by decide +kernel
theorem dX10_name_34 : decode cX10_name 34 = .ok (.iconst 0, 1) := by decide +kernel
theorem dX10_name_35 : decode cX10_name 35 = .ok (.iconst 0, 1) := by decide +kernel
theorem dX10_name_36 : decode cX10_name 36 = .ok (.iconst 0, 1) := by decide +kernel
theorem dX10_name_37 : decode cX10_name 37 = .ok (.iconst 0, 1) := by decide +kernel
theorem dX10_name_38 : decode cX10_name 38 = .ok (.invokevirtual 184, 3) := by decide +kernel
theorem dX10_name_41 : decode cX10_name 41 = .ok (.ifCond .eq 8, 3) := by decide +kernel
theorem dX10_name_44 : decode cX10_name 44 = .ok (.aload_n 0, 1) := by decide +kernel
theorem dX10_name_45 : decode cX10_name 45 = .ok (.getfield 191, 3) := by decide +kernel
theorem dX10_name_48 : decode cX10_name 48 = .ok (.ireturn, 1) := by decide +kernel
theorem dX10_name_49 : decode cX10_name 49 = .ok (.aload_n 0, 1) := by decide +kernel
theorem dX10_name_50 : decode cX10_name 50 = .ok (.bipush 119, 2) := by decide +kernel
theorem dX10_name_52 : decode cX10_name 52 = .ok (.bipush 97, 2) := by decide +kernel
theorem dX10_name_54 : decode cX10_name 54 = .ok (.bipush 114, 2) := by decide +kernel
theorem dX10_name_56 : decode cX10_name 56 = .ok (.bipush 109, 2) := by decide +kernel
theorem dX10_name_58 : decode cX10_name 58 = .ok (.bipush 116, 2) := by decide +kernel
theorem dX10_name_60 : decode cX10_name 60 = .ok (.bipush 104, 2) := by decide +kernel
theorem dX10_name_62 : decode cX10_name 62 = .ok (.iconst 0, 1) := by decide +kernel
theorem dX10_name_63 : decode cX10_name 63 = .ok (.iconst 0, 1) := by decide +kernel
theorem dX10_name_64 : decode cX10_name 64 = .ok (.invokevirtual 184, 3) := by decide +kernel
theorem dX10_name_67 : decode cX10_name 67 = .ok (.ifCond .eq 8, 3) := by decide +kernel
theorem dX10_name_70 : decode cX10_name 70 = .ok (.aload_n 0, 1) := by decide +kernel
theorem dX10_name_71 : decode cX10_name 71 = .ok (.getfield 194, 3) := by decide +kernel
theorem dX10_name_74 : decode cX10_name 74 = .ok (.ireturn, 1) := by decide +kernel
theorem dX10_name_75 : decode cX10_name 75 = .ok (.aload_n 0, 1) := by decide +kernel
theorem dX10_name_76 : decode cX10_name 76 = .ok (.bipush 110, 2) := by decide +kernel
theorem dX10_name_78 : decode cX10_name 78 = .ok (.bipush 117, 2) := by decide +kernel
theorem dX10_name_80 : decode cX10_name 80 = .ok (.bipush 109, 2) := by decide +kernel
theorem dX10_name_82 : decode cX10_name 82 = .ok (.bipush 98, 2) := by decide +kernel
theorem dX10_name_84 : decode cX10_name 84 = .ok (.bipush 101, 2) := by decide +kernel
theorem dX10_name_86 : decode cX10_name 86 = .ok (.bipush 114, 2) := by decide +kernel
theorem dX10_name_88 : decode cX10_name 88 = .ok (.iconst 0, 1) := by decide +kernel
theorem dX10_name_89 : decode cX10_name 89 = .ok (.iconst 0, 1) := by decide +kernel
theorem dX10_name_90 : decode cX10_name 90 = .ok (.invokevirtual 184, 3) := by decide +kernel
theorem dX10_name_93 : decode cX10_name 93 = .ok (.ifCond .eq 8, 3) := by decide +kernel
theorem dX10_name_96 : decode cX10_name 96 = .ok (.aload_n 0, 1) := by decide +kernel
theorem dX10_name_97 : decode cX10_name 97 = .ok (.getfield 197, 3) := by decide +kernel
theorem dX10_name_100 : decode cX10_name 100 = .ok (.ireturn, 1) := by decide +kernel
theorem dX10_name_101 : decode cX10_name 101 = .ok (.aload_n 0, 1) := by decide +kernel
theorem dX10_name_102 : decode cX10_name 102 = .ok (.bipush 115, 2) := by decide +kernel
theorem dX10_name_104 : decode cX10_name 104 = .ok (.bipush 97, 2) := by decide +kernel
theorem dX10_name_106 : decode cX10_name 106 = .ok (.bipush 105, 2) := by decide +kernel
theorem dX10_name_108 : decode cX10_name 108 = .ok (.bipush 100, 2) := by decide +kernel
theorem dX10_name_110 : decode cX10_name 110 = .ok (.iconst 0, 1) := by decide +kernel
theorem dX10_name_111 : decode cX10_name 111 = .ok (.iconst 0, 1) := by decide +kernel
theorem dX10_name_112 : decode cX10_name 112 = .ok (.iconst 0, 1) := by decide +kernel
theorem dX10_name_113 : decode cX10_name 113 = .ok (.iconst 0, 1) := by decide +kernel
theorem dX10_name_114 : decode cX10_name 114 = .ok (.invokevirtual 184, 3) := by decide +kernel
theorem dX10_name_117 : decode cX10_name 117 = .ok (.ifCond .eq 8, 3) := by decide +kernel
theorem dX10_name_120 : decode cX10_name 120 = .ok (.aload_n 0, 1) := by decide +kernel
theorem dX10_name_121 : decode cX10_name 121 = .ok (.getfield 200, 3) := by decide +kernel
theorem dX10_name_124 : decode cX10_name 124 = .ok (.ireturn, 1) := by decide +kernel
theorem dX10_name_125 : decode cX10_name 125 = .ok (.aload_n 0, 1) := by decide +kernel
theorem dX10_name_126 : decode cX10_name 126 = .ok (.bipush 112, 2) := by decide +kernel
theorem dX10_name_128 : decode cX10_name 128 = .ok (.bipush 108, 2) := by decide +kernel
theorem dX10_name_130 : decode cX10_name 130 = .ok (.bipush 97, 2) := by decide +kernel
theorem dX10_name_132 : decode cX10_name 132 = .ok (.bipush 99, 2) := by decide +kernel
theorem dX10_name_134 : decode cX10_name 134 = .ok (.bipush 101, 2) := by decide +kernel
theorem dX10_name_136 : decode cX10_name 136 = .ok (.iconst 0, 1) := by decide +kernel
theorem dX10_name_137 : decode cX10_name 137 = .ok (.iconst 0, 1) := by decide +kernel
theorem dX10_name_138 : decode cX10_name 138 = .ok (.iconst 0, 1) := by decide +kernel
theorem dX10_name_139 : decode cX10_name 139 = .ok (.invokevirtual 184, 3) := by decide +kernel
theorem dX10_name_142 : decode cX10_name 142 = .ok (.ifCond .eq 8, 3) := by decide +kernel
theorem dX10_name_145 : decode cX10_name 145 = .ok (.aload_n 0, 1) := by decide +kernel
theorem dX10_name_146 : decode cX10_name 146 = .ok (.getfield 203, 3) := by decide +kernel
theorem dX10_name_149 : decode cX10_name 149 = .ok (.ireturn, 1) := by decide +kernel
theorem dX10_name_150 : decode cX10_name 150 = .ok (.aload_n 0, 1) := by decide +kernel
theorem dX10_name_151 : decode cX10_name 151 = .ok (.invokevirtual 178, 3) := by decide +kernel
theorem dX10_name_154 : decode cX10_name 154 = .ok (.iconst 0, 1) := by decide +kernel
theorem dX10_name_155 : decode cX10_name 155 = .ok (.ireturn, 1) := by decide +kernel
theorem dX10_atom_0 : decode cX10_atom 0 = .ok (.iconst 0, 1) := by decide +kernel
theorem dX10_atom_1 : decode cX10_atom 1 = .ok (.istore_n 1, 1) := by decide +kernel
theorem dX10_atom_2 : decode cX10_atom 2 = .ok (.aload_n 0, 1) := by decide +kernel
theorem dX10_atom_3 : decode cX10_atom 3 = .ok (.bipush 45, 2) := by decide +kernel
theorem dX10_atom_5 : decode cX10_atom 5 = .ok (.invokevirtual 206, 3) := by decide +kernel
theorem dX10_atom_8 : decode cX10_atom 8 = .ok (.ifCond .eq 29, 3) := by decide +kernel
theorem dX10_atom_11 : decode cX10_atom 11 = .ok (.aload_n 0, 1) := by decide +kernel
theorem dX10_atom_12 : decode cX10_atom 12 = .ok (.invokevirtual 209, 3) := by decide +kernel
theorem dX10_atom_15 : decode cX10_atom 15 = .ok (.ifCond .eq 146, 3) := by decide +kernel
theorem dX10_atom_18 : decode cX10_atom 18 = .ok (.aload_n 0, 1) := by decide +kernel
theorem dX10_atom_19 : decode cX10_atom 19 = .ok (.invokevirtual 213, 3) := by decide +kernel
theorem dX10_atom_22 : decode cX10_atom 22 = .ok (.ineg, 1) := by decide +kernel
theorem dX10_atom_23 : decode cX10_atom 23 = .ok (.istore_n 1, 1) := by decide +kernel
theorem dX10_atom_24 : decode cX10_atom 24 = .ok (.aload_n 0, 1) := by decide +kernel
theorem dX10_atom_25 : decode cX10_atom 25 = .ok (.dup, 1) := by decide +kernel
theorem dX10_atom_26 : decode cX10_atom 26 = .ok (.getfield 175, 3) := by decide +kernel
theorem dX10_atom_29 : decode cX10_atom 29 = .ok (.iconst 1, 1) := by decide +kernel
theorem dX10_atom_30 : decode cX10_atom 30 = .ok (.isub, 1) := by decide +kernel
theorem dX10_atom_31 : decode cX10_atom 31 = .ok (.putfield 175, 3) := by decide +kernel
theorem dX10_atom_34 : decode cX10_atom 34 = .ok (.goto 127, 3) := by decide +kernel
theorem dX10_atom_37 : decode cX10_atom 37 = .ok (.aload_n 0, 1) := by decide +kernel
theorem dX10_atom_38 : decode cX10_atom 38 = .ok (.bipush 40, 2) := by decide +kernel
theorem dX10_atom_40 : decode cX10_atom 40 = .ok (.invokevirtual 206, 3) := by decide +kernel
theorem dX10_atom_43 : decode cX10_atom 43 = .ok (.ifCond .eq 52, 3) := by decide +kernel
theorem dX10_atom_46 : decode cX10_atom 46 = .ok (.aload_n 0, 1) := by decide +kernel
theorem dX10_atom_47 : decode cX10_atom 47 = .ok (.invokevirtual 209, 3) := by decide +kernel
theorem dX10_atom_50 : decode cX10_atom 50 = .ok (.ifCond .eq 111, 3) := by decide +kernel
theorem dX10_atom_53 : decode cX10_atom 53 = .ok (.aload_n 0, 1) := by decide +kernel
theorem dX10_atom_54 : decode cX10_atom 54 = .ok (.invokevirtual 217, 3) := by decide +kernel
theorem dX10_atom_57 : decode cX10_atom 57 = .ok (.istore_n 1, 1) := by decide +kernel
theorem dX10_atom_58 : decode cX10_atom 58 = .ok (.aload_n 0, 1) := by decide +kernel
theorem dX10_atom_59 : decode cX10_atom 59 = .ok (.bipush 41, 2) := by decide +kernel
theorem dX10_atom_61 : decode cX10_atom 61 = .ok (.invokevirtual 206, 3) := by decide +kernel
theorem dX10_atom_64 : decode cX10_atom 64 = .ok (.ifCond .ne 7, 3) := by decide +kernel
theorem dX10_atom_67 : decode cX10_atom 67 = .ok (.aload_n 0, 1) := by decide +kernel
theorem dX10_atom_68 : decode cX10_atom 68 = .ok (.invokevirtual 178, 3) := by decide +kernel
theorem dX10_atom_71 : decode cX10_atom 71 = .ok (.aload_n 0, 1) := by decide +kernel
theorem dX10_atom_72 : decode cX10_atom 72 = .ok (.dup, 1) := by decide +kernel
theorem dX10_atom_73 : decode cX10_atom 73 = .ok (.getfield 175, 3) := by decide +kernel
theorem dX10_atom_76 : decode cX10_atom 76 = .ok (.iconst 1, 1) := by decide +kernel
theorem dX10_atom_77 : decode cX10_atom 77 = .ok (.isub, 1) := by decide +kernel
theorem dX10_atom_78 : decode cX10_atom 78 = .ok (.putfield 175, 3) := by decide +kernel
theorem dX10_atom_81 : decode cX10_atom 81 = .ok (.aload_n 0, 1) := by decide +kernel
theorem dX10_atom_82 : decode cX10_atom 82 = .ok (.getfield 164, 3) := by decide +kernel
theorem dX10_atom_85 : decode cX10_atom 85 = .ok (.ifCond .ne 76, 3) := by decide +kernel
theorem dX10_atom_88 : decode cX10_atom 88 = .ok (.aload_n 0, 1) := by decide +kernel
theorem dX10_atom_89 : decode cX10_atom 89 = .ok (.invokevirtual 181, 3) := by decide +kernel
theorem dX10_atom_92 : decode cX10_atom 92 = .ok (.goto 69, 3) := by decide +kernel
theorem dX10_atom_95 : decode cX10_atom 95 = .ok (.aload_n 0, 1) := by decide +kernel
theorem dX10_atom_96 : decode cX10_atom 96 = .ok (.getfield 164, 3) := by decide +kernel
theorem dX10_atom_99 : decode cX10_atom 99 = .ok (.ifCond .ne 24, 3) := by decide +kernel
theorem dX10_atom_102 : decode cX10_atom 102 = .ok (.aload_n 0, 1) := by decide +kernel
theorem dX10_atom_103 : decode cX10_atom 103 = .ok (.getfield 147, 3) := by decide +kernel
theorem dX10_atom_106 : decode cX10_atom 106 = .ok (.iconst 2, 1) := by decide +kernel
theorem dX10_atom_107 : decode cX10_atom 107 = .ok (.if_icmp .ne 16, 3) := by decide +kernel
theorem dX10_atom_110 : decode cX10_atom 110 = .ok (.aload_n 0, 1) := by decide +kernel
theorem dX10_atom_111 : decode cX10_atom 111 = .ok (.getfield 158, 3) := by decide +kernel
theorem dX10_atom_114 : decode cX10_atom 114 = .ok (.l2i, 1) := by decide +kernel
theorem dX10_atom_115 : decode cX10_atom 115 = .ok (.istore_n 1, 1) := by decide +kernel
theorem dX10_atom_116 : decode cX10_atom 116 = .ok (.aload_n 0, 1) := by decide +kernel
theorem dX10_atom_117 : decode cX10_atom 117 = .ok (.invokevirtual 181, 3) := by decide +kernel
theorem dX10_atom_120 : decode cX10_atom 120 = .ok (.goto 41, 3) := by decide +kernel
theorem dX10_atom_123 : decode cX10_atom 123 = .ok (.aload_n 0, 1) := by decide +kernel
theorem dX10_atom_124 : decode cX10_atom 124 = .ok (.getfield 164, 3) := by decide +kernel
theorem dX10_atom_127 : decode cX10_atom 127 = .ok (.ifCond .ne 30, 3) := by decide +kernel
theorem dX10_atom_130 : decode cX10_atom 130 = .ok (.aload_n 0, 1) := by decide +kernel
theorem dX10_atom_131 : decode cX10_atom 131 = .ok (.getfield 147, 3) := by decide +kernel
theorem dX10_atom_134 : decode cX10_atom 134 = .ok (.iconst 1, 1) := by decide +kernel
theorem dX10_atom_135 : decode cX10_atom 135 = .ok (.if_icmp .ne 22, 3) := by decide +kernel
theorem dX10_atom_138 : decode cX10_atom 138 = .ok (.aload_n 0, 1) := by decide +kernel
theorem dX10_atom_139 : decode cX10_atom 139 = .ok (.invokevirtual 220, 3) := by decide +kernel
theorem dX10_atom_142 : decode cX10_atom 142 = .ok (.istore_n 1, 1) := by decide +kernel
theorem dX10_atom_143 : decode cX10_atom 143 = .ok (.aload_n 0, 1) := by decide +kernel
theorem dX10_atom_144 : decode cX10_atom 144 = .ok (.getfield 164, 3) := by decide +kernel
theorem dX10_atom_147 : decode cX10_atom 147 = .ok (.ifCond .ne 14, 3) := by decide +kernel
theorem dX10_atom_150 : decode cX10_atom 150 = .ok (.aload_n 0, 1) := by decide +kernel
theorem dX10_atom_151 : decode cX10_atom 151 = .ok (.invokevirtual 181, 3) := by decide +kernel
theorem dX10_atom_154 : decode cX10_atom 154 = .ok (.goto 7, 3) := by decide +kernel
theorem dX10_atom_157 : decode cX10_atom 157 = .ok (.aload_n 0, 1) := by decide +kernel
theorem dX10_atom_158 : decode cX10_atom 158 = .ok (.invokevirtual 178, 3) := by decide +kernel
theorem dX10_atom_161 : decode cX10_atom 161 = .ok (.iload_n 1, 1) := by decide +kernel
theorem dX10_atom_162 : decode cX10_atom 162 = .ok (.ireturn, 1) := by decide +kernel
theorem dX10_term_0 : decode cX10_term 0 = .ok (.aload_n 0, 1) := by decide +kernel
theorem dX10_term_1 : decode cX10_term 1 = .ok (.invokevirtual 213, 3) := by decide +kernel
theorem dX10_term_4 : decode cX10_term 4 = .ok (.istore_n 1, 1) := by decide +kernel
theorem dX10_term_5 : decode cX10_term 5 = .ok (.aload_n 0, 1) := by decide +kernel
theorem dX10_term_6 : decode cX10_term 6 = .ok (.bipush 42, 2) := by decide +kernel
theorem dX10_term_8 : decode cX10_term 8 = .ok (.invokevirtual 206, 3) := by decide +kernel
theorem dX10_term_11 : decode cX10_term 11 = .ok (.ifCond .eq 17, 3) := by decide +kernel
theorem dX10_term_14 : decode cX10_term 14 = .ok (.aload_n 0, 1) := by decide +kernel
theorem dX10_term_15 : decode cX10_term 15 = .ok (.invokevirtual 181, 3) := by decide +kernel
theorem dX10_term_18 : decode cX10_term 18 = .ok (.iload_n 1, 1) := by decide +kernel
theorem dX10_term_19 : decode cX10_term 19 = .ok (.aload_n 0, 1) := by decide +kernel
theorem dX10_term_20 : decode cX10_term 20 = .ok (.invokevirtual 213, 3) := by decide +kernel
theorem dX10_term_23 : decode cX10_term 23 = .ok (.imul, 1) := by decide +kernel
theorem dX10_term_24 : decode cX10_term 24 = .ok (.istore_n 1, 1) := by decide +kernel
theorem dX10_term_25 : decode cX10_term 25 = .ok (.goto (-20), 3) := by decide +kernel
theorem dX10_term_28 : decode cX10_term 28 = .ok (.iload_n 1, 1) := by decide +kernel
theorem dX10_term_29 : decode cX10_term 29 = .ok (.ireturn, 1) := by decide +kernel
theorem dX10_added_0 : decode cX10_added 0 = .ok (.aload_n 0, 1) := by decide +kernel
theorem dX10_added_1 : decode cX10_added 1 = .ok (.invokevirtual 223, 3) := by decide +kernel
theorem dX10_added_4 : decode cX10_added 4 = .ok (.istore_n 1, 1) := by decide +kernel
theorem dX10_added_5 : decode cX10_added 5 = .ok (.aload_n 0, 1) := by decide +kernel
theorem dX10_added_6 : decode cX10_added 6 = .ok (.bipush 43, 2) := by decide +kernel
theorem dX10_added_8 : decode cX10_added 8 = .ok (.invokevirtual 206, 3) := by decide +kernel
theorem dX10_added_11 : decode cX10_added 11 = .ok (.ifCond .ne 12, 3) := by decide +kernel
theorem dX10_added_14 : decode cX10_added 14 = .ok (.aload_n 0, 1) := by decide +kernel
theorem dX10_added_15 : decode cX10_added 15 = .ok (.bipush 45, 2) := by decide +kernel
theorem dX10_added_17 : decode cX10_added 17 = .ok (.invokevirtual 206, 3) := by decide +kernel
theorem dX10_added_20 : decode cX10_added 20 = .ok (.ifCond .eq 46, 3) := by decide +kernel
theorem dX10_added_23 : decode cX10_added 23 = .ok (.aload_n 0, 1) := by decide +kernel
theorem dX10_added_24 : decode cX10_added 24 = .ok (.getfield 158, 3) := by decide +kernel
theorem dX10_added_27 : decode cX10_added 27 = .ok (.ldc2_w 226, 3) := by decide +kernel
theorem dX10_added_30 : decode cX10_added 30 = .ok (.lcmp, 1) := by decide +kernel
theorem dX10_added_31 : decode cX10_added 31 = .ok (.ifCond .ne 7, 3) := by decide +kernel
theorem dX10_added_34 : decode cX10_added 34 = .ok (.iconst 1, 1) := by decide +kernel
theorem dX10_added_35 : decode cX10_added 35 = .ok (.goto 4, 3) := by decide +kernel
theorem dX10_added_38 : decode cX10_added 38 = .ok (.iconst 0, 1) := by decide +kernel
theorem dX10_added_39 : decode cX10_added 39 = .ok (.istore_n 2, 1) := by decide +kernel
theorem dX10_added_40 : decode cX10_added 40 = .ok (.aload_n 0, 1) := by decide +kernel
theorem dX10_added_41 : decode cX10_added 41 = .ok (.invokevirtual 181, 3) := by decide +kernel
theorem dX10_added_44 : decode cX10_added 44 = .ok (.aload_n 0, 1) := by decide +kernel
theorem dX10_added_45 : decode cX10_added 45 = .ok (.invokevirtual 223, 3) := by decide +kernel
theorem dX10_added_48 : decode cX10_added 48 = .ok (.istore_n 3, 1) := by decide +kernel
theorem dX10_added_49 : decode cX10_added 49 = .ok (.iload_n 2, 1) := by decide +kernel
theorem dX10_added_50 : decode cX10_added 50 = .ok (.ifCond .eq 9, 3) := by decide +kernel
theorem dX10_added_53 : decode cX10_added 53 = .ok (.iload_n 1, 1) := by decide +kernel
theorem dX10_added_54 : decode cX10_added 54 = .ok (.iload_n 3, 1) := by decide +kernel
theorem dX10_added_55 : decode cX10_added 55 = .ok (.iadd, 1) := by decide +kernel
theorem dX10_added_56 : decode cX10_added 56 = .ok (.goto 6, 3) := by decide +kernel
theorem dX10_added_59 : decode cX10_added 59 = .ok (.iload_n 1, 1) := by decide +kernel
theorem dX10_added_60 : decode cX10_added 60 = .ok (.iload_n 3, 1) := by decide +kernel
theorem dX10_added_61 : decode cX10_added 61 = .ok (.isub, 1) := by decide +kernel
theorem dX10_added_62 : decode cX10_added 62 = .ok (.istore_n 1, 1) := by decide +kernel
theorem dX10_added_63 : decode cX10_added 63 = .ok (.goto (-58), 3) := by decide +kernel
theorem dX10_added_66 : decode cX10_added 66 = .ok (.iload_n 1, 1) := by decide +kernel
theorem dX10_added_67 : decode cX10_added 67 = .ok (.ireturn, 1) := by decide +kernel
theorem dX10_not_0 : decode cX10_not 0 = .ok (.aload_n 0, 1) := by decide +kernel
theorem dX10_not_1 : decode cX10_not 1 = .ok (.bipush 110, 2) := by decide +kernel
theorem dX10_not_3 : decode cX10_not 3 = .ok (.bipush 111, 2) := by decide +kernel
theorem dX10_not_5 : decode cX10_not 5 = .ok (.bipush 116, 2) := by decide +kernel
theorem dX10_not_7 : decode cX10_not 7 = .ok (.iconst 0, 1) := by decide +kernel
theorem dX10_not_8 : decode cX10_not 8 = .ok (.iconst 0, 1) := by decide +kernel
theorem dX10_not_9 : decode cX10_not 9 = .ok (.iconst 0, 1) := by decide +kernel
theorem dX10_not_10 : decode cX10_not 10 = .ok (.iconst 0, 1) := by decide +kernel
theorem dX10_not_11 : decode cX10_not 11 = .ok (.iconst 0, 1) := by decide +kernel
theorem dX10_not_12 : decode cX10_not 12 = .ok (.invokevirtual 184, 3) := by decide +kernel
theorem dX10_not_15 : decode cX10_not 15 = .ok (.ifCond .eq 37, 3) := by decide +kernel
theorem dX10_not_18 : decode cX10_not 18 = .ok (.aload_n 0, 1) := by decide +kernel
theorem dX10_not_19 : decode cX10_not 19 = .ok (.invokevirtual 209, 3) := by decide +kernel
theorem dX10_not_22 : decode cX10_not 22 = .ok (.ifCond .ne 5, 3) := by decide +kernel
theorem dX10_not_25 : decode cX10_not 25 = .ok (.iconst 0, 1) := by decide +kernel
theorem dX10_not_26 : decode cX10_not 26 = .ok (.ireturn, 1) := by decide +kernel
theorem dX10_not_27 : decode cX10_not 27 = .ok (.aload_n 0, 1) := by decide +kernel
theorem dX10_not_28 : decode cX10_not 28 = .ok (.invokevirtual 228, 3) := by decide +kernel
theorem dX10_not_31 : decode cX10_not 31 = .ok (.istore_n 1, 1) := by decide +kernel
theorem dX10_not_32 : decode cX10_not 32 = .ok (.aload_n 0, 1) := by decide +kernel
theorem dX10_not_33 : decode cX10_not 33 = .ok (.dup, 1) := by decide +kernel
theorem dX10_not_34 : decode cX10_not 34 = .ok (.getfield 175, 3) := by decide +kernel
theorem dX10_not_37 : decode cX10_not 37 = .ok (.iconst 1, 1) := by decide +kernel
theorem dX10_not_38 : decode cX10_not 38 = .ok (.isub, 1) := by decide +kernel
theorem dX10_not_39 : decode cX10_not 39 = .ok (.putfield 175, 3) := by decide +kernel
theorem dX10_not_42 : decode cX10_not 42 = .ok (.iload_n 1, 1) := by decide +kernel
theorem dX10_not_43 : decode cX10_not 43 = .ok (.ifCond .ne 7, 3) := by decide +kernel
theorem dX10_not_46 : decode cX10_not 46 = .ok (.iconst 1, 1) := by decide +kernel
theorem dX10_not_47 : decode cX10_not 47 = .ok (.goto 4, 3) := by decide +kernel
theorem dX10_not_50 : decode cX10_not 50 = .ok (.iconst 0, 1) := by decide +kernel
theorem dX10_not_51 : decode cX10_not 51 = .ok (.ireturn, 1) := by decide +kernel
theorem dX10_not_52 : decode cX10_not 52 = .ok (.aload_n 0, 1) := by decide +kernel
theorem dX10_not_53 : decode cX10_not 53 = .ok (.invokevirtual 231, 3) := by decide +kernel
theorem dX10_not_56 : decode cX10_not 56 = .ok (.istore_n 1, 1) := by decide +kernel
theorem dX10_not_57 : decode cX10_not 57 = .ok (.aload_n 0, 1) := by decide +kernel
theorem dX10_not_58 : decode cX10_not 58 = .ok (.bipush 60, 2) := by decide +kernel
theorem dX10_not_60 : decode cX10_not 60 = .ok (.invokevirtual 206, 3) := by decide +kernel
theorem dX10_not_63 : decode cX10_not 63 = .ok (.ifCond .ne 14, 3) := by decide +kernel
theorem dX10_not_66 : decode cX10_not 66 = .ok (.aload_n 0, 1) := by decide +kernel
theorem dX10_not_67 : decode cX10_not 67 = .ok (.bipush 61, 2) := by decide +kernel
theorem dX10_not_69 : decode cX10_not 69 = .ok (.invokevirtual 206, 3) := by decide +kernel
theorem dX10_not_72 : decode cX10_not 72 = .ok (.ifCond .ne 5, 3) := by decide +kernel
theorem dX10_not_75 : decode cX10_not 75 = .ok (.iload_n 1, 1) := by decide +kernel
theorem dX10_not_76 : decode cX10_not 76 = .ok (.ireturn, 1) := by decide +kernel
theorem dX10_not_77 : decode cX10_not 77 = .ok (.aload_n 0, 1) := by decide +kernel
theorem dX10_not_78 : decode cX10_not 78 = .ok (.getfield 158, 3) := by decide +kernel
theorem dX10_not_81 : decode cX10_not 81 = .ok (.ldc2_w 234, 3) := by decide +kernel
theorem dX10_not_84 : decode cX10_not 84 = .ok (.lcmp, 1) := by decide +kernel
theorem dX10_not_85 : decode cX10_not 85 = .ok (.ifCond .ne 7, 3) := by decide +kernel
theorem dX10_not_88 : decode cX10_not 88 = .ok (.iconst 1, 1) := by decide +kernel
theorem dX10_not_89 : decode cX10_not 89 = .ok (.goto 4, 3) := by decide +kernel
theorem dX10_not_92 : decode cX10_not 92 = .ok (.iconst 0, 1) := by decide +kernel
theorem dX10_not_93 : decode cX10_not 93 = .ok (.istore_n 2, 1) := by decide +kernel
theorem dX10_not_94 : decode cX10_not 94 = .ok (.aload_n 0, 1) := by decide +kernel
theorem dX10_not_95 : decode cX10_not 95 = .ok (.invokevirtual 181, 3) := by decide +kernel
theorem dX10_not_98 : decode cX10_not 98 = .ok (.aload_n 0, 1) := by decide +kernel
theorem dX10_not_99 : decode cX10_not 99 = .ok (.invokevirtual 231, 3) := by decide +kernel
theorem dX10_not_102 : decode cX10_not 102 = .ok (.istore_n 3, 1) := by decide +kernel
theorem dX10_not_103 : decode cX10_not 103 = .ok (.iload_n 2, 1) := by decide +kernel
theorem dX10_not_104 : decode cX10_not 104 = .ok (.ifCond .eq 11, 3) := by decide +kernel
theorem dX10_not_107 : decode cX10_not 107 = .ok (.iload_n 1, 1) := by decide +kernel
theorem dX10_not_108 : decode cX10_not 108 = .ok (.iload_n 3, 1) := by decide +kernel
theorem dX10_not_109 : decode cX10_not 109 = .ok (.if_icmp .ge 15, 3) := by decide +kernel
theorem dX10_not_112 : decode cX10_not 112 = .ok (.goto 8, 3) := by decide +kernel
theorem dX10_not_115 : decode cX10_not 115 = .ok (.iload_n 1, 1) := by decide +kernel
theorem dX10_not_116 : decode cX10_not 116 = .ok (.iload_n 3, 1) := by decide +kernel
theorem dX10_not_117 : decode cX10_not 117 = .ok (.if_icmp .ne 7, 3) := by decide +kernel
theorem dX10_not_120 : decode cX10_not 120 = .ok (.iconst 1, 1) := by decide +kernel
theorem dX10_not_121 : decode cX10_not 121 = .ok (.goto 4, 3) := by decide +kernel
theorem dX10_not_124 : decode cX10_not 124 = .ok (.iconst 0, 1) := by decide +kernel
theorem dX10_not_125 : decode cX10_not 125 = .ok (.ireturn, 1) := by decide +kernel
theorem dX10_both_0 : decode cX10_both 0 = .ok (.aload_n 0, 1) := by decide +kernel
theorem dX10_both_1 : decode cX10_both 1 = .ok (.invokevirtual 228, 3) := by decide +kernel
theorem dX10_both_4 : decode cX10_both 4 = .ok (.istore_n 1, 1) := by decide +kernel
theorem dX10_both_5 : decode cX10_both 5 = .ok (.aload_n 0, 1) := by decide +kernel
theorem dX10_both_6 : decode cX10_both 6 = .ok (.bipush 97, 2) := by decide +kernel
theorem dX10_both_8 : decode cX10_both 8 = .ok (.bipush 110, 2) := by decide +kernel
theorem dX10_both_10 : decode cX10_both 10 = .ok (.bipush 100, 2) := by decide +kernel
theorem dX10_both_12 : decode cX10_both 12 = .ok (.iconst 0, 1) := by decide +kernel
theorem dX10_both_13 : decode cX10_both 13 = .ok (.iconst 0, 1) := by decide +kernel
theorem dX10_both_14 : decode cX10_both 14 = .ok (.iconst 0, 1) := by decide +kernel
theorem dX10_both_15 : decode cX10_both 15 = .ok (.iconst 0, 1) := by decide +kernel
theorem dX10_both_16 : decode cX10_both 16 = .ok (.iconst 0, 1) := by decide +kernel
theorem dX10_both_17 : decode cX10_both 17 = .ok (.invokevirtual 184, 3) := by decide +kernel
theorem dX10_both_20 : decode cX10_both 20 = .ok (.ifCond .eq 29, 3) := by decide +kernel
theorem dX10_both_23 : decode cX10_both 23 = .ok (.aload_n 0, 1) := by decide +kernel
theorem dX10_both_24 : decode cX10_both 24 = .ok (.invokevirtual 181, 3) := by decide +kernel
theorem dX10_both_27 : decode cX10_both 27 = .ok (.aload_n 0, 1) := by decide +kernel
theorem dX10_both_28 : decode cX10_both 28 = .ok (.invokevirtual 228, 3) := by decide +kernel
theorem dX10_both_31 : decode cX10_both 31 = .ok (.istore_n 2, 1) := by decide +kernel
theorem dX10_both_32 : decode cX10_both 32 = .ok (.iload_n 1, 1) := by decide +kernel
theorem dX10_both_33 : decode cX10_both 33 = .ok (.ifCond .eq 11, 3) := by decide +kernel
theorem dX10_both_36 : decode cX10_both 36 = .ok (.iload_n 2, 1) := by decide +kernel
theorem dX10_both_37 : decode cX10_both 37 = .ok (.ifCond .eq 7, 3) := by decide +kernel
theorem dX10_both_40 : decode cX10_both 40 = .ok (.iconst 1, 1) := by decide +kernel
theorem dX10_both_41 : decode cX10_both 41 = .ok (.goto 4, 3) := by decide +kernel
theorem dX10_both_44 : decode cX10_both 44 = .ok (.iconst 0, 1) := by decide +kernel
theorem dX10_both_45 : decode cX10_both 45 = .ok (.istore_n 1, 1) := by decide +kernel
theorem dX10_both_46 : decode cX10_both 46 = .ok (.goto (-41), 3) := by decide +kernel
theorem dX10_both_49 : decode cX10_both 49 = .ok (.iload_n 1, 1) := by decide +kernel
theorem dX10_both_50 : decode cX10_both 50 = .ok (.ireturn, 1) := by decide +kernel
theorem dX10_either_0 : decode cX10_either 0 = .ok (.aload_n 0, 1) := by decide +kernel
theorem dX10_either_1 : decode cX10_either 1 = .ok (.invokevirtual 236, 3) := by decide +kernel
theorem dX10_either_4 : decode cX10_either 4 = .ok (.istore_n 1, 1) := by decide +kernel
theorem dX10_either_5 : decode cX10_either 5 = .ok (.aload_n 0, 1) := by decide +kernel
theorem dX10_either_6 : decode cX10_either 6 = .ok (.bipush 111, 2) := by decide +kernel
theorem dX10_either_8 : decode cX10_either 8 = .ok (.bipush 114, 2) := by decide +kernel
theorem dX10_either_10 : decode cX10_either 10 = .ok (.iconst 0, 1) := by decide +kernel
theorem dX10_either_11 : decode cX10_either 11 = .ok (.iconst 0, 1) := by decide +kernel
theorem dX10_either_12 : decode cX10_either 12 = .ok (.iconst 0, 1) := by decide +kernel
theorem dX10_either_13 : decode cX10_either 13 = .ok (.iconst 0, 1) := by decide +kernel
theorem dX10_either_14 : decode cX10_either 14 = .ok (.iconst 0, 1) := by decide +kernel
theorem dX10_either_15 : decode cX10_either 15 = .ok (.iconst 0, 1) := by decide +kernel
theorem dX10_either_16 : decode cX10_either 16 = .ok (.invokevirtual 184, 3) := by decide +kernel
theorem dX10_either_19 : decode cX10_either 19 = .ok (.ifCond .eq 29, 3) := by decide +kernel
theorem dX10_either_22 : decode cX10_either 22 = .ok (.aload_n 0, 1) := by decide +kernel
theorem dX10_either_23 : decode cX10_either 23 = .ok (.invokevirtual 181, 3) := by decide +kernel
theorem dX10_either_26 : decode cX10_either 26 = .ok (.aload_n 0, 1) := by decide +kernel
theorem dX10_either_27 : decode cX10_either 27 = .ok (.invokevirtual 236, 3) := by decide +kernel
theorem dX10_either_30 : decode cX10_either 30 = .ok (.istore_n 2, 1) := by decide +kernel
theorem dX10_either_31 : decode cX10_either 31 = .ok (.iload_n 1, 1) := by decide +kernel
theorem dX10_either_32 : decode cX10_either 32 = .ok (.ifCond .ne 7, 3) := by decide +kernel
theorem dX10_either_35 : decode cX10_either 35 = .ok (.iload_n 2, 1) := by decide +kernel
theorem dX10_either_36 : decode cX10_either 36 = .ok (.ifCond .eq 7, 3) := by decide +kernel
theorem dX10_either_39 : decode cX10_either 39 = .ok (.iconst 1, 1) := by decide +kernel
theorem dX10_either_40 : decode cX10_either 40 = .ok (.goto 4, 3) := by decide +kernel
theorem dX10_either_43 : decode cX10_either 43 = .ok (.iconst 0, 1) := by decide +kernel
theorem dX10_either_44 : decode cX10_either 44 = .ok (.istore_n 1, 1) := by decide +kernel
theorem dX10_either_45 : decode cX10_either 45 = .ok (.goto (-40), 3) := by decide +kernel
theorem dX10_either_48 : decode cX10_either 48 = .ok (.iload_n 1, 1) := by decide +kernel
theorem dX10_either_49 : decode cX10_either 49 = .ok (.ireturn, 1) := by decide +kernel
theorem dX10_part_0 : decode cX10_part 0 = .ok (.iload_n 1, 1) := by decide +kernel
theorem dX10_part_1 : decode cX10_part 1 = .ok (.ifCond .ne 7, 3) := by decide +kernel
theorem dX10_part_4 : decode cX10_part 4 = .ok (.aload_n 0, 1) := by decide +kernel
theorem dX10_part_5 : decode cX10_part 5 = .ok (.invokevirtual 178, 3) := by decide +kernel
theorem dX10_part_8 : decode cX10_part 8 = .ok (.aload_n 0, 1) := by decide +kernel
theorem dX10_part_9 : decode cX10_part 9 = .ok (.getfield 164, 3) := by decide +kernel
theorem dX10_part_12 : decode cX10_part 12 = .ok (.ifCond .ne 7, 3) := by decide +kernel
theorem dX10_part_15 : decode cX10_part 15 = .ok (.aload_n 0, 1) := by decide +kernel
theorem dX10_part_16 : decode cX10_part 16 = .ok (.invokevirtual 181, 3) := by decide +kernel
theorem dX10_part_19 : decode cX10_part 19 = .ok (.aload_n 0, 1) := by decide +kernel
theorem dX10_part_20 : decode cX10_part 20 = .ok (.getfield 164, 3) := by decide +kernel
theorem dX10_part_23 : decode cX10_part 23 = .ok (.ifCond .eq 7, 3) := by decide +kernel
theorem dX10_part_26 : decode cX10_part 26 = .ok (.iconst 0, 1) := by decide +kernel
theorem dX10_part_27 : decode cX10_part 27 = .ok (.goto 7, 3) := by decide +kernel
theorem dX10_part_30 : decode cX10_part 30 = .ok (.aload_n 0, 1) := by decide +kernel
theorem dX10_part_31 : decode cX10_part 31 = .ok (.invokevirtual 217, 3) := by decide +kernel
theorem dX10_part_34 : decode cX10_part 34 = .ok (.istore_n 2, 1) := by decide +kernel
theorem dX10_part_35 : decode cX10_part 35 = .ok (.aload_n 0, 1) := by decide +kernel
theorem dX10_part_36 : decode cX10_part 36 = .ok (.bipush 59, 2) := by decide +kernel
theorem dX10_part_38 : decode cX10_part 38 = .ok (.invokevirtual 206, 3) := by decide +kernel
theorem dX10_part_41 : decode cX10_part 41 = .ok (.ifCond .ne 7, 3) := by decide +kernel
theorem dX10_part_44 : decode cX10_part 44 = .ok (.aload_n 0, 1) := by decide +kernel
theorem dX10_part_45 : decode cX10_part 45 = .ok (.invokevirtual 178, 3) := by decide +kernel
theorem dX10_part_48 : decode cX10_part 48 = .ok (.aload_n 0, 1) := by decide +kernel
theorem dX10_part_49 : decode cX10_part 49 = .ok (.getfield 164, 3) := by decide +kernel
theorem dX10_part_52 : decode cX10_part 52 = .ok (.ifCond .ne 7, 3) := by decide +kernel
theorem dX10_part_55 : decode cX10_part 55 = .ok (.aload_n 0, 1) := by decide +kernel
theorem dX10_part_56 : decode cX10_part 56 = .ok (.invokevirtual 181, 3) := by decide +kernel
theorem dX10_part_59 : decode cX10_part 59 = .ok (.iload_n 2, 1) := by decide +kernel
theorem dX10_part_60 : decode cX10_part 60 = .ok (.ireturn, 1) := by decide +kernel
theorem dX10_read_0 : decode cX10_read 0 = .ok (.aload_n 0, 1) := by decide +kernel
theorem dX10_read_1 : decode cX10_read 1 = .ok (.sipush 160, 3) := by decide +kernel
theorem dX10_read_4 : decode cX10_read 4 = .ok (.iload_n 1, 1) := by decide +kernel
theorem dX10_read_5 : decode cX10_read 5 = .ok (.imul, 1) := by decide +kernel
theorem dX10_read_6 : decode cX10_read 6 = .ok (.putfield 135, 3) := by decide +kernel
theorem dX10_read_9 : decode cX10_read 9 = .ok (.aload_n 0, 1) := by decide +kernel
theorem dX10_read_10 : decode cX10_read 10 = .ok (.aload_n 0, 1) := by decide +kernel
theorem dX10_read_11 : decode cX10_read 11 = .ok (.getfield 17, 3) := by decide +kernel
theorem dX10_read_14 : decode cX10_read 14 = .ok (.iload_n 1, 1) := by decide +kernel
theorem dX10_read_15 : decode cX10_read 15 = .ok (.iaload, 1) := by decide +kernel
theorem dX10_read_16 : decode cX10_read 16 = .ok (.putfield 132, 3) := by decide +kernel
theorem dX10_read_19 : decode cX10_read 19 = .ok (.aload_n 0, 1) := by decide +kernel
theorem dX10_read_20 : decode cX10_read 20 = .ok (.iconst 0, 1) := by decide +kernel
theorem dX10_read_21 : decode cX10_read 21 = .ok (.putfield 138, 3) := by decide +kernel
theorem dX10_read_24 : decode cX10_read 24 = .ok (.aload_n 0, 1) := by decide +kernel
theorem dX10_read_25 : decode cX10_read 25 = .ok (.iconst 0, 1) := by decide +kernel
theorem dX10_read_26 : decode cX10_read 26 = .ok (.putfield 175, 3) := by decide +kernel
theorem dX10_read_29 : decode cX10_read 29 = .ok (.aload_n 0, 1) := by decide +kernel
theorem dX10_read_30 : decode cX10_read 30 = .ok (.iconst 0, 1) := by decide +kernel
theorem dX10_read_31 : decode cX10_read 31 = .ok (.putfield 164, 3) := by decide +kernel
theorem dX10_read_34 : decode cX10_read 34 = .ok (.aload_n 0, 1) := by decide +kernel
theorem dX10_read_35 : decode cX10_read 35 = .ok (.invokevirtual 181, 3) := by decide +kernel
theorem dX10_read_38 : decode cX10_read 38 = .ok (.aload_n 0, 1) := by decide +kernel
theorem dX10_read_39 : decode cX10_read 39 = .ok (.aload_n 0, 1) := by decide +kernel
theorem dX10_read_40 : decode cX10_read 40 = .ok (.bipush 119, 2) := by decide +kernel
theorem dX10_read_42 : decode cX10_read 42 = .ok (.bipush 97, 2) := by decide +kernel
theorem dX10_read_44 : decode cX10_read 44 = .ok (.bipush 114, 2) := by decide +kernel
theorem dX10_read_46 : decode cX10_read 46 = .ok (.bipush 109, 2) := by decide +kernel
theorem dX10_read_48 : decode cX10_read 48 = .ok (.bipush 115, 2) := by decide +kernel
theorem dX10_read_50 : decode cX10_read 50 = .ok (.iconst 0, 1) := by decide +kernel
theorem dX10_read_51 : decode cX10_read 51 = .ok (.iconst 0, 1) := by decide +kernel
theorem dX10_read_52 : decode cX10_read 52 = .ok (.iconst 0, 1) := by decide +kernel
theorem dX10_read_53 : decode cX10_read 53 = .ok (.invokevirtual 184, 3) := by decide +kernel
theorem dX10_read_56 : decode cX10_read 56 = .ok (.invokevirtual 239, 3) := by decide +kernel
theorem dX10_read_59 : decode cX10_read 59 = .ok (.istore_n 3, 1) := by decide +kernel
theorem dX10_read_60 : decode cX10_read 60 = .ok (.aload_n 0, 1) := by decide +kernel
theorem dX10_read_61 : decode cX10_read 61 = .ok (.getfield 164, 3) := by decide +kernel
theorem dX10_read_64 : decode cX10_read 64 = .ok (.ifCond .eq 7, 3) := by decide +kernel
theorem dX10_read_67 : decode cX10_read 67 = .ok (.iconst 0, 1) := by decide +kernel
theorem dX10_read_68 : decode cX10_read 68 = .ok (.goto 24, 3) := by decide +kernel
theorem dX10_read_71 : decode cX10_read 71 = .ok (.aload_n 0, 1) := by decide +kernel
theorem dX10_read_72 : decode cX10_read 72 = .ok (.aload_n 0, 1) := by decide +kernel
theorem dX10_read_73 : decode cX10_read 73 = .ok (.bipush 99, 2) := by decide +kernel
theorem dX10_read_75 : decode cX10_read 75 = .ok (.bipush 111, 2) := by decide +kernel
theorem dX10_read_77 : decode cX10_read 77 = .ok (.bipush 111, 2) := by decide +kernel
theorem dX10_read_79 : decode cX10_read 79 = .ok (.bipush 108, 2) := by decide +kernel
theorem dX10_read_81 : decode cX10_read 81 = .ok (.bipush 115, 2) := by decide +kernel
theorem dX10_read_83 : decode cX10_read 83 = .ok (.iconst 0, 1) := by decide +kernel
theorem dX10_read_84 : decode cX10_read 84 = .ok (.iconst 0, 1) := by decide +kernel
theorem dX10_read_85 : decode cX10_read 85 = .ok (.iconst 0, 1) := by decide +kernel
theorem dX10_read_86 : decode cX10_read 86 = .ok (.invokevirtual 184, 3) := by decide +kernel
theorem dX10_read_89 : decode cX10_read 89 = .ok (.invokevirtual 239, 3) := by decide +kernel
theorem dX10_read_92 : decode cX10_read 92 = .ok (.istore 4, 2) := by decide +kernel
theorem dX10_read_94 : decode cX10_read 94 = .ok (.aload_n 0, 1) := by decide +kernel
theorem dX10_read_95 : decode cX10_read 95 = .ok (.getfield 164, 3) := by decide +kernel
theorem dX10_read_98 : decode cX10_read 98 = .ok (.ifCond .eq 7, 3) := by decide +kernel
theorem dX10_read_101 : decode cX10_read 101 = .ok (.iconst 0, 1) := by decide +kernel
theorem dX10_read_102 : decode cX10_read 102 = .ok (.goto 26, 3) := by decide +kernel
theorem dX10_read_105 : decode cX10_read 105 = .ok (.aload_n 0, 1) := by decide +kernel
theorem dX10_read_106 : decode cX10_read 106 = .ok (.aload_n 0, 1) := by decide +kernel
theorem dX10_read_107 : decode cX10_read 107 = .ok (.bipush 115, 2) := by decide +kernel
theorem dX10_read_109 : decode cX10_read 109 = .ok (.bipush 99, 2) := by decide +kernel
theorem dX10_read_111 : decode cX10_read 111 = .ok (.bipush 114, 2) := by decide +kernel
theorem dX10_read_113 : decode cX10_read 113 = .ok (.bipush 101, 2) := by decide +kernel
theorem dX10_read_115 : decode cX10_read 115 = .ok (.bipush 97, 2) := by decide +kernel
theorem dX10_read_117 : decode cX10_read 117 = .ok (.bipush 109, 2) := by decide +kernel
theorem dX10_read_119 : decode cX10_read 119 = .ok (.bipush 115, 2) := by decide +kernel
theorem dX10_read_121 : decode cX10_read 121 = .ok (.iconst 0, 1) := by decide +kernel
theorem dX10_read_122 : decode cX10_read 122 = .ok (.invokevirtual 184, 3) := by decide +kernel
theorem dX10_read_125 : decode cX10_read 125 = .ok (.invokevirtual 239, 3) := by decide +kernel
theorem dX10_read_128 : decode cX10_read 128 = .ok (.istore 5, 2) := by decide +kernel
theorem dX10_read_130 : decode cX10_read 130 = .ok (.aload_n 0, 1) := by decide +kernel
theorem dX10_read_131 : decode cX10_read 131 = .ok (.getfield 164, 3) := by decide +kernel
theorem dX10_read_134 : decode cX10_read 134 = .ok (.ifCond .ne 14, 3) := by decide +kernel
theorem dX10_read_137 : decode cX10_read 137 = .ok (.aload_n 0, 1) := by decide +kernel
theorem dX10_read_138 : decode cX10_read 138 = .ok (.getfield 147, 3) := by decide +kernel
theorem dX10_read_141 : decode cX10_read 141 = .ok (.ifCond .eq 7, 3) := by decide +kernel
theorem dX10_read_144 : decode cX10_read 144 = .ok (.aload_n 0, 1) := by decide +kernel
theorem dX10_read_145 : decode cX10_read 145 = .ok (.invokevirtual 178, 3) := by decide +kernel
theorem dX10_read_148 : decode cX10_read 148 = .ok (.iload_n 2, 1) := by decide +kernel
theorem dX10_read_149 : decode cX10_read 149 = .ok (.ifCond .ne 7, 3) := by decide +kernel
theorem dX10_read_152 : decode cX10_read 152 = .ok (.iload_n 3, 1) := by decide +kernel
theorem dX10_read_153 : decode cX10_read 153 = .ok (.goto 15, 3) := by decide +kernel
theorem dX10_read_156 : decode cX10_read 156 = .ok (.iload_n 2, 1) := by decide +kernel
theorem dX10_read_157 : decode cX10_read 157 = .ok (.iconst 1, 1) := by decide +kernel
theorem dX10_read_158 : decode cX10_read 158 = .ok (.if_icmp .ne 8, 3) := by decide +kernel
theorem dX10_read_161 : decode cX10_read 161 = .ok (.iload 4, 2) := by decide +kernel
theorem dX10_read_163 : decode cX10_read 163 = .ok (.goto 5, 3) := by decide +kernel
theorem dX10_read_166 : decode cX10_read 166 = .ok (.iload 5, 2) := by decide +kernel
theorem dX10_read_168 : decode cX10_read 168 = .ok (.ireturn, 1) := by decide +kernel
theorem dX10_text_0 : decode cX10_text 0 = .ok (.aload_n 0, 1) := by decide +kernel
theorem dX10_text_1 : decode cX10_text 1 = .ok (.getfield 76, 3) := by decide +kernel
theorem dX10_text_4 : decode cX10_text 4 = .ok (.bipush 6, 2) := by decide +kernel
theorem dX10_text_6 : decode cX10_text 6 = .ok (.if_icmp .ne 6, 3) := by decide +kernel
theorem dX10_text_9 : decode cX10_text 9 = .ok (.bipush (-4), 2) := by decide +kernel
theorem dX10_text_11 : decode cX10_text 11 = .ok (.ireturn, 1) := by decide +kernel
theorem dX10_text_12 : decode cX10_text 12 = .ok (.iconst 0, 1) := by decide +kernel
theorem dX10_text_13 : decode cX10_text 13 = .ok (.istore_n 1, 1) := by decide +kernel
theorem dX10_text_14 : decode cX10_text 14 = .ok (.iload_n 1, 1) := by decide +kernel
theorem dX10_text_15 : decode cX10_text 15 = .ok (.aload_n 0, 1) := by decide +kernel
theorem dX10_text_16 : decode cX10_text 16 = .ok (.getfield 129, 3) := by decide +kernel
theorem dX10_text_19 : decode cX10_text 19 = .ok (.if_icmp .ge 30, 3) := by decide +kernel
theorem dX10_text_22 : decode cX10_text 22 = .ok (.aload_n 0, 1) := by decide +kernel
theorem dX10_text_23 : decode cX10_text 23 = .ok (.getfield 13, 3) := by decide +kernel
theorem dX10_text_26 : decode cX10_text 26 = .ok (.sipush 160, 3) := by decide +kernel
theorem dX10_text_29 : decode cX10_text 29 = .ok (.aload_n 0, 1) := by decide +kernel
theorem dX10_text_30 : decode cX10_text 30 = .ok (.getfield 76, 3) := by decide +kernel
theorem dX10_text_33 : decode cX10_text 33 = .ok (.imul, 1) := by decide +kernel
theorem dX10_text_34 : decode cX10_text 34 = .ok (.iload_n 1, 1) := by decide +kernel
theorem dX10_text_35 : decode cX10_text 35 = .ok (.iadd, 1) := by decide +kernel
theorem dX10_text_36 : decode cX10_text 36 = .ok (.aload_n 0, 1) := by decide +kernel
theorem dX10_text_37 : decode cX10_text 37 = .ok (.getfield 20, 3) := by decide +kernel
theorem dX10_text_40 : decode cX10_text 40 = .ok (.iload_n 1, 1) := by decide +kernel
theorem dX10_text_41 : decode cX10_text 41 = .ok (.iaload, 1) := by decide +kernel
theorem dX10_text_42 : decode cX10_text 42 = .ok (.iastore, 1) := by decide +kernel
theorem dX10_text_43 : decode cX10_text 43 = .ok (.iinc 1 1, 3) := by decide +kernel
theorem dX10_text_46 : decode cX10_text 46 = .ok (.goto (-32), 3) := by decide +kernel
theorem dX10_text_49 : decode cX10_text 49 = .ok (.aload_n 0, 1) := by decide +kernel
theorem dX10_text_50 : decode cX10_text 50 = .ok (.getfield 17, 3) := by decide +kernel
theorem dX10_text_53 : decode cX10_text 53 = .ok (.aload_n 0, 1) := by decide +kernel
theorem dX10_text_54 : decode cX10_text 54 = .ok (.getfield 76, 3) := by decide +kernel
theorem dX10_text_57 : decode cX10_text 57 = .ok (.aload_n 0, 1) := by decide +kernel
theorem dX10_text_58 : decode cX10_text 58 = .ok (.getfield 129, 3) := by decide +kernel
theorem dX10_text_61 : decode cX10_text 61 = .ok (.iastore, 1) := by decide +kernel
theorem dX10_text_62 : decode cX10_text 62 = .ok (.aload_n 0, 1) := by decide +kernel
theorem dX10_text_63 : decode cX10_text 63 = .ok (.iconst 0, 1) := by decide +kernel
theorem dX10_text_64 : decode cX10_text 64 = .ok (.putfield 129, 3) := by decide +kernel
theorem dX10_text_67 : decode cX10_text 67 = .ok (.aload_n 0, 1) := by decide +kernel
theorem dX10_text_68 : decode cX10_text 68 = .ok (.aload_n 0, 1) := by decide +kernel
theorem dX10_text_69 : decode cX10_text 69 = .ok (.getfield 76, 3) := by decide +kernel
theorem dX10_text_72 : decode cX10_text 72 = .ok (.iconst 0, 1) := by decide +kernel
theorem dX10_text_73 : decode cX10_text 73 = .ok (.invokevirtual 243, 3) := by decide +kernel
theorem dX10_text_76 : decode cX10_text 76 = .ok (.istore_n 1, 1) := by decide +kernel
theorem dX10_text_77 : decode cX10_text 77 = .ok (.aload_n 0, 1) := by decide +kernel
theorem dX10_text_78 : decode cX10_text 78 = .ok (.getfield 164, 3) := by decide +kernel
theorem dX10_text_81 : decode cX10_text 81 = .ok (.ifCond .eq 11, 3) := by decide +kernel
theorem dX10_text_84 : decode cX10_text 84 = .ok (.bipush (-100), 2) := by decide +kernel
theorem dX10_text_86 : decode cX10_text 86 = .ok (.aload_n 0, 1) := by decide +kernel
theorem dX10_text_87 : decode cX10_text 87 = .ok (.getfield 168, 3) := by decide +kernel
theorem dX10_text_90 : decode cX10_text 90 = .ok (.isub, 1) := by decide +kernel
theorem dX10_text_91 : decode cX10_text 91 = .ok (.ireturn, 1) := by decide +kernel
theorem dX10_text_92 : decode cX10_text 92 = .ok (.aload_n 0, 1) := by decide +kernel
theorem dX10_text_93 : decode cX10_text 93 = .ok (.dup, 1) := by decide +kernel
theorem dX10_text_94 : decode cX10_text 94 = .ok (.getfield 76, 3) := by decide +kernel
theorem dX10_text_97 : decode cX10_text 97 = .ok (.iconst 1, 1) := by decide +kernel
theorem dX10_text_98 : decode cX10_text 98 = .ok (.iadd, 1) := by decide +kernel
theorem dX10_text_99 : decode cX10_text 99 = .ok (.putfield 76, 3) := by decide +kernel
theorem dX10_text_102 : decode cX10_text 102 = .ok (.aload_n 0, 1) := by decide +kernel
theorem dX10_text_103 : decode cX10_text 103 = .ok (.getfield 76, 3) := by decide +kernel
theorem dX10_text_106 : decode cX10_text 106 = .ok (.iconst 1, 1) := by decide +kernel
theorem dX10_text_107 : decode cX10_text 107 = .ok (.isub, 1) := by decide +kernel
theorem dX10_text_108 : decode cX10_text 108 = .ok (.ireturn, 1) := by decide +kernel
theorem dX10_force_0 : decode cX10_force 0 = .ok (.iload_n 1, 1) := by decide +kernel
theorem dX10_force_1 : decode cX10_force 1 = .ok (.i2l, 1) := by decide +kernel
theorem dX10_force_2 : decode cX10_force 2 = .ok (.lconst 0, 1) := by decide +kernel
theorem dX10_force_3 : decode cX10_force 3 = .ok (.aload_n 0, 1) := by decide +kernel
theorem dX10_force_4 : decode cX10_force 4 = .ok (.getfield 76, 3) := by decide +kernel
theorem dX10_force_7 : decode cX10_force 7 = .ok (.iconst 1, 1) := by decide +kernel
theorem dX10_force_8 : decode cX10_force 8 = .ok (.isub, 1) := by decide +kernel
theorem dX10_force_9 : decode cX10_force 9 = .ok (.i2l, 1) := by decide +kernel
theorem dX10_force_10 : decode cX10_force 10 = .ok (.invokestatic 82, 3) := by decide +kernel
theorem dX10_force_13 : decode cX10_force 13 = .ok (.ifCond .ne 6, 3) := by decide +kernel
theorem dX10_force_16 : decode cX10_force 16 = .ok (.bipush (-2), 2) := by decide +kernel
theorem dX10_force_18 : decode cX10_force 18 = .ok (.ireturn, 1) := by decide +kernel
theorem dX10_force_19 : decode cX10_force 19 = .ok (.aload_n 0, 1) := by decide +kernel
theorem dX10_force_20 : decode cX10_force 20 = .ok (.getfield 104, 3) := by decide +kernel
theorem dX10_force_23 : decode cX10_force 23 = .ok (.istore_n 2, 1) := by decide +kernel
theorem dX10_force_24 : decode cX10_force 24 = .ok (.aload_n 0, 1) := by decide +kernel
theorem dX10_force_25 : decode cX10_force 25 = .ok (.iload_n 1, 1) := by decide +kernel
theorem dX10_force_26 : decode cX10_force 26 = .ok (.putfield 104, 3) := by decide +kernel
theorem dX10_force_29 : decode cX10_force 29 = .ok (.iload_n 2, 1) := by decide +kernel
theorem dX10_force_30 : decode cX10_force 30 = .ok (.ireturn, 1) := by decide +kernel
theorem dX10_begins_0 : decode cX10_begins 0 = .ok (.aload_n 0, 1) := by decide +kernel
theorem dX10_begins_1 : decode cX10_begins 1 = .ok (.getfield 35, 3) := by decide +kernel
theorem dX10_begins_4 : decode cX10_begins 4 = .ok (.iconst 0, 1) := by decide +kernel
theorem dX10_begins_5 : decode cX10_begins 5 = .ok (.aload_n 0, 1) := by decide +kernel
theorem dX10_begins_6 : decode cX10_begins 6 = .ok (.getfield 23, 3) := by decide +kernel
theorem dX10_begins_9 : decode cX10_begins 9 = .ok (.iconst 0, 1) := by decide +kernel
theorem dX10_begins_10 : decode cX10_begins 10 = .ok (.iaload, 1) := by decide +kernel
theorem dX10_begins_11 : decode cX10_begins 11 = .ok (.iastore, 1) := by decide +kernel
theorem dX10_begins_12 : decode cX10_begins 12 = .ok (.return_, 1) := by decide +kernel
theorem dX10_topicOf_0 : decode cX10_topicOf 0 = .ok (.aload_n 0, 1) := by decide +kernel
theorem dX10_topicOf_1 : decode cX10_topicOf 1 = .ok (.getfield 29, 3) := by decide +kernel
theorem dX10_topicOf_4 : decode cX10_topicOf 4 = .ok (.iconst 3, 1) := by decide +kernel
theorem dX10_topicOf_5 : decode cX10_topicOf 5 = .ok (.iload_n 1, 1) := by decide +kernel
theorem dX10_topicOf_6 : decode cX10_topicOf 6 = .ok (.imul, 1) := by decide +kernel
theorem dX10_topicOf_7 : decode cX10_topicOf 7 = .ok (.iconst 1, 1) := by decide +kernel
theorem dX10_topicOf_8 : decode cX10_topicOf 8 = .ok (.iadd, 1) := by decide +kernel
theorem dX10_topicOf_9 : decode cX10_topicOf 9 = .ok (.iaload, 1) := by decide +kernel
theorem dX10_topicOf_10 : decode cX10_topicOf 10 = .ok (.ireturn, 1) := by decide +kernel
theorem dX10_looks_0 : decode cX10_looks 0 = .ok (.aload_n 0, 1) := by decide +kernel
theorem dX10_looks_1 : decode cX10_looks 1 = .ok (.aload_n 0, 1) := by decide +kernel
theorem dX10_looks_2 : decode cX10_looks 2 = .ok (.iload_n 1, 1) := by decide +kernel
theorem dX10_looks_3 : decode cX10_looks 3 = .ok (.invokevirtual 246, 3) := by decide +kernel
theorem dX10_looks_6 : decode cX10_looks 6 = .ok (.putfield 188, 3) := by decide +kernel
theorem dX10_looks_9 : decode cX10_looks 9 = .ok (.aload_n 0, 1) := by decide +kernel
theorem dX10_looks_10 : decode cX10_looks 10 = .ok (.iload_n 2, 1) := by decide +kernel
theorem dX10_looks_11 : decode cX10_looks 11 = .ok (.ifCond .ne 8, 3) := by decide +kernel
theorem dX10_looks_14 : decode cX10_looks 14 = .ok (.bipush 8, 2) := by decide +kernel
theorem dX10_looks_16 : decode cX10_looks 16 = .ok (.goto 15, 3) := by decide +kernel
theorem dX10_looks_19 : decode cX10_looks 19 = .ok (.aload_n 0, 1) := by decide +kernel
theorem dX10_looks_20 : decode cX10_looks 20 = .ok (.aload_n 0, 1) := by decide +kernel
theorem dX10_looks_21 : decode cX10_looks 21 = .ok (.getfield 32, 3) := by decide +kernel
theorem dX10_looks_24 : decode cX10_looks 24 = .ok (.iload_n 2, 1) := by decide +kernel
theorem dX10_looks_25 : decode cX10_looks 25 = .ok (.iconst 1, 1) := by decide +kernel
theorem dX10_looks_26 : decode cX10_looks 26 = .ok (.isub, 1) := by decide +kernel
theorem dX10_looks_27 : decode cX10_looks 27 = .ok (.iaload, 1) := by decide +kernel
theorem dX10_looks_28 : decode cX10_looks 28 = .ok (.invokevirtual 246, 3) := by decide +kernel
theorem dX10_looks_31 : decode cX10_looks 31 = .ok (.putfield 191, 3) := by decide +kernel
theorem dX10_looks_34 : decode cX10_looks 34 = .ok (.aload_n 0, 1) := by decide +kernel
theorem dX10_looks_35 : decode cX10_looks 35 = .ok (.aload_n 0, 1) := by decide +kernel
theorem dX10_looks_36 : decode cX10_looks 36 = .ok (.getfield 35, 3) := by decide +kernel
theorem dX10_looks_39 : decode cX10_looks 39 = .ok (.iload_n 2, 1) := by decide +kernel
theorem dX10_looks_40 : decode cX10_looks 40 = .ok (.iaload, 1) := by decide +kernel
theorem dX10_looks_41 : decode cX10_looks 41 = .ok (.putfield 194, 3) := by decide +kernel
theorem dX10_looks_44 : decode cX10_looks 44 = .ok (.aload_n 0, 1) := by decide +kernel
theorem dX10_looks_45 : decode cX10_looks 45 = .ok (.aload_n 0, 1) := by decide +kernel
theorem dX10_looks_46 : decode cX10_looks 46 = .ok (.getfield 29, 3) := by decide +kernel
theorem dX10_looks_49 : decode cX10_looks 49 = .ok (.iconst 3, 1) := by decide +kernel
theorem dX10_looks_50 : decode cX10_looks 50 = .ok (.iload_n 1, 1) := by decide +kernel
theorem dX10_looks_51 : decode cX10_looks 51 = .ok (.imul, 1) := by decide +kernel
theorem dX10_looks_52 : decode cX10_looks 52 = .ok (.iaload, 1) := by decide +kernel
theorem dX10_looks_53 : decode cX10_looks 53 = .ok (.putfield 197, 3) := by decide +kernel
theorem dX10_looks_56 : decode cX10_looks 56 = .ok (.aload_n 0, 1) := by decide +kernel
theorem dX10_looks_57 : decode cX10_looks 57 = .ok (.iconst 0, 1) := by decide +kernel
theorem dX10_looks_58 : decode cX10_looks 58 = .ok (.putfield 200, 3) := by decide +kernel
theorem dX10_looks_61 : decode cX10_looks 61 = .ok (.iconst 0, 1) := by decide +kernel
theorem dX10_looks_62 : decode cX10_looks 62 = .ok (.istore_n 3, 1) := by decide +kernel
theorem dX10_looks_63 : decode cX10_looks 63 = .ok (.iload_n 3, 1) := by decide +kernel
theorem dX10_looks_64 : decode cX10_looks 64 = .ok (.iload_n 2, 1) := by decide +kernel
theorem dX10_looks_65 : decode cX10_looks 65 = .ok (.if_icmp .ge 40, 3) := by decide +kernel
theorem dX10_looks_68 : decode cX10_looks 68 = .ok (.aload_n 0, 1) := by decide +kernel
theorem dX10_looks_69 : decode cX10_looks 69 = .ok (.dup, 1) := by decide +kernel
theorem dX10_looks_70 : decode cX10_looks 70 = .ok (.getfield 200, 3) := by decide +kernel
theorem dX10_looks_73 : decode cX10_looks 73 = .ok (.aload_n 0, 1) := by decide +kernel
theorem dX10_looks_74 : decode cX10_looks 74 = .ok (.aload_n 0, 1) := by decide +kernel
theorem dX10_looks_75 : decode cX10_looks 75 = .ok (.getfield 32, 3) := by decide +kernel
theorem dX10_looks_78 : decode cX10_looks 78 = .ok (.iload_n 3, 1) := by decide +kernel
theorem dX10_looks_79 : decode cX10_looks 79 = .ok (.iaload, 1) := by decide +kernel
theorem dX10_looks_80 : decode cX10_looks 80 = .ok (.invokevirtual 246, 3) := by decide +kernel
theorem dX10_looks_83 : decode cX10_looks 83 = .ok (.aload_n 0, 1) := by decide +kernel
theorem dX10_looks_84 : decode cX10_looks 84 = .ok (.getfield 188, 3) := by decide +kernel
theorem dX10_looks_87 : decode cX10_looks 87 = .ok (.if_icmp .ne 7, 3) := by decide +kernel
theorem dX10_looks_90 : decode cX10_looks 90 = .ok (.iconst 1, 1) := by decide +kernel
theorem dX10_looks_91 : decode cX10_looks 91 = .ok (.goto 4, 3) := by decide +kernel
theorem dX10_looks_94 : decode cX10_looks 94 = .ok (.iconst 0, 1) := by decide +kernel
theorem dX10_looks_95 : decode cX10_looks 95 = .ok (.iadd, 1) := by decide +kernel
theorem dX10_looks_96 : decode cX10_looks 96 = .ok (.putfield 200, 3) := by decide +kernel
theorem dX10_looks_99 : decode cX10_looks 99 = .ok (.iinc 3 1, 3) := by decide +kernel
theorem dX10_looks_102 : decode cX10_looks 102 = .ok (.goto (-39), 3) := by decide +kernel
theorem dX10_looks_105 : decode cX10_looks 105 = .ok (.aload_n 0, 1) := by decide +kernel
theorem dX10_looks_106 : decode cX10_looks 106 = .ok (.iload_n 2, 1) := by decide +kernel
theorem dX10_looks_107 : decode cX10_looks 107 = .ok (.putfield 203, 3) := by decide +kernel
theorem dX10_looks_110 : decode cX10_looks 110 = .ok (.return_, 1) := by decide +kernel
theorem dX10_warmsOf_0 : decode cX10_warmsOf 0 = .ok (.aload_n 0, 1) := by decide +kernel
theorem dX10_warmsOf_1 : decode cX10_warmsOf 1 = .ok (.getfield 26, 3) := by decide +kernel
theorem dX10_warmsOf_4 : decode cX10_warmsOf 4 = .ok (.iload_n 1, 1) := by decide +kernel
theorem dX10_warmsOf_5 : decode cX10_warmsOf 5 = .ok (.iaload, 1) := by decide +kernel
theorem dX10_warmsOf_6 : decode cX10_warmsOf 6 = .ok (.istore_n 3, 1) := by decide +kernel
theorem dX10_warmsOf_7 : decode cX10_warmsOf 7 = .ok (.aload_n 0, 1) := by decide +kernel
theorem dX10_warmsOf_8 : decode cX10_warmsOf 8 = .ok (.aload_n 0, 1) := by decide +kernel
theorem dX10_warmsOf_9 : decode cX10_warmsOf 9 = .ok (.getfield 104, 3) := by decide +kernel
theorem dX10_warmsOf_12 : decode cX10_warmsOf 12 = .ok (.iconst 0, 1) := by decide +kernel
theorem dX10_warmsOf_13 : decode cX10_warmsOf 13 = .ok (.invokevirtual 243, 3) := by decide +kernel
theorem dX10_warmsOf_16 : decode cX10_warmsOf 16 = .ok (.bipush (-99), 2) := by decide +kernel
theorem dX10_warmsOf_18 : decode cX10_warmsOf 18 = .ok (.bipush 99, 2) := by decide +kernel
theorem dX10_warmsOf_20 : decode cX10_warmsOf 20 = .ok (.invokestatic 249, 3) := by decide +kernel
theorem dX10_warmsOf_23 : decode cX10_warmsOf 23 = .ok (.istore 4, 2) := by decide +kernel
theorem dX10_warmsOf_25 : decode cX10_warmsOf 25 = .ok (.aload_n 0, 1) := by decide +kernel
theorem dX10_warmsOf_26 : decode cX10_warmsOf 26 = .ok (.getfield 29, 3) := by decide +kernel
theorem dX10_warmsOf_29 : decode cX10_warmsOf 29 = .ok (.iconst 3, 1) := by decide +kernel
theorem dX10_warmsOf_30 : decode cX10_warmsOf 30 = .ok (.iload_n 1, 1) := by decide +kernel
theorem dX10_warmsOf_31 : decode cX10_warmsOf 31 = .ok (.imul, 1) := by decide +kernel
theorem dX10_warmsOf_32 : decode cX10_warmsOf 32 = .ok (.iconst 2, 1) := by decide +kernel
theorem dX10_warmsOf_33 : decode cX10_warmsOf 33 = .ok (.iadd, 1) := by decide +kernel
theorem dX10_warmsOf_34 : decode cX10_warmsOf 34 = .ok (.iaload, 1) := by decide +kernel
theorem dX10_warmsOf_35 : decode cX10_warmsOf 35 = .ok (.iconst 1, 1) := by decide +kernel
theorem dX10_warmsOf_36 : decode cX10_warmsOf 36 = .ok (.if_icmp .ne 8, 3) := by decide +kernel
theorem dX10_warmsOf_39 : decode cX10_warmsOf 39 = .ok (.iload 4, 2) := by decide +kernel
theorem dX10_warmsOf_41 : decode cX10_warmsOf 41 = .ok (.goto 6, 3) := by decide +kernel
theorem dX10_warmsOf_44 : decode cX10_warmsOf 44 = .ok (.iload 4, 2) := by decide +kernel
theorem dX10_warmsOf_46 : decode cX10_warmsOf 46 = .ok (.ineg, 1) := by decide +kernel
theorem dX10_warmsOf_47 : decode cX10_warmsOf 47 = .ok (.istore 5, 2) := by decide +kernel
theorem dX10_warmsOf_49 : decode cX10_warmsOf 49 = .ok (.iload_n 3, 1) := by decide +kernel
theorem dX10_warmsOf_50 : decode cX10_warmsOf 50 = .ok (.iconst 2, 1) := by decide +kernel
theorem dX10_warmsOf_51 : decode cX10_warmsOf 51 = .ok (.if_icmp .eq 8, 3) := by decide +kernel
theorem dX10_warmsOf_54 : decode cX10_warmsOf 54 = .ok (.iload_n 3, 1) := by decide +kernel
theorem dX10_warmsOf_55 : decode cX10_warmsOf 55 = .ok (.iconst 4, 1) := by decide +kernel
theorem dX10_warmsOf_56 : decode cX10_warmsOf 56 = .ok (.if_icmp .ne 49, 3) := by decide +kernel
theorem dX10_warmsOf_59 : decode cX10_warmsOf 59 = .ok (.iload 5, 2) := by decide +kernel
theorem dX10_warmsOf_61 : decode cX10_warmsOf 61 = .ok (.aload_n 0, 1) := by decide +kernel
theorem dX10_warmsOf_62 : decode cX10_warmsOf 62 = .ok (.getfield 29, 3) := by decide +kernel
theorem dX10_warmsOf_65 : decode cX10_warmsOf 65 = .ok (.iconst 3, 1) := by decide +kernel
theorem dX10_warmsOf_66 : decode cX10_warmsOf 66 = .ok (.iload_n 1, 1) := by decide +kernel
theorem dX10_warmsOf_67 : decode cX10_warmsOf 67 = .ok (.imul, 1) := by decide +kernel
theorem dX10_warmsOf_68 : decode cX10_warmsOf 68 = .ok (.iaload, 1) := by decide +kernel
theorem dX10_warmsOf_69 : decode cX10_warmsOf 69 = .ok (.iadd, 1) := by decide +kernel
theorem dX10_warmsOf_70 : decode cX10_warmsOf 70 = .ok (.istore 6, 2) := by decide +kernel
theorem dX10_warmsOf_72 : decode cX10_warmsOf 72 = .ok (.iload_n 3, 1) := by decide +kernel
theorem dX10_warmsOf_73 : decode cX10_warmsOf 73 = .ok (.iconst 2, 1) := by decide +kernel
theorem dX10_warmsOf_74 : decode cX10_warmsOf 74 = .ok (.if_icmp .ne 8, 3) := by decide +kernel
theorem dX10_warmsOf_77 : decode cX10_warmsOf 77 = .ok (.iload 6, 2) := by decide +kernel
theorem dX10_warmsOf_79 : decode cX10_warmsOf 79 = .ok (.goto 25, 3) := by decide +kernel
theorem dX10_warmsOf_82 : decode cX10_warmsOf 82 = .ok (.iload 6, 2) := by decide +kernel
theorem dX10_warmsOf_84 : decode cX10_warmsOf 84 = .ok (.iconst 2, 1) := by decide +kernel
theorem dX10_warmsOf_85 : decode cX10_warmsOf 85 = .ok (.idiv, 1) := by decide +kernel
theorem dX10_warmsOf_86 : decode cX10_warmsOf 86 = .ok (.aload_n 0, 1) := by decide +kernel
theorem dX10_warmsOf_87 : decode cX10_warmsOf 87 = .ok (.getfield 23, 3) := by decide +kernel
theorem dX10_warmsOf_90 : decode cX10_warmsOf 90 = .ok (.iconst 2, 1) := by decide +kernel
theorem dX10_warmsOf_91 : decode cX10_warmsOf 91 = .ok (.iaload, 1) := by decide +kernel
theorem dX10_warmsOf_92 : decode cX10_warmsOf 92 = .ok (.iconst 2, 1) := by decide +kernel
theorem dX10_warmsOf_93 : decode cX10_warmsOf 93 = .ok (.irem, 1) := by decide +kernel
theorem dX10_warmsOf_94 : decode cX10_warmsOf 94 = .ok (.iconst 1, 1) := by decide +kernel
theorem dX10_warmsOf_95 : decode cX10_warmsOf 95 = .ok (.if_icmp .ne 7, 3) := by decide +kernel
theorem dX10_warmsOf_98 : decode cX10_warmsOf 98 = .ok (.iconst 5, 1) := by decide +kernel
theorem dX10_warmsOf_99 : decode cX10_warmsOf 99 = .ok (.goto 4, 3) := by decide +kernel
theorem dX10_warmsOf_102 : decode cX10_warmsOf 102 = .ok (.iconst 0, 1) := by decide +kernel
theorem dX10_warmsOf_103 : decode cX10_warmsOf 103 = .ok (.isub, 1) := by decide +kernel
theorem dX10_warmsOf_104 : decode cX10_warmsOf 104 = .ok (.ireturn, 1) := by decide +kernel
theorem dX10_warmsOf_105 : decode cX10_warmsOf 105 = .ok (.iload_n 3, 1) := by decide +kernel
theorem dX10_warmsOf_106 : decode cX10_warmsOf 106 = .ok (.iconst 1, 1) := by decide +kernel
theorem dX10_warmsOf_107 : decode cX10_warmsOf 107 = .ok (.if_icmp .ne 10, 3) := by decide +kernel
theorem dX10_warmsOf_110 : decode cX10_warmsOf 110 = .ok (.iconst 2, 1) := by decide +kernel
theorem dX10_warmsOf_111 : decode cX10_warmsOf 111 = .ok (.iload 5, 2) := by decide +kernel
theorem dX10_warmsOf_113 : decode cX10_warmsOf 113 = .ok (.imul, 1) := by decide +kernel
theorem dX10_warmsOf_114 : decode cX10_warmsOf 114 = .ok (.goto 44, 3) := by decide +kernel
theorem dX10_warmsOf_117 : decode cX10_warmsOf 117 = .ok (.iload_n 3, 1) := by decide +kernel
theorem dX10_warmsOf_118 : decode cX10_warmsOf 118 = .ok (.iconst 3, 1) := by decide +kernel
theorem dX10_warmsOf_119 : decode cX10_warmsOf 119 = .ok (.if_icmp .ne 22, 3) := by decide +kernel
theorem dX10_warmsOf_122 : decode cX10_warmsOf 122 = .ok (.iload_n 2, 1) := by decide +kernel
theorem dX10_warmsOf_123 : decode cX10_warmsOf 123 = .ok (.ifCond .eq 11, 3) := by decide +kernel
theorem dX10_warmsOf_126 : decode cX10_warmsOf 126 = .ok (.bipush (-2), 2) := by decide +kernel
theorem dX10_warmsOf_128 : decode cX10_warmsOf 128 = .ok (.iload 5, 2) := by decide +kernel
theorem dX10_warmsOf_130 : decode cX10_warmsOf 130 = .ok (.imul, 1) := by decide +kernel
theorem dX10_warmsOf_131 : decode cX10_warmsOf 131 = .ok (.goto 27, 3) := by decide +kernel
theorem dX10_warmsOf_134 : decode cX10_warmsOf 134 = .ok (.iconst 2, 1) := by decide +kernel
theorem dX10_warmsOf_135 : decode cX10_warmsOf 135 = .ok (.iload 5, 2) := by decide +kernel
theorem dX10_warmsOf_137 : decode cX10_warmsOf 137 = .ok (.imul, 1) := by decide +kernel
theorem dX10_warmsOf_138 : decode cX10_warmsOf 138 = .ok (.goto 20, 3) := by decide +kernel
theorem dX10_warmsOf_141 : decode cX10_warmsOf 141 = .ok (.iload_n 3, 1) := by decide +kernel
theorem dX10_warmsOf_142 : decode cX10_warmsOf 142 = .ok (.iconst 5, 1) := by decide +kernel
theorem dX10_warmsOf_143 : decode cX10_warmsOf 143 = .ok (.if_icmp .ne 13, 3) := by decide +kernel
theorem dX10_warmsOf_146 : decode cX10_warmsOf 146 = .ok (.iload 5, 2) := by decide +kernel
theorem dX10_warmsOf_148 : decode cX10_warmsOf 148 = .ok (.iconst 3, 1) := by decide +kernel
theorem dX10_warmsOf_149 : decode cX10_warmsOf 149 = .ok (.if_icmp .ge 7, 3) := by decide +kernel
theorem dX10_warmsOf_152 : decode cX10_warmsOf 152 = .ok (.iconst 3, 1) := by decide +kernel
theorem dX10_warmsOf_153 : decode cX10_warmsOf 153 = .ok (.goto 5, 3) := by decide +kernel
theorem dX10_warmsOf_156 : decode cX10_warmsOf 156 = .ok (.iload 5, 2) := by decide +kernel
theorem dX10_warmsOf_158 : decode cX10_warmsOf 158 = .ok (.ireturn, 1) := by decide +kernel
theorem dX10_coolsOf_0 : decode cX10_coolsOf 0 = .ok (.aload_n 0, 1) := by decide +kernel
theorem dX10_coolsOf_1 : decode cX10_coolsOf 1 = .ok (.getfield 26, 3) := by decide +kernel
theorem dX10_coolsOf_4 : decode cX10_coolsOf 4 = .ok (.iload_n 1, 1) := by decide +kernel
theorem dX10_coolsOf_5 : decode cX10_coolsOf 5 = .ok (.iaload, 1) := by decide +kernel
theorem dX10_coolsOf_6 : decode cX10_coolsOf 6 = .ok (.istore_n 3, 1) := by decide +kernel
theorem dX10_coolsOf_7 : decode cX10_coolsOf 7 = .ok (.aload_n 0, 1) := by decide +kernel
theorem dX10_coolsOf_8 : decode cX10_coolsOf 8 = .ok (.aload_n 0, 1) := by decide +kernel
theorem dX10_coolsOf_9 : decode cX10_coolsOf 9 = .ok (.getfield 104, 3) := by decide +kernel
theorem dX10_coolsOf_12 : decode cX10_coolsOf 12 = .ok (.iconst 1, 1) := by decide +kernel
theorem dX10_coolsOf_13 : decode cX10_coolsOf 13 = .ok (.invokevirtual 243, 3) := by decide +kernel
theorem dX10_coolsOf_16 : decode cX10_coolsOf 16 = .ok (.bipush (-99), 2) := by decide +kernel
theorem dX10_coolsOf_18 : decode cX10_coolsOf 18 = .ok (.bipush 99, 2) := by decide +kernel
theorem dX10_coolsOf_20 : decode cX10_coolsOf 20 = .ok (.invokestatic 249, 3) := by decide +kernel
theorem dX10_coolsOf_23 : decode cX10_coolsOf 23 = .ok (.istore 4, 2) := by decide +kernel
theorem dX10_coolsOf_25 : decode cX10_coolsOf 25 = .ok (.iload_n 3, 1) := by decide +kernel
theorem dX10_coolsOf_26 : decode cX10_coolsOf 26 = .ok (.iconst 2, 1) := by decide +kernel
theorem dX10_coolsOf_27 : decode cX10_coolsOf 27 = .ok (.if_icmp .eq 8, 3) := by decide +kernel
theorem dX10_coolsOf_30 : decode cX10_coolsOf 30 = .ok (.iload_n 3, 1) := by decide +kernel
theorem dX10_coolsOf_31 : decode cX10_coolsOf 31 = .ok (.iconst 4, 1) := by decide +kernel
theorem dX10_coolsOf_32 : decode cX10_coolsOf 32 = .ok (.if_icmp .ne 10, 3) := by decide +kernel
theorem dX10_coolsOf_35 : decode cX10_coolsOf 35 = .ok (.iload 4, 2) := by decide +kernel
theorem dX10_coolsOf_37 : decode cX10_coolsOf 37 = .ok (.iconst 2, 1) := by decide +kernel
theorem dX10_coolsOf_38 : decode cX10_coolsOf 38 = .ok (.isub, 1) := by decide +kernel
theorem dX10_coolsOf_39 : decode cX10_coolsOf 39 = .ok (.goto 37, 3) := by decide +kernel
theorem dX10_coolsOf_42 : decode cX10_coolsOf 42 = .ok (.iload_n 3, 1) := by decide +kernel
theorem dX10_coolsOf_43 : decode cX10_coolsOf 43 = .ok (.iconst 3, 1) := by decide +kernel
theorem dX10_coolsOf_44 : decode cX10_coolsOf 44 = .ok (.if_icmp .ne 21, 3) := by decide +kernel
theorem dX10_coolsOf_47 : decode cX10_coolsOf 47 = .ok (.iload_n 2, 1) := by decide +kernel
theorem dX10_coolsOf_48 : decode cX10_coolsOf 48 = .ok (.ifCond .eq 17, 3) := by decide +kernel
theorem dX10_coolsOf_51 : decode cX10_coolsOf 51 = .ok (.iload 4, 2) := by decide +kernel
theorem dX10_coolsOf_53 : decode cX10_coolsOf 53 = .ok (.aload_n 0, 1) := by decide +kernel
theorem dX10_coolsOf_54 : decode cX10_coolsOf 54 = .ok (.getfield 29, 3) := by decide +kernel
theorem dX10_coolsOf_57 : decode cX10_coolsOf 57 = .ok (.iconst 3, 1) := by decide +kernel
theorem dX10_coolsOf_58 : decode cX10_coolsOf 58 = .ok (.iload_n 1, 1) := by decide +kernel
theorem dX10_coolsOf_59 : decode cX10_coolsOf 59 = .ok (.imul, 1) := by decide +kernel
theorem dX10_coolsOf_60 : decode cX10_coolsOf 60 = .ok (.iaload, 1) := by decide +kernel
theorem dX10_coolsOf_61 : decode cX10_coolsOf 61 = .ok (.iadd, 1) := by decide +kernel
theorem dX10_coolsOf_62 : decode cX10_coolsOf 62 = .ok (.goto 14, 3) := by decide +kernel
theorem dX10_coolsOf_65 : decode cX10_coolsOf 65 = .ok (.iload_n 3, 1) := by decide +kernel
theorem dX10_coolsOf_66 : decode cX10_coolsOf 66 = .ok (.iconst 5, 1) := by decide +kernel
theorem dX10_coolsOf_67 : decode cX10_coolsOf 67 = .ok (.if_icmp .ne 7, 3) := by decide +kernel
theorem dX10_coolsOf_70 : decode cX10_coolsOf 70 = .ok (.iconst 0, 1) := by decide +kernel
theorem dX10_coolsOf_71 : decode cX10_coolsOf 71 = .ok (.goto 5, 3) := by decide +kernel
theorem dX10_coolsOf_74 : decode cX10_coolsOf 74 = .ok (.iload 4, 2) := by decide +kernel
theorem dX10_coolsOf_76 : decode cX10_coolsOf 76 = .ok (.istore 5, 2) := by decide +kernel
theorem dX10_coolsOf_78 : decode cX10_coolsOf 78 = .ok (.iload 5, 2) := by decide +kernel
theorem dX10_coolsOf_80 : decode cX10_coolsOf 80 = .ok (.ifCond .ge 7, 3) := by decide +kernel
theorem dX10_coolsOf_83 : decode cX10_coolsOf 83 = .ok (.iconst 0, 1) := by decide +kernel
theorem dX10_coolsOf_84 : decode cX10_coolsOf 84 = .ok (.goto 5, 3) := by decide +kernel
theorem dX10_coolsOf_87 : decode cX10_coolsOf 87 = .ok (.iload 5, 2) := by decide +kernel
theorem dX10_coolsOf_89 : decode cX10_coolsOf 89 = .ok (.ireturn, 1) := by decide +kernel
theorem dX10_comes_0 : decode cX10_comes 0 = .ok (.aload_n 0, 1) := by decide +kernel
theorem dX10_comes_1 : decode cX10_comes 1 = .ok (.getfield 32, 3) := by decide +kernel
theorem dX10_comes_4 : decode cX10_comes 4 = .ok (.iload_n 2, 1) := by decide +kernel
theorem dX10_comes_5 : decode cX10_comes 5 = .ok (.iload_n 1, 1) := by decide +kernel
theorem dX10_comes_6 : decode cX10_comes 6 = .ok (.iastore, 1) := by decide +kernel
theorem dX10_comes_7 : decode cX10_comes 7 = .ok (.aload_n 0, 1) := by decide +kernel
theorem dX10_comes_8 : decode cX10_comes 8 = .ok (.iload_n 1, 1) := by decide +kernel
theorem dX10_comes_9 : decode cX10_comes 9 = .ok (.iload_n 2, 1) := by decide +kernel
theorem dX10_comes_10 : decode cX10_comes 10 = .ok (.invokevirtual 116, 3) := by decide +kernel
theorem dX10_comes_13 : decode cX10_comes 13 = .ok (.iload_n 2, 1) := by decide +kernel
theorem dX10_comes_14 : decode cX10_comes 14 = .ok (.ifCond .le 18, 3) := by decide +kernel
theorem dX10_comes_17 : decode cX10_comes 17 = .ok (.aload_n 0, 1) := by decide +kernel
theorem dX10_comes_18 : decode cX10_comes 18 = .ok (.getfield 191, 3) := by decide +kernel
theorem dX10_comes_21 : decode cX10_comes 21 = .ok (.aload_n 0, 1) := by decide +kernel
theorem dX10_comes_22 : decode cX10_comes 22 = .ok (.getfield 188, 3) := by decide +kernel
theorem dX10_comes_25 : decode cX10_comes 25 = .ok (.if_icmp .ne 7, 3) := by decide +kernel
theorem dX10_comes_28 : decode cX10_comes 28 = .ok (.iconst 1, 1) := by decide +kernel
theorem dX10_comes_29 : decode cX10_comes 29 = .ok (.goto 4, 3) := by decide +kernel
theorem dX10_comes_32 : decode cX10_comes 32 = .ok (.iconst 0, 1) := by decide +kernel
theorem dX10_comes_33 : decode cX10_comes 33 = .ok (.istore_n 3, 1) := by decide +kernel
theorem dX10_comes_34 : decode cX10_comes 34 = .ok (.aload_n 0, 1) := by decide +kernel
theorem dX10_comes_35 : decode cX10_comes 35 = .ok (.iload_n 1, 1) := by decide +kernel
theorem dX10_comes_36 : decode cX10_comes 36 = .ok (.iload_n 3, 1) := by decide +kernel
theorem dX10_comes_37 : decode cX10_comes 37 = .ok (.invokevirtual 124, 3) := by decide +kernel
theorem dX10_comes_40 : decode cX10_comes 40 = .ok (.istore 4, 2) := by decide +kernel
theorem dX10_comes_42 : decode cX10_comes 42 = .ok (.aload_n 0, 1) := by decide +kernel
theorem dX10_comes_43 : decode cX10_comes 43 = .ok (.iload_n 1, 1) := by decide +kernel
theorem dX10_comes_44 : decode cX10_comes 44 = .ok (.iload_n 3, 1) := by decide +kernel
theorem dX10_comes_45 : decode cX10_comes 45 = .ok (.invokevirtual 120, 3) := by decide +kernel
theorem dX10_comes_48 : decode cX10_comes 48 = .ok (.istore 5, 2) := by decide +kernel
theorem dX10_comes_50 : decode cX10_comes 50 = .ok (.aload_n 0, 1) := by decide +kernel
theorem dX10_comes_51 : decode cX10_comes 51 = .ok (.getfield 35, 3) := by decide +kernel
theorem dX10_comes_54 : decode cX10_comes 54 = .ok (.iload_n 2, 1) := by decide +kernel
theorem dX10_comes_55 : decode cX10_comes 55 = .ok (.iaload, 1) := by decide +kernel
theorem dX10_comes_56 : decode cX10_comes 56 = .ok (.iload 4, 2) := by decide +kernel
theorem dX10_comes_58 : decode cX10_comes 58 = .ok (.isub, 1) := by decide +kernel
theorem dX10_comes_59 : decode cX10_comes 59 = .ok (.iconst 0, 1) := by decide +kernel
theorem dX10_comes_60 : decode cX10_comes 60 = .ok (.bipush 99, 2) := by decide +kernel
theorem dX10_comes_62 : decode cX10_comes 62 = .ok (.invokestatic 249, 3) := by decide +kernel
theorem dX10_comes_65 : decode cX10_comes 65 = .ok (.iload 5, 2) := by decide +kernel
theorem dX10_comes_67 : decode cX10_comes 67 = .ok (.iadd, 1) := by decide +kernel
theorem dX10_comes_68 : decode cX10_comes 68 = .ok (.iconst 0, 1) := by decide +kernel
theorem dX10_comes_69 : decode cX10_comes 69 = .ok (.bipush 99, 2) := by decide +kernel
theorem dX10_comes_71 : decode cX10_comes 71 = .ok (.invokestatic 249, 3) := by decide +kernel
theorem dX10_comes_74 : decode cX10_comes 74 = .ok (.istore 6, 2) := by decide +kernel
theorem dX10_comes_76 : decode cX10_comes 76 = .ok (.aload_n 0, 1) := by decide +kernel
theorem dX10_comes_77 : decode cX10_comes 77 = .ok (.getfield 38, 3) := by decide +kernel
theorem dX10_comes_80 : decode cX10_comes 80 = .ok (.iload_n 2, 1) := by decide +kernel
theorem dX10_comes_81 : decode cX10_comes 81 = .ok (.iload 6, 2) := by decide +kernel
theorem dX10_comes_83 : decode cX10_comes 83 = .ok (.aload_n 0, 1) := by decide +kernel
theorem dX10_comes_84 : decode cX10_comes 84 = .ok (.getfield 23, 3) := by decide +kernel
theorem dX10_comes_87 : decode cX10_comes 87 = .ok (.iconst 1, 1) := by decide +kernel
theorem dX10_comes_88 : decode cX10_comes 88 = .ok (.iaload, 1) := by decide +kernel
theorem dX10_comes_89 : decode cX10_comes 89 = .ok (.if_icmp .lt 7, 3) := by decide +kernel
theorem dX10_comes_92 : decode cX10_comes 92 = .ok (.iconst 1, 1) := by decide +kernel
theorem dX10_comes_93 : decode cX10_comes 93 = .ok (.goto 4, 3) := by decide +kernel
theorem dX10_comes_96 : decode cX10_comes 96 = .ok (.iconst 0, 1) := by decide +kernel
theorem dX10_comes_97 : decode cX10_comes 97 = .ok (.bastore, 1) := by decide +kernel
theorem dX10_comes_98 : decode cX10_comes 98 = .ok (.aload_n 0, 1) := by decide +kernel
theorem dX10_comes_99 : decode cX10_comes 99 = .ok (.getfield 42, 3) := by decide +kernel
theorem dX10_comes_102 : decode cX10_comes 102 = .ok (.iload_n 2, 1) := by decide +kernel
theorem dX10_comes_103 : decode cX10_comes 103 = .ok (.iconst 0, 1) := by decide +kernel
theorem dX10_comes_104 : decode cX10_comes 104 = .ok (.bastore, 1) := by decide +kernel
theorem dX10_comes_105 : decode cX10_comes 105 = .ok (.aload_n 0, 1) := by decide +kernel
theorem dX10_comes_106 : decode cX10_comes 106 = .ok (.getfield 38, 3) := by decide +kernel
theorem dX10_comes_109 : decode cX10_comes 109 = .ok (.iload_n 2, 1) := by decide +kernel
theorem dX10_comes_110 : decode cX10_comes 110 = .ok (.baload, 1) := by decide +kernel
theorem dX10_comes_111 : decode cX10_comes 111 = .ok (.ifCond .eq 52, 3) := by decide +kernel
theorem dX10_comes_114 : decode cX10_comes 114 = .ok (.aload_n 0, 1) := by decide +kernel
theorem dX10_comes_115 : decode cX10_comes 115 = .ok (.iload 6, 2) := by decide +kernel
theorem dX10_comes_117 : decode cX10_comes 117 = .ok (.putfield 194, 3) := by decide +kernel
theorem dX10_comes_120 : decode cX10_comes 120 = .ok (.aload_n 0, 1) := by decide +kernel
theorem dX10_comes_121 : decode cX10_comes 121 = .ok (.getfield 42, 3) := by decide +kernel
theorem dX10_comes_124 : decode cX10_comes 124 = .ok (.iload_n 2, 1) := by decide +kernel
theorem dX10_comes_125 : decode cX10_comes 125 = .ok (.aload_n 0, 1) := by decide +kernel
theorem dX10_comes_126 : decode cX10_comes 126 = .ok (.aload_n 0, 1) := by decide +kernel
theorem dX10_comes_127 : decode cX10_comes 127 = .ok (.getfield 104, 3) := by decide +kernel
theorem dX10_comes_130 : decode cX10_comes 130 = .ok (.iconst 2, 1) := by decide +kernel
theorem dX10_comes_131 : decode cX10_comes 131 = .ok (.invokevirtual 243, 3) := by decide +kernel
theorem dX10_comes_134 : decode cX10_comes 134 = .ok (.ifCond .eq 7, 3) := by decide +kernel
theorem dX10_comes_137 : decode cX10_comes 137 = .ok (.iconst 1, 1) := by decide +kernel
theorem dX10_comes_138 : decode cX10_comes 138 = .ok (.goto 4, 3) := by decide +kernel
theorem dX10_comes_141 : decode cX10_comes 141 = .ok (.iconst 0, 1) := by decide +kernel
theorem dX10_comes_142 : decode cX10_comes 142 = .ok (.bastore, 1) := by decide +kernel
theorem dX10_comes_143 : decode cX10_comes 143 = .ok (.aload_n 0, 1) := by decide +kernel
theorem dX10_comes_144 : decode cX10_comes 144 = .ok (.getfield 42, 3) := by decide +kernel
theorem dX10_comes_147 : decode cX10_comes 147 = .ok (.iload_n 2, 1) := by decide +kernel
theorem dX10_comes_148 : decode cX10_comes 148 = .ok (.baload, 1) := by decide +kernel
theorem dX10_comes_149 : decode cX10_comes 149 = .ok (.ifCond .eq 10, 3) := by decide +kernel
theorem dX10_comes_152 : decode cX10_comes 152 = .ok (.iload 6, 2) := by decide +kernel
theorem dX10_comes_154 : decode cX10_comes 154 = .ok (.iconst 2, 1) := by decide +kernel
theorem dX10_comes_155 : decode cX10_comes 155 = .ok (.idiv, 1) := by decide +kernel
theorem dX10_comes_156 : decode cX10_comes 156 = .ok (.goto 5, 3) := by decide +kernel
theorem dX10_comes_159 : decode cX10_comes 159 = .ok (.iload 6, 2) := by decide +kernel
theorem dX10_comes_161 : decode cX10_comes 161 = .ok (.istore 6, 2) := by decide +kernel
theorem dX10_comes_163 : decode cX10_comes 163 = .ok (.aload_n 0, 1) := by decide +kernel
theorem dX10_comes_164 : decode cX10_comes 164 = .ok (.getfield 35, 3) := by decide +kernel
theorem dX10_comes_167 : decode cX10_comes 167 = .ok (.iload_n 2, 1) := by decide +kernel
theorem dX10_comes_168 : decode cX10_comes 168 = .ok (.iconst 1, 1) := by decide +kernel
theorem dX10_comes_169 : decode cX10_comes 169 = .ok (.iadd, 1) := by decide +kernel
theorem dX10_comes_170 : decode cX10_comes 170 = .ok (.iload 6, 2) := by decide +kernel
theorem dX10_comes_172 : decode cX10_comes 172 = .ok (.iastore, 1) := by decide +kernel
theorem dX10_comes_173 : decode cX10_comes 173 = .ok (.return_, 1) := by decide +kernel
theorem dX10_isOrder_0 : decode cX10_isOrder 0 = .ok (.aload_n 0, 1) := by decide +kernel
theorem dX10_isOrder_1 : decode cX10_isOrder 1 = .ok (.getfield 66, 3) := by decide +kernel
theorem dX10_isOrder_4 : decode cX10_isOrder 4 = .ok (.iload_n 1, 1) := by decide +kernel
theorem dX10_isOrder_5 : decode cX10_isOrder 5 = .ok (.iaload, 1) := by decide +kernel
theorem dX10_isOrder_6 : decode cX10_isOrder 6 = .ok (.aload_n 0, 1) := by decide +kernel
theorem dX10_isOrder_7 : decode cX10_isOrder 7 = .ok (.getfield 79, 3) := by decide +kernel
theorem dX10_isOrder_10 : decode cX10_isOrder 10 = .ok (.if_icmp .le 5, 3) := by decide +kernel
theorem dX10_isOrder_13 : decode cX10_isOrder 13 = .ok (.iconst 0, 1) := by decide +kernel
theorem dX10_isOrder_14 : decode cX10_isOrder 14 = .ok (.ireturn, 1) := by decide +kernel
theorem dX10_isOrder_15 : decode cX10_isOrder 15 = .ok (.iconst 0, 1) := by decide +kernel
theorem dX10_isOrder_16 : decode cX10_isOrder 16 = .ok (.istore_n 2, 1) := by decide +kernel
theorem dX10_isOrder_17 : decode cX10_isOrder 17 = .ok (.iconst 0, 1) := by decide +kernel
theorem dX10_isOrder_18 : decode cX10_isOrder 18 = .ok (.istore_n 3, 1) := by decide +kernel
theorem dX10_isOrder_19 : decode cX10_isOrder 19 = .ok (.iload_n 3, 1) := by decide +kernel
theorem dX10_isOrder_20 : decode cX10_isOrder 20 = .ok (.aload_n 0, 1) := by decide +kernel
theorem dX10_isOrder_21 : decode cX10_isOrder 21 = .ok (.getfield 66, 3) := by decide +kernel
theorem dX10_isOrder_24 : decode cX10_isOrder 24 = .ok (.iload_n 1, 1) := by decide +kernel
theorem dX10_isOrder_25 : decode cX10_isOrder 25 = .ok (.iaload, 1) := by decide +kernel
theorem dX10_isOrder_26 : decode cX10_isOrder 26 = .ok (.if_icmp .ge 50, 3) := by decide +kernel
theorem dX10_isOrder_29 : decode cX10_isOrder 29 = .ok (.aload_n 0, 1) := by decide +kernel
theorem dX10_isOrder_30 : decode cX10_isOrder 30 = .ok (.getfield 69, 3) := by decide +kernel
theorem dX10_isOrder_33 : decode cX10_isOrder 33 = .ok (.bipush 40, 2) := by decide +kernel
theorem dX10_isOrder_35 : decode cX10_isOrder 35 = .ok (.iload_n 1, 1) := by decide +kernel
theorem dX10_isOrder_36 : decode cX10_isOrder 36 = .ok (.imul, 1) := by decide +kernel
theorem dX10_isOrder_37 : decode cX10_isOrder 37 = .ok (.iload_n 3, 1) := by decide +kernel
theorem dX10_isOrder_38 : decode cX10_isOrder 38 = .ok (.iadd, 1) := by decide +kernel
theorem dX10_isOrder_39 : decode cX10_isOrder 39 = .ok (.iaload, 1) := by decide +kernel
theorem dX10_isOrder_40 : decode cX10_isOrder 40 = .ok (.istore 4, 2) := by decide +kernel
theorem dX10_isOrder_42 : decode cX10_isOrder 42 = .ok (.aload_n 0, 1) := by decide +kernel
theorem dX10_isOrder_43 : decode cX10_isOrder 43 = .ok (.iload 4, 2) := by decide +kernel
theorem dX10_isOrder_45 : decode cX10_isOrder 45 = .ok (.invokevirtual 88, 3) := by decide +kernel
theorem dX10_isOrder_48 : decode cX10_isOrder 48 = .ok (.ifCond .eq 13, 3) := by decide +kernel
theorem dX10_isOrder_51 : decode cX10_isOrder 51 = .ok (.iload_n 2, 1) := by decide +kernel
theorem dX10_isOrder_52 : decode cX10_isOrder 52 = .ok (.iload 4, 2) := by decide +kernel
theorem dX10_isOrder_54 : decode cX10_isOrder 54 = .ok (.ishr, 1) := by decide +kernel
theorem dX10_isOrder_55 : decode cX10_isOrder 55 = .ok (.iconst 1, 1) := by decide +kernel
theorem dX10_isOrder_56 : decode cX10_isOrder 56 = .ok (.iand, 1) := by decide +kernel
theorem dX10_isOrder_57 : decode cX10_isOrder 57 = .ok (.iconst 1, 1) := by decide +kernel
theorem dX10_isOrder_58 : decode cX10_isOrder 58 = .ok (.if_icmp .ne 5, 3) := by decide +kernel
theorem dX10_isOrder_61 : decode cX10_isOrder 61 = .ok (.iconst 0, 1) := by decide +kernel
theorem dX10_isOrder_62 : decode cX10_isOrder 62 = .ok (.ireturn, 1) := by decide +kernel
theorem dX10_isOrder_63 : decode cX10_isOrder 63 = .ok (.iload_n 2, 1) := by decide +kernel
theorem dX10_isOrder_64 : decode cX10_isOrder 64 = .ok (.iconst 1, 1) := by decide +kernel
theorem dX10_isOrder_65 : decode cX10_isOrder 65 = .ok (.iload 4, 2) := by decide +kernel
theorem dX10_isOrder_67 : decode cX10_isOrder 67 = .ok (.ishl, 1) := by decide +kernel
theorem dX10_isOrder_68 : decode cX10_isOrder 68 = .ok (.ior, 1) := by decide +kernel
theorem dX10_isOrder_69 : decode cX10_isOrder 69 = .ok (.istore_n 2, 1) := by decide +kernel
theorem dX10_isOrder_70 : decode cX10_isOrder 70 = .ok (.iinc 3 1, 3) := by decide +kernel
theorem dX10_isOrder_73 : decode cX10_isOrder 73 = .ok (.goto (-54), 3) := by decide +kernel
theorem dX10_isOrder_76 : decode cX10_isOrder 76 = .ok (.iconst 1, 1) := by decide +kernel
theorem dX10_isOrder_77 : decode cX10_isOrder 77 = .ok (.ireturn, 1) := by decide +kernel
theorem dX10_screamsTill_0 : decode cX10_screamsTill 0 = .ok (.iconst 0, 1) := by decide +kernel
theorem dX10_screamsTill_1 : decode cX10_screamsTill 1 = .ok (.istore_n 2, 1) := by decide +kernel
theorem dX10_screamsTill_2 : decode cX10_screamsTill 2 = .ok (.iconst 0, 1) := by decide +kernel
theorem dX10_screamsTill_3 : decode cX10_screamsTill 3 = .ok (.istore_n 3, 1) := by decide +kernel
theorem dX10_screamsTill_4 : decode cX10_screamsTill 4 = .ok (.iload_n 3, 1) := by decide +kernel
theorem dX10_screamsTill_5 : decode cX10_screamsTill 5 = .ok (.iload_n 1, 1) := by decide +kernel
theorem dX10_screamsTill_6 : decode cX10_screamsTill 6 = .ok (.if_icmp .ge 26, 3) := by decide +kernel
theorem dX10_screamsTill_9 : decode cX10_screamsTill 9 = .ok (.iload_n 2, 1) := by decide +kernel
theorem dX10_screamsTill_10 : decode cX10_screamsTill 10 = .ok (.aload_n 0, 1) := by decide +kernel
theorem dX10_screamsTill_11 : decode cX10_screamsTill 11 = .ok (.getfield 42, 3) := by decide +kernel
theorem dX10_screamsTill_14 : decode cX10_screamsTill 14 = .ok (.iload_n 3, 1) := by decide +kernel
theorem dX10_screamsTill_15 : decode cX10_screamsTill 15 = .ok (.baload, 1) := by decide +kernel
theorem dX10_screamsTill_16 : decode cX10_screamsTill 16 = .ok (.ifCond .eq 7, 3) := by decide +kernel
theorem dX10_screamsTill_19 : decode cX10_screamsTill 19 = .ok (.iconst 1, 1) := by decide +kernel
theorem dX10_screamsTill_20 : decode cX10_screamsTill 20 = .ok (.goto 4, 3) := by decide +kernel
theorem dX10_screamsTill_23 : decode cX10_screamsTill 23 = .ok (.iconst 0, 1) := by decide +kernel
theorem dX10_screamsTill_24 : decode cX10_screamsTill 24 = .ok (.iadd, 1) := by decide +kernel
theorem dX10_screamsTill_25 : decode cX10_screamsTill 25 = .ok (.istore_n 2, 1) := by decide +kernel
theorem dX10_screamsTill_26 : decode cX10_screamsTill 26 = .ok (.iinc 3 1, 3) := by decide +kernel
theorem dX10_screamsTill_29 : decode cX10_screamsTill 29 = .ok (.goto (-25), 3) := by decide +kernel
theorem dX10_screamsTill_32 : decode cX10_screamsTill 32 = .ok (.iload_n 2, 1) := by decide +kernel
theorem dX10_screamsTill_33 : decode cX10_screamsTill 33 = .ok (.ireturn, 1) := by decide +kernel
theorem dX10_boilsAt_0 : decode cX10_boilsAt 0 = .ok (.iconst 0, 1) := by decide +kernel
theorem dX10_boilsAt_1 : decode cX10_boilsAt 1 = .ok (.istore_n 2, 1) := by decide +kernel
theorem dX10_boilsAt_2 : decode cX10_boilsAt 2 = .ok (.iload_n 2, 1) := by decide +kernel
theorem dX10_boilsAt_3 : decode cX10_boilsAt 3 = .ok (.iload_n 1, 1) := by decide +kernel
theorem dX10_boilsAt_4 : decode cX10_boilsAt 4 = .ok (.if_icmp .ge 20, 3) := by decide +kernel
theorem dX10_boilsAt_7 : decode cX10_boilsAt 7 = .ok (.aload_n 0, 1) := by decide +kernel
theorem dX10_boilsAt_8 : decode cX10_boilsAt 8 = .ok (.getfield 38, 3) := by decide +kernel
theorem dX10_boilsAt_11 : decode cX10_boilsAt 11 = .ok (.iload_n 2, 1) := by decide +kernel
theorem dX10_boilsAt_12 : decode cX10_boilsAt 12 = .ok (.baload, 1) := by decide +kernel
theorem dX10_boilsAt_13 : decode cX10_boilsAt 13 = .ok (.ifCond .eq 5, 3) := by decide +kernel
theorem dX10_boilsAt_16 : decode cX10_boilsAt 16 = .ok (.iload_n 2, 1) := by decide +kernel
theorem dX10_boilsAt_17 : decode cX10_boilsAt 17 = .ok (.ireturn, 1) := by decide +kernel
theorem dX10_boilsAt_18 : decode cX10_boilsAt 18 = .ok (.iinc 2 1, 3) := by decide +kernel
theorem dX10_boilsAt_21 : decode cX10_boilsAt 21 = .ok (.goto (-19), 3) := by decide +kernel
theorem dX10_boilsAt_24 : decode cX10_boilsAt 24 = .ok (.iconst (-1), 1) := by decide +kernel
theorem dX10_boilsAt_25 : decode cX10_boilsAt 25 = .ok (.ireturn, 1) := by decide +kernel
theorem dX10_goes_0 : decode cX10_goes 0 = .ok (.aload_n 0, 1) := by decide +kernel
theorem dX10_goes_1 : decode cX10_goes 1 = .ok (.invokevirtual 113, 3) := by decide +kernel
theorem dX10_goes_4 : decode cX10_goes 4 = .ok (.iconst 0, 1) := by decide +kernel
theorem dX10_goes_5 : decode cX10_goes 5 = .ok (.istore_n 2, 1) := by decide +kernel
theorem dX10_goes_6 : decode cX10_goes 6 = .ok (.iload_n 2, 1) := by decide +kernel
theorem dX10_goes_7 : decode cX10_goes 7 = .ok (.aload_n 0, 1) := by decide +kernel
theorem dX10_goes_8 : decode cX10_goes 8 = .ok (.getfield 66, 3) := by decide +kernel
theorem dX10_goes_11 : decode cX10_goes 11 = .ok (.iload_n 1, 1) := by decide +kernel
theorem dX10_goes_12 : decode cX10_goes 12 = .ok (.iaload, 1) := by decide +kernel
theorem dX10_goes_13 : decode cX10_goes 13 = .ok (.if_icmp .ge 25, 3) := by decide +kernel
theorem dX10_goes_16 : decode cX10_goes 16 = .ok (.aload_n 0, 1) := by decide +kernel
theorem dX10_goes_17 : decode cX10_goes 17 = .ok (.aload_n 0, 1) := by decide +kernel
theorem dX10_goes_18 : decode cX10_goes 18 = .ok (.getfield 69, 3) := by decide +kernel
theorem dX10_goes_21 : decode cX10_goes 21 = .ok (.bipush 40, 2) := by decide +kernel
theorem dX10_goes_23 : decode cX10_goes 23 = .ok (.iload_n 1, 1) := by decide +kernel
theorem dX10_goes_24 : decode cX10_goes 24 = .ok (.imul, 1) := by decide +kernel
theorem dX10_goes_25 : decode cX10_goes 25 = .ok (.iload_n 2, 1) := by decide +kernel
theorem dX10_goes_26 : decode cX10_goes 26 = .ok (.iadd, 1) := by decide +kernel
theorem dX10_goes_27 : decode cX10_goes 27 = .ok (.iaload, 1) := by decide +kernel
theorem dX10_goes_28 : decode cX10_goes 28 = .ok (.iload_n 2, 1) := by decide +kernel
theorem dX10_goes_29 : decode cX10_goes 29 = .ok (.invokevirtual 253, 3) := by decide +kernel
theorem dX10_goes_32 : decode cX10_goes 32 = .ok (.iinc 2 1, 3) := by decide +kernel
theorem dX10_goes_35 : decode cX10_goes 35 = .ok (.goto (-29), 3) := by decide +kernel
theorem dX10_goes_38 : decode cX10_goes 38 = .ok (.return_, 1) := by decide +kernel
theorem dX10_evening_0 : decode cX10_evening 0 = .ok (.iload_n 1, 1) := by decide +kernel
theorem dX10_evening_1 : decode cX10_evening 1 = .ok (.invokestatic 256, 3) := by decide +kernel
theorem dX10_evening_4 : decode cX10_evening 4 = .ok (.ifCond .eq 57, 3) := by decide +kernel
theorem dX10_evening_7 : decode cX10_evening 7 = .ok (.iload_n 2, 1) := by decide +kernel
theorem dX10_evening_8 : decode cX10_evening 8 = .ok (.i2l, 1) := by decide +kernel
theorem dX10_evening_9 : decode cX10_evening 9 = .ok (.lconst 0, 1) := by decide +kernel
theorem dX10_evening_10 : decode cX10_evening 10 = .ok (.ldc2_w 259, 3) := by decide +kernel
theorem dX10_evening_13 : decode cX10_evening 13 = .ok (.invokestatic 82, 3) := by decide +kernel
theorem dX10_evening_16 : decode cX10_evening 16 = .ok (.ifCond .ne 9, 3) := by decide +kernel
theorem dX10_evening_19 : decode cX10_evening 19 = .ok (.iload_n 2, 1) := by decide +kernel
theorem dX10_evening_20 : decode cX10_evening 20 = .ok (.bipush 10, 2) := by decide +kernel
theorem dX10_evening_22 : decode cX10_evening 22 = .ok (.if_icmp .lt 39, 3) := by decide +kernel
theorem dX10_evening_25 : decode cX10_evening 25 = .ok (.aload_n 0, 1) := by decide +kernel
theorem dX10_evening_26 : decode cX10_evening 26 = .ok (.getfield 60, 3) := by decide +kernel
theorem dX10_evening_29 : decode cX10_evening 29 = .ok (.iload_n 1, 1) := by decide +kernel
theorem dX10_evening_30 : decode cX10_evening 30 = .ok (.baload, 1) := by decide +kernel
theorem dX10_evening_31 : decode cX10_evening 31 = .ok (.ifCond .eq 30, 3) := by decide +kernel
theorem dX10_evening_34 : decode cX10_evening 34 = .ok (.aload_n 0, 1) := by decide +kernel
theorem dX10_evening_35 : decode cX10_evening 35 = .ok (.iload_n 1, 1) := by decide +kernel
theorem dX10_evening_36 : decode cX10_evening 36 = .ok (.invokevirtual 261, 3) := by decide +kernel
theorem dX10_evening_39 : decode cX10_evening 39 = .ok (.ifCond .eq 22, 3) := by decide +kernel
theorem dX10_evening_42 : decode cX10_evening 42 = .ok (.iload_n 2, 1) := by decide +kernel
theorem dX10_evening_43 : decode cX10_evening 43 = .ok (.bipush 9, 2) := by decide +kernel
theorem dX10_evening_45 : decode cX10_evening 45 = .ok (.if_icmp .le 20, 3) := by decide +kernel
theorem dX10_evening_48 : decode cX10_evening 48 = .ok (.iload_n 2, 1) := by decide +kernel
theorem dX10_evening_49 : decode cX10_evening 49 = .ok (.bipush 10, 2) := by decide +kernel
theorem dX10_evening_51 : decode cX10_evening 51 = .ok (.isub, 1) := by decide +kernel
theorem dX10_evening_52 : decode cX10_evening 52 = .ok (.aload_n 0, 1) := by decide +kernel
theorem dX10_evening_53 : decode cX10_evening 53 = .ok (.getfield 66, 3) := by decide +kernel
theorem dX10_evening_56 : decode cX10_evening 56 = .ok (.iload_n 1, 1) := by decide +kernel
theorem dX10_evening_57 : decode cX10_evening 57 = .ok (.iaload, 1) := by decide +kernel
theorem dX10_evening_58 : decode cX10_evening 58 = .ok (.if_icmp .lt 7, 3) := by decide +kernel
theorem dX10_evening_61 : decode cX10_evening 61 = .ok (.sipush (-1000), 3) := by decide +kernel
theorem dX10_evening_64 : decode cX10_evening 64 = .ok (.ireturn, 1) := by decide +kernel
theorem dX10_evening_65 : decode cX10_evening 65 = .ok (.aload_n 0, 1) := by decide +kernel
theorem dX10_evening_66 : decode cX10_evening 66 = .ok (.iload_n 1, 1) := by decide +kernel
theorem dX10_evening_67 : decode cX10_evening 67 = .ok (.invokevirtual 264, 3) := by decide +kernel
theorem dX10_evening_70 : decode cX10_evening 70 = .ok (.aload_n 0, 1) := by decide +kernel
theorem dX10_evening_71 : decode cX10_evening 71 = .ok (.getfield 66, 3) := by decide +kernel
theorem dX10_evening_74 : decode cX10_evening 74 = .ok (.iload_n 1, 1) := by decide +kernel
theorem dX10_evening_75 : decode cX10_evening 75 = .ok (.iaload, 1) := by decide +kernel
theorem dX10_evening_76 : decode cX10_evening 76 = .ok (.istore_n 3, 1) := by decide +kernel
theorem dX10_evening_77 : decode cX10_evening 77 = .ok (.iload_n 2, 1) := by decide +kernel
theorem dX10_evening_78 : decode cX10_evening 78 = .ok (.ifCond .ne 12, 3) := by decide +kernel
theorem dX10_evening_81 : decode cX10_evening 81 = .ok (.aload_n 0, 1) := by decide +kernel
theorem dX10_evening_82 : decode cX10_evening 82 = .ok (.getfield 35, 3) := by decide +kernel
theorem dX10_evening_85 : decode cX10_evening 85 = .ok (.iload_n 3, 1) := by decide +kernel
theorem dX10_evening_86 : decode cX10_evening 86 = .ok (.iaload, 1) := by decide +kernel
theorem dX10_evening_87 : decode cX10_evening 87 = .ok (.goto 38, 3) := by decide +kernel
theorem dX10_evening_90 : decode cX10_evening 90 = .ok (.iload_n 2, 1) := by decide +kernel
theorem dX10_evening_91 : decode cX10_evening 91 = .ok (.iconst 1, 1) := by decide +kernel
theorem dX10_evening_92 : decode cX10_evening 92 = .ok (.if_icmp .ne 11, 3) := by decide +kernel
theorem dX10_evening_95 : decode cX10_evening 95 = .ok (.aload_n 0, 1) := by decide +kernel
theorem dX10_evening_96 : decode cX10_evening 96 = .ok (.iload_n 3, 1) := by decide +kernel
theorem dX10_evening_97 : decode cX10_evening 97 = .ok (.invokevirtual 268, 3) := by decide +kernel
theorem dX10_evening_100 : decode cX10_evening 100 = .ok (.goto 25, 3) := by decide +kernel
theorem dX10_evening_103 : decode cX10_evening 103 = .ok (.iload_n 2, 1) := by decide +kernel
theorem dX10_evening_104 : decode cX10_evening 104 = .ok (.iconst 2, 1) := by decide +kernel
theorem dX10_evening_105 : decode cX10_evening 105 = .ok (.if_icmp .ne 11, 3) := by decide +kernel
theorem dX10_evening_108 : decode cX10_evening 108 = .ok (.aload_n 0, 1) := by decide +kernel
theorem dX10_evening_109 : decode cX10_evening 109 = .ok (.iload_n 3, 1) := by decide +kernel
theorem dX10_evening_110 : decode cX10_evening 110 = .ok (.invokevirtual 271, 3) := by decide +kernel
theorem dX10_evening_113 : decode cX10_evening 113 = .ok (.goto 12, 3) := by decide +kernel
theorem dX10_evening_116 : decode cX10_evening 116 = .ok (.aload_n 0, 1) := by decide +kernel
theorem dX10_evening_117 : decode cX10_evening 117 = .ok (.getfield 35, 3) := by decide +kernel
theorem dX10_evening_120 : decode cX10_evening 120 = .ok (.iload_n 2, 1) := by decide +kernel
theorem dX10_evening_121 : decode cX10_evening 121 = .ok (.bipush 9, 2) := by decide +kernel
theorem dX10_evening_123 : decode cX10_evening 123 = .ok (.isub, 1) := by decide +kernel
theorem dX10_evening_124 : decode cX10_evening 124 = .ok (.iaload, 1) := by decide +kernel
theorem dX10_evening_125 : decode cX10_evening 125 = .ok (.ireturn, 1) := by decide +kernel
theorem dX10_hold_0 : decode cX10_hold 0 = .ok (.iload_n 1, 1) := by decide +kernel
theorem dX10_hold_1 : decode cX10_hold 1 = .ok (.invokestatic 256, 3) := by decide +kernel
theorem dX10_hold_4 : decode cX10_hold 4 = .ok (.ifCond .ne 6, 3) := by decide +kernel
theorem dX10_hold_7 : decode cX10_hold 7 = .ok (.bipush (-2), 2) := by decide +kernel
theorem dX10_hold_9 : decode cX10_hold 9 = .ok (.ireturn, 1) := by decide +kernel
theorem dX10_hold_10 : decode cX10_hold 10 = .ok (.aload_n 0, 1) := by decide +kernel
theorem dX10_hold_11 : decode cX10_hold 11 = .ok (.getfield 60, 3) := by decide +kernel
theorem dX10_hold_14 : decode cX10_hold 14 = .ok (.iload_n 1, 1) := by decide +kernel
theorem dX10_hold_15 : decode cX10_hold 15 = .ok (.baload, 1) := by decide +kernel
theorem dX10_hold_16 : decode cX10_hold 16 = .ok (.ifCond .ne 6, 3) := by decide +kernel
theorem dX10_hold_19 : decode cX10_hold 19 = .ok (.bipush (-11), 2) := by decide +kernel
theorem dX10_hold_21 : decode cX10_hold 21 = .ok (.ireturn, 1) := by decide +kernel
theorem dX10_hold_22 : decode cX10_hold 22 = .ok (.aload_n 0, 1) := by decide +kernel
theorem dX10_hold_23 : decode cX10_hold 23 = .ok (.iload_n 1, 1) := by decide +kernel
theorem dX10_hold_24 : decode cX10_hold 24 = .ok (.invokevirtual 261, 3) := by decide +kernel
theorem dX10_hold_27 : decode cX10_hold 27 = .ok (.ifCond .ne 6, 3) := by decide +kernel
theorem dX10_hold_30 : decode cX10_hold 30 = .ok (.bipush (-2), 2) := by decide +kernel
theorem dX10_hold_32 : decode cX10_hold 32 = .ok (.ireturn, 1) := by decide +kernel
theorem dX10_hold_33 : decode cX10_hold 33 = .ok (.aload_n 0, 1) := by decide +kernel
theorem dX10_hold_34 : decode cX10_hold 34 = .ok (.getfield 23, 3) := by decide +kernel
theorem dX10_hold_37 : decode cX10_hold 37 = .ok (.iconst 2, 1) := by decide +kernel
theorem dX10_hold_38 : decode cX10_hold 38 = .ok (.iaload, 1) := by decide +kernel
theorem dX10_hold_39 : decode cX10_hold 39 = .ok (.sipush 999, 3) := by decide +kernel
theorem dX10_hold_42 : decode cX10_hold 42 = .ok (.if_icmp .ne 6, 3) := by decide +kernel
theorem dX10_hold_45 : decode cX10_hold 45 = .ok (.bipush (-3), 2) := by decide +kernel
theorem dX10_hold_47 : decode cX10_hold 47 = .ok (.ireturn, 1) := by decide +kernel
theorem dX10_hold_48 : decode cX10_hold 48 = .ok (.aload_n 0, 1) := by decide +kernel
theorem dX10_hold_49 : decode cX10_hold 49 = .ok (.iload_n 1, 1) := by decide +kernel
theorem dX10_hold_50 : decode cX10_hold 50 = .ok (.invokevirtual 264, 3) := by decide +kernel
theorem dX10_hold_53 : decode cX10_hold 53 = .ok (.aload_n 0, 1) := by decide +kernel
theorem dX10_hold_54 : decode cX10_hold 54 = .ok (.getfield 66, 3) := by decide +kernel
theorem dX10_hold_57 : decode cX10_hold 57 = .ok (.iload_n 1, 1) := by decide +kernel
theorem dX10_hold_58 : decode cX10_hold 58 = .ok (.iaload, 1) := by decide +kernel
theorem dX10_hold_59 : decode cX10_hold 59 = .ok (.istore_n 2, 1) := by decide +kernel
theorem dX10_hold_60 : decode cX10_hold 60 = .ok (.aload_n 0, 1) := by decide +kernel
theorem dX10_hold_61 : decode cX10_hold 61 = .ok (.getfield 23, 3) := by decide +kernel
theorem dX10_hold_64 : decode cX10_hold 64 = .ok (.iconst 0, 1) := by decide +kernel
theorem dX10_hold_65 : decode cX10_hold 65 = .ok (.aload_n 0, 1) := by decide +kernel
theorem dX10_hold_66 : decode cX10_hold 66 = .ok (.getfield 35, 3) := by decide +kernel
theorem dX10_hold_69 : decode cX10_hold 69 = .ok (.iload_n 2, 1) := by decide +kernel
theorem dX10_hold_70 : decode cX10_hold 70 = .ok (.iaload, 1) := by decide +kernel
theorem dX10_hold_71 : decode cX10_hold 71 = .ok (.iastore, 1) := by decide +kernel
theorem dX10_hold_72 : decode cX10_hold 72 = .ok (.aload_n 0, 1) := by decide +kernel
theorem dX10_hold_73 : decode cX10_hold 73 = .ok (.dup, 1) := by decide +kernel
theorem dX10_hold_74 : decode cX10_hold 74 = .ok (.getfield 274, 3) := by decide +kernel
theorem dX10_hold_77 : decode cX10_hold 77 = .ok (.aload_n 0, 1) := by decide +kernel
theorem dX10_hold_78 : decode cX10_hold 78 = .ok (.iload_n 2, 1) := by decide +kernel
theorem dX10_hold_79 : decode cX10_hold 79 = .ok (.invokevirtual 271, 3) := by decide +kernel
theorem dX10_hold_82 : decode cX10_hold 82 = .ok (.iadd, 1) := by decide +kernel
theorem dX10_hold_83 : decode cX10_hold 83 = .ok (.putfield 274, 3) := by decide +kernel
theorem dX10_hold_86 : decode cX10_hold 86 = .ok (.aload_n 0, 1) := by decide +kernel
theorem dX10_hold_87 : decode cX10_hold 87 = .ok (.getfield 23, 3) := by decide +kernel
theorem dX10_hold_90 : decode cX10_hold 90 = .ok (.iconst 2, 1) := by decide +kernel
theorem dX10_hold_91 : decode cX10_hold 91 = .ok (.dup2, 1) := by decide +kernel
theorem dX10_hold_92 : decode cX10_hold 92 = .ok (.iaload, 1) := by decide +kernel
theorem dX10_hold_93 : decode cX10_hold 93 = .ok (.iconst 1, 1) := by decide +kernel
theorem dX10_hold_94 : decode cX10_hold 94 = .ok (.iadd, 1) := by decide +kernel
theorem dX10_hold_95 : decode cX10_hold 95 = .ok (.iastore, 1) := by decide +kernel
theorem dX10_hold_96 : decode cX10_hold 96 = .ok (.aload_n 0, 1) := by decide +kernel
theorem dX10_hold_97 : decode cX10_hold 97 = .ok (.iload_n 2, 1) := by decide +kernel
theorem dX10_hold_98 : decode cX10_hold 98 = .ok (.invokevirtual 271, 3) := by decide +kernel
theorem dX10_hold_101 : decode cX10_hold 101 = .ok (.ireturn, 1) := by decide +kernel
theorem dX10_seeksWarmest_0 : decode cX10_seeksWarmest 0 = .ok (.iload_n 1, 1) := by decide +kernel
theorem dX10_seeksWarmest_1 : decode cX10_seeksWarmest 1 = .ok (.ifCond .ne 44, 3) := by decide +kernel
theorem dX10_seeksWarmest_4 : decode cX10_seeksWarmest 4 = .ok (.aload_n 0, 1) := by decide +kernel
theorem dX10_seeksWarmest_5 : decode cX10_seeksWarmest 5 = .ok (.getfield 277, 3) := by decide +kernel
theorem dX10_seeksWarmest_8 : decode cX10_seeksWarmest 8 = .ok (.ifCond .eq 16, 3) := by decide +kernel
theorem dX10_seeksWarmest_11 : decode cX10_seeksWarmest 11 = .ok (.aload_n 0, 1) := by decide +kernel
theorem dX10_seeksWarmest_12 : decode cX10_seeksWarmest 12 = .ok (.getfield 35, 3) := by decide +kernel
theorem dX10_seeksWarmest_15 : decode cX10_seeksWarmest 15 = .ok (.iload_n 2, 1) := by decide +kernel
theorem dX10_seeksWarmest_16 : decode cX10_seeksWarmest 16 = .ok (.iaload, 1) := by decide +kernel
theorem dX10_seeksWarmest_17 : decode cX10_seeksWarmest 17 = .ok (.aload_n 0, 1) := by decide +kernel
theorem dX10_seeksWarmest_18 : decode cX10_seeksWarmest 18 = .ok (.getfield 280, 3) := by decide +kernel
theorem dX10_seeksWarmest_21 : decode cX10_seeksWarmest 21 = .ok (.if_icmp .le 23, 3) := by decide +kernel
theorem dX10_seeksWarmest_24 : decode cX10_seeksWarmest 24 = .ok (.aload_n 0, 1) := by decide +kernel
theorem dX10_seeksWarmest_25 : decode cX10_seeksWarmest 25 = .ok (.iconst 1, 1) := by decide +kernel
theorem dX10_seeksWarmest_26 : decode cX10_seeksWarmest 26 = .ok (.putfield 277, 3) := by decide +kernel
theorem dX10_seeksWarmest_29 : decode cX10_seeksWarmest 29 = .ok (.aload_n 0, 1) := by decide +kernel
theorem dX10_seeksWarmest_30 : decode cX10_seeksWarmest 30 = .ok (.iload_n 3, 1) := by decide +kernel
theorem dX10_seeksWarmest_31 : decode cX10_seeksWarmest 31 = .ok (.putfield 283, 3) := by decide +kernel
theorem dX10_seeksWarmest_34 : decode cX10_seeksWarmest 34 = .ok (.aload_n 0, 1) := by decide +kernel
theorem dX10_seeksWarmest_35 : decode cX10_seeksWarmest 35 = .ok (.aload_n 0, 1) := by decide +kernel
theorem dX10_seeksWarmest_36 : decode cX10_seeksWarmest 36 = .ok (.getfield 35, 3) := by decide +kernel
theorem dX10_seeksWarmest_39 : decode cX10_seeksWarmest 39 = .ok (.iload_n 2, 1) := by decide +kernel
theorem dX10_seeksWarmest_40 : decode cX10_seeksWarmest 40 = .ok (.iaload, 1) := by decide +kernel
theorem dX10_seeksWarmest_41 : decode cX10_seeksWarmest 41 = .ok (.putfield 280, 3) := by decide +kernel
theorem dX10_seeksWarmest_44 : decode cX10_seeksWarmest 44 = .ok (.return_, 1) := by decide +kernel
theorem dX10_seeksWarmest_45 : decode cX10_seeksWarmest 45 = .ok (.iconst 0, 1) := by decide +kernel
theorem dX10_seeksWarmest_46 : decode cX10_seeksWarmest 46 = .ok (.istore 4, 2) := by decide +kernel
theorem dX10_seeksWarmest_48 : decode cX10_seeksWarmest 48 = .ok (.iload 4, 2) := by decide +kernel
theorem dX10_seeksWarmest_50 : decode cX10_seeksWarmest 50 = .ok (.aload_n 0, 1) := by decide +kernel
theorem dX10_seeksWarmest_51 : decode cX10_seeksWarmest 51 = .ok (.getfield 79, 3) := by decide +kernel
theorem dX10_seeksWarmest_54 : decode cX10_seeksWarmest 54 = .ok (.if_icmp .ge 50, 3) := by decide +kernel
theorem dX10_seeksWarmest_57 : decode cX10_seeksWarmest 57 = .ok (.iload_n 1, 1) := by decide +kernel
theorem dX10_seeksWarmest_58 : decode cX10_seeksWarmest 58 = .ok (.iload 4, 2) := by decide +kernel
theorem dX10_seeksWarmest_60 : decode cX10_seeksWarmest 60 = .ok (.ishr, 1) := by decide +kernel
theorem dX10_seeksWarmest_61 : decode cX10_seeksWarmest 61 = .ok (.iconst 1, 1) := by decide +kernel
theorem dX10_seeksWarmest_62 : decode cX10_seeksWarmest 62 = .ok (.iand, 1) := by decide +kernel
theorem dX10_seeksWarmest_63 : decode cX10_seeksWarmest 63 = .ok (.iconst 1, 1) := by decide +kernel
theorem dX10_seeksWarmest_64 : decode cX10_seeksWarmest 64 = .ok (.if_icmp .ne 34, 3) := by decide +kernel
theorem dX10_seeksWarmest_67 : decode cX10_seeksWarmest 67 = .ok (.aload_n 0, 1) := by decide +kernel
theorem dX10_seeksWarmest_68 : decode cX10_seeksWarmest 68 = .ok (.iload 4, 2) := by decide +kernel
theorem dX10_seeksWarmest_70 : decode cX10_seeksWarmest 70 = .ok (.iload_n 2, 1) := by decide +kernel
theorem dX10_seeksWarmest_71 : decode cX10_seeksWarmest 71 = .ok (.invokevirtual 253, 3) := by decide +kernel
theorem dX10_seeksWarmest_74 : decode cX10_seeksWarmest 74 = .ok (.aload_n 0, 1) := by decide +kernel
theorem dX10_seeksWarmest_75 : decode cX10_seeksWarmest 75 = .ok (.iload_n 1, 1) := by decide +kernel
theorem dX10_seeksWarmest_76 : decode cX10_seeksWarmest 76 = .ok (.iconst 1, 1) := by decide +kernel
theorem dX10_seeksWarmest_77 : decode cX10_seeksWarmest 77 = .ok (.iload 4, 2) := by decide +kernel
theorem dX10_seeksWarmest_79 : decode cX10_seeksWarmest 79 = .ok (.ishl, 1) := by decide +kernel
theorem dX10_seeksWarmest_80 : decode cX10_seeksWarmest 80 = .ok (.iconst (-1), 1) := by decide +kernel
theorem dX10_seeksWarmest_81 : decode cX10_seeksWarmest 81 = .ok (.ixor, 1) := by decide +kernel
theorem dX10_seeksWarmest_82 : decode cX10_seeksWarmest 82 = .ok (.iand, 1) := by decide +kernel
theorem dX10_seeksWarmest_83 : decode cX10_seeksWarmest 83 = .ok (.iload_n 2, 1) := by decide +kernel
theorem dX10_seeksWarmest_84 : decode cX10_seeksWarmest 84 = .ok (.iconst 1, 1) := by decide +kernel
theorem dX10_seeksWarmest_85 : decode cX10_seeksWarmest 85 = .ok (.iadd, 1) := by decide +kernel
theorem dX10_seeksWarmest_86 : decode cX10_seeksWarmest 86 = .ok (.bipush 10, 2) := by decide +kernel
theorem dX10_seeksWarmest_88 : decode cX10_seeksWarmest 88 = .ok (.iload_n 3, 1) := by decide +kernel
theorem dX10_seeksWarmest_89 : decode cX10_seeksWarmest 89 = .ok (.imul, 1) := by decide +kernel
theorem dX10_seeksWarmest_90 : decode cX10_seeksWarmest 90 = .ok (.iload 4, 2) := by decide +kernel
theorem dX10_seeksWarmest_92 : decode cX10_seeksWarmest 92 = .ok (.iadd, 1) := by decide +kernel
theorem dX10_seeksWarmest_93 : decode cX10_seeksWarmest 93 = .ok (.iconst 1, 1) := by decide +kernel
theorem dX10_seeksWarmest_94 : decode cX10_seeksWarmest 94 = .ok (.iadd, 1) := by decide +kernel
theorem dX10_seeksWarmest_95 : decode cX10_seeksWarmest 95 = .ok (.invokevirtual 286, 3) := by decide +kernel
theorem dX10_seeksWarmest_98 : decode cX10_seeksWarmest 98 = .ok (.iinc 4 1, 3) := by decide +kernel
theorem dX10_seeksWarmest_101 : decode cX10_seeksWarmest 101 = .ok (.goto (-53), 3) := by decide +kernel
theorem dX10_seeksWarmest_104 : decode cX10_seeksWarmest 104 = .ok (.return_, 1) := by decide +kernel
theorem dX10_warmestOf_0 : decode cX10_warmestOf 0 = .ok (.aload_n 0, 1) := by decide +kernel
theorem dX10_warmestOf_1 : decode cX10_warmestOf 1 = .ok (.invokevirtual 113, 3) := by decide +kernel
theorem dX10_warmestOf_4 : decode cX10_warmestOf 4 = .ok (.aload_n 0, 1) := by decide +kernel
theorem dX10_warmestOf_5 : decode cX10_warmestOf 5 = .ok (.iconst 0, 1) := by decide +kernel
theorem dX10_warmestOf_6 : decode cX10_warmestOf 6 = .ok (.putfield 277, 3) := by decide +kernel
theorem dX10_warmestOf_9 : decode cX10_warmestOf 9 = .ok (.aload_n 0, 1) := by decide +kernel
theorem dX10_warmestOf_10 : decode cX10_warmestOf 10 = .ok (.iload_n 1, 1) := by decide +kernel
theorem dX10_warmestOf_11 : decode cX10_warmestOf 11 = .ok (.iconst 0, 1) := by decide +kernel
theorem dX10_warmestOf_12 : decode cX10_warmestOf 12 = .ok (.iconst 0, 1) := by decide +kernel
theorem dX10_warmestOf_13 : decode cX10_warmestOf 13 = .ok (.invokevirtual 286, 3) := by decide +kernel
theorem dX10_warmestOf_16 : decode cX10_warmestOf 16 = .ok (.aload_n 0, 1) := by decide +kernel
theorem dX10_warmestOf_17 : decode cX10_warmestOf 17 = .ok (.getfield 280, 3) := by decide +kernel
theorem dX10_warmestOf_20 : decode cX10_warmestOf 20 = .ok (.ireturn, 1) := by decide +kernel
theorem dX10_everybody_0 : decode cX10_everybody 0 = .ok (.iconst 1, 1) := by decide +kernel
theorem dX10_everybody_1 : decode cX10_everybody 1 = .ok (.aload_n 0, 1) := by decide +kernel
theorem dX10_everybody_2 : decode cX10_everybody 2 = .ok (.getfield 79, 3) := by decide +kernel
theorem dX10_everybody_5 : decode cX10_everybody 5 = .ok (.ishl, 1) := by decide +kernel
theorem dX10_everybody_6 : decode cX10_everybody 6 = .ok (.iconst 1, 1) := by decide +kernel
theorem dX10_everybody_7 : decode cX10_everybody 7 = .ok (.isub, 1) := by decide +kernel
theorem dX10_everybody_8 : decode cX10_everybody 8 = .ok (.ireturn, 1) := by decide +kernel
theorem dX10_warmest_0 : decode cX10_warmest 0 = .ok (.iload_n 1, 1) := by decide +kernel
theorem dX10_warmest_1 : decode cX10_warmest 1 = .ok (.i2l, 1) := by decide +kernel
theorem dX10_warmest_2 : decode cX10_warmest 2 = .ok (.lconst 0, 1) := by decide +kernel
theorem dX10_warmest_3 : decode cX10_warmest 3 = .ok (.lconst 1, 1) := by decide +kernel
theorem dX10_warmest_4 : decode cX10_warmest 4 = .ok (.invokestatic 82, 3) := by decide +kernel
theorem dX10_warmest_7 : decode cX10_warmest 7 = .ok (.ifCond .ne 6, 3) := by decide +kernel
theorem dX10_warmest_10 : decode cX10_warmest 10 = .ok (.bipush (-2), 2) := by decide +kernel
theorem dX10_warmest_12 : decode cX10_warmest 12 = .ok (.ireturn, 1) := by decide +kernel
theorem dX10_warmest_13 : decode cX10_warmest 13 = .ok (.aload_n 0, 1) := by decide +kernel
theorem dX10_warmest_14 : decode cX10_warmest 14 = .ok (.aload_n 0, 1) := by decide +kernel
theorem dX10_warmest_15 : decode cX10_warmest 15 = .ok (.invokevirtual 289, 3) := by decide +kernel
theorem dX10_warmest_18 : decode cX10_warmest 18 = .ok (.invokevirtual 292, 3) := by decide +kernel
theorem dX10_warmest_21 : decode cX10_warmest 21 = .ok (.istore_n 2, 1) := by decide +kernel
theorem dX10_warmest_22 : decode cX10_warmest 22 = .ok (.iload_n 1, 1) := by decide +kernel
theorem dX10_warmest_23 : decode cX10_warmest 23 = .ok (.ifCond .ne 10, 3) := by decide +kernel
theorem dX10_warmest_26 : decode cX10_warmest 26 = .ok (.aload_n 0, 1) := by decide +kernel
theorem dX10_warmest_27 : decode cX10_warmest 27 = .ok (.getfield 283, 3) := by decide +kernel
theorem dX10_warmest_30 : decode cX10_warmest 30 = .ok (.goto 4, 3) := by decide +kernel
theorem dX10_warmest_33 : decode cX10_warmest 33 = .ok (.iload_n 2, 1) := by decide +kernel
theorem dX10_warmest_34 : decode cX10_warmest 34 = .ok (.ireturn, 1) := by decide +kernel
theorem dX10_seeksSoonest_0 : decode cX10_seeksSoonest 0 = .ok (.iload_n 1, 1) := by decide +kernel
theorem dX10_seeksSoonest_1 : decode cX10_seeksSoonest 1 = .ok (.ifCond .ne 49, 3) := by decide +kernel
theorem dX10_seeksSoonest_4 : decode cX10_seeksSoonest 4 = .ok (.aload_n 0, 1) := by decide +kernel
theorem dX10_seeksSoonest_5 : decode cX10_seeksSoonest 5 = .ok (.iload_n 2, 1) := by decide +kernel
theorem dX10_seeksSoonest_6 : decode cX10_seeksSoonest 6 = .ok (.invokevirtual 268, 3) := by decide +kernel
theorem dX10_seeksSoonest_9 : decode cX10_seeksSoonest 9 = .ok (.istore 4, 2) := by decide +kernel
theorem dX10_seeksSoonest_11 : decode cX10_seeksSoonest 11 = .ok (.iload 4, 2) := by decide +kernel
theorem dX10_seeksSoonest_13 : decode cX10_seeksSoonest 13 = .ok (.iconst (-1), 1) := by decide +kernel
theorem dX10_seeksSoonest_14 : decode cX10_seeksSoonest 14 = .ok (.if_icmp .eq 35, 3) := by decide +kernel
theorem dX10_seeksSoonest_17 : decode cX10_seeksSoonest 17 = .ok (.aload_n 0, 1) := by decide +kernel
theorem dX10_seeksSoonest_18 : decode cX10_seeksSoonest 18 = .ok (.getfield 277, 3) := by decide +kernel
theorem dX10_seeksSoonest_21 : decode cX10_seeksSoonest 21 = .ok (.ifCond .eq 12, 3) := by decide +kernel
theorem dX10_seeksSoonest_24 : decode cX10_seeksSoonest 24 = .ok (.iload 4, 2) := by decide +kernel
theorem dX10_seeksSoonest_26 : decode cX10_seeksSoonest 26 = .ok (.aload_n 0, 1) := by decide +kernel
theorem dX10_seeksSoonest_27 : decode cX10_seeksSoonest 27 = .ok (.getfield 280, 3) := by decide +kernel
theorem dX10_seeksSoonest_30 : decode cX10_seeksSoonest 30 = .ok (.if_icmp .ge 19, 3) := by decide +kernel
theorem dX10_seeksSoonest_33 : decode cX10_seeksSoonest 33 = .ok (.aload_n 0, 1) := by decide +kernel
theorem dX10_seeksSoonest_34 : decode cX10_seeksSoonest 34 = .ok (.iconst 1, 1) := by decide +kernel
theorem dX10_seeksSoonest_35 : decode cX10_seeksSoonest 35 = .ok (.putfield 277, 3) := by decide +kernel
theorem dX10_seeksSoonest_38 : decode cX10_seeksSoonest 38 = .ok (.aload_n 0, 1) := by decide +kernel
theorem dX10_seeksSoonest_39 : decode cX10_seeksSoonest 39 = .ok (.iload_n 3, 1) := by decide +kernel
theorem dX10_seeksSoonest_40 : decode cX10_seeksSoonest 40 = .ok (.putfield 283, 3) := by decide +kernel
theorem dX10_seeksSoonest_43 : decode cX10_seeksSoonest 43 = .ok (.aload_n 0, 1) := by decide +kernel
theorem dX10_seeksSoonest_44 : decode cX10_seeksSoonest 44 = .ok (.iload 4, 2) := by decide +kernel
theorem dX10_seeksSoonest_46 : decode cX10_seeksSoonest 46 = .ok (.putfield 280, 3) := by decide +kernel
theorem dX10_seeksSoonest_49 : decode cX10_seeksSoonest 49 = .ok (.return_, 1) := by decide +kernel
theorem dX10_seeksSoonest_50 : decode cX10_seeksSoonest 50 = .ok (.iconst 0, 1) := by decide +kernel
theorem dX10_seeksSoonest_51 : decode cX10_seeksSoonest 51 = .ok (.istore 4, 2) := by decide +kernel
theorem dX10_seeksSoonest_53 : decode cX10_seeksSoonest 53 = .ok (.iload 4, 2) := by decide +kernel
theorem dX10_seeksSoonest_55 : decode cX10_seeksSoonest 55 = .ok (.aload_n 0, 1) := by decide +kernel
theorem dX10_seeksSoonest_56 : decode cX10_seeksSoonest 56 = .ok (.getfield 79, 3) := by decide +kernel
theorem dX10_seeksSoonest_59 : decode cX10_seeksSoonest 59 = .ok (.if_icmp .ge 50, 3) := by decide +kernel
theorem dX10_seeksSoonest_62 : decode cX10_seeksSoonest 62 = .ok (.iload_n 1, 1) := by decide +kernel
theorem dX10_seeksSoonest_63 : decode cX10_seeksSoonest 63 = .ok (.iload 4, 2) := by decide +kernel
theorem dX10_seeksSoonest_65 : decode cX10_seeksSoonest 65 = .ok (.ishr, 1) := by decide +kernel
theorem dX10_seeksSoonest_66 : decode cX10_seeksSoonest 66 = .ok (.iconst 1, 1) := by decide +kernel
theorem dX10_seeksSoonest_67 : decode cX10_seeksSoonest 67 = .ok (.iand, 1) := by decide +kernel
theorem dX10_seeksSoonest_68 : decode cX10_seeksSoonest 68 = .ok (.iconst 1, 1) := by decide +kernel
theorem dX10_seeksSoonest_69 : decode cX10_seeksSoonest 69 = .ok (.if_icmp .ne 34, 3) := by decide +kernel
theorem dX10_seeksSoonest_72 : decode cX10_seeksSoonest 72 = .ok (.aload_n 0, 1) := by decide +kernel
theorem dX10_seeksSoonest_73 : decode cX10_seeksSoonest 73 = .ok (.iload 4, 2) := by decide +kernel
theorem dX10_seeksSoonest_75 : decode cX10_seeksSoonest 75 = .ok (.iload_n 2, 1) := by decide +kernel
theorem dX10_seeksSoonest_76 : decode cX10_seeksSoonest 76 = .ok (.invokevirtual 253, 3) := by decide +kernel
theorem dX10_seeksSoonest_79 : decode cX10_seeksSoonest 79 = .ok (.aload_n 0, 1) := by decide +kernel
theorem dX10_seeksSoonest_80 : decode cX10_seeksSoonest 80 = .ok (.iload_n 1, 1) := by decide +kernel
theorem dX10_seeksSoonest_81 : decode cX10_seeksSoonest 81 = .ok (.iconst 1, 1) := by decide +kernel
theorem dX10_seeksSoonest_82 : decode cX10_seeksSoonest 82 = .ok (.iload 4, 2) := by decide +kernel
theorem dX10_seeksSoonest_84 : decode cX10_seeksSoonest 84 = .ok (.ishl, 1) := by decide +kernel
theorem dX10_seeksSoonest_85 : decode cX10_seeksSoonest 85 = .ok (.iconst (-1), 1) := by decide +kernel
theorem dX10_seeksSoonest_86 : decode cX10_seeksSoonest 86 = .ok (.ixor, 1) := by decide +kernel
theorem dX10_seeksSoonest_87 : decode cX10_seeksSoonest 87 = .ok (.iand, 1) := by decide +kernel
theorem dX10_seeksSoonest_88 : decode cX10_seeksSoonest 88 = .ok (.iload_n 2, 1) := by decide +kernel
theorem dX10_seeksSoonest_89 : decode cX10_seeksSoonest 89 = .ok (.iconst 1, 1) := by decide +kernel
theorem dX10_seeksSoonest_90 : decode cX10_seeksSoonest 90 = .ok (.iadd, 1) := by decide +kernel
theorem dX10_seeksSoonest_91 : decode cX10_seeksSoonest 91 = .ok (.bipush 10, 2) := by decide +kernel
theorem dX10_seeksSoonest_93 : decode cX10_seeksSoonest 93 = .ok (.iload_n 3, 1) := by decide +kernel
theorem dX10_seeksSoonest_94 : decode cX10_seeksSoonest 94 = .ok (.imul, 1) := by decide +kernel
theorem dX10_seeksSoonest_95 : decode cX10_seeksSoonest 95 = .ok (.iload 4, 2) := by decide +kernel
theorem dX10_seeksSoonest_97 : decode cX10_seeksSoonest 97 = .ok (.iadd, 1) := by decide +kernel
theorem dX10_seeksSoonest_98 : decode cX10_seeksSoonest 98 = .ok (.iconst 1, 1) := by decide +kernel
theorem dX10_seeksSoonest_99 : decode cX10_seeksSoonest 99 = .ok (.iadd, 1) := by decide +kernel
theorem dX10_seeksSoonest_100 : decode cX10_seeksSoonest 100 = .ok (.invokevirtual 295, 3) := by decide +kernel
theorem dX10_seeksSoonest_103 : decode cX10_seeksSoonest 103 = .ok (.iinc 4 1, 3) := by decide +kernel
theorem dX10_seeksSoonest_106 : decode cX10_seeksSoonest 106 = .ok (.goto (-53), 3) := by decide +kernel
theorem dX10_seeksSoonest_109 : decode cX10_seeksSoonest 109 = .ok (.return_, 1) := by decide +kernel
theorem dX10_seeksFew_0 : decode cX10_seeksFew 0 = .ok (.iload_n 2, 1) := by decide +kernel
theorem dX10_seeksFew_1 : decode cX10_seeksFew 1 = .ok (.iload_n 3, 1) := by decide +kernel
theorem dX10_seeksFew_2 : decode cX10_seeksFew 2 = .ok (.if_icmp .ne 21, 3) := by decide +kernel
theorem dX10_seeksFew_5 : decode cX10_seeksFew 5 = .ok (.aload_n 0, 1) := by decide +kernel
theorem dX10_seeksFew_6 : decode cX10_seeksFew 6 = .ok (.getfield 38, 3) := by decide +kernel
theorem dX10_seeksFew_9 : decode cX10_seeksFew 9 = .ok (.iload_n 2, 1) := by decide +kernel
theorem dX10_seeksFew_10 : decode cX10_seeksFew 10 = .ok (.iconst 1, 1) := by decide +kernel
theorem dX10_seeksFew_11 : decode cX10_seeksFew 11 = .ok (.isub, 1) := by decide +kernel
theorem dX10_seeksFew_12 : decode cX10_seeksFew 12 = .ok (.baload, 1) := by decide +kernel
theorem dX10_seeksFew_13 : decode cX10_seeksFew 13 = .ok (.ifCond .eq 8, 3) := by decide +kernel
theorem dX10_seeksFew_16 : decode cX10_seeksFew 16 = .ok (.iload 4, 2) := by decide +kernel
theorem dX10_seeksFew_18 : decode cX10_seeksFew 18 = .ok (.goto 4, 3) := by decide +kernel
theorem dX10_seeksFew_21 : decode cX10_seeksFew 21 = .ok (.iconst (-1), 1) := by decide +kernel
theorem dX10_seeksFew_22 : decode cX10_seeksFew 22 = .ok (.ireturn, 1) := by decide +kernel
theorem dX10_seeksFew_23 : decode cX10_seeksFew 23 = .ok (.iconst 0, 1) := by decide +kernel
theorem dX10_seeksFew_24 : decode cX10_seeksFew 24 = .ok (.istore 5, 2) := by decide +kernel
theorem dX10_seeksFew_26 : decode cX10_seeksFew 26 = .ok (.iload 5, 2) := by decide +kernel
theorem dX10_seeksFew_28 : decode cX10_seeksFew 28 = .ok (.aload_n 0, 1) := by decide +kernel
theorem dX10_seeksFew_29 : decode cX10_seeksFew 29 = .ok (.getfield 79, 3) := by decide +kernel
theorem dX10_seeksFew_32 : decode cX10_seeksFew 32 = .ok (.if_icmp .ge 63, 3) := by decide +kernel
theorem dX10_seeksFew_35 : decode cX10_seeksFew 35 = .ok (.iload_n 1, 1) := by decide +kernel
theorem dX10_seeksFew_36 : decode cX10_seeksFew 36 = .ok (.iload 5, 2) := by decide +kernel
theorem dX10_seeksFew_38 : decode cX10_seeksFew 38 = .ok (.ishr, 1) := by decide +kernel
theorem dX10_seeksFew_39 : decode cX10_seeksFew 39 = .ok (.iconst 1, 1) := by decide +kernel
theorem dX10_seeksFew_40 : decode cX10_seeksFew 40 = .ok (.iand, 1) := by decide +kernel
theorem dX10_seeksFew_41 : decode cX10_seeksFew 41 = .ok (.iconst 1, 1) := by decide +kernel
theorem dX10_seeksFew_42 : decode cX10_seeksFew 42 = .ok (.if_icmp .ne 47, 3) := by decide +kernel
theorem dX10_seeksFew_45 : decode cX10_seeksFew 45 = .ok (.aload_n 0, 1) := by decide +kernel
theorem dX10_seeksFew_46 : decode cX10_seeksFew 46 = .ok (.iload 5, 2) := by decide +kernel
theorem dX10_seeksFew_48 : decode cX10_seeksFew 48 = .ok (.iload_n 2, 1) := by decide +kernel
theorem dX10_seeksFew_49 : decode cX10_seeksFew 49 = .ok (.invokevirtual 253, 3) := by decide +kernel
theorem dX10_seeksFew_52 : decode cX10_seeksFew 52 = .ok (.aload_n 0, 1) := by decide +kernel
theorem dX10_seeksFew_53 : decode cX10_seeksFew 53 = .ok (.iload_n 1, 1) := by decide +kernel
theorem dX10_seeksFew_54 : decode cX10_seeksFew 54 = .ok (.iconst 1, 1) := by decide +kernel
theorem dX10_seeksFew_55 : decode cX10_seeksFew 55 = .ok (.iload 5, 2) := by decide +kernel
theorem dX10_seeksFew_57 : decode cX10_seeksFew 57 = .ok (.ishl, 1) := by decide +kernel
theorem dX10_seeksFew_58 : decode cX10_seeksFew 58 = .ok (.iconst (-1), 1) := by decide +kernel
theorem dX10_seeksFew_59 : decode cX10_seeksFew 59 = .ok (.ixor, 1) := by decide +kernel
theorem dX10_seeksFew_60 : decode cX10_seeksFew 60 = .ok (.iand, 1) := by decide +kernel
theorem dX10_seeksFew_61 : decode cX10_seeksFew 61 = .ok (.iload_n 2, 1) := by decide +kernel
theorem dX10_seeksFew_62 : decode cX10_seeksFew 62 = .ok (.iconst 1, 1) := by decide +kernel
theorem dX10_seeksFew_63 : decode cX10_seeksFew 63 = .ok (.iadd, 1) := by decide +kernel
theorem dX10_seeksFew_64 : decode cX10_seeksFew 64 = .ok (.iload_n 3, 1) := by decide +kernel
theorem dX10_seeksFew_65 : decode cX10_seeksFew 65 = .ok (.bipush 10, 2) := by decide +kernel
theorem dX10_seeksFew_67 : decode cX10_seeksFew 67 = .ok (.iload 4, 2) := by decide +kernel
theorem dX10_seeksFew_69 : decode cX10_seeksFew 69 = .ok (.imul, 1) := by decide +kernel
theorem dX10_seeksFew_70 : decode cX10_seeksFew 70 = .ok (.iload 5, 2) := by decide +kernel
theorem dX10_seeksFew_72 : decode cX10_seeksFew 72 = .ok (.iadd, 1) := by decide +kernel
theorem dX10_seeksFew_73 : decode cX10_seeksFew 73 = .ok (.iconst 1, 1) := by decide +kernel
theorem dX10_seeksFew_74 : decode cX10_seeksFew 74 = .ok (.iadd, 1) := by decide +kernel
theorem dX10_seeksFew_75 : decode cX10_seeksFew 75 = .ok (.invokevirtual 298, 3) := by decide +kernel
theorem dX10_seeksFew_78 : decode cX10_seeksFew 78 = .ok (.istore 6, 2) := by decide +kernel
theorem dX10_seeksFew_80 : decode cX10_seeksFew 80 = .ok (.iload 6, 2) := by decide +kernel
theorem dX10_seeksFew_82 : decode cX10_seeksFew 82 = .ok (.iconst (-1), 1) := by decide +kernel
theorem dX10_seeksFew_83 : decode cX10_seeksFew 83 = .ok (.if_icmp .eq 6, 3) := by decide +kernel
theorem dX10_seeksFew_86 : decode cX10_seeksFew 86 = .ok (.iload 6, 2) := by decide +kernel
theorem dX10_seeksFew_88 : decode cX10_seeksFew 88 = .ok (.ireturn, 1) := by decide +kernel
theorem dX10_seeksFew_89 : decode cX10_seeksFew 89 = .ok (.iinc 5 1, 3) := by decide +kernel
theorem dX10_seeksFew_92 : decode cX10_seeksFew 92 = .ok (.goto (-66), 3) := by decide +kernel
theorem dX10_seeksFew_95 : decode cX10_seeksFew 95 = .ok (.iconst (-1), 1) := by decide +kernel
theorem dX10_seeksFew_96 : decode cX10_seeksFew 96 = .ok (.ireturn, 1) := by decide +kernel
theorem dX10_soonest_0 : decode cX10_soonest 0 = .ok (.iload_n 1, 1) := by decide +kernel
theorem dX10_soonest_1 : decode cX10_soonest 1 = .ok (.i2l, 1) := by decide +kernel
theorem dX10_soonest_2 : decode cX10_soonest 2 = .ok (.lconst 0, 1) := by decide +kernel
theorem dX10_soonest_3 : decode cX10_soonest 3 = .ok (.ldc2_w 302, 3) := by decide +kernel
theorem dX10_soonest_6 : decode cX10_soonest 6 = .ok (.invokestatic 82, 3) := by decide +kernel
theorem dX10_soonest_9 : decode cX10_soonest 9 = .ok (.ifCond .ne 6, 3) := by decide +kernel
theorem dX10_soonest_12 : decode cX10_soonest 12 = .ok (.bipush (-2), 2) := by decide +kernel
theorem dX10_soonest_14 : decode cX10_soonest 14 = .ok (.ireturn, 1) := by decide +kernel
theorem dX10_soonest_15 : decode cX10_soonest 15 = .ok (.aload_n 0, 1) := by decide +kernel
theorem dX10_soonest_16 : decode cX10_soonest 16 = .ok (.invokevirtual 113, 3) := by decide +kernel
theorem dX10_soonest_19 : decode cX10_soonest 19 = .ok (.iload_n 1, 1) := by decide +kernel
theorem dX10_soonest_20 : decode cX10_soonest 20 = .ok (.iconst 2, 1) := by decide +kernel
theorem dX10_soonest_21 : decode cX10_soonest 21 = .ok (.if_icmp .ge 45, 3) := by decide +kernel
theorem dX10_soonest_24 : decode cX10_soonest 24 = .ok (.aload_n 0, 1) := by decide +kernel
theorem dX10_soonest_25 : decode cX10_soonest 25 = .ok (.iconst 0, 1) := by decide +kernel
theorem dX10_soonest_26 : decode cX10_soonest 26 = .ok (.putfield 277, 3) := by decide +kernel
theorem dX10_soonest_29 : decode cX10_soonest 29 = .ok (.aload_n 0, 1) := by decide +kernel
theorem dX10_soonest_30 : decode cX10_soonest 30 = .ok (.aload_n 0, 1) := by decide +kernel
theorem dX10_soonest_31 : decode cX10_soonest 31 = .ok (.invokevirtual 289, 3) := by decide +kernel
theorem dX10_soonest_34 : decode cX10_soonest 34 = .ok (.iconst 0, 1) := by decide +kernel
theorem dX10_soonest_35 : decode cX10_soonest 35 = .ok (.iconst 0, 1) := by decide +kernel
theorem dX10_soonest_36 : decode cX10_soonest 36 = .ok (.invokevirtual 295, 3) := by decide +kernel
theorem dX10_soonest_39 : decode cX10_soonest 39 = .ok (.aload_n 0, 1) := by decide +kernel
theorem dX10_soonest_40 : decode cX10_soonest 40 = .ok (.getfield 277, 3) := by decide +kernel
theorem dX10_soonest_43 : decode cX10_soonest 43 = .ok (.ifCond .ne 7, 3) := by decide +kernel
theorem dX10_soonest_46 : decode cX10_soonest 46 = .ok (.iconst (-1), 1) := by decide +kernel
theorem dX10_soonest_47 : decode cX10_soonest 47 = .ok (.goto 18, 3) := by decide +kernel
theorem dX10_soonest_50 : decode cX10_soonest 50 = .ok (.iload_n 1, 1) := by decide +kernel
theorem dX10_soonest_51 : decode cX10_soonest 51 = .ok (.ifCond .ne 10, 3) := by decide +kernel
theorem dX10_soonest_54 : decode cX10_soonest 54 = .ok (.aload_n 0, 1) := by decide +kernel
theorem dX10_soonest_55 : decode cX10_soonest 55 = .ok (.getfield 283, 3) := by decide +kernel
theorem dX10_soonest_58 : decode cX10_soonest 58 = .ok (.goto 7, 3) := by decide +kernel
theorem dX10_soonest_61 : decode cX10_soonest 61 = .ok (.aload_n 0, 1) := by decide +kernel
theorem dX10_soonest_62 : decode cX10_soonest 62 = .ok (.getfield 280, 3) := by decide +kernel
theorem dX10_soonest_65 : decode cX10_soonest 65 = .ok (.ireturn, 1) := by decide +kernel
theorem dX10_soonest_66 : decode cX10_soonest 66 = .ok (.iconst 1, 1) := by decide +kernel
theorem dX10_soonest_67 : decode cX10_soonest 67 = .ok (.istore_n 2, 1) := by decide +kernel
theorem dX10_soonest_68 : decode cX10_soonest 68 = .ok (.iload_n 2, 1) := by decide +kernel
theorem dX10_soonest_69 : decode cX10_soonest 69 = .ok (.aload_n 0, 1) := by decide +kernel
theorem dX10_soonest_70 : decode cX10_soonest 70 = .ok (.getfield 79, 3) := by decide +kernel
theorem dX10_soonest_73 : decode cX10_soonest 73 = .ok (.if_icmp .gt 37, 3) := by decide +kernel
theorem dX10_soonest_76 : decode cX10_soonest 76 = .ok (.aload_n 0, 1) := by decide +kernel
theorem dX10_soonest_77 : decode cX10_soonest 77 = .ok (.aload_n 0, 1) := by decide +kernel
theorem dX10_soonest_78 : decode cX10_soonest 78 = .ok (.invokevirtual 289, 3) := by decide +kernel
theorem dX10_soonest_81 : decode cX10_soonest 81 = .ok (.iconst 0, 1) := by decide +kernel
theorem dX10_soonest_82 : decode cX10_soonest 82 = .ok (.iload_n 2, 1) := by decide +kernel
theorem dX10_soonest_83 : decode cX10_soonest 83 = .ok (.iconst 0, 1) := by decide +kernel
theorem dX10_soonest_84 : decode cX10_soonest 84 = .ok (.invokevirtual 298, 3) := by decide +kernel
theorem dX10_soonest_87 : decode cX10_soonest 87 = .ok (.istore_n 3, 1) := by decide +kernel
theorem dX10_soonest_88 : decode cX10_soonest 88 = .ok (.iload_n 3, 1) := by decide +kernel
theorem dX10_soonest_89 : decode cX10_soonest 89 = .ok (.iconst (-1), 1) := by decide +kernel
theorem dX10_soonest_90 : decode cX10_soonest 90 = .ok (.if_icmp .eq 14, 3) := by decide +kernel
theorem dX10_soonest_93 : decode cX10_soonest 93 = .ok (.iload_n 1, 1) := by decide +kernel
theorem dX10_soonest_94 : decode cX10_soonest 94 = .ok (.iconst 2, 1) := by decide +kernel
theorem dX10_soonest_95 : decode cX10_soonest 95 = .ok (.if_icmp .ne 7, 3) := by decide +kernel
theorem dX10_soonest_98 : decode cX10_soonest 98 = .ok (.iload_n 3, 1) := by decide +kernel
theorem dX10_soonest_99 : decode cX10_soonest 99 = .ok (.goto 4, 3) := by decide +kernel
theorem dX10_soonest_102 : decode cX10_soonest 102 = .ok (.iload_n 2, 1) := by decide +kernel
theorem dX10_soonest_103 : decode cX10_soonest 103 = .ok (.ireturn, 1) := by decide +kernel
theorem dX10_soonest_104 : decode cX10_soonest 104 = .ok (.iinc 2 1, 3) := by decide +kernel
theorem dX10_soonest_107 : decode cX10_soonest 107 = .ok (.goto (-39), 3) := by decide +kernel
theorem dX10_soonest_110 : decode cX10_soonest 110 = .ok (.iconst (-1), 1) := by decide +kernel
theorem dX10_soonest_111 : decode cX10_soonest 111 = .ok (.ireturn, 1) := by decide +kernel
theorem dX10_ratherNot_0 : decode cX10_ratherNot 0 = .ok (.iload_n 1, 1) := by decide +kernel
theorem dX10_ratherNot_1 : decode cX10_ratherNot 1 = .ok (.i2l, 1) := by decide +kernel
theorem dX10_ratherNot_2 : decode cX10_ratherNot 2 = .ok (.lconst 0, 1) := by decide +kernel
theorem dX10_ratherNot_3 : decode cX10_ratherNot 3 = .ok (.lconst 1, 1) := by decide +kernel
theorem dX10_ratherNot_4 : decode cX10_ratherNot 4 = .ok (.invokestatic 82, 3) := by decide +kernel
theorem dX10_ratherNot_7 : decode cX10_ratherNot 7 = .ok (.ifCond .ne 6, 3) := by decide +kernel
theorem dX10_ratherNot_10 : decode cX10_ratherNot 10 = .ok (.bipush (-2), 2) := by decide +kernel
theorem dX10_ratherNot_12 : decode cX10_ratherNot 12 = .ok (.ireturn, 1) := by decide +kernel
theorem dX10_ratherNot_13 : decode cX10_ratherNot 13 = .ok (.iconst (-1), 1) := by decide +kernel
theorem dX10_ratherNot_14 : decode cX10_ratherNot 14 = .ok (.istore_n 2, 1) := by decide +kernel
theorem dX10_ratherNot_15 : decode cX10_ratherNot 15 = .ok (.aload_n 0, 1) := by decide +kernel
theorem dX10_ratherNot_16 : decode cX10_ratherNot 16 = .ok (.aload_n 0, 1) := by decide +kernel
theorem dX10_ratherNot_17 : decode cX10_ratherNot 17 = .ok (.invokevirtual 289, 3) := by decide +kernel
theorem dX10_ratherNot_20 : decode cX10_ratherNot 20 = .ok (.invokevirtual 292, 3) := by decide +kernel
theorem dX10_ratherNot_23 : decode cX10_ratherNot 23 = .ok (.istore_n 3, 1) := by decide +kernel
theorem dX10_ratherNot_24 : decode cX10_ratherNot 24 = .ok (.iconst 0, 1) := by decide +kernel
theorem dX10_ratherNot_25 : decode cX10_ratherNot 25 = .ok (.istore 4, 2) := by decide +kernel
theorem dX10_ratherNot_27 : decode cX10_ratherNot 27 = .ok (.iload 4, 2) := by decide +kernel
theorem dX10_ratherNot_29 : decode cX10_ratherNot 29 = .ok (.aload_n 0, 1) := by decide +kernel
theorem dX10_ratherNot_30 : decode cX10_ratherNot 30 = .ok (.getfield 79, 3) := by decide +kernel
theorem dX10_ratherNot_33 : decode cX10_ratherNot 33 = .ok (.if_icmp .ge 38, 3) := by decide +kernel
theorem dX10_ratherNot_36 : decode cX10_ratherNot 36 = .ok (.aload_n 0, 1) := by decide +kernel
theorem dX10_ratherNot_37 : decode cX10_ratherNot 37 = .ok (.aload_n 0, 1) := by decide +kernel
theorem dX10_ratherNot_38 : decode cX10_ratherNot 38 = .ok (.invokevirtual 289, 3) := by decide +kernel
theorem dX10_ratherNot_41 : decode cX10_ratherNot 41 = .ok (.iconst 1, 1) := by decide +kernel
theorem dX10_ratherNot_42 : decode cX10_ratherNot 42 = .ok (.iload 4, 2) := by decide +kernel
theorem dX10_ratherNot_44 : decode cX10_ratherNot 44 = .ok (.ishl, 1) := by decide +kernel
theorem dX10_ratherNot_45 : decode cX10_ratherNot 45 = .ok (.iconst (-1), 1) := by decide +kernel
theorem dX10_ratherNot_46 : decode cX10_ratherNot 46 = .ok (.ixor, 1) := by decide +kernel
theorem dX10_ratherNot_47 : decode cX10_ratherNot 47 = .ok (.iand, 1) := by decide +kernel
theorem dX10_ratherNot_48 : decode cX10_ratherNot 48 = .ok (.invokevirtual 292, 3) := by decide +kernel
theorem dX10_ratherNot_51 : decode cX10_ratherNot 51 = .ok (.istore 5, 2) := by decide +kernel
theorem dX10_ratherNot_53 : decode cX10_ratherNot 53 = .ok (.iload 5, 2) := by decide +kernel
theorem dX10_ratherNot_55 : decode cX10_ratherNot 55 = .ok (.iload_n 3, 1) := by decide +kernel
theorem dX10_ratherNot_56 : decode cX10_ratherNot 56 = .ok (.if_icmp .le 9, 3) := by decide +kernel
theorem dX10_ratherNot_59 : decode cX10_ratherNot 59 = .ok (.iload 4, 2) := by decide +kernel
theorem dX10_ratherNot_61 : decode cX10_ratherNot 61 = .ok (.istore_n 2, 1) := by decide +kernel
theorem dX10_ratherNot_62 : decode cX10_ratherNot 62 = .ok (.iload 5, 2) := by decide +kernel
theorem dX10_ratherNot_64 : decode cX10_ratherNot 64 = .ok (.istore_n 3, 1) := by decide +kernel
theorem dX10_ratherNot_65 : decode cX10_ratherNot 65 = .ok (.iinc 4 1, 3) := by decide +kernel
theorem dX10_ratherNot_68 : decode cX10_ratherNot 68 = .ok (.goto (-41), 3) := by decide +kernel
theorem dX10_ratherNot_71 : decode cX10_ratherNot 71 = .ok (.iload_n 1, 1) := by decide +kernel
theorem dX10_ratherNot_72 : decode cX10_ratherNot 72 = .ok (.ifCond .ne 7, 3) := by decide +kernel
theorem dX10_ratherNot_75 : decode cX10_ratherNot 75 = .ok (.iload_n 2, 1) := by decide +kernel
theorem dX10_ratherNot_76 : decode cX10_ratherNot 76 = .ok (.goto 4, 3) := by decide +kernel
theorem dX10_ratherNot_79 : decode cX10_ratherNot 79 = .ok (.iload_n 3, 1) := by decide +kernel
theorem dX10_ratherNot_80 : decode cX10_ratherNot 80 = .ok (.ireturn, 1) := by decide +kernel
theorem dX10_topic_0 : decode cX10_topic 0 = .ok (.aload_n 0, 1) := by decide +kernel
theorem dX10_topic_1 : decode cX10_topic 1 = .ok (.iload_n 1, 1) := by decide +kernel
theorem dX10_topic_2 : decode cX10_topic 2 = .ok (.invokevirtual 88, 3) := by decide +kernel
theorem dX10_topic_5 : decode cX10_topic 5 = .ok (.ifCond .eq 13, 3) := by decide +kernel
theorem dX10_topic_8 : decode cX10_topic 8 = .ok (.iload_n 2, 1) := by decide +kernel
theorem dX10_topic_9 : decode cX10_topic 9 = .ok (.i2l, 1) := by decide +kernel
theorem dX10_topic_10 : decode cX10_topic 10 = .ok (.lconst 0, 1) := by decide +kernel
theorem dX10_topic_11 : decode cX10_topic 11 = .ok (.lconst 1, 1) := by decide +kernel
theorem dX10_topic_12 : decode cX10_topic 12 = .ok (.invokestatic 82, 3) := by decide +kernel
theorem dX10_topic_15 : decode cX10_topic 15 = .ok (.ifCond .ne 6, 3) := by decide +kernel
theorem dX10_topic_18 : decode cX10_topic 18 = .ok (.bipush (-2), 2) := by decide +kernel
theorem dX10_topic_20 : decode cX10_topic 20 = .ok (.ireturn, 1) := by decide +kernel
theorem dX10_topic_21 : decode cX10_topic 21 = .ok (.aload_n 0, 1) := by decide +kernel
theorem dX10_topic_22 : decode cX10_topic 22 = .ok (.iload_n 1, 1) := by decide +kernel
theorem dX10_topic_23 : decode cX10_topic 23 = .ok (.invokevirtual 246, 3) := by decide +kernel
theorem dX10_topic_26 : decode cX10_topic 26 = .ok (.istore_n 3, 1) := by decide +kernel
theorem dX10_topic_27 : decode cX10_topic 27 = .ok (.iconst (-1), 1) := by decide +kernel
theorem dX10_topic_28 : decode cX10_topic 28 = .ok (.istore 4, 2) := by decide +kernel
theorem dX10_topic_30 : decode cX10_topic 30 = .ok (.iconst (-1), 1) := by decide +kernel
theorem dX10_topic_31 : decode cX10_topic 31 = .ok (.istore 5, 2) := by decide +kernel
theorem dX10_topic_33 : decode cX10_topic 33 = .ok (.iconst 0, 1) := by decide +kernel
theorem dX10_topic_34 : decode cX10_topic 34 = .ok (.istore 6, 2) := by decide +kernel
theorem dX10_topic_36 : decode cX10_topic 36 = .ok (.iload 6, 2) := by decide +kernel
theorem dX10_topic_38 : decode cX10_topic 38 = .ok (.bipush 8, 2) := by decide +kernel
theorem dX10_topic_40 : decode cX10_topic 40 = .ok (.if_icmp .ge 46, 3) := by decide +kernel
theorem dX10_topic_43 : decode cX10_topic 43 = .ok (.aload_n 0, 1) := by decide +kernel
theorem dX10_topic_44 : decode cX10_topic 44 = .ok (.getfield 29, 3) := by decide +kernel
theorem dX10_topic_47 : decode cX10_topic 47 = .ok (.iconst 3, 1) := by decide +kernel
theorem dX10_topic_48 : decode cX10_topic 48 = .ok (.iload_n 1, 1) := by decide +kernel
theorem dX10_topic_49 : decode cX10_topic 49 = .ok (.imul, 1) := by decide +kernel
theorem dX10_topic_50 : decode cX10_topic 50 = .ok (.iconst 1, 1) := by decide +kernel
theorem dX10_topic_51 : decode cX10_topic 51 = .ok (.iadd, 1) := by decide +kernel
theorem dX10_topic_52 : decode cX10_topic 52 = .ok (.iload 6, 2) := by decide +kernel
theorem dX10_topic_54 : decode cX10_topic 54 = .ok (.iastore, 1) := by decide +kernel
theorem dX10_topic_55 : decode cX10_topic 55 = .ok (.aload_n 0, 1) := by decide +kernel
theorem dX10_topic_56 : decode cX10_topic 56 = .ok (.aload_n 0, 1) := by decide +kernel
theorem dX10_topic_57 : decode cX10_topic 57 = .ok (.invokevirtual 289, 3) := by decide +kernel
theorem dX10_topic_60 : decode cX10_topic 60 = .ok (.invokevirtual 292, 3) := by decide +kernel
theorem dX10_topic_63 : decode cX10_topic 63 = .ok (.istore 7, 2) := by decide +kernel
theorem dX10_topic_65 : decode cX10_topic 65 = .ok (.iload 7, 2) := by decide +kernel
theorem dX10_topic_67 : decode cX10_topic 67 = .ok (.iload 5, 2) := by decide +kernel
theorem dX10_topic_69 : decode cX10_topic 69 = .ok (.if_icmp .le 11, 3) := by decide +kernel
theorem dX10_topic_72 : decode cX10_topic 72 = .ok (.iload 6, 2) := by decide +kernel
theorem dX10_topic_74 : decode cX10_topic 74 = .ok (.istore 4, 2) := by decide +kernel
theorem dX10_topic_76 : decode cX10_topic 76 = .ok (.iload 7, 2) := by decide +kernel
theorem dX10_topic_78 : decode cX10_topic 78 = .ok (.istore 5, 2) := by decide +kernel
theorem dX10_topic_80 : decode cX10_topic 80 = .ok (.iinc 6 1, 3) := by decide +kernel
theorem dX10_topic_83 : decode cX10_topic 83 = .ok (.goto (-47), 3) := by decide +kernel
theorem dX10_topic_86 : decode cX10_topic 86 = .ok (.aload_n 0, 1) := by decide +kernel
theorem dX10_topic_87 : decode cX10_topic 87 = .ok (.getfield 29, 3) := by decide +kernel
theorem dX10_topic_90 : decode cX10_topic 90 = .ok (.iconst 3, 1) := by decide +kernel
theorem dX10_topic_91 : decode cX10_topic 91 = .ok (.iload_n 1, 1) := by decide +kernel
theorem dX10_topic_92 : decode cX10_topic 92 = .ok (.imul, 1) := by decide +kernel
theorem dX10_topic_93 : decode cX10_topic 93 = .ok (.iconst 1, 1) := by decide +kernel
theorem dX10_topic_94 : decode cX10_topic 94 = .ok (.iadd, 1) := by decide +kernel
theorem dX10_topic_95 : decode cX10_topic 95 = .ok (.iload_n 3, 1) := by decide +kernel
theorem dX10_topic_96 : decode cX10_topic 96 = .ok (.iastore, 1) := by decide +kernel
theorem dX10_topic_97 : decode cX10_topic 97 = .ok (.iload_n 2, 1) := by decide +kernel
theorem dX10_topic_98 : decode cX10_topic 98 = .ok (.ifCond .ne 8, 3) := by decide +kernel
theorem dX10_topic_101 : decode cX10_topic 101 = .ok (.iload 4, 2) := by decide +kernel
theorem dX10_topic_103 : decode cX10_topic 103 = .ok (.goto 5, 3) := by decide +kernel
theorem dX10_topic_106 : decode cX10_topic 106 = .ok (.iload 5, 2) := by decide +kernel
theorem dX10_topic_108 : decode cX10_topic 108 = .ok (.ireturn, 1) := by decide +kernel
theorem dX10_plays_0 : decode cX10_plays 0 = .ok (.iload_n 1, 1) := by decide +kernel
theorem dX10_plays_1 : decode cX10_plays 1 = .ok (.ifCond .ne 10, 3) := by decide +kernel
theorem dX10_plays_4 : decode cX10_plays 4 = .ok (.aload_n 0, 1) := by decide +kernel
theorem dX10_plays_5 : decode cX10_plays 5 = .ok (.getfield 35, 3) := by decide +kernel
theorem dX10_plays_8 : decode cX10_plays 8 = .ok (.iload_n 2, 1) := by decide +kernel
theorem dX10_plays_9 : decode cX10_plays 9 = .ok (.iaload, 1) := by decide +kernel
theorem dX10_plays_10 : decode cX10_plays 10 = .ok (.ireturn, 1) := by decide +kernel
theorem dX10_plays_11 : decode cX10_plays 11 = .ok (.iconst (-1), 1) := by decide +kernel
theorem dX10_plays_12 : decode cX10_plays 12 = .ok (.istore_n 3, 1) := by decide +kernel
theorem dX10_plays_13 : decode cX10_plays 13 = .ok (.iconst 0, 1) := by decide +kernel
theorem dX10_plays_14 : decode cX10_plays 14 = .ok (.istore 4, 2) := by decide +kernel
theorem dX10_plays_16 : decode cX10_plays 16 = .ok (.iload 4, 2) := by decide +kernel
theorem dX10_plays_18 : decode cX10_plays 18 = .ok (.aload_n 0, 1) := by decide +kernel
theorem dX10_plays_19 : decode cX10_plays 19 = .ok (.getfield 79, 3) := by decide +kernel
theorem dX10_plays_22 : decode cX10_plays 22 = .ok (.if_icmp .ge 89, 3) := by decide +kernel
theorem dX10_plays_25 : decode cX10_plays 25 = .ok (.iload_n 1, 1) := by decide +kernel
theorem dX10_plays_26 : decode cX10_plays 26 = .ok (.iload 4, 2) := by decide +kernel
theorem dX10_plays_28 : decode cX10_plays 28 = .ok (.ishr, 1) := by decide +kernel
theorem dX10_plays_29 : decode cX10_plays 29 = .ok (.iconst 1, 1) := by decide +kernel
theorem dX10_plays_30 : decode cX10_plays 30 = .ok (.iand, 1) := by decide +kernel
theorem dX10_plays_31 : decode cX10_plays 31 = .ok (.iconst 1, 1) := by decide +kernel
theorem dX10_plays_32 : decode cX10_plays 32 = .ok (.if_icmp .ne 73, 3) := by decide +kernel
theorem dX10_plays_35 : decode cX10_plays 35 = .ok (.aload_n 0, 1) := by decide +kernel
theorem dX10_plays_36 : decode cX10_plays 36 = .ok (.iload 4, 2) := by decide +kernel
theorem dX10_plays_38 : decode cX10_plays 38 = .ok (.iload_n 2, 1) := by decide +kernel
theorem dX10_plays_39 : decode cX10_plays 39 = .ok (.invokevirtual 253, 3) := by decide +kernel
theorem dX10_plays_42 : decode cX10_plays 42 = .ok (.aload_n 0, 1) := by decide +kernel
theorem dX10_plays_43 : decode cX10_plays 43 = .ok (.iload_n 1, 1) := by decide +kernel
theorem dX10_plays_44 : decode cX10_plays 44 = .ok (.iconst 1, 1) := by decide +kernel
theorem dX10_plays_45 : decode cX10_plays 45 = .ok (.iload 4, 2) := by decide +kernel
theorem dX10_plays_47 : decode cX10_plays 47 = .ok (.ishl, 1) := by decide +kernel
theorem dX10_plays_48 : decode cX10_plays 48 = .ok (.iconst (-1), 1) := by decide +kernel
theorem dX10_plays_49 : decode cX10_plays 49 = .ok (.ixor, 1) := by decide +kernel
theorem dX10_plays_50 : decode cX10_plays 50 = .ok (.iand, 1) := by decide +kernel
theorem dX10_plays_51 : decode cX10_plays 51 = .ok (.iload_n 2, 1) := by decide +kernel
theorem dX10_plays_52 : decode cX10_plays 52 = .ok (.iconst 1, 1) := by decide +kernel
theorem dX10_plays_53 : decode cX10_plays 53 = .ok (.iadd, 1) := by decide +kernel
theorem dX10_plays_54 : decode cX10_plays 54 = .ok (.invokevirtual 304, 3) := by decide +kernel
theorem dX10_plays_57 : decode cX10_plays 57 = .ok (.istore 5, 2) := by decide +kernel
theorem dX10_plays_59 : decode cX10_plays 59 = .ok (.iload_n 3, 1) := by decide +kernel
theorem dX10_plays_60 : decode cX10_plays 60 = .ok (.iconst (-1), 1) := by decide +kernel
theorem dX10_plays_61 : decode cX10_plays 61 = .ok (.if_icmp .eq 24, 3) := by decide +kernel
theorem dX10_plays_64 : decode cX10_plays 64 = .ok (.iload_n 2, 1) := by decide +kernel
theorem dX10_plays_65 : decode cX10_plays 65 = .ok (.iconst 2, 1) := by decide +kernel
theorem dX10_plays_66 : decode cX10_plays 66 = .ok (.irem, 1) := by decide +kernel
theorem dX10_plays_67 : decode cX10_plays 67 = .ok (.ifCond .ne 12, 3) := by decide +kernel
theorem dX10_plays_70 : decode cX10_plays 70 = .ok (.iload 5, 2) := by decide +kernel
theorem dX10_plays_72 : decode cX10_plays 72 = .ok (.iload_n 3, 1) := by decide +kernel
theorem dX10_plays_73 : decode cX10_plays 73 = .ok (.if_icmp .le 32, 3) := by decide +kernel
theorem dX10_plays_76 : decode cX10_plays 76 = .ok (.goto 9, 3) := by decide +kernel
theorem dX10_plays_79 : decode cX10_plays 79 = .ok (.iload 5, 2) := by decide +kernel
theorem dX10_plays_81 : decode cX10_plays 81 = .ok (.iload_n 3, 1) := by decide +kernel
theorem dX10_plays_82 : decode cX10_plays 82 = .ok (.if_icmp .ge 23, 3) := by decide +kernel
theorem dX10_plays_85 : decode cX10_plays 85 = .ok (.iload 5, 2) := by decide +kernel
theorem dX10_plays_87 : decode cX10_plays 87 = .ok (.istore_n 3, 1) := by decide +kernel
theorem dX10_plays_88 : decode cX10_plays 88 = .ok (.aload_n 0, 1) := by decide +kernel
theorem dX10_plays_89 : decode cX10_plays 89 = .ok (.iload_n 2, 1) := by decide +kernel
theorem dX10_plays_90 : decode cX10_plays 90 = .ok (.ifCond .ne 8, 3) := by decide +kernel
theorem dX10_plays_93 : decode cX10_plays 93 = .ok (.iload 4, 2) := by decide +kernel
theorem dX10_plays_95 : decode cX10_plays 95 = .ok (.goto 7, 3) := by decide +kernel
theorem dX10_plays_98 : decode cX10_plays 98 = .ok (.aload_n 0, 1) := by decide +kernel
theorem dX10_plays_99 : decode cX10_plays 99 = .ok (.getfield 307, 3) := by decide +kernel
theorem dX10_plays_102 : decode cX10_plays 102 = .ok (.putfield 307, 3) := by decide +kernel
theorem dX10_plays_105 : decode cX10_plays 105 = .ok (.iinc 4 1, 3) := by decide +kernel
theorem dX10_plays_108 : decode cX10_plays 108 = .ok (.goto (-92), 3) := by decide +kernel
theorem dX10_plays_111 : decode cX10_plays 111 = .ok (.iload_n 3, 1) := by decide +kernel
theorem dX10_plays_112 : decode cX10_plays 112 = .ok (.ireturn, 1) := by decide +kernel
theorem dX10_turns_0 : decode cX10_turns 0 = .ok (.iload_n 1, 1) := by decide +kernel
theorem dX10_turns_1 : decode cX10_turns 1 = .ok (.i2l, 1) := by decide +kernel
theorem dX10_turns_2 : decode cX10_turns 2 = .ok (.lconst 0, 1) := by decide +kernel
theorem dX10_turns_3 : decode cX10_turns 3 = .ok (.lconst 1, 1) := by decide +kernel
theorem dX10_turns_4 : decode cX10_turns 4 = .ok (.invokestatic 82, 3) := by decide +kernel
theorem dX10_turns_7 : decode cX10_turns 7 = .ok (.ifCond .ne 6, 3) := by decide +kernel
theorem dX10_turns_10 : decode cX10_turns 10 = .ok (.bipush (-2), 2) := by decide +kernel
theorem dX10_turns_12 : decode cX10_turns 12 = .ok (.ireturn, 1) := by decide +kernel
theorem dX10_turns_13 : decode cX10_turns 13 = .ok (.aload_n 0, 1) := by decide +kernel
theorem dX10_turns_14 : decode cX10_turns 14 = .ok (.invokevirtual 113, 3) := by decide +kernel
theorem dX10_turns_17 : decode cX10_turns 17 = .ok (.aload_n 0, 1) := by decide +kernel
theorem dX10_turns_18 : decode cX10_turns 18 = .ok (.iconst (-1), 1) := by decide +kernel
theorem dX10_turns_19 : decode cX10_turns 19 = .ok (.putfield 307, 3) := by decide +kernel
theorem dX10_turns_22 : decode cX10_turns 22 = .ok (.aload_n 0, 1) := by decide +kernel
theorem dX10_turns_23 : decode cX10_turns 23 = .ok (.aload_n 0, 1) := by decide +kernel
theorem dX10_turns_24 : decode cX10_turns 24 = .ok (.invokevirtual 289, 3) := by decide +kernel
theorem dX10_turns_27 : decode cX10_turns 27 = .ok (.iconst 0, 1) := by decide +kernel
theorem dX10_turns_28 : decode cX10_turns 28 = .ok (.invokevirtual 304, 3) := by decide +kernel
theorem dX10_turns_31 : decode cX10_turns 31 = .ok (.istore_n 2, 1) := by decide +kernel
theorem dX10_turns_32 : decode cX10_turns 32 = .ok (.iload_n 1, 1) := by decide +kernel
theorem dX10_turns_33 : decode cX10_turns 33 = .ok (.ifCond .ne 7, 3) := by decide +kernel
theorem dX10_turns_36 : decode cX10_turns 36 = .ok (.iload_n 2, 1) := by decide +kernel
theorem dX10_turns_37 : decode cX10_turns 37 = .ok (.goto 7, 3) := by decide +kernel
theorem dX10_turns_40 : decode cX10_turns 40 = .ok (.aload_n 0, 1) := by decide +kernel
theorem dX10_turns_41 : decode cX10_turns 41 = .ok (.getfield 307, 3) := by decide +kernel
theorem dX10_turns_44 : decode cX10_turns 44 = .ok (.ireturn, 1) := by decide +kernel
theorem dX10_seeksWays_0 : decode cX10_seeksWays 0 = .ok (.iload_n 2, 1) := by decide +kernel
theorem dX10_seeksWays_1 : decode cX10_seeksWays 1 = .ok (.ifCond .ne 69, 3) := by decide +kernel
theorem dX10_seeksWays_4 : decode cX10_seeksWays 4 = .ok (.aload_n 0, 1) := by decide +kernel
theorem dX10_seeksWays_5 : decode cX10_seeksWays 5 = .ok (.dup, 1) := by decide +kernel
theorem dX10_seeksWays_6 : decode cX10_seeksWays 6 = .ok (.getfield 310, 3) := by decide +kernel
theorem dX10_seeksWays_9 : decode cX10_seeksWays 9 = .ok (.iconst 1, 1) := by decide +kernel
theorem dX10_seeksWays_10 : decode cX10_seeksWays 10 = .ok (.iadd, 1) := by decide +kernel
theorem dX10_seeksWays_11 : decode cX10_seeksWays 11 = .ok (.putfield 310, 3) := by decide +kernel
theorem dX10_seeksWays_14 : decode cX10_seeksWays 14 = .ok (.aload_n 0, 1) := by decide +kernel
theorem dX10_seeksWays_15 : decode cX10_seeksWays 15 = .ok (.aload_n 0, 1) := by decide +kernel
theorem dX10_seeksWays_16 : decode cX10_seeksWays 16 = .ok (.getfield 310, 3) := by decide +kernel
theorem dX10_seeksWays_19 : decode cX10_seeksWays 19 = .ok (.iconst 1, 1) := by decide +kernel
theorem dX10_seeksWays_20 : decode cX10_seeksWays 20 = .ok (.if_icmp .ne 8, 3) := by decide +kernel
theorem dX10_seeksWays_23 : decode cX10_seeksWays 23 = .ok (.iload 4, 2) := by decide +kernel
theorem dX10_seeksWays_25 : decode cX10_seeksWays 25 = .ok (.goto 7, 3) := by decide +kernel
theorem dX10_seeksWays_28 : decode cX10_seeksWays 28 = .ok (.aload_n 0, 1) := by decide +kernel
theorem dX10_seeksWays_29 : decode cX10_seeksWays 29 = .ok (.getfield 313, 3) := by decide +kernel
theorem dX10_seeksWays_32 : decode cX10_seeksWays 32 = .ok (.putfield 313, 3) := by decide +kernel
theorem dX10_seeksWays_35 : decode cX10_seeksWays 35 = .ok (.iconst 0, 1) := by decide +kernel
theorem dX10_seeksWays_36 : decode cX10_seeksWays 36 = .ok (.istore 5, 2) := by decide +kernel
theorem dX10_seeksWays_38 : decode cX10_seeksWays 38 = .ok (.iload 5, 2) := by decide +kernel
theorem dX10_seeksWays_40 : decode cX10_seeksWays 40 = .ok (.iload_n 3, 1) := by decide +kernel
theorem dX10_seeksWays_41 : decode cX10_seeksWays 41 = .ok (.if_icmp .ge 28, 3) := by decide +kernel
theorem dX10_seeksWays_44 : decode cX10_seeksWays 44 = .ok (.aload_n 0, 1) := by decide +kernel
theorem dX10_seeksWays_45 : decode cX10_seeksWays 45 = .ok (.getfield 45, 3) := by decide +kernel
theorem dX10_seeksWays_48 : decode cX10_seeksWays 48 = .ok (.aload_n 0, 1) := by decide +kernel
theorem dX10_seeksWays_49 : decode cX10_seeksWays 49 = .ok (.getfield 32, 3) := by decide +kernel
theorem dX10_seeksWays_52 : decode cX10_seeksWays 52 = .ok (.iload 5, 2) := by decide +kernel
theorem dX10_seeksWays_54 : decode cX10_seeksWays 54 = .ok (.iaload, 1) := by decide +kernel
theorem dX10_seeksWays_55 : decode cX10_seeksWays 55 = .ok (.dup2, 1) := by decide +kernel
theorem dX10_seeksWays_56 : decode cX10_seeksWays 56 = .ok (.iaload, 1) := by decide +kernel
theorem dX10_seeksWays_57 : decode cX10_seeksWays 57 = .ok (.iconst 1, 1) := by decide +kernel
theorem dX10_seeksWays_58 : decode cX10_seeksWays 58 = .ok (.iload 5, 2) := by decide +kernel
theorem dX10_seeksWays_60 : decode cX10_seeksWays 60 = .ok (.ishl, 1) := by decide +kernel
theorem dX10_seeksWays_61 : decode cX10_seeksWays 61 = .ok (.ior, 1) := by decide +kernel
theorem dX10_seeksWays_62 : decode cX10_seeksWays 62 = .ok (.iastore, 1) := by decide +kernel
theorem dX10_seeksWays_63 : decode cX10_seeksWays 63 = .ok (.iinc 5 1, 3) := by decide +kernel
theorem dX10_seeksWays_66 : decode cX10_seeksWays 66 = .ok (.goto (-28), 3) := by decide +kernel
theorem dX10_seeksWays_69 : decode cX10_seeksWays 69 = .ok (.return_, 1) := by decide +kernel
theorem dX10_seeksWays_70 : decode cX10_seeksWays 70 = .ok (.iconst 0, 1) := by decide +kernel
theorem dX10_seeksWays_71 : decode cX10_seeksWays 71 = .ok (.istore 5, 2) := by decide +kernel
theorem dX10_seeksWays_73 : decode cX10_seeksWays 73 = .ok (.iload 5, 2) := by decide +kernel
theorem dX10_seeksWays_75 : decode cX10_seeksWays 75 = .ok (.aload_n 0, 1) := by decide +kernel
theorem dX10_seeksWays_76 : decode cX10_seeksWays 76 = .ok (.getfield 79, 3) := by decide +kernel
theorem dX10_seeksWays_79 : decode cX10_seeksWays 79 = .ok (.if_icmp .ge 74, 3) := by decide +kernel
theorem dX10_seeksWays_82 : decode cX10_seeksWays 82 = .ok (.iload_n 2, 1) := by decide +kernel
theorem dX10_seeksWays_83 : decode cX10_seeksWays 83 = .ok (.iload 5, 2) := by decide +kernel
theorem dX10_seeksWays_85 : decode cX10_seeksWays 85 = .ok (.ishr, 1) := by decide +kernel
theorem dX10_seeksWays_86 : decode cX10_seeksWays 86 = .ok (.iconst 1, 1) := by decide +kernel
theorem dX10_seeksWays_87 : decode cX10_seeksWays 87 = .ok (.iand, 1) := by decide +kernel
theorem dX10_seeksWays_88 : decode cX10_seeksWays 88 = .ok (.iconst 1, 1) := by decide +kernel
theorem dX10_seeksWays_89 : decode cX10_seeksWays 89 = .ok (.if_icmp .ne 58, 3) := by decide +kernel
theorem dX10_seeksWays_92 : decode cX10_seeksWays 92 = .ok (.aload_n 0, 1) := by decide +kernel
theorem dX10_seeksWays_93 : decode cX10_seeksWays 93 = .ok (.iload 5, 2) := by decide +kernel
theorem dX10_seeksWays_95 : decode cX10_seeksWays 95 = .ok (.iload_n 3, 1) := by decide +kernel
theorem dX10_seeksWays_96 : decode cX10_seeksWays 96 = .ok (.invokevirtual 253, 3) := by decide +kernel
theorem dX10_seeksWays_99 : decode cX10_seeksWays 99 = .ok (.aload_n 0, 1) := by decide +kernel
theorem dX10_seeksWays_100 : decode cX10_seeksWays 100 = .ok (.getfield 35, 3) := by decide +kernel
theorem dX10_seeksWays_103 : decode cX10_seeksWays 103 = .ok (.iload_n 3, 1) := by decide +kernel
theorem dX10_seeksWays_104 : decode cX10_seeksWays 104 = .ok (.iconst 1, 1) := by decide +kernel
theorem dX10_seeksWays_105 : decode cX10_seeksWays 105 = .ok (.iadd, 1) := by decide +kernel
theorem dX10_seeksWays_106 : decode cX10_seeksWays 106 = .ok (.iaload, 1) := by decide +kernel
theorem dX10_seeksWays_107 : decode cX10_seeksWays 107 = .ok (.aload_n 0, 1) := by decide +kernel
theorem dX10_seeksWays_108 : decode cX10_seeksWays 108 = .ok (.getfield 69, 3) := by decide +kernel
theorem dX10_seeksWays_111 : decode cX10_seeksWays 111 = .ok (.bipush 40, 2) := by decide +kernel
theorem dX10_seeksWays_113 : decode cX10_seeksWays 113 = .ok (.iload_n 1, 1) := by decide +kernel
theorem dX10_seeksWays_114 : decode cX10_seeksWays 114 = .ok (.imul, 1) := by decide +kernel
theorem dX10_seeksWays_115 : decode cX10_seeksWays 115 = .ok (.iload_n 3, 1) := by decide +kernel
theorem dX10_seeksWays_116 : decode cX10_seeksWays 116 = .ok (.iadd, 1) := by decide +kernel
theorem dX10_seeksWays_117 : decode cX10_seeksWays 117 = .ok (.iaload, 1) := by decide +kernel
theorem dX10_seeksWays_118 : decode cX10_seeksWays 118 = .ok (.if_icmp .ne 29, 3) := by decide +kernel
theorem dX10_seeksWays_121 : decode cX10_seeksWays 121 = .ok (.aload_n 0, 1) := by decide +kernel
theorem dX10_seeksWays_122 : decode cX10_seeksWays 122 = .ok (.iload_n 1, 1) := by decide +kernel
theorem dX10_seeksWays_123 : decode cX10_seeksWays 123 = .ok (.iload_n 2, 1) := by decide +kernel
theorem dX10_seeksWays_124 : decode cX10_seeksWays 124 = .ok (.iconst 1, 1) := by decide +kernel
theorem dX10_seeksWays_125 : decode cX10_seeksWays 125 = .ok (.iload 5, 2) := by decide +kernel
theorem dX10_seeksWays_127 : decode cX10_seeksWays 127 = .ok (.ishl, 1) := by decide +kernel
theorem dX10_seeksWays_128 : decode cX10_seeksWays 128 = .ok (.iconst (-1), 1) := by decide +kernel
theorem dX10_seeksWays_129 : decode cX10_seeksWays 129 = .ok (.ixor, 1) := by decide +kernel
theorem dX10_seeksWays_130 : decode cX10_seeksWays 130 = .ok (.iand, 1) := by decide +kernel
theorem dX10_seeksWays_131 : decode cX10_seeksWays 131 = .ok (.iload_n 3, 1) := by decide +kernel
theorem dX10_seeksWays_132 : decode cX10_seeksWays 132 = .ok (.iconst 1, 1) := by decide +kernel
theorem dX10_seeksWays_133 : decode cX10_seeksWays 133 = .ok (.iadd, 1) := by decide +kernel
theorem dX10_seeksWays_134 : decode cX10_seeksWays 134 = .ok (.bipush 10, 2) := by decide +kernel
theorem dX10_seeksWays_136 : decode cX10_seeksWays 136 = .ok (.iload 4, 2) := by decide +kernel
theorem dX10_seeksWays_138 : decode cX10_seeksWays 138 = .ok (.imul, 1) := by decide +kernel
theorem dX10_seeksWays_139 : decode cX10_seeksWays 139 = .ok (.iload 5, 2) := by decide +kernel
theorem dX10_seeksWays_141 : decode cX10_seeksWays 141 = .ok (.iadd, 1) := by decide +kernel
theorem dX10_seeksWays_142 : decode cX10_seeksWays 142 = .ok (.iconst 1, 1) := by decide +kernel
theorem dX10_seeksWays_143 : decode cX10_seeksWays 143 = .ok (.iadd, 1) := by decide +kernel
theorem dX10_seeksWays_144 : decode cX10_seeksWays 144 = .ok (.invokevirtual 316, 3) := by decide +kernel
theorem dX10_seeksWays_147 : decode cX10_seeksWays 147 = .ok (.iinc 5 1, 3) := by decide +kernel
theorem dX10_seeksWays_150 : decode cX10_seeksWays 150 = .ok (.goto (-77), 3) := by decide +kernel
theorem dX10_seeksWays_153 : decode cX10_seeksWays 153 = .ok (.return_, 1) := by decide +kernel
theorem dX10_firstOther_0 : decode cX10_firstOther 0 = .ok (.aload_n 0, 1) := by decide +kernel
theorem dX10_firstOther_1 : decode cX10_firstOther 1 = .ok (.invokevirtual 113, 3) := by decide +kernel
theorem dX10_firstOther_4 : decode cX10_firstOther 4 = .ok (.iconst 0, 1) := by decide +kernel
theorem dX10_firstOther_5 : decode cX10_firstOther 5 = .ok (.istore_n 2, 1) := by decide +kernel
theorem dX10_firstOther_6 : decode cX10_firstOther 6 = .ok (.iload_n 2, 1) := by decide +kernel
theorem dX10_firstOther_7 : decode cX10_firstOther 7 = .ok (.aload_n 0, 1) := by decide +kernel
theorem dX10_firstOther_8 : decode cX10_firstOther 8 = .ok (.getfield 79, 3) := by decide +kernel
theorem dX10_firstOther_11 : decode cX10_firstOther 11 = .ok (.if_icmp .ge 39, 3) := by decide +kernel
theorem dX10_firstOther_14 : decode cX10_firstOther 14 = .ok (.aload_n 0, 1) := by decide +kernel
theorem dX10_firstOther_15 : decode cX10_firstOther 15 = .ok (.iload_n 2, 1) := by decide +kernel
theorem dX10_firstOther_16 : decode cX10_firstOther 16 = .ok (.iload_n 2, 1) := by decide +kernel
theorem dX10_firstOther_17 : decode cX10_firstOther 17 = .ok (.invokevirtual 253, 3) := by decide +kernel
theorem dX10_firstOther_20 : decode cX10_firstOther 20 = .ok (.aload_n 0, 1) := by decide +kernel
theorem dX10_firstOther_21 : decode cX10_firstOther 21 = .ok (.getfield 35, 3) := by decide +kernel
theorem dX10_firstOther_24 : decode cX10_firstOther 24 = .ok (.iload_n 2, 1) := by decide +kernel
theorem dX10_firstOther_25 : decode cX10_firstOther 25 = .ok (.iconst 1, 1) := by decide +kernel
theorem dX10_firstOther_26 : decode cX10_firstOther 26 = .ok (.iadd, 1) := by decide +kernel
theorem dX10_firstOther_27 : decode cX10_firstOther 27 = .ok (.iaload, 1) := by decide +kernel
theorem dX10_firstOther_28 : decode cX10_firstOther 28 = .ok (.aload_n 0, 1) := by decide +kernel
theorem dX10_firstOther_29 : decode cX10_firstOther 29 = .ok (.getfield 69, 3) := by decide +kernel
theorem dX10_firstOther_32 : decode cX10_firstOther 32 = .ok (.bipush 40, 2) := by decide +kernel
theorem dX10_firstOther_34 : decode cX10_firstOther 34 = .ok (.iload_n 1, 1) := by decide +kernel
theorem dX10_firstOther_35 : decode cX10_firstOther 35 = .ok (.imul, 1) := by decide +kernel
theorem dX10_firstOther_36 : decode cX10_firstOther 36 = .ok (.iload_n 2, 1) := by decide +kernel
theorem dX10_firstOther_37 : decode cX10_firstOther 37 = .ok (.iadd, 1) := by decide +kernel
theorem dX10_firstOther_38 : decode cX10_firstOther 38 = .ok (.iaload, 1) := by decide +kernel
theorem dX10_firstOther_39 : decode cX10_firstOther 39 = .ok (.if_icmp .eq 5, 3) := by decide +kernel
theorem dX10_firstOther_42 : decode cX10_firstOther 42 = .ok (.iload_n 2, 1) := by decide +kernel
theorem dX10_firstOther_43 : decode cX10_firstOther 43 = .ok (.ireturn, 1) := by decide +kernel
theorem dX10_firstOther_44 : decode cX10_firstOther 44 = .ok (.iinc 2 1, 3) := by decide +kernel
theorem dX10_firstOther_47 : decode cX10_firstOther 47 = .ok (.goto (-41), 3) := by decide +kernel
theorem dX10_firstOther_50 : decode cX10_firstOther 50 = .ok (.iconst (-1), 1) := by decide +kernel
theorem dX10_firstOther_51 : decode cX10_firstOther 51 = .ok (.ireturn, 1) := by decide +kernel
theorem dX10_sure_0 : decode cX10_sure 0 = .ok (.iconst 0, 1) := by decide +kernel
theorem dX10_sure_1 : decode cX10_sure 1 = .ok (.istore_n 1, 1) := by decide +kernel
theorem dX10_sure_2 : decode cX10_sure 2 = .ok (.iconst 0, 1) := by decide +kernel
theorem dX10_sure_3 : decode cX10_sure 3 = .ok (.istore_n 2, 1) := by decide +kernel
theorem dX10_sure_4 : decode cX10_sure 4 = .ok (.iload_n 2, 1) := by decide +kernel
theorem dX10_sure_5 : decode cX10_sure 5 = .ok (.aload_n 0, 1) := by decide +kernel
theorem dX10_sure_6 : decode cX10_sure 6 = .ok (.getfield 79, 3) := by decide +kernel
theorem dX10_sure_9 : decode cX10_sure 9 = .ok (.if_icmp .ge 46, 3) := by decide +kernel
theorem dX10_sure_12 : decode cX10_sure 12 = .ok (.iload_n 1, 1) := by decide +kernel
theorem dX10_sure_13 : decode cX10_sure 13 = .ok (.aload_n 0, 1) := by decide +kernel
theorem dX10_sure_14 : decode cX10_sure 14 = .ok (.getfield 45, 3) := by decide +kernel
theorem dX10_sure_17 : decode cX10_sure 17 = .ok (.iload_n 2, 1) := by decide +kernel
theorem dX10_sure_18 : decode cX10_sure 18 = .ok (.iaload, 1) := by decide +kernel
theorem dX10_sure_19 : decode cX10_sure 19 = .ok (.ifCond .eq 25, 3) := by decide +kernel
theorem dX10_sure_22 : decode cX10_sure 22 = .ok (.aload_n 0, 1) := by decide +kernel
theorem dX10_sure_23 : decode cX10_sure 23 = .ok (.getfield 45, 3) := by decide +kernel
theorem dX10_sure_26 : decode cX10_sure 26 = .ok (.iload_n 2, 1) := by decide +kernel
theorem dX10_sure_27 : decode cX10_sure 27 = .ok (.iaload, 1) := by decide +kernel
theorem dX10_sure_28 : decode cX10_sure 28 = .ok (.aload_n 0, 1) := by decide +kernel
theorem dX10_sure_29 : decode cX10_sure 29 = .ok (.getfield 45, 3) := by decide +kernel
theorem dX10_sure_32 : decode cX10_sure 32 = .ok (.iload_n 2, 1) := by decide +kernel
theorem dX10_sure_33 : decode cX10_sure 33 = .ok (.iaload, 1) := by decide +kernel
theorem dX10_sure_34 : decode cX10_sure 34 = .ok (.iconst 1, 1) := by decide +kernel
theorem dX10_sure_35 : decode cX10_sure 35 = .ok (.isub, 1) := by decide +kernel
theorem dX10_sure_36 : decode cX10_sure 36 = .ok (.iand, 1) := by decide +kernel
theorem dX10_sure_37 : decode cX10_sure 37 = .ok (.ifCond .ne 7, 3) := by decide +kernel
theorem dX10_sure_40 : decode cX10_sure 40 = .ok (.iconst 1, 1) := by decide +kernel
theorem dX10_sure_41 : decode cX10_sure 41 = .ok (.goto 4, 3) := by decide +kernel
theorem dX10_sure_44 : decode cX10_sure 44 = .ok (.iconst 0, 1) := by decide +kernel
theorem dX10_sure_45 : decode cX10_sure 45 = .ok (.iload_n 2, 1) := by decide +kernel
theorem dX10_sure_46 : decode cX10_sure 46 = .ok (.ishl, 1) := by decide +kernel
theorem dX10_sure_47 : decode cX10_sure 47 = .ok (.ior, 1) := by decide +kernel
theorem dX10_sure_48 : decode cX10_sure 48 = .ok (.istore_n 1, 1) := by decide +kernel
theorem dX10_sure_49 : decode cX10_sure 49 = .ok (.iinc 2 1, 3) := by decide +kernel
theorem dX10_sure_52 : decode cX10_sure 52 = .ok (.goto (-48), 3) := by decide +kernel
theorem dX10_sure_55 : decode cX10_sure 55 = .ok (.iload_n 1, 1) := by decide +kernel
theorem dX10_sure_56 : decode cX10_sure 56 = .ok (.ireturn, 1) := by decide +kernel
theorem dX10_tells_0 : decode cX10_tells 0 = .ok (.iload_n 2, 1) := by decide +kernel
theorem dX10_tells_1 : decode cX10_tells 1 = .ok (.i2l, 1) := by decide +kernel
theorem dX10_tells_2 : decode cX10_tells 2 = .ok (.ldc2_w 162, 3) := by decide +kernel
theorem dX10_tells_5 : decode cX10_tells 5 = .ok (.ldc2_w 320, 3) := by decide +kernel
theorem dX10_tells_8 : decode cX10_tells 8 = .ok (.invokestatic 82, 3) := by decide +kernel
theorem dX10_tells_11 : decode cX10_tells 11 = .ok (.ifCond .eq 18, 3) := by decide +kernel
theorem dX10_tells_14 : decode cX10_tells 14 = .ok (.aload_n 0, 1) := by decide +kernel
theorem dX10_tells_15 : decode cX10_tells 15 = .ok (.iload_n 2, 1) := by decide +kernel
theorem dX10_tells_16 : decode cX10_tells 16 = .ok (.bipush 10, 2) := by decide +kernel
theorem dX10_tells_18 : decode cX10_tells 18 = .ok (.irem, 1) := by decide +kernel
theorem dX10_tells_19 : decode cX10_tells 19 = .ok (.invokevirtual 88, 3) := by decide +kernel
theorem dX10_tells_22 : decode cX10_tells 22 = .ok (.ifCond .eq 7, 3) := by decide +kernel
theorem dX10_tells_25 : decode cX10_tells 25 = .ok (.iconst 1, 1) := by decide +kernel
theorem dX10_tells_26 : decode cX10_tells 26 = .ok (.goto 4, 3) := by decide +kernel
theorem dX10_tells_29 : decode cX10_tells 29 = .ok (.iconst 0, 1) := by decide +kernel
theorem dX10_tells_30 : decode cX10_tells 30 = .ok (.istore_n 3, 1) := by decide +kernel
theorem dX10_tells_31 : decode cX10_tells 31 = .ok (.iload_n 1, 1) := by decide +kernel
theorem dX10_tells_32 : decode cX10_tells 32 = .ok (.invokestatic 256, 3) := by decide +kernel
theorem dX10_tells_35 : decode cX10_tells 35 = .ok (.ifCond .eq 19, 3) := by decide +kernel
theorem dX10_tells_38 : decode cX10_tells 38 = .ok (.iload_n 2, 1) := by decide +kernel
theorem dX10_tells_39 : decode cX10_tells 39 = .ok (.i2l, 1) := by decide +kernel
theorem dX10_tells_40 : decode cX10_tells 40 = .ok (.lconst 0, 1) := by decide +kernel
theorem dX10_tells_41 : decode cX10_tells 41 = .ok (.ldc2_w 322, 3) := by decide +kernel
theorem dX10_tells_44 : decode cX10_tells 44 = .ok (.invokestatic 82, 3) := by decide +kernel
theorem dX10_tells_47 : decode cX10_tells 47 = .ok (.ifCond .ne 10, 3) := by decide +kernel
theorem dX10_tells_50 : decode cX10_tells 50 = .ok (.iload_n 3, 1) := by decide +kernel
theorem dX10_tells_51 : decode cX10_tells 51 = .ok (.ifCond .ne 6, 3) := by decide +kernel
theorem dX10_tells_54 : decode cX10_tells 54 = .ok (.bipush (-2), 2) := by decide +kernel
theorem dX10_tells_56 : decode cX10_tells 56 = .ok (.ireturn, 1) := by decide +kernel
theorem dX10_tells_57 : decode cX10_tells 57 = .ok (.aload_n 0, 1) := by decide +kernel
theorem dX10_tells_58 : decode cX10_tells 58 = .ok (.getfield 60, 3) := by decide +kernel
theorem dX10_tells_61 : decode cX10_tells 61 = .ok (.iload_n 1, 1) := by decide +kernel
theorem dX10_tells_62 : decode cX10_tells 62 = .ok (.baload, 1) := by decide +kernel
theorem dX10_tells_63 : decode cX10_tells 63 = .ok (.ifCond .ne 6, 3) := by decide +kernel
theorem dX10_tells_66 : decode cX10_tells 66 = .ok (.bipush (-11), 2) := by decide +kernel
theorem dX10_tells_68 : decode cX10_tells 68 = .ok (.ireturn, 1) := by decide +kernel
theorem dX10_tells_69 : decode cX10_tells 69 = .ok (.aload_n 0, 1) := by decide +kernel
theorem dX10_tells_70 : decode cX10_tells 70 = .ok (.getfield 66, 3) := by decide +kernel
theorem dX10_tells_73 : decode cX10_tells 73 = .ok (.iload_n 1, 1) := by decide +kernel
theorem dX10_tells_74 : decode cX10_tells 74 = .ok (.iaload, 1) := by decide +kernel
theorem dX10_tells_75 : decode cX10_tells 75 = .ok (.aload_n 0, 1) := by decide +kernel
theorem dX10_tells_76 : decode cX10_tells 76 = .ok (.getfield 79, 3) := by decide +kernel
theorem dX10_tells_79 : decode cX10_tells 79 = .ok (.if_icmp .eq 6, 3) := by decide +kernel
theorem dX10_tells_82 : decode cX10_tells 82 = .ok (.bipush (-2), 2) := by decide +kernel
theorem dX10_tells_84 : decode cX10_tells 84 = .ok (.ireturn, 1) := by decide +kernel
theorem dX10_tells_85 : decode cX10_tells 85 = .ok (.iload_n 2, 1) := by decide +kernel
theorem dX10_tells_86 : decode cX10_tells 86 = .ok (.iconst 3, 1) := by decide +kernel
theorem dX10_tells_87 : decode cX10_tells 87 = .ok (.if_icmp .ne 9, 3) := by decide +kernel
theorem dX10_tells_90 : decode cX10_tells 90 = .ok (.aload_n 0, 1) := by decide +kernel
theorem dX10_tells_91 : decode cX10_tells 91 = .ok (.iload_n 1, 1) := by decide +kernel
theorem dX10_tells_92 : decode cX10_tells 92 = .ok (.invokevirtual 324, 3) := by decide +kernel
theorem dX10_tells_95 : decode cX10_tells 95 = .ok (.ireturn, 1) := by decide +kernel
theorem dX10_tells_96 : decode cX10_tells 96 = .ok (.iload_n 2, 1) := by decide +kernel
theorem dX10_tells_97 : decode cX10_tells 97 = .ok (.iconst 3, 1) := by decide +kernel
theorem dX10_tells_98 : decode cX10_tells 98 = .ok (.if_icmp .ge 82, 3) := by decide +kernel
theorem dX10_tells_101 : decode cX10_tells 101 = .ok (.aload_n 0, 1) := by decide +kernel
theorem dX10_tells_102 : decode cX10_tells 102 = .ok (.iconst 0, 1) := by decide +kernel
theorem dX10_tells_103 : decode cX10_tells 103 = .ok (.putfield 310, 3) := by decide +kernel
theorem dX10_tells_106 : decode cX10_tells 106 = .ok (.aload_n 0, 1) := by decide +kernel
theorem dX10_tells_107 : decode cX10_tells 107 = .ok (.iconst 0, 1) := by decide +kernel
theorem dX10_tells_108 : decode cX10_tells 108 = .ok (.putfield 313, 3) := by decide +kernel
theorem dX10_tells_111 : decode cX10_tells 111 = .ok (.iconst 0, 1) := by decide +kernel
theorem dX10_tells_112 : decode cX10_tells 112 = .ok (.istore 4, 2) := by decide +kernel
theorem dX10_tells_114 : decode cX10_tells 114 = .ok (.iload 4, 2) := by decide +kernel
theorem dX10_tells_116 : decode cX10_tells 116 = .ok (.aload_n 0, 1) := by decide +kernel
theorem dX10_tells_117 : decode cX10_tells 117 = .ok (.getfield 79, 3) := by decide +kernel
theorem dX10_tells_120 : decode cX10_tells 120 = .ok (.if_icmp .ge 17, 3) := by decide +kernel
theorem dX10_tells_123 : decode cX10_tells 123 = .ok (.aload_n 0, 1) := by decide +kernel
theorem dX10_tells_124 : decode cX10_tells 124 = .ok (.getfield 45, 3) := by decide +kernel
theorem dX10_tells_127 : decode cX10_tells 127 = .ok (.iload 4, 2) := by decide +kernel
theorem dX10_tells_129 : decode cX10_tells 129 = .ok (.iconst 0, 1) := by decide +kernel
theorem dX10_tells_130 : decode cX10_tells 130 = .ok (.iastore, 1) := by decide +kernel
theorem dX10_tells_131 : decode cX10_tells 131 = .ok (.iinc 4 1, 3) := by decide +kernel
theorem dX10_tells_134 : decode cX10_tells 134 = .ok (.goto (-20), 3) := by decide +kernel
theorem dX10_tells_137 : decode cX10_tells 137 = .ok (.aload_n 0, 1) := by decide +kernel
theorem dX10_tells_138 : decode cX10_tells 138 = .ok (.invokevirtual 113, 3) := by decide +kernel
theorem dX10_tells_141 : decode cX10_tells 141 = .ok (.aload_n 0, 1) := by decide +kernel
theorem dX10_tells_142 : decode cX10_tells 142 = .ok (.iload_n 1, 1) := by decide +kernel
theorem dX10_tells_143 : decode cX10_tells 143 = .ok (.aload_n 0, 1) := by decide +kernel
theorem dX10_tells_144 : decode cX10_tells 144 = .ok (.invokevirtual 289, 3) := by decide +kernel
theorem dX10_tells_147 : decode cX10_tells 147 = .ok (.iconst 0, 1) := by decide +kernel
theorem dX10_tells_148 : decode cX10_tells 148 = .ok (.iconst 0, 1) := by decide +kernel
theorem dX10_tells_149 : decode cX10_tells 149 = .ok (.invokevirtual 316, 3) := by decide +kernel
theorem dX10_tells_152 : decode cX10_tells 152 = .ok (.iload_n 2, 1) := by decide +kernel
theorem dX10_tells_153 : decode cX10_tells 153 = .ok (.ifCond .ne 10, 3) := by decide +kernel
theorem dX10_tells_156 : decode cX10_tells 156 = .ok (.aload_n 0, 1) := by decide +kernel
theorem dX10_tells_157 : decode cX10_tells 157 = .ok (.getfield 310, 3) := by decide +kernel
theorem dX10_tells_160 : decode cX10_tells 160 = .ok (.goto 19, 3) := by decide +kernel
theorem dX10_tells_163 : decode cX10_tells 163 = .ok (.iload_n 2, 1) := by decide +kernel
theorem dX10_tells_164 : decode cX10_tells 164 = .ok (.iconst 1, 1) := by decide +kernel
theorem dX10_tells_165 : decode cX10_tells 165 = .ok (.if_icmp .ne 10, 3) := by decide +kernel
theorem dX10_tells_168 : decode cX10_tells 168 = .ok (.aload_n 0, 1) := by decide +kernel
theorem dX10_tells_169 : decode cX10_tells 169 = .ok (.getfield 313, 3) := by decide +kernel
theorem dX10_tells_172 : decode cX10_tells 172 = .ok (.goto 7, 3) := by decide +kernel
theorem dX10_tells_175 : decode cX10_tells 175 = .ok (.aload_n 0, 1) := by decide +kernel
theorem dX10_tells_176 : decode cX10_tells 176 = .ok (.invokevirtual 327, 3) := by decide +kernel
theorem dX10_tells_179 : decode cX10_tells 179 = .ok (.ireturn, 1) := by decide +kernel
theorem dX10_tells_180 : decode cX10_tells 180 = .ok (.iload_n 2, 1) := by decide +kernel
theorem dX10_tells_181 : decode cX10_tells 181 = .ok (.bipush 10, 2) := by decide +kernel
theorem dX10_tells_183 : decode cX10_tells 183 = .ok (.irem, 1) := by decide +kernel
theorem dX10_tells_184 : decode cX10_tells 184 = .ok (.istore 4, 2) := by decide +kernel
theorem dX10_tells_186 : decode cX10_tells 186 = .ok (.iload_n 2, 1) := by decide +kernel
theorem dX10_tells_187 : decode cX10_tells 187 = .ok (.iconst 4, 1) := by decide +kernel
theorem dX10_tells_188 : decode cX10_tells 188 = .ok (.if_icmp .ne 8, 3) := by decide +kernel
theorem dX10_tells_191 : decode cX10_tells 191 = .ok (.bipush 7, 2) := by decide +kernel
theorem dX10_tells_193 : decode cX10_tells 193 = .ok (.goto 25, 3) := by decide +kernel
theorem dX10_tells_196 : decode cX10_tells 196 = .ok (.iload_n 2, 1) := by decide +kernel
theorem dX10_tells_197 : decode cX10_tells 197 = .ok (.bipush 20, 2) := by decide +kernel
theorem dX10_tells_199 : decode cX10_tells 199 = .ok (.if_icmp .ge 8, 3) := by decide +kernel
theorem dX10_tells_202 : decode cX10_tells 202 = .ok (.bipush 6, 2) := by decide +kernel
theorem dX10_tells_204 : decode cX10_tells 204 = .ok (.goto 14, 3) := by decide +kernel
theorem dX10_tells_207 : decode cX10_tells 207 = .ok (.iload_n 2, 1) := by decide +kernel
theorem dX10_tells_208 : decode cX10_tells 208 = .ok (.bipush 30, 2) := by decide +kernel
theorem dX10_tells_210 : decode cX10_tells 210 = .ok (.if_icmp .ge 7, 3) := by decide +kernel
theorem dX10_tells_213 : decode cX10_tells 213 = .ok (.iconst 3, 1) := by decide +kernel
theorem dX10_tells_214 : decode cX10_tells 214 = .ok (.goto 4, 3) := by decide +kernel
theorem dX10_tells_217 : decode cX10_tells 217 = .ok (.iconst 4, 1) := by decide +kernel
theorem dX10_tells_218 : decode cX10_tells 218 = .ok (.istore 5, 2) := by decide +kernel
theorem dX10_tells_220 : decode cX10_tells 220 = .ok (.iload 5, 2) := by decide +kernel
theorem dX10_tells_222 : decode cX10_tells 222 = .ok (.bipush 7, 2) := by decide +kernel
theorem dX10_tells_224 : decode cX10_tells 224 = .ok (.if_icmp .ne 10, 3) := by decide +kernel
theorem dX10_tells_227 : decode cX10_tells 227 = .ok (.aload_n 0, 1) := by decide +kernel
theorem dX10_tells_228 : decode cX10_tells 228 = .ok (.getfield 104, 3) := by decide +kernel
theorem dX10_tells_231 : decode cX10_tells 231 = .ok (.goto 11, 3) := by decide +kernel
theorem dX10_tells_234 : decode cX10_tells 234 = .ok (.aload_n 0, 1) := by decide +kernel
theorem dX10_tells_235 : decode cX10_tells 235 = .ok (.iload 4, 2) := by decide +kernel
theorem dX10_tells_237 : decode cX10_tells 237 = .ok (.iload 5, 2) := by decide +kernel
theorem dX10_tells_239 : decode cX10_tells 239 = .ok (.invokevirtual 96, 3) := by decide +kernel
theorem dX10_tells_242 : decode cX10_tells 242 = .ok (.istore 6, 2) := by decide +kernel
theorem dX10_tells_244 : decode cX10_tells 244 = .ok (.iload 5, 2) := by decide +kernel
theorem dX10_tells_246 : decode cX10_tells 246 = .ok (.bipush 7, 2) := by decide +kernel
theorem dX10_tells_248 : decode cX10_tells 248 = .ok (.if_icmp .ne 12, 3) := by decide +kernel
theorem dX10_tells_251 : decode cX10_tells 251 = .ok (.aload_n 0, 1) := by decide +kernel
theorem dX10_tells_252 : decode cX10_tells 252 = .ok (.getfield 76, 3) := by decide +kernel
theorem dX10_tells_255 : decode cX10_tells 255 = .ok (.iconst 1, 1) := by decide +kernel
theorem dX10_tells_256 : decode cX10_tells 256 = .ok (.isub, 1) := by decide +kernel
theorem dX10_tells_257 : decode cX10_tells 257 = .ok (.goto 19, 3) := by decide +kernel
theorem dX10_tells_260 : decode cX10_tells 260 = .ok (.iload 5, 2) := by decide +kernel
theorem dX10_tells_262 : decode cX10_tells 262 = .ok (.bipush 6, 2) := by decide +kernel
theorem dX10_tells_264 : decode cX10_tells 264 = .ok (.if_icmp .ne 7, 3) := by decide +kernel
theorem dX10_tells_267 : decode cX10_tells 267 = .ok (.iconst 5, 1) := by decide +kernel
theorem dX10_tells_268 : decode cX10_tells 268 = .ok (.goto 8, 3) := by decide +kernel
theorem dX10_tells_271 : decode cX10_tells 271 = .ok (.iload 5, 2) := by decide +kernel
theorem dX10_tells_273 : decode cX10_tells 273 = .ok (.invokestatic 92, 3) := by decide +kernel
theorem dX10_tells_276 : decode cX10_tells 276 = .ok (.istore 7, 2) := by decide +kernel
theorem dX10_tells_278 : decode cX10_tells 278 = .ok (.iconst 0, 1) := by decide +kernel
theorem dX10_tells_279 : decode cX10_tells 279 = .ok (.istore 8, 2) := by decide +kernel
theorem dX10_tells_281 : decode cX10_tells 281 = .ok (.iconst 0, 1) := by decide +kernel
theorem dX10_tells_282 : decode cX10_tells 282 = .ok (.istore 9, 2) := by decide +kernel
theorem dX10_tells_284 : decode cX10_tells 284 = .ok (.iload 9, 2) := by decide +kernel
theorem dX10_tells_286 : decode cX10_tells 286 = .ok (.iload 7, 2) := by decide +kernel
theorem dX10_tells_288 : decode cX10_tells 288 = .ok (.if_icmp .gt 41, 3) := by decide +kernel
theorem dX10_tells_291 : decode cX10_tells 291 = .ok (.aload_n 0, 1) := by decide +kernel
theorem dX10_tells_292 : decode cX10_tells 292 = .ok (.iload 5, 2) := by decide +kernel
theorem dX10_tells_294 : decode cX10_tells 294 = .ok (.iload 4, 2) := by decide +kernel
theorem dX10_tells_296 : decode cX10_tells 296 = .ok (.iload 9, 2) := by decide +kernel
theorem dX10_tells_298 : decode cX10_tells 298 = .ok (.invokevirtual 100, 3) := by decide +kernel
theorem dX10_tells_301 : decode cX10_tells 301 = .ok (.iload 8, 2) := by decide +kernel
theorem dX10_tells_303 : decode cX10_tells 303 = .ok (.aload_n 0, 1) := by decide +kernel
theorem dX10_tells_304 : decode cX10_tells 304 = .ok (.iload_n 1, 1) := by decide +kernel
theorem dX10_tells_305 : decode cX10_tells 305 = .ok (.invokevirtual 324, 3) := by decide +kernel
theorem dX10_tells_308 : decode cX10_tells 308 = .ok (.iconst (-1), 1) := by decide +kernel
theorem dX10_tells_309 : decode cX10_tells 309 = .ok (.if_icmp .ne 7, 3) := by decide +kernel
theorem dX10_tells_312 : decode cX10_tells 312 = .ok (.iconst 1, 1) := by decide +kernel
theorem dX10_tells_313 : decode cX10_tells 313 = .ok (.goto 4, 3) := by decide +kernel
theorem dX10_tells_316 : decode cX10_tells 316 = .ok (.iconst 0, 1) := by decide +kernel
theorem dX10_tells_317 : decode cX10_tells 317 = .ok (.iload 9, 2) := by decide +kernel
theorem dX10_tells_319 : decode cX10_tells 319 = .ok (.ishl, 1) := by decide +kernel
theorem dX10_tells_320 : decode cX10_tells 320 = .ok (.ior, 1) := by decide +kernel
theorem dX10_tells_321 : decode cX10_tells 321 = .ok (.istore 8, 2) := by decide +kernel
theorem dX10_tells_323 : decode cX10_tells 323 = .ok (.iinc 9 1, 3) := by decide +kernel
theorem dX10_tells_326 : decode cX10_tells 326 = .ok (.goto (-42), 3) := by decide +kernel
theorem dX10_tells_329 : decode cX10_tells 329 = .ok (.aload_n 0, 1) := by decide +kernel
theorem dX10_tells_330 : decode cX10_tells 330 = .ok (.iload 5, 2) := by decide +kernel
theorem dX10_tells_332 : decode cX10_tells 332 = .ok (.iload 4, 2) := by decide +kernel
theorem dX10_tells_334 : decode cX10_tells 334 = .ok (.iload 6, 2) := by decide +kernel
theorem dX10_tells_336 : decode cX10_tells 336 = .ok (.invokevirtual 100, 3) := by decide +kernel
theorem dX10_tells_339 : decode cX10_tells 339 = .ok (.iload 8, 2) := by decide +kernel
theorem dX10_tells_341 : decode cX10_tells 341 = .ok (.ireturn, 1) := by decide +kernel
theorem dX10_film_0 : decode cX10_film 0 = .ok (.iload_n 1, 1) := by decide +kernel
theorem dX10_film_1 : decode cX10_film 1 = .ok (.invokestatic 256, 3) := by decide +kernel
theorem dX10_film_4 : decode cX10_film 4 = .ok (.ifCond .ne 6, 3) := by decide +kernel
theorem dX10_film_7 : decode cX10_film 7 = .ok (.bipush (-2), 2) := by decide +kernel
theorem dX10_film_9 : decode cX10_film 9 = .ok (.ireturn, 1) := by decide +kernel
theorem dX10_film_10 : decode cX10_film 10 = .ok (.aload_n 0, 1) := by decide +kernel
theorem dX10_film_11 : decode cX10_film 11 = .ok (.invokevirtual 113, 3) := by decide +kernel
theorem dX10_film_14 : decode cX10_film 14 = .ok (.iconst 0, 1) := by decide +kernel
theorem dX10_film_15 : decode cX10_film 15 = .ok (.istore_n 2, 1) := by decide +kernel
theorem dX10_film_16 : decode cX10_film 16 = .ok (.iload_n 2, 1) := by decide +kernel
theorem dX10_film_17 : decode cX10_film 17 = .ok (.aload_n 0, 1) := by decide +kernel
theorem dX10_film_18 : decode cX10_film 18 = .ok (.getfield 79, 3) := by decide +kernel
theorem dX10_film_21 : decode cX10_film 21 = .ok (.if_icmp .ge 15, 3) := by decide +kernel
theorem dX10_film_24 : decode cX10_film 24 = .ok (.aload_n 0, 1) := by decide +kernel
theorem dX10_film_25 : decode cX10_film 25 = .ok (.iload_n 2, 1) := by decide +kernel
theorem dX10_film_26 : decode cX10_film 26 = .ok (.iload_n 2, 1) := by decide +kernel
theorem dX10_film_27 : decode cX10_film 27 = .ok (.invokevirtual 253, 3) := by decide +kernel
theorem dX10_film_30 : decode cX10_film 30 = .ok (.iinc 2 1, 3) := by decide +kernel
theorem dX10_film_33 : decode cX10_film 33 = .ok (.goto (-17), 3) := by decide +kernel
theorem dX10_film_36 : decode cX10_film 36 = .ok (.aload_n 0, 1) := by decide +kernel
theorem dX10_film_37 : decode cX10_film 37 = .ok (.iload_n 1, 1) := by decide +kernel
theorem dX10_film_38 : decode cX10_film 38 = .ok (.iconst 0, 1) := by decide +kernel
theorem dX10_film_39 : decode cX10_film 39 = .ok (.aload_n 0, 1) := by decide +kernel
theorem dX10_film_40 : decode cX10_film 40 = .ok (.getfield 79, 3) := by decide +kernel
theorem dX10_film_43 : decode cX10_film 43 = .ok (.invokevirtual 330, 3) := by decide +kernel
theorem dX10_film_46 : decode cX10_film 46 = .ok (.pop, 1) := by decide +kernel
theorem dX10_film_47 : decode cX10_film 47 = .ok (.iconst 0, 1) := by decide +kernel
theorem dX10_film_48 : decode cX10_film 48 = .ok (.istore_n 2, 1) := by decide +kernel
theorem dX10_film_49 : decode cX10_film 49 = .ok (.iload_n 2, 1) := by decide +kernel
theorem dX10_film_50 : decode cX10_film 50 = .ok (.aload_n 0, 1) := by decide +kernel
theorem dX10_film_51 : decode cX10_film 51 = .ok (.getfield 79, 3) := by decide +kernel
theorem dX10_film_54 : decode cX10_film 54 = .ok (.if_icmp .ge 28, 3) := by decide +kernel
theorem dX10_film_57 : decode cX10_film 57 = .ok (.aload_n 0, 1) := by decide +kernel
theorem dX10_film_58 : decode cX10_film 58 = .ok (.getfield 69, 3) := by decide +kernel
theorem dX10_film_61 : decode cX10_film 61 = .ok (.bipush 40, 2) := by decide +kernel
theorem dX10_film_63 : decode cX10_film 63 = .ok (.iload_n 1, 1) := by decide +kernel
theorem dX10_film_64 : decode cX10_film 64 = .ok (.imul, 1) := by decide +kernel
theorem dX10_film_65 : decode cX10_film 65 = .ok (.iload_n 2, 1) := by decide +kernel
theorem dX10_film_66 : decode cX10_film 66 = .ok (.iadd, 1) := by decide +kernel
theorem dX10_film_67 : decode cX10_film 67 = .ok (.aload_n 0, 1) := by decide +kernel
theorem dX10_film_68 : decode cX10_film 68 = .ok (.getfield 35, 3) := by decide +kernel
theorem dX10_film_71 : decode cX10_film 71 = .ok (.iload_n 2, 1) := by decide +kernel
theorem dX10_film_72 : decode cX10_film 72 = .ok (.iconst 1, 1) := by decide +kernel
theorem dX10_film_73 : decode cX10_film 73 = .ok (.iadd, 1) := by decide +kernel
theorem dX10_film_74 : decode cX10_film 74 = .ok (.iaload, 1) := by decide +kernel
theorem dX10_film_75 : decode cX10_film 75 = .ok (.iastore, 1) := by decide +kernel
theorem dX10_film_76 : decode cX10_film 76 = .ok (.iinc 2 1, 3) := by decide +kernel
theorem dX10_film_79 : decode cX10_film 79 = .ok (.goto (-30), 3) := by decide +kernel
theorem dX10_film_82 : decode cX10_film 82 = .ok (.aload_n 0, 1) := by decide +kernel
theorem dX10_film_83 : decode cX10_film 83 = .ok (.getfield 79, 3) := by decide +kernel
theorem dX10_film_86 : decode cX10_film 86 = .ok (.ireturn, 1) := by decide +kernel
theorem dX10_draws_0 : decode cX10_draws 0 = .ok (.iload_n 1, 1) := by decide +kernel
theorem dX10_draws_1 : decode cX10_draws 1 = .ok (.istore_n 2, 1) := by decide +kernel
theorem dX10_draws_2 : decode cX10_draws 2 = .ok (.iconst 0, 1) := by decide +kernel
theorem dX10_draws_3 : decode cX10_draws 3 = .ok (.istore_n 3, 1) := by decide +kernel
theorem dX10_draws_4 : decode cX10_draws 4 = .ok (.iload_n 3, 1) := by decide +kernel
theorem dX10_draws_5 : decode cX10_draws 5 = .ok (.aload_n 0, 1) := by decide +kernel
theorem dX10_draws_6 : decode cX10_draws 6 = .ok (.getfield 79, 3) := by decide +kernel
theorem dX10_draws_9 : decode cX10_draws 9 = .ok (.if_icmp .ge 47, 3) := by decide +kernel
theorem dX10_draws_12 : decode cX10_draws 12 = .ok (.aload_n 0, 1) := by decide +kernel
theorem dX10_draws_13 : decode cX10_draws 13 = .ok (.getfield 48, 3) := by decide +kernel
theorem dX10_draws_16 : decode cX10_draws 16 = .ok (.iload_n 3, 1) := by decide +kernel
theorem dX10_draws_17 : decode cX10_draws 17 = .ok (.aload_n 0, 1) := by decide +kernel
theorem dX10_draws_18 : decode cX10_draws 18 = .ok (.iload_n 3, 1) := by decide +kernel
theorem dX10_draws_19 : decode cX10_draws 19 = .ok (.invokevirtual 246, 3) := by decide +kernel
theorem dX10_draws_22 : decode cX10_draws 22 = .ok (.iastore, 1) := by decide +kernel
theorem dX10_draws_23 : decode cX10_draws 23 = .ok (.iload_n 2, 1) := by decide +kernel
theorem dX10_draws_24 : decode cX10_draws 24 = .ok (.ldc_w 333, 3) := by decide +kernel
theorem dX10_draws_27 : decode cX10_draws 27 = .ok (.imul, 1) := by decide +kernel
theorem dX10_draws_28 : decode cX10_draws 28 = .ok (.sipush 12345, 3) := by decide +kernel
theorem dX10_draws_31 : decode cX10_draws 31 = .ok (.iadd, 1) := by decide +kernel
theorem dX10_draws_32 : decode cX10_draws 32 = .ok (.istore_n 2, 1) := by decide +kernel
theorem dX10_draws_33 : decode cX10_draws 33 = .ok (.aload_n 0, 1) := by decide +kernel
theorem dX10_draws_34 : decode cX10_draws 34 = .ok (.getfield 29, 3) := by decide +kernel
theorem dX10_draws_37 : decode cX10_draws 37 = .ok (.iconst 3, 1) := by decide +kernel
theorem dX10_draws_38 : decode cX10_draws 38 = .ok (.iload_n 3, 1) := by decide +kernel
theorem dX10_draws_39 : decode cX10_draws 39 = .ok (.imul, 1) := by decide +kernel
theorem dX10_draws_40 : decode cX10_draws 40 = .ok (.iconst 1, 1) := by decide +kernel
theorem dX10_draws_41 : decode cX10_draws 41 = .ok (.iadd, 1) := by decide +kernel
theorem dX10_draws_42 : decode cX10_draws 42 = .ok (.iload_n 2, 1) := by decide +kernel
theorem dX10_draws_43 : decode cX10_draws 43 = .ok (.bipush 9, 2) := by decide +kernel
theorem dX10_draws_45 : decode cX10_draws 45 = .ok (.iushr, 1) := by decide +kernel
theorem dX10_draws_46 : decode cX10_draws 46 = .ok (.bipush 8, 2) := by decide +kernel
theorem dX10_draws_48 : decode cX10_draws 48 = .ok (.irem, 1) := by decide +kernel
theorem dX10_draws_49 : decode cX10_draws 49 = .ok (.iastore, 1) := by decide +kernel
theorem dX10_draws_50 : decode cX10_draws 50 = .ok (.iinc 3 1, 3) := by decide +kernel
theorem dX10_draws_53 : decode cX10_draws 53 = .ok (.goto (-49), 3) := by decide +kernel
theorem dX10_draws_56 : decode cX10_draws 56 = .ok (.aload_n 0, 1) := by decide +kernel
theorem dX10_draws_57 : decode cX10_draws 57 = .ok (.invokevirtual 113, 3) := by decide +kernel
theorem dX10_draws_60 : decode cX10_draws 60 = .ok (.iconst 0, 1) := by decide +kernel
theorem dX10_draws_61 : decode cX10_draws 61 = .ok (.istore_n 3, 1) := by decide +kernel
theorem dX10_draws_62 : decode cX10_draws 62 = .ok (.iload_n 3, 1) := by decide +kernel
theorem dX10_draws_63 : decode cX10_draws 63 = .ok (.aload_n 0, 1) := by decide +kernel
theorem dX10_draws_64 : decode cX10_draws 64 = .ok (.getfield 79, 3) := by decide +kernel
theorem dX10_draws_67 : decode cX10_draws 67 = .ok (.if_icmp .ge 15, 3) := by decide +kernel
theorem dX10_draws_70 : decode cX10_draws 70 = .ok (.aload_n 0, 1) := by decide +kernel
theorem dX10_draws_71 : decode cX10_draws 71 = .ok (.iload_n 3, 1) := by decide +kernel
theorem dX10_draws_72 : decode cX10_draws 72 = .ok (.iload_n 3, 1) := by decide +kernel
theorem dX10_draws_73 : decode cX10_draws 73 = .ok (.invokevirtual 253, 3) := by decide +kernel
theorem dX10_draws_76 : decode cX10_draws 76 = .ok (.iinc 3 1, 3) := by decide +kernel
theorem dX10_draws_79 : decode cX10_draws 79 = .ok (.goto (-17), 3) := by decide +kernel
theorem dX10_draws_82 : decode cX10_draws 82 = .ok (.iconst 0, 1) := by decide +kernel
theorem dX10_draws_83 : decode cX10_draws 83 = .ok (.istore_n 3, 1) := by decide +kernel
theorem dX10_draws_84 : decode cX10_draws 84 = .ok (.iload_n 3, 1) := by decide +kernel
theorem dX10_draws_85 : decode cX10_draws 85 = .ok (.aload_n 0, 1) := by decide +kernel
theorem dX10_draws_86 : decode cX10_draws 86 = .ok (.getfield 79, 3) := by decide +kernel
theorem dX10_draws_89 : decode cX10_draws 89 = .ok (.if_icmp .ge 25, 3) := by decide +kernel
theorem dX10_draws_92 : decode cX10_draws 92 = .ok (.aload_n 0, 1) := by decide +kernel
theorem dX10_draws_93 : decode cX10_draws 93 = .ok (.getfield 29, 3) := by decide +kernel
theorem dX10_draws_96 : decode cX10_draws 96 = .ok (.iconst 3, 1) := by decide +kernel
theorem dX10_draws_97 : decode cX10_draws 97 = .ok (.iload_n 3, 1) := by decide +kernel
theorem dX10_draws_98 : decode cX10_draws 98 = .ok (.imul, 1) := by decide +kernel
theorem dX10_draws_99 : decode cX10_draws 99 = .ok (.iconst 1, 1) := by decide +kernel
theorem dX10_draws_100 : decode cX10_draws 100 = .ok (.iadd, 1) := by decide +kernel
theorem dX10_draws_101 : decode cX10_draws 101 = .ok (.aload_n 0, 1) := by decide +kernel
theorem dX10_draws_102 : decode cX10_draws 102 = .ok (.getfield 48, 3) := by decide +kernel
theorem dX10_draws_105 : decode cX10_draws 105 = .ok (.iload_n 3, 1) := by decide +kernel
theorem dX10_draws_106 : decode cX10_draws 106 = .ok (.iaload, 1) := by decide +kernel
theorem dX10_draws_107 : decode cX10_draws 107 = .ok (.iastore, 1) := by decide +kernel
theorem dX10_draws_108 : decode cX10_draws 108 = .ok (.iinc 3 1, 3) := by decide +kernel
theorem dX10_draws_111 : decode cX10_draws 111 = .ok (.goto (-27), 3) := by decide +kernel
theorem dX10_draws_114 : decode cX10_draws 114 = .ok (.return_, 1) := by decide +kernel
theorem dX10_drawn_0 : decode cX10_drawn 0 = .ok (.aload_n 0, 1) := by decide +kernel
theorem dX10_drawn_1 : decode cX10_drawn 1 = .ok (.iload_n 1, 1) := by decide +kernel
theorem dX10_drawn_2 : decode cX10_drawn 2 = .ok (.invokevirtual 334, 3) := by decide +kernel
theorem dX10_drawn_5 : decode cX10_drawn 5 = .ok (.aload_n 0, 1) := by decide +kernel
theorem dX10_drawn_6 : decode cX10_drawn 6 = .ok (.getfield 35, 3) := by decide +kernel
theorem dX10_drawn_9 : decode cX10_drawn 9 = .ok (.aload_n 0, 1) := by decide +kernel
theorem dX10_drawn_10 : decode cX10_drawn 10 = .ok (.getfield 79, 3) := by decide +kernel
theorem dX10_drawn_13 : decode cX10_drawn 13 = .ok (.iaload, 1) := by decide +kernel
theorem dX10_drawn_14 : decode cX10_drawn 14 = .ok (.ireturn, 1) := by decide +kernel
theorem dX10_chance_0 : decode cX10_chance 0 = .ok (.iload_n 2, 1) := by decide +kernel
theorem dX10_chance_1 : decode cX10_chance 1 = .ok (.i2l, 1) := by decide +kernel
theorem dX10_chance_2 : decode cX10_chance 2 = .ok (.lconst 1, 1) := by decide +kernel
theorem dX10_chance_3 : decode cX10_chance 3 = .ok (.ldc2_w 337, 3) := by decide +kernel
theorem dX10_chance_6 : decode cX10_chance 6 = .ok (.invokestatic 82, 3) := by decide +kernel
theorem dX10_chance_9 : decode cX10_chance 9 = .ok (.ifCond .eq 13, 3) := by decide +kernel
theorem dX10_chance_12 : decode cX10_chance 12 = .ok (.iload_n 3, 1) := by decide +kernel
theorem dX10_chance_13 : decode cX10_chance 13 = .ok (.i2l, 1) := by decide +kernel
theorem dX10_chance_14 : decode cX10_chance 14 = .ok (.lconst 0, 1) := by decide +kernel
theorem dX10_chance_15 : decode cX10_chance 15 = .ok (.lconst 1, 1) := by decide +kernel
theorem dX10_chance_16 : decode cX10_chance 16 = .ok (.invokestatic 82, 3) := by decide +kernel
theorem dX10_chance_19 : decode cX10_chance 19 = .ok (.ifCond .ne 7, 3) := by decide +kernel
theorem dX10_chance_22 : decode cX10_chance 22 = .ok (.ldc2_w 339, 3) := by decide +kernel
theorem dX10_chance_25 : decode cX10_chance 25 = .ok (.lreturn, 1) := by decide +kernel
theorem dX10_chance_26 : decode cX10_chance 26 = .ok (.lconst 0, 1) := by decide +kernel
theorem dX10_chance_27 : decode cX10_chance 27 = .ok (.lstore 4, 2) := by decide +kernel
theorem dX10_chance_29 : decode cX10_chance 29 = .ok (.iconst 0, 1) := by decide +kernel
theorem dX10_chance_30 : decode cX10_chance 30 = .ok (.istore 6, 2) := by decide +kernel
theorem dX10_chance_32 : decode cX10_chance 32 = .ok (.iload 6, 2) := by decide +kernel
theorem dX10_chance_34 : decode cX10_chance 34 = .ok (.iload_n 2, 1) := by decide +kernel
theorem dX10_chance_35 : decode cX10_chance 35 = .ok (.if_icmp .ge 38, 3) := by decide +kernel
theorem dX10_chance_38 : decode cX10_chance 38 = .ok (.aload_n 0, 1) := by decide +kernel
theorem dX10_chance_39 : decode cX10_chance 39 = .ok (.iload_n 1, 1) := by decide +kernel
theorem dX10_chance_40 : decode cX10_chance 40 = .ok (.iload 6, 2) := by decide +kernel
theorem dX10_chance_42 : decode cX10_chance 42 = .ok (.iadd, 1) := by decide +kernel
theorem dX10_chance_43 : decode cX10_chance 43 = .ok (.invokevirtual 334, 3) := by decide +kernel
theorem dX10_chance_46 : decode cX10_chance 46 = .ok (.lload 4, 2) := by decide +kernel
theorem dX10_chance_48 : decode cX10_chance 48 = .ok (.aload_n 0, 1) := by decide +kernel
theorem dX10_chance_49 : decode cX10_chance 49 = .ok (.aload_n 0, 1) := by decide +kernel
theorem dX10_chance_50 : decode cX10_chance 50 = .ok (.getfield 79, 3) := by decide +kernel
theorem dX10_chance_53 : decode cX10_chance 53 = .ok (.invokevirtual 271, 3) := by decide +kernel
theorem dX10_chance_56 : decode cX10_chance 56 = .ok (.ifCond .le 7, 3) := by decide +kernel
theorem dX10_chance_59 : decode cX10_chance 59 = .ok (.lconst 1, 1) := by decide +kernel
theorem dX10_chance_60 : decode cX10_chance 60 = .ok (.goto 4, 3) := by decide +kernel
theorem dX10_chance_63 : decode cX10_chance 63 = .ok (.lconst 0, 1) := by decide +kernel
theorem dX10_chance_64 : decode cX10_chance 64 = .ok (.ladd, 1) := by decide +kernel
theorem dX10_chance_65 : decode cX10_chance 65 = .ok (.lstore 4, 2) := by decide +kernel
theorem dX10_chance_67 : decode cX10_chance 67 = .ok (.iinc 6 1, 3) := by decide +kernel
theorem dX10_chance_70 : decode cX10_chance 70 = .ok (.goto (-38), 3) := by decide +kernel
theorem dX10_chance_73 : decode cX10_chance 73 = .ok (.lload 4, 2) := by decide +kernel
theorem dX10_chance_75 : decode cX10_chance 75 = .ok (.lstore 6, 2) := by decide +kernel
theorem dX10_chance_77 : decode cX10_chance 77 = .ok (.iload_n 2, 1) := by decide +kernel
theorem dX10_chance_78 : decode cX10_chance 78 = .ok (.i2l, 1) := by decide +kernel
theorem dX10_chance_79 : decode cX10_chance 79 = .ok (.lstore 8, 2) := by decide +kernel
theorem dX10_chance_81 : decode cX10_chance 81 = .ok (.lload 8, 2) := by decide +kernel
theorem dX10_chance_83 : decode cX10_chance 83 = .ok (.lconst 0, 1) := by decide +kernel
theorem dX10_chance_84 : decode cX10_chance 84 = .ok (.lcmp, 1) := by decide +kernel
theorem dX10_chance_85 : decode cX10_chance 85 = .ok (.ifCond .eq 21, 3) := by decide +kernel
theorem dX10_chance_88 : decode cX10_chance 88 = .ok (.lload 6, 2) := by decide +kernel
theorem dX10_chance_90 : decode cX10_chance 90 = .ok (.lload 8, 2) := by decide +kernel
theorem dX10_chance_92 : decode cX10_chance 92 = .ok (.lrem, 1) := by decide +kernel
theorem dX10_chance_93 : decode cX10_chance 93 = .ok (.lstore 10, 2) := by decide +kernel
theorem dX10_chance_95 : decode cX10_chance 95 = .ok (.lload 8, 2) := by decide +kernel
theorem dX10_chance_97 : decode cX10_chance 97 = .ok (.lstore 6, 2) := by decide +kernel
theorem dX10_chance_99 : decode cX10_chance 99 = .ok (.lload 10, 2) := by decide +kernel
theorem dX10_chance_101 : decode cX10_chance 101 = .ok (.lstore 8, 2) := by decide +kernel
theorem dX10_chance_103 : decode cX10_chance 103 = .ok (.goto (-22), 3) := by decide +kernel
theorem dX10_chance_106 : decode cX10_chance 106 = .ok (.iload_n 3, 1) := by decide +kernel
theorem dX10_chance_107 : decode cX10_chance 107 = .ok (.ifCond .ne 11, 3) := by decide +kernel
theorem dX10_chance_110 : decode cX10_chance 110 = .ok (.lload 4, 2) := by decide +kernel
theorem dX10_chance_112 : decode cX10_chance 112 = .ok (.lload 6, 2) := by decide +kernel
theorem dX10_chance_114 : decode cX10_chance 114 = .ok (.ldiv, 1) := by decide +kernel
theorem dX10_chance_115 : decode cX10_chance 115 = .ok (.goto 8, 3) := by decide +kernel
theorem dX10_chance_118 : decode cX10_chance 118 = .ok (.iload_n 2, 1) := by decide +kernel
theorem dX10_chance_119 : decode cX10_chance 119 = .ok (.i2l, 1) := by decide +kernel
theorem dX10_chance_120 : decode cX10_chance 120 = .ok (.lload 6, 2) := by decide +kernel
theorem dX10_chance_122 : decode cX10_chance 122 = .ok (.ldiv, 1) := by decide +kernel
theorem dX10_chance_123 : decode cX10_chance 123 = .ok (.lreturn, 1) := by decide +kernel
theorem dX10_image_0 : decode cX10_image 0 = .ok (.iconst 0, 1) := by decide +kernel
theorem dX10_image_1 : decode cX10_image 1 = .ok (.istore_n 1, 1) := by decide +kernel
theorem dX10_image_2 : decode cX10_image 2 = .ok (.iload_n 1, 1) := by decide +kernel
theorem dX10_image_3 : decode cX10_image 3 = .ok (.iconst 3, 1) := by decide +kernel
theorem dX10_image_4 : decode cX10_image 4 = .ok (.if_icmp .ge 21, 3) := by decide +kernel
theorem dX10_image_7 : decode cX10_image 7 = .ok (.aload_n 0, 1) := by decide +kernel
theorem dX10_image_8 : decode cX10_image 8 = .ok (.getfield 51, 3) := by decide +kernel
theorem dX10_image_11 : decode cX10_image 11 = .ok (.iload_n 1, 1) := by decide +kernel
theorem dX10_image_12 : decode cX10_image 12 = .ok (.aload_n 0, 1) := by decide +kernel
theorem dX10_image_13 : decode cX10_image 13 = .ok (.getfield 23, 3) := by decide +kernel
theorem dX10_image_16 : decode cX10_image 16 = .ok (.iload_n 1, 1) := by decide +kernel
theorem dX10_image_17 : decode cX10_image 17 = .ok (.iaload, 1) := by decide +kernel
theorem dX10_image_18 : decode cX10_image 18 = .ok (.iastore, 1) := by decide +kernel
theorem dX10_image_19 : decode cX10_image 19 = .ok (.iinc 1 1, 3) := by decide +kernel
theorem dX10_image_22 : decode cX10_image 22 = .ok (.goto (-20), 3) := by decide +kernel
theorem dX10_image_25 : decode cX10_image 25 = .ok (.iconst 0, 1) := by decide +kernel
theorem dX10_image_26 : decode cX10_image 26 = .ok (.istore_n 1, 1) := by decide +kernel
theorem dX10_image_27 : decode cX10_image 27 = .ok (.iload_n 1, 1) := by decide +kernel
theorem dX10_image_28 : decode cX10_image 28 = .ok (.bipush 15, 2) := by decide +kernel
theorem dX10_image_30 : decode cX10_image 30 = .ok (.if_icmp .ge 21, 3) := by decide +kernel
theorem dX10_image_33 : decode cX10_image 33 = .ok (.aload_n 0, 1) := by decide +kernel
theorem dX10_image_34 : decode cX10_image 34 = .ok (.getfield 54, 3) := by decide +kernel
theorem dX10_image_37 : decode cX10_image 37 = .ok (.iload_n 1, 1) := by decide +kernel
theorem dX10_image_38 : decode cX10_image 38 = .ok (.aload_n 0, 1) := by decide +kernel
theorem dX10_image_39 : decode cX10_image 39 = .ok (.getfield 29, 3) := by decide +kernel
theorem dX10_image_42 : decode cX10_image 42 = .ok (.iload_n 1, 1) := by decide +kernel
theorem dX10_image_43 : decode cX10_image 43 = .ok (.iaload, 1) := by decide +kernel
theorem dX10_image_44 : decode cX10_image 44 = .ok (.iastore, 1) := by decide +kernel
theorem dX10_image_45 : decode cX10_image 45 = .ok (.iinc 1 1, 3) := by decide +kernel
theorem dX10_image_48 : decode cX10_image 48 = .ok (.goto (-21), 3) := by decide +kernel
theorem dX10_image_51 : decode cX10_image 51 = .ok (.aload_n 0, 1) := by decide +kernel
theorem dX10_image_52 : decode cX10_image 52 = .ok (.aload_n 0, 1) := by decide +kernel
theorem dX10_image_53 : decode cX10_image 53 = .ok (.getfield 79, 3) := by decide +kernel
theorem dX10_image_56 : decode cX10_image 56 = .ok (.putfield 57, 3) := by decide +kernel
theorem dX10_image_59 : decode cX10_image 59 = .ok (.aload_n 0, 1) := by decide +kernel
theorem dX10_image_60 : decode cX10_image 60 = .ok (.aload_n 0, 1) := by decide +kernel
theorem dX10_image_61 : decode cX10_image 61 = .ok (.getfield 274, 3) := by decide +kernel
theorem dX10_image_64 : decode cX10_image 64 = .ok (.putfield 341, 3) := by decide +kernel
theorem dX10_image_67 : decode cX10_image 67 = .ok (.aload_n 0, 1) := by decide +kernel
theorem dX10_image_68 : decode cX10_image 68 = .ok (.aload_n 0, 1) := by decide +kernel
theorem dX10_image_69 : decode cX10_image 69 = .ok (.getfield 104, 3) := by decide +kernel
theorem dX10_image_72 : decode cX10_image 72 = .ok (.putfield 344, 3) := by decide +kernel
theorem dX10_image_75 : decode cX10_image 75 = .ok (.aload_n 0, 1) := by decide +kernel
theorem dX10_image_76 : decode cX10_image 76 = .ok (.getfield 79, 3) := by decide +kernel
theorem dX10_image_79 : decode cX10_image 79 = .ok (.ireturn, 1) := by decide +kernel
theorem dX10_back_0 : decode cX10_back 0 = .ok (.aload_n 0, 1) := by decide +kernel
theorem dX10_back_1 : decode cX10_back 1 = .ok (.getfield 57, 3) := by decide +kernel
theorem dX10_back_4 : decode cX10_back 4 = .ok (.iconst (-1), 1) := by decide +kernel
theorem dX10_back_5 : decode cX10_back 5 = .ok (.if_icmp .ne 6, 3) := by decide +kernel
theorem dX10_back_8 : decode cX10_back 8 = .ok (.bipush (-3), 2) := by decide +kernel
theorem dX10_back_10 : decode cX10_back 10 = .ok (.ireturn, 1) := by decide +kernel
theorem dX10_back_11 : decode cX10_back 11 = .ok (.iconst 0, 1) := by decide +kernel
theorem dX10_back_12 : decode cX10_back 12 = .ok (.istore_n 1, 1) := by decide +kernel
theorem dX10_back_13 : decode cX10_back 13 = .ok (.iload_n 1, 1) := by decide +kernel
theorem dX10_back_14 : decode cX10_back 14 = .ok (.iconst 3, 1) := by decide +kernel
theorem dX10_back_15 : decode cX10_back 15 = .ok (.if_icmp .ge 21, 3) := by decide +kernel
theorem dX10_back_18 : decode cX10_back 18 = .ok (.aload_n 0, 1) := by decide +kernel
theorem dX10_back_19 : decode cX10_back 19 = .ok (.getfield 23, 3) := by decide +kernel
theorem dX10_back_22 : decode cX10_back 22 = .ok (.iload_n 1, 1) := by decide +kernel
theorem dX10_back_23 : decode cX10_back 23 = .ok (.aload_n 0, 1) := by decide +kernel
theorem dX10_back_24 : decode cX10_back 24 = .ok (.getfield 51, 3) := by decide +kernel
theorem dX10_back_27 : decode cX10_back 27 = .ok (.iload_n 1, 1) := by decide +kernel
theorem dX10_back_28 : decode cX10_back 28 = .ok (.iaload, 1) := by decide +kernel
theorem dX10_back_29 : decode cX10_back 29 = .ok (.iastore, 1) := by decide +kernel
theorem dX10_back_30 : decode cX10_back 30 = .ok (.iinc 1 1, 3) := by decide +kernel
theorem dX10_back_33 : decode cX10_back 33 = .ok (.goto (-20), 3) := by decide +kernel
theorem dX10_back_36 : decode cX10_back 36 = .ok (.iconst 0, 1) := by decide +kernel
theorem dX10_back_37 : decode cX10_back 37 = .ok (.istore_n 1, 1) := by decide +kernel
theorem dX10_back_38 : decode cX10_back 38 = .ok (.iload_n 1, 1) := by decide +kernel
theorem dX10_back_39 : decode cX10_back 39 = .ok (.bipush 15, 2) := by decide +kernel
theorem dX10_back_41 : decode cX10_back 41 = .ok (.if_icmp .ge 21, 3) := by decide +kernel
theorem dX10_back_44 : decode cX10_back 44 = .ok (.aload_n 0, 1) := by decide +kernel
theorem dX10_back_45 : decode cX10_back 45 = .ok (.getfield 29, 3) := by decide +kernel
theorem dX10_back_48 : decode cX10_back 48 = .ok (.iload_n 1, 1) := by decide +kernel
theorem dX10_back_49 : decode cX10_back 49 = .ok (.aload_n 0, 1) := by decide +kernel
theorem dX10_back_50 : decode cX10_back 50 = .ok (.getfield 54, 3) := by decide +kernel
theorem dX10_back_53 : decode cX10_back 53 = .ok (.iload_n 1, 1) := by decide +kernel
theorem dX10_back_54 : decode cX10_back 54 = .ok (.iaload, 1) := by decide +kernel
theorem dX10_back_55 : decode cX10_back 55 = .ok (.iastore, 1) := by decide +kernel
theorem dX10_back_56 : decode cX10_back 56 = .ok (.iinc 1 1, 3) := by decide +kernel
theorem dX10_back_59 : decode cX10_back 59 = .ok (.goto (-21), 3) := by decide +kernel
theorem dX10_back_62 : decode cX10_back 62 = .ok (.aload_n 0, 1) := by decide +kernel
theorem dX10_back_63 : decode cX10_back 63 = .ok (.aload_n 0, 1) := by decide +kernel
theorem dX10_back_64 : decode cX10_back 64 = .ok (.getfield 57, 3) := by decide +kernel
theorem dX10_back_67 : decode cX10_back 67 = .ok (.putfield 79, 3) := by decide +kernel
theorem dX10_back_70 : decode cX10_back 70 = .ok (.aload_n 0, 1) := by decide +kernel
theorem dX10_back_71 : decode cX10_back 71 = .ok (.aload_n 0, 1) := by decide +kernel
theorem dX10_back_72 : decode cX10_back 72 = .ok (.getfield 341, 3) := by decide +kernel
theorem dX10_back_75 : decode cX10_back 75 = .ok (.putfield 274, 3) := by decide +kernel
theorem dX10_back_78 : decode cX10_back 78 = .ok (.aload_n 0, 1) := by decide +kernel
theorem dX10_back_79 : decode cX10_back 79 = .ok (.aload_n 0, 1) := by decide +kernel
theorem dX10_back_80 : decode cX10_back 80 = .ok (.getfield 344, 3) := by decide +kernel
theorem dX10_back_83 : decode cX10_back 83 = .ok (.putfield 104, 3) := by decide +kernel
theorem dX10_back_86 : decode cX10_back 86 = .ok (.aload_n 0, 1) := by decide +kernel
theorem dX10_back_87 : decode cX10_back 87 = .ok (.getfield 79, 3) := by decide +kernel
theorem dX10_back_90 : decode cX10_back 90 = .ok (.ireturn, 1) := by decide +kernel
theorem dX10_count_0 : decode cX10_count 0 = .ok (.iload_n 1, 1) := by decide +kernel
theorem dX10_count_1 : decode cX10_count 1 = .ok (.i2l, 1) := by decide +kernel
theorem dX10_count_2 : decode cX10_count 2 = .ok (.lconst 0, 1) := by decide +kernel
theorem dX10_count_3 : decode cX10_count 3 = .ok (.ldc2_w 347, 3) := by decide +kernel
theorem dX10_count_6 : decode cX10_count 6 = .ok (.invokestatic 82, 3) := by decide +kernel
theorem dX10_count_9 : decode cX10_count 9 = .ok (.ifCond .ne 6, 3) := by decide +kernel
theorem dX10_count_12 : decode cX10_count 12 = .ok (.bipush (-2), 2) := by decide +kernel
theorem dX10_count_14 : decode cX10_count 14 = .ok (.ireturn, 1) := by decide +kernel
theorem dX10_count_15 : decode cX10_count 15 = .ok (.iload_n 1, 1) := by decide +kernel
theorem dX10_count_16 : decode cX10_count 16 = .ok (.iconst 1, 1) := by decide +kernel
theorem dX10_count_17 : decode cX10_count 17 = .ok (.if_icmp .le 58, 3) := by decide +kernel
theorem dX10_count_20 : decode cX10_count 20 = .ok (.iload_n 1, 1) := by decide +kernel
theorem dX10_count_21 : decode cX10_count 21 = .ok (.iconst 2, 1) := by decide +kernel
theorem dX10_count_22 : decode cX10_count 22 = .ok (.if_icmp .ne 10, 3) := by decide +kernel
theorem dX10_count_25 : decode cX10_count 25 = .ok (.aload_n 0, 1) := by decide +kernel
theorem dX10_count_26 : decode cX10_count 26 = .ok (.getfield 274, 3) := by decide +kernel
theorem dX10_count_29 : decode cX10_count 29 = .ok (.goto 45, 3) := by decide +kernel
theorem dX10_count_32 : decode cX10_count 32 = .ok (.iload_n 1, 1) := by decide +kernel
theorem dX10_count_33 : decode cX10_count 33 = .ok (.iconst 3, 1) := by decide +kernel
theorem dX10_count_34 : decode cX10_count 34 = .ok (.if_icmp .ne 12, 3) := by decide +kernel
theorem dX10_count_37 : decode cX10_count 37 = .ok (.aload_n 0, 1) := by decide +kernel
theorem dX10_count_38 : decode cX10_count 38 = .ok (.getfield 23, 3) := by decide +kernel
theorem dX10_count_41 : decode cX10_count 41 = .ok (.iconst 2, 1) := by decide +kernel
theorem dX10_count_42 : decode cX10_count 42 = .ok (.iaload, 1) := by decide +kernel
theorem dX10_count_43 : decode cX10_count 43 = .ok (.goto 31, 3) := by decide +kernel
theorem dX10_count_46 : decode cX10_count 46 = .ok (.iload_n 1, 1) := by decide +kernel
theorem dX10_count_47 : decode cX10_count 47 = .ok (.iconst 4, 1) := by decide +kernel
theorem dX10_count_48 : decode cX10_count 48 = .ok (.if_icmp .ne 10, 3) := by decide +kernel
theorem dX10_count_51 : decode cX10_count 51 = .ok (.aload_n 0, 1) := by decide +kernel
theorem dX10_count_52 : decode cX10_count 52 = .ok (.getfield 76, 3) := by decide +kernel
theorem dX10_count_55 : decode cX10_count 55 = .ok (.goto 19, 3) := by decide +kernel
theorem dX10_count_58 : decode cX10_count 58 = .ok (.iload_n 1, 1) := by decide +kernel
theorem dX10_count_59 : decode cX10_count 59 = .ok (.iconst 5, 1) := by decide +kernel
theorem dX10_count_60 : decode cX10_count 60 = .ok (.if_icmp .ne 10, 3) := by decide +kernel
theorem dX10_count_63 : decode cX10_count 63 = .ok (.aload_n 0, 1) := by decide +kernel
theorem dX10_count_64 : decode cX10_count 64 = .ok (.getfield 129, 3) := by decide +kernel
theorem dX10_count_67 : decode cX10_count 67 = .ok (.goto 7, 3) := by decide +kernel
theorem dX10_count_70 : decode cX10_count 70 = .ok (.aload_n 0, 1) := by decide +kernel
theorem dX10_count_71 : decode cX10_count 71 = .ok (.getfield 104, 3) := by decide +kernel
theorem dX10_count_74 : decode cX10_count 74 = .ok (.ireturn, 1) := by decide +kernel
theorem dX10_count_75 : decode cX10_count 75 = .ok (.iconst 0, 1) := by decide +kernel
theorem dX10_count_76 : decode cX10_count 76 = .ok (.istore_n 2, 1) := by decide +kernel
theorem dX10_count_77 : decode cX10_count 77 = .ok (.iconst 0, 1) := by decide +kernel
theorem dX10_count_78 : decode cX10_count 78 = .ok (.istore_n 3, 1) := by decide +kernel
theorem dX10_count_79 : decode cX10_count 79 = .ok (.iload_n 3, 1) := by decide +kernel
theorem dX10_count_80 : decode cX10_count 80 = .ok (.aload_n 0, 1) := by decide +kernel
theorem dX10_count_81 : decode cX10_count 81 = .ok (.getfield 79, 3) := by decide +kernel
theorem dX10_count_84 : decode cX10_count 84 = .ok (.if_icmp .ge 35, 3) := by decide +kernel
theorem dX10_count_87 : decode cX10_count 87 = .ok (.iload_n 2, 1) := by decide +kernel
theorem dX10_count_88 : decode cX10_count 88 = .ok (.iload_n 1, 1) := by decide +kernel
theorem dX10_count_89 : decode cX10_count 89 = .ok (.ifCond .eq 17, 3) := by decide +kernel
theorem dX10_count_92 : decode cX10_count 92 = .ok (.aload_n 0, 1) := by decide +kernel
theorem dX10_count_93 : decode cX10_count 93 = .ok (.getfield 29, 3) := by decide +kernel
theorem dX10_count_96 : decode cX10_count 96 = .ok (.iconst 3, 1) := by decide +kernel
theorem dX10_count_97 : decode cX10_count 97 = .ok (.iload_n 3, 1) := by decide +kernel
theorem dX10_count_98 : decode cX10_count 98 = .ok (.imul, 1) := by decide +kernel
theorem dX10_count_99 : decode cX10_count 99 = .ok (.iconst 2, 1) := by decide +kernel
theorem dX10_count_100 : decode cX10_count 100 = .ok (.iadd, 1) := by decide +kernel
theorem dX10_count_101 : decode cX10_count 101 = .ok (.iaload, 1) := by decide +kernel
theorem dX10_count_102 : decode cX10_count 102 = .ok (.iconst 1, 1) := by decide +kernel
theorem dX10_count_103 : decode cX10_count 103 = .ok (.if_icmp .ne 7, 3) := by decide +kernel
theorem dX10_count_106 : decode cX10_count 106 = .ok (.iconst 1, 1) := by decide +kernel
theorem dX10_count_107 : decode cX10_count 107 = .ok (.goto 4, 3) := by decide +kernel
theorem dX10_count_110 : decode cX10_count 110 = .ok (.iconst 0, 1) := by decide +kernel
theorem dX10_count_111 : decode cX10_count 111 = .ok (.iadd, 1) := by decide +kernel
theorem dX10_count_112 : decode cX10_count 112 = .ok (.istore_n 2, 1) := by decide +kernel
theorem dX10_count_113 : decode cX10_count 113 = .ok (.iinc 3 1, 3) := by decide +kernel
theorem dX10_count_116 : decode cX10_count 116 = .ok (.goto (-37), 3) := by decide +kernel
theorem dX10_count_119 : decode cX10_count 119 = .ok (.iload_n 2, 1) := by decide +kernel
theorem dX10_count_120 : decode cX10_count 120 = .ok (.ireturn, 1) := by decide +kernel
theorem dX10_isSheet_0 : decode cX10_isSheet 0 = .ok (.iload_n 0, 1) := by decide +kernel
theorem dX10_isSheet_1 : decode cX10_isSheet 1 = .ok (.i2l, 1) := by decide +kernel
theorem dX10_isSheet_2 : decode cX10_isSheet 2 = .ok (.lconst 0, 1) := by decide +kernel
theorem dX10_isSheet_3 : decode cX10_isSheet 3 = .ok (.ldc2_w 302, 3) := by decide +kernel
theorem dX10_isSheet_6 : decode cX10_isSheet 6 = .ok (.invokestatic 82, 3) := by decide +kernel
theorem dX10_isSheet_9 : decode cX10_isSheet 9 = .ok (.ireturn, 1) := by decide +kernel
theorem dX10_sheet_0 : decode cX10_sheet 0 = .ok (.iload_n 1, 1) := by decide +kernel
theorem dX10_sheet_1 : decode cX10_sheet 1 = .ok (.invokestatic 256, 3) := by decide +kernel
theorem dX10_sheet_4 : decode cX10_sheet 4 = .ok (.ifCond .eq 27, 3) := by decide +kernel
theorem dX10_sheet_7 : decode cX10_sheet 7 = .ok (.iload_n 2, 1) := by decide +kernel
theorem dX10_sheet_8 : decode cX10_sheet 8 = .ok (.i2l, 1) := by decide +kernel
theorem dX10_sheet_9 : decode cX10_sheet 9 = .ok (.ldc2_w 349, 3) := by decide +kernel
theorem dX10_sheet_12 : decode cX10_sheet 12 = .ok (.ldc2_w 259, 3) := by decide +kernel
theorem dX10_sheet_15 : decode cX10_sheet 15 = .ok (.invokestatic 82, 3) := by decide +kernel
theorem dX10_sheet_18 : decode cX10_sheet 18 = .ok (.ifCond .eq 13, 3) := by decide +kernel
theorem dX10_sheet_21 : decode cX10_sheet 21 = .ok (.iload_n 2, 1) := by decide +kernel
theorem dX10_sheet_22 : decode cX10_sheet 22 = .ok (.ifCond .lt 12, 3) := by decide +kernel
theorem dX10_sheet_25 : decode cX10_sheet 25 = .ok (.iload_n 3, 1) := by decide +kernel
theorem dX10_sheet_26 : decode cX10_sheet 26 = .ok (.bipush 40, 2) := by decide +kernel
theorem dX10_sheet_28 : decode cX10_sheet 28 = .ok (.if_icmp .le 6, 3) := by decide +kernel
theorem dX10_sheet_31 : decode cX10_sheet 31 = .ok (.bipush (-2), 2) := by decide +kernel
theorem dX10_sheet_33 : decode cX10_sheet 33 = .ok (.ireturn, 1) := by decide +kernel
theorem dX10_sheet_34 : decode cX10_sheet 34 = .ok (.iload_n 2, 1) := by decide +kernel
theorem dX10_sheet_35 : decode cX10_sheet 35 = .ok (.ifCond .lt 10, 3) := by decide +kernel
theorem dX10_sheet_38 : decode cX10_sheet 38 = .ok (.iload_n 3, 1) := by decide +kernel
theorem dX10_sheet_39 : decode cX10_sheet 39 = .ok (.ifCond .ge 6, 3) := by decide +kernel
theorem dX10_sheet_42 : decode cX10_sheet 42 = .ok (.bipush (-14), 2) := by decide +kernel
theorem dX10_sheet_44 : decode cX10_sheet 44 = .ok (.ireturn, 1) := by decide +kernel
theorem dX10_sheet_45 : decode cX10_sheet 45 = .ok (.aload_n 0, 1) := by decide +kernel
theorem dX10_sheet_46 : decode cX10_sheet 46 = .ok (.getfield 60, 3) := by decide +kernel
theorem dX10_sheet_49 : decode cX10_sheet 49 = .ok (.iload_n 1, 1) := by decide +kernel
theorem dX10_sheet_50 : decode cX10_sheet 50 = .ok (.iload_n 2, 1) := by decide +kernel
theorem dX10_sheet_51 : decode cX10_sheet 51 = .ok (.ifCond .lt 7, 3) := by decide +kernel
theorem dX10_sheet_54 : decode cX10_sheet 54 = .ok (.iconst 1, 1) := by decide +kernel
theorem dX10_sheet_55 : decode cX10_sheet 55 = .ok (.goto 4, 3) := by decide +kernel
theorem dX10_sheet_58 : decode cX10_sheet 58 = .ok (.iconst 0, 1) := by decide +kernel
theorem dX10_sheet_59 : decode cX10_sheet 59 = .ok (.bastore, 1) := by decide +kernel
theorem dX10_sheet_60 : decode cX10_sheet 60 = .ok (.aload_n 0, 1) := by decide +kernel
theorem dX10_sheet_61 : decode cX10_sheet 61 = .ok (.getfield 63, 3) := by decide +kernel
theorem dX10_sheet_64 : decode cX10_sheet 64 = .ok (.iload_n 1, 1) := by decide +kernel
theorem dX10_sheet_65 : decode cX10_sheet 65 = .ok (.iload_n 2, 1) := by decide +kernel
theorem dX10_sheet_66 : decode cX10_sheet 66 = .ok (.iastore, 1) := by decide +kernel
theorem dX10_sheet_67 : decode cX10_sheet 67 = .ok (.aload_n 0, 1) := by decide +kernel
theorem dX10_sheet_68 : decode cX10_sheet 68 = .ok (.getfield 66, 3) := by decide +kernel
theorem dX10_sheet_71 : decode cX10_sheet 71 = .ok (.iload_n 1, 1) := by decide +kernel
theorem dX10_sheet_72 : decode cX10_sheet 72 = .ok (.iload_n 3, 1) := by decide +kernel
theorem dX10_sheet_73 : decode cX10_sheet 73 = .ok (.iastore, 1) := by decide +kernel
theorem dX10_sheet_74 : decode cX10_sheet 74 = .ok (.iconst 0, 1) := by decide +kernel
theorem dX10_sheet_75 : decode cX10_sheet 75 = .ok (.istore 4, 2) := by decide +kernel
theorem dX10_sheet_77 : decode cX10_sheet 77 = .ok (.iload 4, 2) := by decide +kernel
theorem dX10_sheet_79 : decode cX10_sheet 79 = .ok (.iload_n 3, 1) := by decide +kernel
theorem dX10_sheet_80 : decode cX10_sheet 80 = .ok (.if_icmp .ge 26, 3) := by decide +kernel
theorem dX10_sheet_83 : decode cX10_sheet 83 = .ok (.iload_n 2, 1) := by decide +kernel
theorem dX10_sheet_84 : decode cX10_sheet 84 = .ok (.ifCond .lt 22, 3) := by decide +kernel
theorem dX10_sheet_87 : decode cX10_sheet 87 = .ok (.aload_n 0, 1) := by decide +kernel
theorem dX10_sheet_88 : decode cX10_sheet 88 = .ok (.getfield 69, 3) := by decide +kernel
theorem dX10_sheet_91 : decode cX10_sheet 91 = .ok (.bipush 40, 2) := by decide +kernel
theorem dX10_sheet_93 : decode cX10_sheet 93 = .ok (.iload_n 1, 1) := by decide +kernel
theorem dX10_sheet_94 : decode cX10_sheet 94 = .ok (.imul, 1) := by decide +kernel
theorem dX10_sheet_95 : decode cX10_sheet 95 = .ok (.iload 4, 2) := by decide +kernel
theorem dX10_sheet_97 : decode cX10_sheet 97 = .ok (.iadd, 1) := by decide +kernel
theorem dX10_sheet_98 : decode cX10_sheet 98 = .ok (.iconst 0, 1) := by decide +kernel
theorem dX10_sheet_99 : decode cX10_sheet 99 = .ok (.iastore, 1) := by decide +kernel
theorem dX10_sheet_100 : decode cX10_sheet 100 = .ok (.iinc 4 1, 3) := by decide +kernel
theorem dX10_sheet_103 : decode cX10_sheet 103 = .ok (.goto (-26), 3) := by decide +kernel
theorem dX10_sheet_106 : decode cX10_sheet 106 = .ok (.iconst 1, 1) := by decide +kernel
theorem dX10_sheet_107 : decode cX10_sheet 107 = .ok (.ireturn, 1) := by decide +kernel
theorem dX10_cell_0 : decode cX10_cell 0 = .ok (.iload_n 1, 1) := by decide +kernel
theorem dX10_cell_1 : decode cX10_cell 1 = .ok (.invokestatic 256, 3) := by decide +kernel
theorem dX10_cell_4 : decode cX10_cell 4 = .ok (.ifCond .ne 6, 3) := by decide +kernel
theorem dX10_cell_7 : decode cX10_cell 7 = .ok (.bipush (-2), 2) := by decide +kernel
theorem dX10_cell_9 : decode cX10_cell 9 = .ok (.ireturn, 1) := by decide +kernel
theorem dX10_cell_10 : decode cX10_cell 10 = .ok (.aload_n 0, 1) := by decide +kernel
theorem dX10_cell_11 : decode cX10_cell 11 = .ok (.getfield 60, 3) := by decide +kernel
theorem dX10_cell_14 : decode cX10_cell 14 = .ok (.iload_n 1, 1) := by decide +kernel
theorem dX10_cell_15 : decode cX10_cell 15 = .ok (.baload, 1) := by decide +kernel
theorem dX10_cell_16 : decode cX10_cell 16 = .ok (.ifCond .ne 6, 3) := by decide +kernel
theorem dX10_cell_19 : decode cX10_cell 19 = .ok (.bipush (-11), 2) := by decide +kernel
theorem dX10_cell_21 : decode cX10_cell 21 = .ok (.ireturn, 1) := by decide +kernel
theorem dX10_cell_22 : decode cX10_cell 22 = .ok (.iload_n 2, 1) := by decide +kernel
theorem dX10_cell_23 : decode cX10_cell 23 = .ok (.i2l, 1) := by decide +kernel
theorem dX10_cell_24 : decode cX10_cell 24 = .ok (.lconst 0, 1) := by decide +kernel
theorem dX10_cell_25 : decode cX10_cell 25 = .ok (.aload_n 0, 1) := by decide +kernel
theorem dX10_cell_26 : decode cX10_cell 26 = .ok (.getfield 66, 3) := by decide +kernel
theorem dX10_cell_29 : decode cX10_cell 29 = .ok (.iload_n 1, 1) := by decide +kernel
theorem dX10_cell_30 : decode cX10_cell 30 = .ok (.iaload, 1) := by decide +kernel
theorem dX10_cell_31 : decode cX10_cell 31 = .ok (.iconst 1, 1) := by decide +kernel
theorem dX10_cell_32 : decode cX10_cell 32 = .ok (.isub, 1) := by decide +kernel
theorem dX10_cell_33 : decode cX10_cell 33 = .ok (.i2l, 1) := by decide +kernel
theorem dX10_cell_34 : decode cX10_cell 34 = .ok (.invokestatic 82, 3) := by decide +kernel
theorem dX10_cell_37 : decode cX10_cell 37 = .ok (.ifCond .ne 6, 3) := by decide +kernel
theorem dX10_cell_40 : decode cX10_cell 40 = .ok (.bipush (-12), 2) := by decide +kernel
theorem dX10_cell_42 : decode cX10_cell 42 = .ok (.ireturn, 1) := by decide +kernel
theorem dX10_cell_43 : decode cX10_cell 43 = .ok (.aload_n 0, 1) := by decide +kernel
theorem dX10_cell_44 : decode cX10_cell 44 = .ok (.getfield 69, 3) := by decide +kernel
theorem dX10_cell_47 : decode cX10_cell 47 = .ok (.bipush 40, 2) := by decide +kernel
theorem dX10_cell_49 : decode cX10_cell 49 = .ok (.iload_n 1, 1) := by decide +kernel
theorem dX10_cell_50 : decode cX10_cell 50 = .ok (.imul, 1) := by decide +kernel
theorem dX10_cell_51 : decode cX10_cell 51 = .ok (.iload_n 2, 1) := by decide +kernel
theorem dX10_cell_52 : decode cX10_cell 52 = .ok (.iadd, 1) := by decide +kernel
theorem dX10_cell_53 : decode cX10_cell 53 = .ok (.aload_n 0, 1) := by decide +kernel
theorem dX10_cell_54 : decode cX10_cell 54 = .ok (.getfield 63, 3) := by decide +kernel
theorem dX10_cell_57 : decode cX10_cell 57 = .ok (.iload_n 1, 1) := by decide +kernel
theorem dX10_cell_58 : decode cX10_cell 58 = .ok (.iaload, 1) := by decide +kernel
theorem dX10_cell_59 : decode cX10_cell 59 = .ok (.ifCond .ne 8, 3) := by decide +kernel
theorem dX10_cell_62 : decode cX10_cell 62 = .ok (.iload_n 3, 1) := by decide +kernel
theorem dX10_cell_63 : decode cX10_cell 63 = .ok (.i2b, 1) := by decide +kernel
theorem dX10_cell_64 : decode cX10_cell 64 = .ok (.goto 19, 3) := by decide +kernel
theorem dX10_cell_67 : decode cX10_cell 67 = .ok (.aload_n 0, 1) := by decide +kernel
theorem dX10_cell_68 : decode cX10_cell 68 = .ok (.getfield 63, 3) := by decide +kernel
theorem dX10_cell_71 : decode cX10_cell 71 = .ok (.iload_n 1, 1) := by decide +kernel
theorem dX10_cell_72 : decode cX10_cell 72 = .ok (.iaload, 1) := by decide +kernel
theorem dX10_cell_73 : decode cX10_cell 73 = .ok (.iconst 1, 1) := by decide +kernel
theorem dX10_cell_74 : decode cX10_cell 74 = .ok (.if_icmp .ne 8, 3) := by decide +kernel
theorem dX10_cell_77 : decode cX10_cell 77 = .ok (.iload_n 3, 1) := by decide +kernel
theorem dX10_cell_78 : decode cX10_cell 78 = .ok (.i2s, 1) := by decide +kernel
theorem dX10_cell_79 : decode cX10_cell 79 = .ok (.goto 4, 3) := by decide +kernel
theorem dX10_cell_82 : decode cX10_cell 82 = .ok (.iload_n 3, 1) := by decide +kernel
theorem dX10_cell_83 : decode cX10_cell 83 = .ok (.iastore, 1) := by decide +kernel
theorem dX10_cell_84 : decode cX10_cell 84 = .ok (.iconst 1, 1) := by decide +kernel
theorem dX10_cell_85 : decode cX10_cell 85 = .ok (.ireturn, 1) := by decide +kernel
theorem dX10_copy_0 : decode cX10_copy 0 = .ok (.iload_n 1, 1) := by decide +kernel
theorem dX10_copy_1 : decode cX10_copy 1 = .ok (.invokestatic 256, 3) := by decide +kernel
theorem dX10_copy_4 : decode cX10_copy 4 = .ok (.ifCond .eq 10, 3) := by decide +kernel
theorem dX10_copy_7 : decode cX10_copy 7 = .ok (.iload_n 3, 1) := by decide +kernel
theorem dX10_copy_8 : decode cX10_copy 8 = .ok (.invokestatic 256, 3) := by decide +kernel
theorem dX10_copy_11 : decode cX10_copy 11 = .ok (.ifCond .ne 6, 3) := by decide +kernel
theorem dX10_copy_14 : decode cX10_copy 14 = .ok (.bipush (-2), 2) := by decide +kernel
theorem dX10_copy_16 : decode cX10_copy 16 = .ok (.ireturn, 1) := by decide +kernel
theorem dX10_copy_17 : decode cX10_copy 17 = .ok (.aload_n 0, 1) := by decide +kernel
theorem dX10_copy_18 : decode cX10_copy 18 = .ok (.getfield 60, 3) := by decide +kernel
theorem dX10_copy_21 : decode cX10_copy 21 = .ok (.iload_n 1, 1) := by decide +kernel
theorem dX10_copy_22 : decode cX10_copy 22 = .ok (.baload, 1) := by decide +kernel
theorem dX10_copy_23 : decode cX10_copy 23 = .ok (.ifCond .eq 12, 3) := by decide +kernel
theorem dX10_copy_26 : decode cX10_copy 26 = .ok (.aload_n 0, 1) := by decide +kernel
theorem dX10_copy_27 : decode cX10_copy 27 = .ok (.getfield 60, 3) := by decide +kernel
theorem dX10_copy_30 : decode cX10_copy 30 = .ok (.iload_n 3, 1) := by decide +kernel
theorem dX10_copy_31 : decode cX10_copy 31 = .ok (.baload, 1) := by decide +kernel
theorem dX10_copy_32 : decode cX10_copy 32 = .ok (.ifCond .ne 6, 3) := by decide +kernel
theorem dX10_copy_35 : decode cX10_copy 35 = .ok (.bipush (-11), 2) := by decide +kernel
theorem dX10_copy_37 : decode cX10_copy 37 = .ok (.ireturn, 1) := by decide +kernel
theorem dX10_copy_38 : decode cX10_copy 38 = .ok (.aload_n 0, 1) := by decide +kernel
theorem dX10_copy_39 : decode cX10_copy 39 = .ok (.getfield 63, 3) := by decide +kernel
theorem dX10_copy_42 : decode cX10_copy 42 = .ok (.iload_n 1, 1) := by decide +kernel
theorem dX10_copy_43 : decode cX10_copy 43 = .ok (.iaload, 1) := by decide +kernel
theorem dX10_copy_44 : decode cX10_copy 44 = .ok (.aload_n 0, 1) := by decide +kernel
theorem dX10_copy_45 : decode cX10_copy 45 = .ok (.getfield 63, 3) := by decide +kernel
theorem dX10_copy_48 : decode cX10_copy 48 = .ok (.iload_n 3, 1) := by decide +kernel
theorem dX10_copy_49 : decode cX10_copy 49 = .ok (.iaload, 1) := by decide +kernel
theorem dX10_copy_50 : decode cX10_copy 50 = .ok (.if_icmp .eq 6, 3) := by decide +kernel
theorem dX10_copy_53 : decode cX10_copy 53 = .ok (.bipush (-13), 2) := by decide +kernel
theorem dX10_copy_55 : decode cX10_copy 55 = .ok (.ireturn, 1) := by decide +kernel
theorem dX10_copy_56 : decode cX10_copy 56 = .ok (.iload 5, 2) := by decide +kernel
theorem dX10_copy_58 : decode cX10_copy 58 = .ok (.ifCond .lt 39, 3) := by decide +kernel
theorem dX10_copy_61 : decode cX10_copy 61 = .ok (.iload_n 2, 1) := by decide +kernel
theorem dX10_copy_62 : decode cX10_copy 62 = .ok (.ifCond .lt 35, 3) := by decide +kernel
theorem dX10_copy_65 : decode cX10_copy 65 = .ok (.iload 4, 2) := by decide +kernel
theorem dX10_copy_67 : decode cX10_copy 67 = .ok (.ifCond .lt 30, 3) := by decide +kernel
theorem dX10_copy_70 : decode cX10_copy 70 = .ok (.iload_n 2, 1) := by decide +kernel
theorem dX10_copy_71 : decode cX10_copy 71 = .ok (.aload_n 0, 1) := by decide +kernel
theorem dX10_copy_72 : decode cX10_copy 72 = .ok (.getfield 66, 3) := by decide +kernel
theorem dX10_copy_75 : decode cX10_copy 75 = .ok (.iload_n 1, 1) := by decide +kernel
theorem dX10_copy_76 : decode cX10_copy 76 = .ok (.iaload, 1) := by decide +kernel
theorem dX10_copy_77 : decode cX10_copy 77 = .ok (.iload 5, 2) := by decide +kernel
theorem dX10_copy_79 : decode cX10_copy 79 = .ok (.isub, 1) := by decide +kernel
theorem dX10_copy_80 : decode cX10_copy 80 = .ok (.if_icmp .gt 17, 3) := by decide +kernel
theorem dX10_copy_83 : decode cX10_copy 83 = .ok (.iload 4, 2) := by decide +kernel
theorem dX10_copy_85 : decode cX10_copy 85 = .ok (.aload_n 0, 1) := by decide +kernel
theorem dX10_copy_86 : decode cX10_copy 86 = .ok (.getfield 66, 3) := by decide +kernel
theorem dX10_copy_89 : decode cX10_copy 89 = .ok (.iload_n 3, 1) := by decide +kernel
theorem dX10_copy_90 : decode cX10_copy 90 = .ok (.iaload, 1) := by decide +kernel
theorem dX10_copy_91 : decode cX10_copy 91 = .ok (.iload 5, 2) := by decide +kernel
theorem dX10_copy_93 : decode cX10_copy 93 = .ok (.isub, 1) := by decide +kernel
theorem dX10_copy_94 : decode cX10_copy 94 = .ok (.if_icmp .le 6, 3) := by decide +kernel
theorem dX10_copy_97 : decode cX10_copy 97 = .ok (.bipush (-12), 2) := by decide +kernel
theorem dX10_copy_99 : decode cX10_copy 99 = .ok (.ireturn, 1) := by decide +kernel
theorem dX10_copy_100 : decode cX10_copy 100 = .ok (.iload_n 1, 1) := by decide +kernel
theorem dX10_copy_101 : decode cX10_copy 101 = .ok (.iload_n 3, 1) := by decide +kernel
theorem dX10_copy_102 : decode cX10_copy 102 = .ok (.if_icmp .ne 13, 3) := by decide +kernel
theorem dX10_copy_105 : decode cX10_copy 105 = .ok (.iload_n 2, 1) := by decide +kernel
theorem dX10_copy_106 : decode cX10_copy 106 = .ok (.iload 4, 2) := by decide +kernel
theorem dX10_copy_108 : decode cX10_copy 108 = .ok (.if_icmp .ge 7, 3) := by decide +kernel
theorem dX10_copy_111 : decode cX10_copy 111 = .ok (.iconst 1, 1) := by decide +kernel
theorem dX10_copy_112 : decode cX10_copy 112 = .ok (.goto 4, 3) := by decide +kernel
theorem dX10_copy_115 : decode cX10_copy 115 = .ok (.iconst 0, 1) := by decide +kernel
theorem dX10_copy_116 : decode cX10_copy 116 = .ok (.istore 6, 2) := by decide +kernel
theorem dX10_copy_118 : decode cX10_copy 118 = .ok (.iconst 0, 1) := by decide +kernel
theorem dX10_copy_119 : decode cX10_copy 119 = .ok (.istore 7, 2) := by decide +kernel
theorem dX10_copy_121 : decode cX10_copy 121 = .ok (.iload 7, 2) := by decide +kernel
theorem dX10_copy_123 : decode cX10_copy 123 = .ok (.iload 5, 2) := by decide +kernel
theorem dX10_copy_125 : decode cX10_copy 125 = .ok (.if_icmp .ge 57, 3) := by decide +kernel
theorem dX10_copy_128 : decode cX10_copy 128 = .ok (.iload 6, 2) := by decide +kernel
theorem dX10_copy_130 : decode cX10_copy 130 = .ok (.ifCond .eq 13, 3) := by decide +kernel
theorem dX10_copy_133 : decode cX10_copy 133 = .ok (.iload 5, 2) := by decide +kernel
theorem dX10_copy_135 : decode cX10_copy 135 = .ok (.iconst 1, 1) := by decide +kernel
theorem dX10_copy_136 : decode cX10_copy 136 = .ok (.isub, 1) := by decide +kernel
theorem dX10_copy_137 : decode cX10_copy 137 = .ok (.iload 7, 2) := by decide +kernel
theorem dX10_copy_139 : decode cX10_copy 139 = .ok (.isub, 1) := by decide +kernel
theorem dX10_copy_140 : decode cX10_copy 140 = .ok (.goto 5, 3) := by decide +kernel
theorem dX10_copy_143 : decode cX10_copy 143 = .ok (.iload 7, 2) := by decide +kernel
theorem dX10_copy_145 : decode cX10_copy 145 = .ok (.istore 8, 2) := by decide +kernel
theorem dX10_copy_147 : decode cX10_copy 147 = .ok (.aload_n 0, 1) := by decide +kernel
theorem dX10_copy_148 : decode cX10_copy 148 = .ok (.getfield 69, 3) := by decide +kernel
theorem dX10_copy_151 : decode cX10_copy 151 = .ok (.bipush 40, 2) := by decide +kernel
theorem dX10_copy_153 : decode cX10_copy 153 = .ok (.iload_n 3, 1) := by decide +kernel
theorem dX10_copy_154 : decode cX10_copy 154 = .ok (.imul, 1) := by decide +kernel
theorem dX10_copy_155 : decode cX10_copy 155 = .ok (.iload 4, 2) := by decide +kernel
theorem dX10_copy_157 : decode cX10_copy 157 = .ok (.iadd, 1) := by decide +kernel
theorem dX10_copy_158 : decode cX10_copy 158 = .ok (.iload 8, 2) := by decide +kernel
theorem dX10_copy_160 : decode cX10_copy 160 = .ok (.iadd, 1) := by decide +kernel
theorem dX10_copy_161 : decode cX10_copy 161 = .ok (.aload_n 0, 1) := by decide +kernel
theorem dX10_copy_162 : decode cX10_copy 162 = .ok (.getfield 69, 3) := by decide +kernel
theorem dX10_copy_165 : decode cX10_copy 165 = .ok (.bipush 40, 2) := by decide +kernel
theorem dX10_copy_167 : decode cX10_copy 167 = .ok (.iload_n 1, 1) := by decide +kernel
theorem dX10_copy_168 : decode cX10_copy 168 = .ok (.imul, 1) := by decide +kernel
theorem dX10_copy_169 : decode cX10_copy 169 = .ok (.iload_n 2, 1) := by decide +kernel
theorem dX10_copy_170 : decode cX10_copy 170 = .ok (.iadd, 1) := by decide +kernel
theorem dX10_copy_171 : decode cX10_copy 171 = .ok (.iload 8, 2) := by decide +kernel
theorem dX10_copy_173 : decode cX10_copy 173 = .ok (.iadd, 1) := by decide +kernel
theorem dX10_copy_174 : decode cX10_copy 174 = .ok (.iaload, 1) := by decide +kernel
theorem dX10_copy_175 : decode cX10_copy 175 = .ok (.iastore, 1) := by decide +kernel
theorem dX10_copy_176 : decode cX10_copy 176 = .ok (.iinc 7 1, 3) := by decide +kernel
theorem dX10_copy_179 : decode cX10_copy 179 = .ok (.goto (-58), 3) := by decide +kernel
theorem dX10_copy_182 : decode cX10_copy 182 = .ok (.iload 5, 2) := by decide +kernel
theorem dX10_copy_184 : decode cX10_copy 184 = .ok (.ireturn, 1) := by decide +kernel
theorem dX10_guests_0 : decode cX10_guests 0 = .ok (.iload_n 1, 1) := by decide +kernel
theorem dX10_guests_1 : decode cX10_guests 1 = .ok (.invokestatic 256, 3) := by decide +kernel
theorem dX10_guests_4 : decode cX10_guests 4 = .ok (.ifCond .eq 28, 3) := by decide +kernel
theorem dX10_guests_7 : decode cX10_guests 7 = .ok (.iload_n 2, 1) := by decide +kernel
theorem dX10_guests_8 : decode cX10_guests 8 = .ok (.i2l, 1) := by decide +kernel
theorem dX10_guests_9 : decode cX10_guests 9 = .ok (.lconst 0, 1) := by decide +kernel
theorem dX10_guests_10 : decode cX10_guests 10 = .ok (.ldc2_w 259, 3) := by decide +kernel
theorem dX10_guests_13 : decode cX10_guests 13 = .ok (.invokestatic 82, 3) := by decide +kernel
theorem dX10_guests_16 : decode cX10_guests 16 = .ok (.ifCond .eq 16, 3) := by decide +kernel
theorem dX10_guests_19 : decode cX10_guests 19 = .ok (.iload 4, 2) := by decide +kernel
theorem dX10_guests_21 : decode cX10_guests 21 = .ok (.i2l, 1) := by decide +kernel
theorem dX10_guests_22 : decode cX10_guests 22 = .ok (.lconst 0, 1) := by decide +kernel
theorem dX10_guests_23 : decode cX10_guests 23 = .ok (.ldc2_w 86, 3) := by decide +kernel
theorem dX10_guests_26 : decode cX10_guests 26 = .ok (.invokestatic 82, 3) := by decide +kernel
theorem dX10_guests_29 : decode cX10_guests 29 = .ok (.ifCond .ne 6, 3) := by decide +kernel
theorem dX10_guests_32 : decode cX10_guests 32 = .ok (.bipush (-2), 2) := by decide +kernel
theorem dX10_guests_34 : decode cX10_guests 34 = .ok (.ireturn, 1) := by decide +kernel
theorem dX10_guests_35 : decode cX10_guests 35 = .ok (.aload_n 0, 1) := by decide +kernel
theorem dX10_guests_36 : decode cX10_guests 36 = .ok (.getfield 60, 3) := by decide +kernel
theorem dX10_guests_39 : decode cX10_guests 39 = .ok (.iload_n 1, 1) := by decide +kernel
theorem dX10_guests_40 : decode cX10_guests 40 = .ok (.baload, 1) := by decide +kernel
theorem dX10_guests_41 : decode cX10_guests 41 = .ok (.ifCond .eq 16, 3) := by decide +kernel
theorem dX10_guests_44 : decode cX10_guests 44 = .ok (.aload_n 0, 1) := by decide +kernel
theorem dX10_guests_45 : decode cX10_guests 45 = .ok (.getfield 63, 3) := by decide +kernel
theorem dX10_guests_48 : decode cX10_guests 48 = .ok (.iload_n 1, 1) := by decide +kernel
theorem dX10_guests_49 : decode cX10_guests 49 = .ok (.iaload, 1) := by decide +kernel
theorem dX10_guests_50 : decode cX10_guests 50 = .ok (.iload_n 2, 1) := by decide +kernel
theorem dX10_guests_51 : decode cX10_guests 51 = .ok (.if_icmp .eq 6, 3) := by decide +kernel
theorem dX10_guests_54 : decode cX10_guests 54 = .ok (.bipush (-13), 2) := by decide +kernel
theorem dX10_guests_56 : decode cX10_guests 56 = .ok (.ireturn, 1) := by decide +kernel
theorem dX10_guests_57 : decode cX10_guests 57 = .ok (.aload_n 0, 1) := by decide +kernel
theorem dX10_guests_58 : decode cX10_guests 58 = .ok (.getfield 60, 3) := by decide +kernel
theorem dX10_guests_61 : decode cX10_guests 61 = .ok (.iload_n 1, 1) := by decide +kernel
theorem dX10_guests_62 : decode cX10_guests 62 = .ok (.baload, 1) := by decide +kernel
theorem dX10_guests_63 : decode cX10_guests 63 = .ok (.ifCond .ne 6, 3) := by decide +kernel
theorem dX10_guests_66 : decode cX10_guests 66 = .ok (.bipush (-11), 2) := by decide +kernel
theorem dX10_guests_68 : decode cX10_guests 68 = .ok (.ireturn, 1) := by decide +kernel
theorem dX10_guests_69 : decode cX10_guests 69 = .ok (.iconst 0, 1) := by decide +kernel
theorem dX10_guests_70 : decode cX10_guests 70 = .ok (.istore 5, 2) := by decide +kernel
theorem dX10_guests_72 : decode cX10_guests 72 = .ok (.iconst 0, 1) := by decide +kernel
theorem dX10_guests_73 : decode cX10_guests 73 = .ok (.istore 6, 2) := by decide +kernel
theorem dX10_guests_75 : decode cX10_guests 75 = .ok (.iload 6, 2) := by decide +kernel
theorem dX10_guests_77 : decode cX10_guests 77 = .ok (.iload 4, 2) := by decide +kernel
theorem dX10_guests_79 : decode cX10_guests 79 = .ok (.if_icmp .ge 88, 3) := by decide +kernel
theorem dX10_guests_82 : decode cX10_guests 82 = .ok (.iload_n 3, 1) := by decide +kernel
theorem dX10_guests_83 : decode cX10_guests 83 = .ok (.ifCond .lt 20, 3) := by decide +kernel
theorem dX10_guests_86 : decode cX10_guests 86 = .ok (.iload_n 3, 1) := by decide +kernel
theorem dX10_guests_87 : decode cX10_guests 87 = .ok (.aload_n 0, 1) := by decide +kernel
theorem dX10_guests_88 : decode cX10_guests 88 = .ok (.getfield 66, 3) := by decide +kernel
theorem dX10_guests_91 : decode cX10_guests 91 = .ok (.iload_n 1, 1) := by decide +kernel
theorem dX10_guests_92 : decode cX10_guests 92 = .ok (.iaload, 1) := by decide +kernel
theorem dX10_guests_93 : decode cX10_guests 93 = .ok (.iconst 3, 1) := by decide +kernel
theorem dX10_guests_94 : decode cX10_guests 94 = .ok (.iload 6, 2) := by decide +kernel
theorem dX10_guests_96 : decode cX10_guests 96 = .ok (.imul, 1) := by decide +kernel
theorem dX10_guests_97 : decode cX10_guests 97 = .ok (.isub, 1) := by decide +kernel
theorem dX10_guests_98 : decode cX10_guests 98 = .ok (.iconst 3, 1) := by decide +kernel
theorem dX10_guests_99 : decode cX10_guests 99 = .ok (.isub, 1) := by decide +kernel
theorem dX10_guests_100 : decode cX10_guests 100 = .ok (.if_icmp .le 6, 3) := by decide +kernel
theorem dX10_guests_103 : decode cX10_guests 103 = .ok (.bipush (-12), 2) := by decide +kernel
theorem dX10_guests_105 : decode cX10_guests 105 = .ok (.ireturn, 1) := by decide +kernel
theorem dX10_guests_106 : decode cX10_guests 106 = .ok (.bipush 40, 2) := by decide +kernel
theorem dX10_guests_108 : decode cX10_guests 108 = .ok (.iload_n 1, 1) := by decide +kernel
theorem dX10_guests_109 : decode cX10_guests 109 = .ok (.imul, 1) := by decide +kernel
theorem dX10_guests_110 : decode cX10_guests 110 = .ok (.iload_n 3, 1) := by decide +kernel
theorem dX10_guests_111 : decode cX10_guests 111 = .ok (.iadd, 1) := by decide +kernel
theorem dX10_guests_112 : decode cX10_guests 112 = .ok (.iconst 3, 1) := by decide +kernel
theorem dX10_guests_113 : decode cX10_guests 113 = .ok (.iload 6, 2) := by decide +kernel
theorem dX10_guests_115 : decode cX10_guests 115 = .ok (.imul, 1) := by decide +kernel
theorem dX10_guests_116 : decode cX10_guests 116 = .ok (.iadd, 1) := by decide +kernel
theorem dX10_guests_117 : decode cX10_guests 117 = .ok (.istore 7, 2) := by decide +kernel
theorem dX10_guests_119 : decode cX10_guests 119 = .ok (.iload 5, 2) := by decide +kernel
theorem dX10_guests_121 : decode cX10_guests 121 = .ok (.aload_n 0, 1) := by decide +kernel
theorem dX10_guests_122 : decode cX10_guests 122 = .ok (.aload_n 0, 1) := by decide +kernel
theorem dX10_guests_123 : decode cX10_guests 123 = .ok (.getfield 69, 3) := by decide +kernel
theorem dX10_guests_126 : decode cX10_guests 126 = .ok (.iload 7, 2) := by decide +kernel
theorem dX10_guests_128 : decode cX10_guests 128 = .ok (.iaload, 1) := by decide +kernel
theorem dX10_guests_129 : decode cX10_guests 129 = .ok (.aload_n 0, 1) := by decide +kernel
theorem dX10_guests_130 : decode cX10_guests 130 = .ok (.getfield 69, 3) := by decide +kernel
theorem dX10_guests_133 : decode cX10_guests 133 = .ok (.iload 7, 2) := by decide +kernel
theorem dX10_guests_135 : decode cX10_guests 135 = .ok (.iconst 1, 1) := by decide +kernel
theorem dX10_guests_136 : decode cX10_guests 136 = .ok (.iadd, 1) := by decide +kernel
theorem dX10_guests_137 : decode cX10_guests 137 = .ok (.iaload, 1) := by decide +kernel
theorem dX10_guests_138 : decode cX10_guests 138 = .ok (.aload_n 0, 1) := by decide +kernel
theorem dX10_guests_139 : decode cX10_guests 139 = .ok (.getfield 69, 3) := by decide +kernel
theorem dX10_guests_142 : decode cX10_guests 142 = .ok (.iload 7, 2) := by decide +kernel
theorem dX10_guests_144 : decode cX10_guests 144 = .ok (.iconst 2, 1) := by decide +kernel
theorem dX10_guests_145 : decode cX10_guests 145 = .ok (.iadd, 1) := by decide +kernel
theorem dX10_guests_146 : decode cX10_guests 146 = .ok (.iaload, 1) := by decide +kernel
theorem dX10_guests_147 : decode cX10_guests 147 = .ok (.invokevirtual 351, 3) := by decide +kernel
theorem dX10_guests_150 : decode cX10_guests 150 = .ok (.ifCond .lt 7, 3) := by decide +kernel
theorem dX10_guests_153 : decode cX10_guests 153 = .ok (.iconst 1, 1) := by decide +kernel
theorem dX10_guests_154 : decode cX10_guests 154 = .ok (.goto 4, 3) := by decide +kernel
theorem dX10_guests_157 : decode cX10_guests 157 = .ok (.iconst 0, 1) := by decide +kernel
theorem dX10_guests_158 : decode cX10_guests 158 = .ok (.iadd, 1) := by decide +kernel
theorem dX10_guests_159 : decode cX10_guests 159 = .ok (.istore 5, 2) := by decide +kernel
theorem dX10_guests_161 : decode cX10_guests 161 = .ok (.iinc 6 1, 3) := by decide +kernel
theorem dX10_guests_164 : decode cX10_guests 164 = .ok (.goto (-89), 3) := by decide +kernel
theorem dX10_guests_167 : decode cX10_guests 167 = .ok (.iload 5, 2) := by decide +kernel
theorem dX10_guests_169 : decode cX10_guests 169 = .ok (.ireturn, 1) := by decide +kernel
theorem dX10_over_0 : decode cX10_over 0 = .ok (.iload_n 0, 1) := by decide +kernel
theorem dX10_over_1 : decode cX10_over 1 = .ok (.ifCond .ne 7, 3) := by decide +kernel
theorem dX10_over_4 : decode cX10_over 4 = .ok (.iconst (-1), 1) := by decide +kernel
theorem dX10_over_5 : decode cX10_over 5 = .ok (.goto 22, 3) := by decide +kernel
theorem dX10_over_8 : decode cX10_over 8 = .ok (.iload_n 0, 1) := by decide +kernel
theorem dX10_over_9 : decode cX10_over 9 = .ok (.iconst 3, 1) := by decide +kernel
theorem dX10_over_10 : decode cX10_over 10 = .ok (.if_icmp .ne 7, 3) := by decide +kernel
theorem dX10_over_13 : decode cX10_over 13 = .ok (.iconst 1, 1) := by decide +kernel
theorem dX10_over_14 : decode cX10_over 14 = .ok (.goto 13, 3) := by decide +kernel
theorem dX10_over_17 : decode cX10_over 17 = .ok (.iload_n 0, 1) := by decide +kernel
theorem dX10_over_18 : decode cX10_over 18 = .ok (.iconst 4, 1) := by decide +kernel
theorem dX10_over_19 : decode cX10_over 19 = .ok (.if_icmp .ne 7, 3) := by decide +kernel
theorem dX10_over_22 : decode cX10_over 22 = .ok (.iconst 2, 1) := by decide +kernel
theorem dX10_over_23 : decode cX10_over 23 = .ok (.goto 4, 3) := by decide +kernel
theorem dX10_over_26 : decode cX10_over 26 = .ok (.iconst 0, 1) := by decide +kernel
theorem dX10_over_27 : decode cX10_over 27 = .ok (.ireturn, 1) := by decide +kernel
theorem dX10_taken_0 : decode cX10_taken 0 = .ok (.iload_n 2, 1) := by decide +kernel
theorem dX10_taken_1 : decode cX10_taken 1 = .ok (.i2l, 1) := by decide +kernel
theorem dX10_taken_2 : decode cX10_taken 2 = .ok (.lconst 0, 1) := by decide +kernel
theorem dX10_taken_3 : decode cX10_taken 3 = .ok (.ldc2_w 86, 3) := by decide +kernel
theorem dX10_taken_6 : decode cX10_taken 6 = .ok (.invokestatic 82, 3) := by decide +kernel
theorem dX10_taken_9 : decode cX10_taken 9 = .ok (.ifCond .ne 6, 3) := by decide +kernel
theorem dX10_taken_12 : decode cX10_taken 12 = .ok (.bipush (-2), 2) := by decide +kernel
theorem dX10_taken_14 : decode cX10_taken 14 = .ok (.ireturn, 1) := by decide +kernel
theorem dX10_taken_15 : decode cX10_taken 15 = .ok (.aload_n 0, 1) := by decide +kernel
theorem dX10_taken_16 : decode cX10_taken 16 = .ok (.iload_n 1, 1) := by decide +kernel
theorem dX10_taken_17 : decode cX10_taken 17 = .ok (.invokevirtual 88, 3) := by decide +kernel
theorem dX10_taken_20 : decode cX10_taken 20 = .ok (.ifCond .ne 6, 3) := by decide +kernel
theorem dX10_taken_23 : decode cX10_taken 23 = .ok (.bipush (-11), 2) := by decide +kernel
theorem dX10_taken_25 : decode cX10_taken 25 = .ok (.ireturn, 1) := by decide +kernel
theorem dX10_taken_26 : decode cX10_taken 26 = .ok (.aload_n 0, 1) := by decide +kernel
theorem dX10_taken_27 : decode cX10_taken 27 = .ok (.getfield 26, 3) := by decide +kernel
theorem dX10_taken_30 : decode cX10_taken 30 = .ok (.iload_n 1, 1) := by decide +kernel
theorem dX10_taken_31 : decode cX10_taken 31 = .ok (.iaload, 1) := by decide +kernel
theorem dX10_taken_32 : decode cX10_taken 32 = .ok (.istore_n 3, 1) := by decide +kernel
theorem dX10_taken_33 : decode cX10_taken 33 = .ok (.iload_n 3, 1) := by decide +kernel
theorem dX10_taken_34 : decode cX10_taken 34 = .ok (.iconst (-1), 1) := by decide +kernel
theorem dX10_taken_35 : decode cX10_taken 35 = .ok (.if_icmp .eq 16, 3) := by decide +kernel
theorem dX10_taken_38 : decode cX10_taken 38 = .ok (.iload_n 3, 1) := by decide +kernel
theorem dX10_taken_39 : decode cX10_taken 39 = .ok (.iload_n 2, 1) := by decide +kernel
theorem dX10_taken_40 : decode cX10_taken 40 = .ok (.if_icmp .eq 11, 3) := by decide +kernel
theorem dX10_taken_43 : decode cX10_taken 43 = .ok (.iload_n 3, 1) := by decide +kernel
theorem dX10_taken_44 : decode cX10_taken 44 = .ok (.invokestatic 354, 3) := by decide +kernel
theorem dX10_taken_47 : decode cX10_taken 47 = .ok (.istore_n 3, 1) := by decide +kernel
theorem dX10_taken_48 : decode cX10_taken 48 = .ok (.goto (-15), 3) := by decide +kernel
theorem dX10_taken_51 : decode cX10_taken 51 = .ok (.iload_n 3, 1) := by decide +kernel
theorem dX10_taken_52 : decode cX10_taken 52 = .ok (.iload_n 2, 1) := by decide +kernel
theorem dX10_taken_53 : decode cX10_taken 53 = .ok (.if_icmp .ne 14, 3) := by decide +kernel
theorem dX10_taken_56 : decode cX10_taken 56 = .ok (.aload_n 0, 1) := by decide +kernel
theorem dX10_taken_57 : decode cX10_taken 57 = .ok (.getfield 29, 3) := by decide +kernel
theorem dX10_taken_60 : decode cX10_taken 60 = .ok (.iconst 3, 1) := by decide +kernel
theorem dX10_taken_61 : decode cX10_taken 61 = .ok (.iload_n 1, 1) := by decide +kernel
theorem dX10_taken_62 : decode cX10_taken 62 = .ok (.imul, 1) := by decide +kernel
theorem dX10_taken_63 : decode cX10_taken 63 = .ok (.iaload, 1) := by decide +kernel
theorem dX10_taken_64 : decode cX10_taken 64 = .ok (.goto 5, 3) := by decide +kernel
theorem dX10_taken_67 : decode cX10_taken 67 = .ok (.bipush (-13), 2) := by decide +kernel
theorem dX10_taken_69 : decode cX10_taken 69 = .ok (.ireturn, 1) := by decide +kernel
end
section
theorem dL_law_0 : decode cL_law 0 = .ok (.new 7, 3) := by decide +kernel
theorem dL_law_3 : decode cL_law 3 = .ok (.dup, 1) := by decide +kernel
theorem dL_law_4 : decode cL_law 4 = .ok (.invokespecial 9, 3) := by decide +kernel
theorem dL_law_7 : decode cL_law 7 = .ok (.astore_n 1, 1) := by decide +kernel
theorem dL_law_8 : decode cL_law 8 = .ok (.new 10, 3) := by decide +kernel
theorem dL_law_11 : decode cL_law 11 = .ok (.dup, 1) := by decide +kernel
theorem dL_law_12 : decode cL_law 12 = .ok (.invokespecial 12, 3) := by decide +kernel
theorem dL_law_15 : decode cL_law 15 = .ok (.astore_n 2, 1) := by decide +kernel
theorem dL_law_16 : decode cL_law 16 = .ok (.iconst 0, 1) := by decide +kernel
theorem dL_law_17 : decode cL_law 17 = .ok (.istore_n 3, 1) := by decide +kernel
theorem dL_law_18 : decode cL_law 18 = .ok (.iload_n 3, 1) := by decide +kernel
theorem dL_law_19 : decode cL_law 19 = .ok (.aload_n 0, 1) := by decide +kernel
theorem dL_law_20 : decode cL_law 20 = .ok (.arraylength, 1) := by decide +kernel
theorem dL_law_21 : decode cL_law 21 = .ok (.bipush 6, 2) := by decide +kernel
theorem dL_law_23 : decode cL_law 23 = .ok (.isub, 1) := by decide +kernel
theorem dL_law_24 : decode cL_law 24 = .ok (.if_icmp .gt 896, 3) := by decide +kernel
theorem dL_law_27 : decode cL_law 27 = .ok (.aload_n 0, 1) := by decide +kernel
theorem dL_law_28 : decode cL_law 28 = .ok (.iload_n 3, 1) := by decide +kernel
theorem dL_law_29 : decode cL_law 29 = .ok (.iaload, 1) := by decide +kernel
theorem dL_law_30 : decode cL_law 30 = .ok (.bipush 31, 2) := by decide +kernel
theorem dL_law_32 : decode cL_law 32 = .ok (.iand, 1) := by decide +kernel
theorem dL_law_33 : decode cL_law 33 = .ok (.tableswitch 881 0 24 #[115, 158, 201, 234, 257, 270, 293, 326, 349, 372, 395, 418, 451, 474, 507, 530, 553, 597, 610, 623, 646, 689, 732, 795, 848], 115) := by decide +kernel
theorem dL_law_148 : decode cL_law 148 = .ok (.aload_n 1, 1) := by decide +kernel
theorem dL_law_149 : decode cL_law 149 = .ok (.aload_n 0, 1) := by decide +kernel
theorem dL_law_150 : decode cL_law 150 = .ok (.iload_n 3, 1) := by decide +kernel
theorem dL_law_151 : decode cL_law 151 = .ok (.iconst 1, 1) := by decide +kernel
theorem dL_law_152 : decode cL_law 152 = .ok (.iadd, 1) := by decide +kernel
theorem dL_law_153 : decode cL_law 153 = .ok (.iaload, 1) := by decide +kernel
theorem dL_law_154 : decode cL_law 154 = .ok (.aload_n 0, 1) := by decide +kernel
theorem dL_law_155 : decode cL_law 155 = .ok (.iload_n 3, 1) := by decide +kernel
theorem dL_law_156 : decode cL_law 156 = .ok (.iconst 2, 1) := by decide +kernel
theorem dL_law_157 : decode cL_law 157 = .ok (.iadd, 1) := by decide +kernel
theorem dL_law_158 : decode cL_law 158 = .ok (.iaload, 1) := by decide +kernel
theorem dL_law_159 : decode cL_law 159 = .ok (.aload_n 0, 1) := by decide +kernel
theorem dL_law_160 : decode cL_law 160 = .ok (.iload_n 3, 1) := by decide +kernel
theorem dL_law_161 : decode cL_law 161 = .ok (.iconst 3, 1) := by decide +kernel
theorem dL_law_162 : decode cL_law 162 = .ok (.iadd, 1) := by decide +kernel
theorem dL_law_163 : decode cL_law 163 = .ok (.iaload, 1) := by decide +kernel
theorem dL_law_164 : decode cL_law 164 = .ok (.invokevirtual 13, 3) := by decide +kernel
theorem dL_law_167 : decode cL_law 167 = .ok (.aload_n 2, 1) := by decide +kernel
theorem dL_law_168 : decode cL_law 168 = .ok (.aload_n 0, 1) := by decide +kernel
theorem dL_law_169 : decode cL_law 169 = .ok (.iload_n 3, 1) := by decide +kernel
theorem dL_law_170 : decode cL_law 170 = .ok (.iconst 1, 1) := by decide +kernel
theorem dL_law_171 : decode cL_law 171 = .ok (.iadd, 1) := by decide +kernel
theorem dL_law_172 : decode cL_law 172 = .ok (.iaload, 1) := by decide +kernel
theorem dL_law_173 : decode cL_law 173 = .ok (.aload_n 0, 1) := by decide +kernel
theorem dL_law_174 : decode cL_law 174 = .ok (.iload_n 3, 1) := by decide +kernel
theorem dL_law_175 : decode cL_law 175 = .ok (.iconst 2, 1) := by decide +kernel
theorem dL_law_176 : decode cL_law 176 = .ok (.iadd, 1) := by decide +kernel
theorem dL_law_177 : decode cL_law 177 = .ok (.iaload, 1) := by decide +kernel
theorem dL_law_178 : decode cL_law 178 = .ok (.aload_n 0, 1) := by decide +kernel
theorem dL_law_179 : decode cL_law 179 = .ok (.iload_n 3, 1) := by decide +kernel
theorem dL_law_180 : decode cL_law 180 = .ok (.iconst 3, 1) := by decide +kernel
theorem dL_law_181 : decode cL_law 181 = .ok (.iadd, 1) := by decide +kernel
theorem dL_law_182 : decode cL_law 182 = .ok (.iaload, 1) := by decide +kernel
theorem dL_law_183 : decode cL_law 183 = .ok (.invokevirtual 17, 3) := by decide +kernel
theorem dL_law_186 : decode cL_law 186 = .ok (.if_icmp .eq 728, 3) := by decide +kernel
theorem dL_law_189 : decode cL_law 189 = .ok (.iconst 0, 1) := by decide +kernel
theorem dL_law_190 : decode cL_law 190 = .ok (.ireturn, 1) := by decide +kernel
theorem dL_law_191 : decode cL_law 191 = .ok (.aload_n 1, 1) := by decide +kernel
theorem dL_law_192 : decode cL_law 192 = .ok (.aload_n 0, 1) := by decide +kernel
theorem dL_law_193 : decode cL_law 193 = .ok (.iload_n 3, 1) := by decide +kernel
theorem dL_law_194 : decode cL_law 194 = .ok (.iconst 1, 1) := by decide +kernel
theorem dL_law_195 : decode cL_law 195 = .ok (.iadd, 1) := by decide +kernel
theorem dL_law_196 : decode cL_law 196 = .ok (.iaload, 1) := by decide +kernel
theorem dL_law_197 : decode cL_law 197 = .ok (.aload_n 0, 1) := by decide +kernel
theorem dL_law_198 : decode cL_law 198 = .ok (.iload_n 3, 1) := by decide +kernel
theorem dL_law_199 : decode cL_law 199 = .ok (.iconst 2, 1) := by decide +kernel
theorem dL_law_200 : decode cL_law 200 = .ok (.iadd, 1) := by decide +kernel
theorem dL_law_201 : decode cL_law 201 = .ok (.iaload, 1) := by decide +kernel
theorem dL_law_202 : decode cL_law 202 = .ok (.aload_n 0, 1) := by decide +kernel
theorem dL_law_203 : decode cL_law 203 = .ok (.iload_n 3, 1) := by decide +kernel
theorem dL_law_204 : decode cL_law 204 = .ok (.iconst 3, 1) := by decide +kernel
theorem dL_law_205 : decode cL_law 205 = .ok (.iadd, 1) := by decide +kernel
theorem dL_law_206 : decode cL_law 206 = .ok (.iaload, 1) := by decide +kernel
theorem dL_law_207 : decode cL_law 207 = .ok (.invokevirtual 18, 3) := by decide +kernel
theorem dL_law_210 : decode cL_law 210 = .ok (.aload_n 2, 1) := by decide +kernel
theorem dL_law_211 : decode cL_law 211 = .ok (.aload_n 0, 1) := by decide +kernel
theorem dL_law_212 : decode cL_law 212 = .ok (.iload_n 3, 1) := by decide +kernel
theorem dL_law_213 : decode cL_law 213 = .ok (.iconst 1, 1) := by decide +kernel
theorem dL_law_214 : decode cL_law 214 = .ok (.iadd, 1) := by decide +kernel
theorem dL_law_215 : decode cL_law 215 = .ok (.iaload, 1) := by decide +kernel
theorem dL_law_216 : decode cL_law 216 = .ok (.aload_n 0, 1) := by decide +kernel
theorem dL_law_217 : decode cL_law 217 = .ok (.iload_n 3, 1) := by decide +kernel
theorem dL_law_218 : decode cL_law 218 = .ok (.iconst 2, 1) := by decide +kernel
theorem dL_law_219 : decode cL_law 219 = .ok (.iadd, 1) := by decide +kernel
theorem dL_law_220 : decode cL_law 220 = .ok (.iaload, 1) := by decide +kernel
theorem dL_law_221 : decode cL_law 221 = .ok (.aload_n 0, 1) := by decide +kernel
theorem dL_law_222 : decode cL_law 222 = .ok (.iload_n 3, 1) := by decide +kernel
theorem dL_law_223 : decode cL_law 223 = .ok (.iconst 3, 1) := by decide +kernel
theorem dL_law_224 : decode cL_law 224 = .ok (.iadd, 1) := by decide +kernel
theorem dL_law_225 : decode cL_law 225 = .ok (.iaload, 1) := by decide +kernel
theorem dL_law_226 : decode cL_law 226 = .ok (.invokevirtual 21, 3) := by decide +kernel
theorem dL_law_229 : decode cL_law 229 = .ok (.if_icmp .eq 685, 3) := by decide +kernel
theorem dL_law_232 : decode cL_law 232 = .ok (.iconst 0, 1) := by decide +kernel
theorem dL_law_233 : decode cL_law 233 = .ok (.ireturn, 1) := by decide +kernel
theorem dL_law_234 : decode cL_law 234 = .ok (.aload_n 1, 1) := by decide +kernel
theorem dL_law_235 : decode cL_law 235 = .ok (.aload_n 0, 1) := by decide +kernel
theorem dL_law_236 : decode cL_law 236 = .ok (.iload_n 3, 1) := by decide +kernel
theorem dL_law_237 : decode cL_law 237 = .ok (.iconst 1, 1) := by decide +kernel
theorem dL_law_238 : decode cL_law 238 = .ok (.iadd, 1) := by decide +kernel
theorem dL_law_239 : decode cL_law 239 = .ok (.iaload, 1) := by decide +kernel
theorem dL_law_240 : decode cL_law 240 = .ok (.aload_n 0, 1) := by decide +kernel
theorem dL_law_241 : decode cL_law 241 = .ok (.iload_n 3, 1) := by decide +kernel
theorem dL_law_242 : decode cL_law 242 = .ok (.iconst 2, 1) := by decide +kernel
theorem dL_law_243 : decode cL_law 243 = .ok (.iadd, 1) := by decide +kernel
theorem dL_law_244 : decode cL_law 244 = .ok (.iaload, 1) := by decide +kernel
theorem dL_law_245 : decode cL_law 245 = .ok (.invokevirtual 22, 3) := by decide +kernel
theorem dL_law_248 : decode cL_law 248 = .ok (.aload_n 2, 1) := by decide +kernel
theorem dL_law_249 : decode cL_law 249 = .ok (.aload_n 0, 1) := by decide +kernel
theorem dL_law_250 : decode cL_law 250 = .ok (.iload_n 3, 1) := by decide +kernel
theorem dL_law_251 : decode cL_law 251 = .ok (.iconst 1, 1) := by decide +kernel
theorem dL_law_252 : decode cL_law 252 = .ok (.iadd, 1) := by decide +kernel
theorem dL_law_253 : decode cL_law 253 = .ok (.iaload, 1) := by decide +kernel
theorem dL_law_254 : decode cL_law 254 = .ok (.aload_n 0, 1) := by decide +kernel
theorem dL_law_255 : decode cL_law 255 = .ok (.iload_n 3, 1) := by decide +kernel
theorem dL_law_256 : decode cL_law 256 = .ok (.iconst 2, 1) := by decide +kernel
theorem dL_law_257 : decode cL_law 257 = .ok (.iadd, 1) := by decide +kernel
theorem dL_law_258 : decode cL_law 258 = .ok (.iaload, 1) := by decide +kernel
theorem dL_law_259 : decode cL_law 259 = .ok (.invokevirtual 26, 3) := by decide +kernel
theorem dL_law_262 : decode cL_law 262 = .ok (.if_icmp .eq 652, 3) := by decide +kernel
theorem dL_law_265 : decode cL_law 265 = .ok (.iconst 0, 1) := by decide +kernel
theorem dL_law_266 : decode cL_law 266 = .ok (.ireturn, 1) := by decide +kernel
theorem dL_law_267 : decode cL_law 267 = .ok (.aload_n 1, 1) := by decide +kernel
theorem dL_law_268 : decode cL_law 268 = .ok (.aload_n 0, 1) := by decide +kernel
theorem dL_law_269 : decode cL_law 269 = .ok (.iload_n 3, 1) := by decide +kernel
theorem dL_law_270 : decode cL_law 270 = .ok (.iconst 1, 1) := by decide +kernel
theorem dL_law_271 : decode cL_law 271 = .ok (.iadd, 1) := by decide +kernel
theorem dL_law_272 : decode cL_law 272 = .ok (.iaload, 1) := by decide +kernel
theorem dL_law_273 : decode cL_law 273 = .ok (.invokevirtual 27, 3) := by decide +kernel
theorem dL_law_276 : decode cL_law 276 = .ok (.aload_n 2, 1) := by decide +kernel
theorem dL_law_277 : decode cL_law 277 = .ok (.aload_n 0, 1) := by decide +kernel
theorem dL_law_278 : decode cL_law 278 = .ok (.iload_n 3, 1) := by decide +kernel
theorem dL_law_279 : decode cL_law 279 = .ok (.iconst 1, 1) := by decide +kernel
theorem dL_law_280 : decode cL_law 280 = .ok (.iadd, 1) := by decide +kernel
theorem dL_law_281 : decode cL_law 281 = .ok (.iaload, 1) := by decide +kernel
theorem dL_law_282 : decode cL_law 282 = .ok (.invokevirtual 31, 3) := by decide +kernel
theorem dL_law_285 : decode cL_law 285 = .ok (.if_icmp .eq 629, 3) := by decide +kernel
theorem dL_law_288 : decode cL_law 288 = .ok (.iconst 0, 1) := by decide +kernel
theorem dL_law_289 : decode cL_law 289 = .ok (.ireturn, 1) := by decide +kernel
theorem dL_law_290 : decode cL_law 290 = .ok (.aload_n 1, 1) := by decide +kernel
theorem dL_law_291 : decode cL_law 291 = .ok (.invokevirtual 32, 3) := by decide +kernel
theorem dL_law_294 : decode cL_law 294 = .ok (.aload_n 2, 1) := by decide +kernel
theorem dL_law_295 : decode cL_law 295 = .ok (.invokevirtual 36, 3) := by decide +kernel
theorem dL_law_298 : decode cL_law 298 = .ok (.if_icmp .eq 616, 3) := by decide +kernel
theorem dL_law_301 : decode cL_law 301 = .ok (.iconst 0, 1) := by decide +kernel
theorem dL_law_302 : decode cL_law 302 = .ok (.ireturn, 1) := by decide +kernel
theorem dL_law_303 : decode cL_law 303 = .ok (.aload_n 1, 1) := by decide +kernel
theorem dL_law_304 : decode cL_law 304 = .ok (.aload_n 0, 1) := by decide +kernel
theorem dL_law_305 : decode cL_law 305 = .ok (.iload_n 3, 1) := by decide +kernel
theorem dL_law_306 : decode cL_law 306 = .ok (.iconst 1, 1) := by decide +kernel
theorem dL_law_307 : decode cL_law 307 = .ok (.iadd, 1) := by decide +kernel
theorem dL_law_308 : decode cL_law 308 = .ok (.iaload, 1) := by decide +kernel
theorem dL_law_309 : decode cL_law 309 = .ok (.invokevirtual 37, 3) := by decide +kernel
theorem dL_law_312 : decode cL_law 312 = .ok (.aload_n 2, 1) := by decide +kernel
theorem dL_law_313 : decode cL_law 313 = .ok (.aload_n 0, 1) := by decide +kernel
theorem dL_law_314 : decode cL_law 314 = .ok (.iload_n 3, 1) := by decide +kernel
theorem dL_law_315 : decode cL_law 315 = .ok (.iconst 1, 1) := by decide +kernel
theorem dL_law_316 : decode cL_law 316 = .ok (.iadd, 1) := by decide +kernel
theorem dL_law_317 : decode cL_law 317 = .ok (.iaload, 1) := by decide +kernel
theorem dL_law_318 : decode cL_law 318 = .ok (.invokevirtual 40, 3) := by decide +kernel
theorem dL_law_321 : decode cL_law 321 = .ok (.if_icmp .eq 593, 3) := by decide +kernel
theorem dL_law_324 : decode cL_law 324 = .ok (.iconst 0, 1) := by decide +kernel
theorem dL_law_325 : decode cL_law 325 = .ok (.ireturn, 1) := by decide +kernel
theorem dL_law_326 : decode cL_law 326 = .ok (.aload_n 1, 1) := by decide +kernel
theorem dL_law_327 : decode cL_law 327 = .ok (.aload_n 0, 1) := by decide +kernel
theorem dL_law_328 : decode cL_law 328 = .ok (.iload_n 3, 1) := by decide +kernel
theorem dL_law_329 : decode cL_law 329 = .ok (.iconst 1, 1) := by decide +kernel
theorem dL_law_330 : decode cL_law 330 = .ok (.iadd, 1) := by decide +kernel
theorem dL_law_331 : decode cL_law 331 = .ok (.iaload, 1) := by decide +kernel
theorem dL_law_332 : decode cL_law 332 = .ok (.aload_n 0, 1) := by decide +kernel
theorem dL_law_333 : decode cL_law 333 = .ok (.iload_n 3, 1) := by decide +kernel
theorem dL_law_334 : decode cL_law 334 = .ok (.iconst 2, 1) := by decide +kernel
theorem dL_law_335 : decode cL_law 335 = .ok (.iadd, 1) := by decide +kernel
theorem dL_law_336 : decode cL_law 336 = .ok (.iaload, 1) := by decide +kernel
theorem dL_law_337 : decode cL_law 337 = .ok (.invokevirtual 41, 3) := by decide +kernel
theorem dL_law_340 : decode cL_law 340 = .ok (.aload_n 2, 1) := by decide +kernel
theorem dL_law_341 : decode cL_law 341 = .ok (.aload_n 0, 1) := by decide +kernel
theorem dL_law_342 : decode cL_law 342 = .ok (.iload_n 3, 1) := by decide +kernel
theorem dL_law_343 : decode cL_law 343 = .ok (.iconst 1, 1) := by decide +kernel
theorem dL_law_344 : decode cL_law 344 = .ok (.iadd, 1) := by decide +kernel
theorem dL_law_345 : decode cL_law 345 = .ok (.iaload, 1) := by decide +kernel
theorem dL_law_346 : decode cL_law 346 = .ok (.aload_n 0, 1) := by decide +kernel
theorem dL_law_347 : decode cL_law 347 = .ok (.iload_n 3, 1) := by decide +kernel
theorem dL_law_348 : decode cL_law 348 = .ok (.iconst 2, 1) := by decide +kernel
theorem dL_law_349 : decode cL_law 349 = .ok (.iadd, 1) := by decide +kernel
theorem dL_law_350 : decode cL_law 350 = .ok (.iaload, 1) := by decide +kernel
theorem dL_law_351 : decode cL_law 351 = .ok (.invokevirtual 44, 3) := by decide +kernel
theorem dL_law_354 : decode cL_law 354 = .ok (.if_icmp .eq 560, 3) := by decide +kernel
theorem dL_law_357 : decode cL_law 357 = .ok (.iconst 0, 1) := by decide +kernel
theorem dL_law_358 : decode cL_law 358 = .ok (.ireturn, 1) := by decide +kernel
theorem dL_law_359 : decode cL_law 359 = .ok (.aload_n 1, 1) := by decide +kernel
theorem dL_law_360 : decode cL_law 360 = .ok (.aload_n 0, 1) := by decide +kernel
theorem dL_law_361 : decode cL_law 361 = .ok (.iload_n 3, 1) := by decide +kernel
theorem dL_law_362 : decode cL_law 362 = .ok (.iconst 1, 1) := by decide +kernel
theorem dL_law_363 : decode cL_law 363 = .ok (.iadd, 1) := by decide +kernel
theorem dL_law_364 : decode cL_law 364 = .ok (.iaload, 1) := by decide +kernel
theorem dL_law_365 : decode cL_law 365 = .ok (.invokevirtual 45, 3) := by decide +kernel
theorem dL_law_368 : decode cL_law 368 = .ok (.aload_n 2, 1) := by decide +kernel
theorem dL_law_369 : decode cL_law 369 = .ok (.aload_n 0, 1) := by decide +kernel
theorem dL_law_370 : decode cL_law 370 = .ok (.iload_n 3, 1) := by decide +kernel
theorem dL_law_371 : decode cL_law 371 = .ok (.iconst 1, 1) := by decide +kernel
theorem dL_law_372 : decode cL_law 372 = .ok (.iadd, 1) := by decide +kernel
theorem dL_law_373 : decode cL_law 373 = .ok (.iaload, 1) := by decide +kernel
theorem dL_law_374 : decode cL_law 374 = .ok (.invokevirtual 48, 3) := by decide +kernel
theorem dL_law_377 : decode cL_law 377 = .ok (.if_icmp .eq 537, 3) := by decide +kernel
theorem dL_law_380 : decode cL_law 380 = .ok (.iconst 0, 1) := by decide +kernel
theorem dL_law_381 : decode cL_law 381 = .ok (.ireturn, 1) := by decide +kernel
theorem dL_law_382 : decode cL_law 382 = .ok (.aload_n 1, 1) := by decide +kernel
theorem dL_law_383 : decode cL_law 383 = .ok (.aload_n 0, 1) := by decide +kernel
theorem dL_law_384 : decode cL_law 384 = .ok (.iload_n 3, 1) := by decide +kernel
theorem dL_law_385 : decode cL_law 385 = .ok (.iconst 1, 1) := by decide +kernel
theorem dL_law_386 : decode cL_law 386 = .ok (.iadd, 1) := by decide +kernel
theorem dL_law_387 : decode cL_law 387 = .ok (.iaload, 1) := by decide +kernel
theorem dL_law_388 : decode cL_law 388 = .ok (.invokevirtual 49, 3) := by decide +kernel
theorem dL_law_391 : decode cL_law 391 = .ok (.aload_n 2, 1) := by decide +kernel
theorem dL_law_392 : decode cL_law 392 = .ok (.aload_n 0, 1) := by decide +kernel
theorem dL_law_393 : decode cL_law 393 = .ok (.iload_n 3, 1) := by decide +kernel
theorem dL_law_394 : decode cL_law 394 = .ok (.iconst 1, 1) := by decide +kernel
theorem dL_law_395 : decode cL_law 395 = .ok (.iadd, 1) := by decide +kernel
theorem dL_law_396 : decode cL_law 396 = .ok (.iaload, 1) := by decide +kernel
theorem dL_law_397 : decode cL_law 397 = .ok (.invokevirtual 52, 3) := by decide +kernel
theorem dL_law_400 : decode cL_law 400 = .ok (.if_icmp .eq 514, 3) := by decide +kernel
theorem dL_law_403 : decode cL_law 403 = .ok (.iconst 0, 1) := by decide +kernel
theorem dL_law_404 : decode cL_law 404 = .ok (.ireturn, 1) := by decide +kernel
theorem dL_law_405 : decode cL_law 405 = .ok (.aload_n 1, 1) := by decide +kernel
theorem dL_law_406 : decode cL_law 406 = .ok (.aload_n 0, 1) := by decide +kernel
theorem dL_law_407 : decode cL_law 407 = .ok (.iload_n 3, 1) := by decide +kernel
theorem dL_law_408 : decode cL_law 408 = .ok (.iconst 1, 1) := by decide +kernel
theorem dL_law_409 : decode cL_law 409 = .ok (.iadd, 1) := by decide +kernel
theorem dL_law_410 : decode cL_law 410 = .ok (.iaload, 1) := by decide +kernel
theorem dL_law_411 : decode cL_law 411 = .ok (.invokevirtual 53, 3) := by decide +kernel
theorem dL_law_414 : decode cL_law 414 = .ok (.aload_n 2, 1) := by decide +kernel
theorem dL_law_415 : decode cL_law 415 = .ok (.aload_n 0, 1) := by decide +kernel
theorem dL_law_416 : decode cL_law 416 = .ok (.iload_n 3, 1) := by decide +kernel
theorem dL_law_417 : decode cL_law 417 = .ok (.iconst 1, 1) := by decide +kernel
theorem dL_law_418 : decode cL_law 418 = .ok (.iadd, 1) := by decide +kernel
theorem dL_law_419 : decode cL_law 419 = .ok (.iaload, 1) := by decide +kernel
theorem dL_law_420 : decode cL_law 420 = .ok (.invokevirtual 56, 3) := by decide +kernel
theorem dL_law_423 : decode cL_law 423 = .ok (.if_icmp .eq 491, 3) := by decide +kernel
theorem dL_law_426 : decode cL_law 426 = .ok (.iconst 0, 1) := by decide +kernel
theorem dL_law_427 : decode cL_law 427 = .ok (.ireturn, 1) := by decide +kernel
theorem dL_law_428 : decode cL_law 428 = .ok (.aload_n 1, 1) := by decide +kernel
theorem dL_law_429 : decode cL_law 429 = .ok (.aload_n 0, 1) := by decide +kernel
theorem dL_law_430 : decode cL_law 430 = .ok (.iload_n 3, 1) := by decide +kernel
theorem dL_law_431 : decode cL_law 431 = .ok (.iconst 1, 1) := by decide +kernel
theorem dL_law_432 : decode cL_law 432 = .ok (.iadd, 1) := by decide +kernel
theorem dL_law_433 : decode cL_law 433 = .ok (.iaload, 1) := by decide +kernel
theorem dL_law_434 : decode cL_law 434 = .ok (.invokevirtual 57, 3) := by decide +kernel
theorem dL_law_437 : decode cL_law 437 = .ok (.aload_n 2, 1) := by decide +kernel
theorem dL_law_438 : decode cL_law 438 = .ok (.aload_n 0, 1) := by decide +kernel
theorem dL_law_439 : decode cL_law 439 = .ok (.iload_n 3, 1) := by decide +kernel
theorem dL_law_440 : decode cL_law 440 = .ok (.iconst 1, 1) := by decide +kernel
theorem dL_law_441 : decode cL_law 441 = .ok (.iadd, 1) := by decide +kernel
theorem dL_law_442 : decode cL_law 442 = .ok (.iaload, 1) := by decide +kernel
theorem dL_law_443 : decode cL_law 443 = .ok (.invokevirtual 60, 3) := by decide +kernel
theorem dL_law_446 : decode cL_law 446 = .ok (.if_icmp .eq 468, 3) := by decide +kernel
theorem dL_law_449 : decode cL_law 449 = .ok (.iconst 0, 1) := by decide +kernel
theorem dL_law_450 : decode cL_law 450 = .ok (.ireturn, 1) := by decide +kernel
theorem dL_law_451 : decode cL_law 451 = .ok (.aload_n 1, 1) := by decide +kernel
theorem dL_law_452 : decode cL_law 452 = .ok (.aload_n 0, 1) := by decide +kernel
theorem dL_law_453 : decode cL_law 453 = .ok (.iload_n 3, 1) := by decide +kernel
theorem dL_law_454 : decode cL_law 454 = .ok (.iconst 1, 1) := by decide +kernel
theorem dL_law_455 : decode cL_law 455 = .ok (.iadd, 1) := by decide +kernel
theorem dL_law_456 : decode cL_law 456 = .ok (.iaload, 1) := by decide +kernel
theorem dL_law_457 : decode cL_law 457 = .ok (.aload_n 0, 1) := by decide +kernel
theorem dL_law_458 : decode cL_law 458 = .ok (.iload_n 3, 1) := by decide +kernel
theorem dL_law_459 : decode cL_law 459 = .ok (.iconst 2, 1) := by decide +kernel
theorem dL_law_460 : decode cL_law 460 = .ok (.iadd, 1) := by decide +kernel
theorem dL_law_461 : decode cL_law 461 = .ok (.iaload, 1) := by decide +kernel
theorem dL_law_462 : decode cL_law 462 = .ok (.invokevirtual 61, 3) := by decide +kernel
theorem dL_law_465 : decode cL_law 465 = .ok (.aload_n 2, 1) := by decide +kernel
theorem dL_law_466 : decode cL_law 466 = .ok (.aload_n 0, 1) := by decide +kernel
theorem dL_law_467 : decode cL_law 467 = .ok (.iload_n 3, 1) := by decide +kernel
theorem dL_law_468 : decode cL_law 468 = .ok (.iconst 1, 1) := by decide +kernel
theorem dL_law_469 : decode cL_law 469 = .ok (.iadd, 1) := by decide +kernel
theorem dL_law_470 : decode cL_law 470 = .ok (.iaload, 1) := by decide +kernel
theorem dL_law_471 : decode cL_law 471 = .ok (.aload_n 0, 1) := by decide +kernel
theorem dL_law_472 : decode cL_law 472 = .ok (.iload_n 3, 1) := by decide +kernel
theorem dL_law_473 : decode cL_law 473 = .ok (.iconst 2, 1) := by decide +kernel
theorem dL_law_474 : decode cL_law 474 = .ok (.iadd, 1) := by decide +kernel
theorem dL_law_475 : decode cL_law 475 = .ok (.iaload, 1) := by decide +kernel
theorem dL_law_476 : decode cL_law 476 = .ok (.invokevirtual 64, 3) := by decide +kernel
theorem dL_law_479 : decode cL_law 479 = .ok (.if_icmp .eq 435, 3) := by decide +kernel
theorem dL_law_482 : decode cL_law 482 = .ok (.iconst 0, 1) := by decide +kernel
theorem dL_law_483 : decode cL_law 483 = .ok (.ireturn, 1) := by decide +kernel
theorem dL_law_484 : decode cL_law 484 = .ok (.aload_n 1, 1) := by decide +kernel
theorem dL_law_485 : decode cL_law 485 = .ok (.aload_n 0, 1) := by decide +kernel
theorem dL_law_486 : decode cL_law 486 = .ok (.iload_n 3, 1) := by decide +kernel
theorem dL_law_487 : decode cL_law 487 = .ok (.iconst 1, 1) := by decide +kernel
theorem dL_law_488 : decode cL_law 488 = .ok (.iadd, 1) := by decide +kernel
theorem dL_law_489 : decode cL_law 489 = .ok (.iaload, 1) := by decide +kernel
theorem dL_law_490 : decode cL_law 490 = .ok (.invokevirtual 65, 3) := by decide +kernel
theorem dL_law_493 : decode cL_law 493 = .ok (.aload_n 2, 1) := by decide +kernel
theorem dL_law_494 : decode cL_law 494 = .ok (.aload_n 0, 1) := by decide +kernel
theorem dL_law_495 : decode cL_law 495 = .ok (.iload_n 3, 1) := by decide +kernel
theorem dL_law_496 : decode cL_law 496 = .ok (.iconst 1, 1) := by decide +kernel
theorem dL_law_497 : decode cL_law 497 = .ok (.iadd, 1) := by decide +kernel
theorem dL_law_498 : decode cL_law 498 = .ok (.iaload, 1) := by decide +kernel
theorem dL_law_499 : decode cL_law 499 = .ok (.invokevirtual 68, 3) := by decide +kernel
theorem dL_law_502 : decode cL_law 502 = .ok (.if_icmp .eq 412, 3) := by decide +kernel
theorem dL_law_505 : decode cL_law 505 = .ok (.iconst 0, 1) := by decide +kernel
theorem dL_law_506 : decode cL_law 506 = .ok (.ireturn, 1) := by decide +kernel
theorem dL_law_507 : decode cL_law 507 = .ok (.aload_n 1, 1) := by decide +kernel
theorem dL_law_508 : decode cL_law 508 = .ok (.aload_n 0, 1) := by decide +kernel
theorem dL_law_509 : decode cL_law 509 = .ok (.iload_n 3, 1) := by decide +kernel
theorem dL_law_510 : decode cL_law 510 = .ok (.iconst 1, 1) := by decide +kernel
theorem dL_law_511 : decode cL_law 511 = .ok (.iadd, 1) := by decide +kernel
theorem dL_law_512 : decode cL_law 512 = .ok (.iaload, 1) := by decide +kernel
theorem dL_law_513 : decode cL_law 513 = .ok (.aload_n 0, 1) := by decide +kernel
theorem dL_law_514 : decode cL_law 514 = .ok (.iload_n 3, 1) := by decide +kernel
theorem dL_law_515 : decode cL_law 515 = .ok (.iconst 2, 1) := by decide +kernel
theorem dL_law_516 : decode cL_law 516 = .ok (.iadd, 1) := by decide +kernel
theorem dL_law_517 : decode cL_law 517 = .ok (.iaload, 1) := by decide +kernel
theorem dL_law_518 : decode cL_law 518 = .ok (.invokevirtual 69, 3) := by decide +kernel
theorem dL_law_521 : decode cL_law 521 = .ok (.aload_n 2, 1) := by decide +kernel
theorem dL_law_522 : decode cL_law 522 = .ok (.aload_n 0, 1) := by decide +kernel
theorem dL_law_523 : decode cL_law 523 = .ok (.iload_n 3, 1) := by decide +kernel
theorem dL_law_524 : decode cL_law 524 = .ok (.iconst 1, 1) := by decide +kernel
theorem dL_law_525 : decode cL_law 525 = .ok (.iadd, 1) := by decide +kernel
theorem dL_law_526 : decode cL_law 526 = .ok (.iaload, 1) := by decide +kernel
theorem dL_law_527 : decode cL_law 527 = .ok (.aload_n 0, 1) := by decide +kernel
theorem dL_law_528 : decode cL_law 528 = .ok (.iload_n 3, 1) := by decide +kernel
theorem dL_law_529 : decode cL_law 529 = .ok (.iconst 2, 1) := by decide +kernel
theorem dL_law_530 : decode cL_law 530 = .ok (.iadd, 1) := by decide +kernel
theorem dL_law_531 : decode cL_law 531 = .ok (.iaload, 1) := by decide +kernel
theorem dL_law_532 : decode cL_law 532 = .ok (.invokevirtual 72, 3) := by decide +kernel
theorem dL_law_535 : decode cL_law 535 = .ok (.if_icmp .eq 379, 3) := by decide +kernel
theorem dL_law_538 : decode cL_law 538 = .ok (.iconst 0, 1) := by decide +kernel
theorem dL_law_539 : decode cL_law 539 = .ok (.ireturn, 1) := by decide +kernel
theorem dL_law_540 : decode cL_law 540 = .ok (.aload_n 1, 1) := by decide +kernel
theorem dL_law_541 : decode cL_law 541 = .ok (.aload_n 0, 1) := by decide +kernel
theorem dL_law_542 : decode cL_law 542 = .ok (.iload_n 3, 1) := by decide +kernel
theorem dL_law_543 : decode cL_law 543 = .ok (.iconst 1, 1) := by decide +kernel
theorem dL_law_544 : decode cL_law 544 = .ok (.iadd, 1) := by decide +kernel
theorem dL_law_545 : decode cL_law 545 = .ok (.iaload, 1) := by decide +kernel
theorem dL_law_546 : decode cL_law 546 = .ok (.invokevirtual 73, 3) := by decide +kernel
theorem dL_law_549 : decode cL_law 549 = .ok (.aload_n 2, 1) := by decide +kernel
theorem dL_law_550 : decode cL_law 550 = .ok (.aload_n 0, 1) := by decide +kernel
theorem dL_law_551 : decode cL_law 551 = .ok (.iload_n 3, 1) := by decide +kernel
theorem dL_law_552 : decode cL_law 552 = .ok (.iconst 1, 1) := by decide +kernel
theorem dL_law_553 : decode cL_law 553 = .ok (.iadd, 1) := by decide +kernel
theorem dL_law_554 : decode cL_law 554 = .ok (.iaload, 1) := by decide +kernel
theorem dL_law_555 : decode cL_law 555 = .ok (.invokevirtual 76, 3) := by decide +kernel
theorem dL_law_558 : decode cL_law 558 = .ok (.if_icmp .eq 356, 3) := by decide +kernel
theorem dL_law_561 : decode cL_law 561 = .ok (.iconst 0, 1) := by decide +kernel
theorem dL_law_562 : decode cL_law 562 = .ok (.ireturn, 1) := by decide +kernel
theorem dL_law_563 : decode cL_law 563 = .ok (.aload_n 1, 1) := by decide +kernel
theorem dL_law_564 : decode cL_law 564 = .ok (.aload_n 0, 1) := by decide +kernel
theorem dL_law_565 : decode cL_law 565 = .ok (.iload_n 3, 1) := by decide +kernel
theorem dL_law_566 : decode cL_law 566 = .ok (.iconst 1, 1) := by decide +kernel
theorem dL_law_567 : decode cL_law 567 = .ok (.iadd, 1) := by decide +kernel
theorem dL_law_568 : decode cL_law 568 = .ok (.iaload, 1) := by decide +kernel
theorem dL_law_569 : decode cL_law 569 = .ok (.invokevirtual 77, 3) := by decide +kernel
theorem dL_law_572 : decode cL_law 572 = .ok (.aload_n 2, 1) := by decide +kernel
theorem dL_law_573 : decode cL_law 573 = .ok (.aload_n 0, 1) := by decide +kernel
theorem dL_law_574 : decode cL_law 574 = .ok (.iload_n 3, 1) := by decide +kernel
theorem dL_law_575 : decode cL_law 575 = .ok (.iconst 1, 1) := by decide +kernel
theorem dL_law_576 : decode cL_law 576 = .ok (.iadd, 1) := by decide +kernel
theorem dL_law_577 : decode cL_law 577 = .ok (.iaload, 1) := by decide +kernel
theorem dL_law_578 : decode cL_law 578 = .ok (.invokevirtual 80, 3) := by decide +kernel
theorem dL_law_581 : decode cL_law 581 = .ok (.if_icmp .eq 333, 3) := by decide +kernel
theorem dL_law_584 : decode cL_law 584 = .ok (.iconst 0, 1) := by decide +kernel
theorem dL_law_585 : decode cL_law 585 = .ok (.ireturn, 1) := by decide +kernel
theorem dL_law_586 : decode cL_law 586 = .ok (.aload_n 1, 1) := by decide +kernel
theorem dL_law_587 : decode cL_law 587 = .ok (.aload_n 0, 1) := by decide +kernel
theorem dL_law_588 : decode cL_law 588 = .ok (.iload_n 3, 1) := by decide +kernel
theorem dL_law_589 : decode cL_law 589 = .ok (.iconst 1, 1) := by decide +kernel
theorem dL_law_590 : decode cL_law 590 = .ok (.iadd, 1) := by decide +kernel
theorem dL_law_591 : decode cL_law 591 = .ok (.iaload, 1) := by decide +kernel
theorem dL_law_592 : decode cL_law 592 = .ok (.aload_n 0, 1) := by decide +kernel
theorem dL_law_593 : decode cL_law 593 = .ok (.iload_n 3, 1) := by decide +kernel
theorem dL_law_594 : decode cL_law 594 = .ok (.iconst 2, 1) := by decide +kernel
theorem dL_law_595 : decode cL_law 595 = .ok (.iadd, 1) := by decide +kernel
theorem dL_law_596 : decode cL_law 596 = .ok (.iaload, 1) := by decide +kernel
theorem dL_law_597 : decode cL_law 597 = .ok (.aload_n 0, 1) := by decide +kernel
theorem dL_law_598 : decode cL_law 598 = .ok (.iload_n 3, 1) := by decide +kernel
theorem dL_law_599 : decode cL_law 599 = .ok (.iconst 3, 1) := by decide +kernel
theorem dL_law_600 : decode cL_law 600 = .ok (.iadd, 1) := by decide +kernel
theorem dL_law_601 : decode cL_law 601 = .ok (.iaload, 1) := by decide +kernel
theorem dL_law_602 : decode cL_law 602 = .ok (.invokevirtual 81, 3) := by decide +kernel
theorem dL_law_605 : decode cL_law 605 = .ok (.aload_n 2, 1) := by decide +kernel
theorem dL_law_606 : decode cL_law 606 = .ok (.aload_n 0, 1) := by decide +kernel
theorem dL_law_607 : decode cL_law 607 = .ok (.iload_n 3, 1) := by decide +kernel
theorem dL_law_608 : decode cL_law 608 = .ok (.iconst 1, 1) := by decide +kernel
theorem dL_law_609 : decode cL_law 609 = .ok (.iadd, 1) := by decide +kernel
theorem dL_law_610 : decode cL_law 610 = .ok (.iaload, 1) := by decide +kernel
theorem dL_law_611 : decode cL_law 611 = .ok (.aload_n 0, 1) := by decide +kernel
theorem dL_law_612 : decode cL_law 612 = .ok (.iload_n 3, 1) := by decide +kernel
theorem dL_law_613 : decode cL_law 613 = .ok (.iconst 2, 1) := by decide +kernel
theorem dL_law_614 : decode cL_law 614 = .ok (.iadd, 1) := by decide +kernel
theorem dL_law_615 : decode cL_law 615 = .ok (.iaload, 1) := by decide +kernel
theorem dL_law_616 : decode cL_law 616 = .ok (.aload_n 0, 1) := by decide +kernel
theorem dL_law_617 : decode cL_law 617 = .ok (.iload_n 3, 1) := by decide +kernel
theorem dL_law_618 : decode cL_law 618 = .ok (.iconst 3, 1) := by decide +kernel
theorem dL_law_619 : decode cL_law 619 = .ok (.iadd, 1) := by decide +kernel
theorem dL_law_620 : decode cL_law 620 = .ok (.iaload, 1) := by decide +kernel
theorem dL_law_621 : decode cL_law 621 = .ok (.invokevirtual 85, 3) := by decide +kernel
theorem dL_law_624 : decode cL_law 624 = .ok (.lcmp, 1) := by decide +kernel
theorem dL_law_625 : decode cL_law 625 = .ok (.ifCond .eq 289, 3) := by decide +kernel
theorem dL_law_628 : decode cL_law 628 = .ok (.iconst 0, 1) := by decide +kernel
theorem dL_law_629 : decode cL_law 629 = .ok (.ireturn, 1) := by decide +kernel
theorem dL_law_630 : decode cL_law 630 = .ok (.aload_n 1, 1) := by decide +kernel
theorem dL_law_631 : decode cL_law 631 = .ok (.invokevirtual 86, 3) := by decide +kernel
theorem dL_law_634 : decode cL_law 634 = .ok (.aload_n 2, 1) := by decide +kernel
theorem dL_law_635 : decode cL_law 635 = .ok (.invokevirtual 89, 3) := by decide +kernel
theorem dL_law_638 : decode cL_law 638 = .ok (.if_icmp .eq 276, 3) := by decide +kernel
theorem dL_law_641 : decode cL_law 641 = .ok (.iconst 0, 1) := by decide +kernel
theorem dL_law_642 : decode cL_law 642 = .ok (.ireturn, 1) := by decide +kernel
theorem dL_law_643 : decode cL_law 643 = .ok (.aload_n 1, 1) := by decide +kernel
theorem dL_law_644 : decode cL_law 644 = .ok (.invokevirtual 90, 3) := by decide +kernel
theorem dL_law_647 : decode cL_law 647 = .ok (.aload_n 2, 1) := by decide +kernel
theorem dL_law_648 : decode cL_law 648 = .ok (.invokevirtual 93, 3) := by decide +kernel
theorem dL_law_651 : decode cL_law 651 = .ok (.if_icmp .eq 263, 3) := by decide +kernel
theorem dL_law_654 : decode cL_law 654 = .ok (.iconst 0, 1) := by decide +kernel
theorem dL_law_655 : decode cL_law 655 = .ok (.ireturn, 1) := by decide +kernel
theorem dL_law_656 : decode cL_law 656 = .ok (.aload_n 1, 1) := by decide +kernel
theorem dL_law_657 : decode cL_law 657 = .ok (.aload_n 0, 1) := by decide +kernel
theorem dL_law_658 : decode cL_law 658 = .ok (.iload_n 3, 1) := by decide +kernel
theorem dL_law_659 : decode cL_law 659 = .ok (.iconst 1, 1) := by decide +kernel
theorem dL_law_660 : decode cL_law 660 = .ok (.iadd, 1) := by decide +kernel
theorem dL_law_661 : decode cL_law 661 = .ok (.iaload, 1) := by decide +kernel
theorem dL_law_662 : decode cL_law 662 = .ok (.invokevirtual 94, 3) := by decide +kernel
theorem dL_law_665 : decode cL_law 665 = .ok (.aload_n 2, 1) := by decide +kernel
theorem dL_law_666 : decode cL_law 666 = .ok (.aload_n 0, 1) := by decide +kernel
theorem dL_law_667 : decode cL_law 667 = .ok (.iload_n 3, 1) := by decide +kernel
theorem dL_law_668 : decode cL_law 668 = .ok (.iconst 1, 1) := by decide +kernel
theorem dL_law_669 : decode cL_law 669 = .ok (.iadd, 1) := by decide +kernel
theorem dL_law_670 : decode cL_law 670 = .ok (.iaload, 1) := by decide +kernel
theorem dL_law_671 : decode cL_law 671 = .ok (.invokevirtual 97, 3) := by decide +kernel
theorem dL_law_674 : decode cL_law 674 = .ok (.if_icmp .eq 240, 3) := by decide +kernel
theorem dL_law_677 : decode cL_law 677 = .ok (.iconst 0, 1) := by decide +kernel
theorem dL_law_678 : decode cL_law 678 = .ok (.ireturn, 1) := by decide +kernel
theorem dL_law_679 : decode cL_law 679 = .ok (.aload_n 1, 1) := by decide +kernel
theorem dL_law_680 : decode cL_law 680 = .ok (.aload_n 0, 1) := by decide +kernel
theorem dL_law_681 : decode cL_law 681 = .ok (.iload_n 3, 1) := by decide +kernel
theorem dL_law_682 : decode cL_law 682 = .ok (.iconst 1, 1) := by decide +kernel
theorem dL_law_683 : decode cL_law 683 = .ok (.iadd, 1) := by decide +kernel
theorem dL_law_684 : decode cL_law 684 = .ok (.iaload, 1) := by decide +kernel
theorem dL_law_685 : decode cL_law 685 = .ok (.aload_n 0, 1) := by decide +kernel
theorem dL_law_686 : decode cL_law 686 = .ok (.iload_n 3, 1) := by decide +kernel
theorem dL_law_687 : decode cL_law 687 = .ok (.iconst 2, 1) := by decide +kernel
theorem dL_law_688 : decode cL_law 688 = .ok (.iadd, 1) := by decide +kernel
theorem dL_law_689 : decode cL_law 689 = .ok (.iaload, 1) := by decide +kernel
theorem dL_law_690 : decode cL_law 690 = .ok (.aload_n 0, 1) := by decide +kernel
theorem dL_law_691 : decode cL_law 691 = .ok (.iload_n 3, 1) := by decide +kernel
theorem dL_law_692 : decode cL_law 692 = .ok (.iconst 3, 1) := by decide +kernel
theorem dL_law_693 : decode cL_law 693 = .ok (.iadd, 1) := by decide +kernel
theorem dL_law_694 : decode cL_law 694 = .ok (.iaload, 1) := by decide +kernel
theorem dL_law_695 : decode cL_law 695 = .ok (.invokevirtual 98, 3) := by decide +kernel
theorem dL_law_698 : decode cL_law 698 = .ok (.aload_n 2, 1) := by decide +kernel
theorem dL_law_699 : decode cL_law 699 = .ok (.aload_n 0, 1) := by decide +kernel
theorem dL_law_700 : decode cL_law 700 = .ok (.iload_n 3, 1) := by decide +kernel
theorem dL_law_701 : decode cL_law 701 = .ok (.iconst 1, 1) := by decide +kernel
theorem dL_law_702 : decode cL_law 702 = .ok (.iadd, 1) := by decide +kernel
theorem dL_law_703 : decode cL_law 703 = .ok (.iaload, 1) := by decide +kernel
theorem dL_law_704 : decode cL_law 704 = .ok (.aload_n 0, 1) := by decide +kernel
theorem dL_law_705 : decode cL_law 705 = .ok (.iload_n 3, 1) := by decide +kernel
theorem dL_law_706 : decode cL_law 706 = .ok (.iconst 2, 1) := by decide +kernel
theorem dL_law_707 : decode cL_law 707 = .ok (.iadd, 1) := by decide +kernel
theorem dL_law_708 : decode cL_law 708 = .ok (.iaload, 1) := by decide +kernel
theorem dL_law_709 : decode cL_law 709 = .ok (.aload_n 0, 1) := by decide +kernel
theorem dL_law_710 : decode cL_law 710 = .ok (.iload_n 3, 1) := by decide +kernel
theorem dL_law_711 : decode cL_law 711 = .ok (.iconst 3, 1) := by decide +kernel
theorem dL_law_712 : decode cL_law 712 = .ok (.iadd, 1) := by decide +kernel
theorem dL_law_713 : decode cL_law 713 = .ok (.iaload, 1) := by decide +kernel
theorem dL_law_714 : decode cL_law 714 = .ok (.invokevirtual 101, 3) := by decide +kernel
theorem dL_law_717 : decode cL_law 717 = .ok (.if_icmp .eq 197, 3) := by decide +kernel
theorem dL_law_720 : decode cL_law 720 = .ok (.iconst 0, 1) := by decide +kernel
theorem dL_law_721 : decode cL_law 721 = .ok (.ireturn, 1) := by decide +kernel
theorem dL_law_722 : decode cL_law 722 = .ok (.aload_n 1, 1) := by decide +kernel
theorem dL_law_723 : decode cL_law 723 = .ok (.aload_n 0, 1) := by decide +kernel
theorem dL_law_724 : decode cL_law 724 = .ok (.iload_n 3, 1) := by decide +kernel
theorem dL_law_725 : decode cL_law 725 = .ok (.iconst 1, 1) := by decide +kernel
theorem dL_law_726 : decode cL_law 726 = .ok (.iadd, 1) := by decide +kernel
theorem dL_law_727 : decode cL_law 727 = .ok (.iaload, 1) := by decide +kernel
theorem dL_law_728 : decode cL_law 728 = .ok (.aload_n 0, 1) := by decide +kernel
theorem dL_law_729 : decode cL_law 729 = .ok (.iload_n 3, 1) := by decide +kernel
theorem dL_law_730 : decode cL_law 730 = .ok (.iconst 2, 1) := by decide +kernel
theorem dL_law_731 : decode cL_law 731 = .ok (.iadd, 1) := by decide +kernel
theorem dL_law_732 : decode cL_law 732 = .ok (.iaload, 1) := by decide +kernel
theorem dL_law_733 : decode cL_law 733 = .ok (.aload_n 0, 1) := by decide +kernel
theorem dL_law_734 : decode cL_law 734 = .ok (.iload_n 3, 1) := by decide +kernel
theorem dL_law_735 : decode cL_law 735 = .ok (.iconst 3, 1) := by decide +kernel
theorem dL_law_736 : decode cL_law 736 = .ok (.iadd, 1) := by decide +kernel
theorem dL_law_737 : decode cL_law 737 = .ok (.iaload, 1) := by decide +kernel
theorem dL_law_738 : decode cL_law 738 = .ok (.invokevirtual 102, 3) := by decide +kernel
theorem dL_law_741 : decode cL_law 741 = .ok (.aload_n 2, 1) := by decide +kernel
theorem dL_law_742 : decode cL_law 742 = .ok (.aload_n 0, 1) := by decide +kernel
theorem dL_law_743 : decode cL_law 743 = .ok (.iload_n 3, 1) := by decide +kernel
theorem dL_law_744 : decode cL_law 744 = .ok (.iconst 1, 1) := by decide +kernel
theorem dL_law_745 : decode cL_law 745 = .ok (.iadd, 1) := by decide +kernel
theorem dL_law_746 : decode cL_law 746 = .ok (.iaload, 1) := by decide +kernel
theorem dL_law_747 : decode cL_law 747 = .ok (.aload_n 0, 1) := by decide +kernel
theorem dL_law_748 : decode cL_law 748 = .ok (.iload_n 3, 1) := by decide +kernel
theorem dL_law_749 : decode cL_law 749 = .ok (.iconst 2, 1) := by decide +kernel
theorem dL_law_750 : decode cL_law 750 = .ok (.iadd, 1) := by decide +kernel
theorem dL_law_751 : decode cL_law 751 = .ok (.iaload, 1) := by decide +kernel
theorem dL_law_752 : decode cL_law 752 = .ok (.aload_n 0, 1) := by decide +kernel
theorem dL_law_753 : decode cL_law 753 = .ok (.iload_n 3, 1) := by decide +kernel
theorem dL_law_754 : decode cL_law 754 = .ok (.iconst 3, 1) := by decide +kernel
theorem dL_law_755 : decode cL_law 755 = .ok (.iadd, 1) := by decide +kernel
theorem dL_law_756 : decode cL_law 756 = .ok (.iaload, 1) := by decide +kernel
theorem dL_law_757 : decode cL_law 757 = .ok (.invokevirtual 105, 3) := by decide +kernel
theorem dL_law_760 : decode cL_law 760 = .ok (.if_icmp .eq 154, 3) := by decide +kernel
theorem dL_law_763 : decode cL_law 763 = .ok (.iconst 0, 1) := by decide +kernel
theorem dL_law_764 : decode cL_law 764 = .ok (.ireturn, 1) := by decide +kernel
theorem dL_law_765 : decode cL_law 765 = .ok (.aload_n 1, 1) := by decide +kernel
theorem dL_law_766 : decode cL_law 766 = .ok (.aload_n 0, 1) := by decide +kernel
theorem dL_law_767 : decode cL_law 767 = .ok (.iload_n 3, 1) := by decide +kernel
theorem dL_law_768 : decode cL_law 768 = .ok (.iconst 1, 1) := by decide +kernel
theorem dL_law_769 : decode cL_law 769 = .ok (.iadd, 1) := by decide +kernel
theorem dL_law_770 : decode cL_law 770 = .ok (.iaload, 1) := by decide +kernel
theorem dL_law_771 : decode cL_law 771 = .ok (.aload_n 0, 1) := by decide +kernel
theorem dL_law_772 : decode cL_law 772 = .ok (.iload_n 3, 1) := by decide +kernel
theorem dL_law_773 : decode cL_law 773 = .ok (.iconst 2, 1) := by decide +kernel
theorem dL_law_774 : decode cL_law 774 = .ok (.iadd, 1) := by decide +kernel
theorem dL_law_775 : decode cL_law 775 = .ok (.iaload, 1) := by decide +kernel
theorem dL_law_776 : decode cL_law 776 = .ok (.aload_n 0, 1) := by decide +kernel
theorem dL_law_777 : decode cL_law 777 = .ok (.iload_n 3, 1) := by decide +kernel
theorem dL_law_778 : decode cL_law 778 = .ok (.iconst 3, 1) := by decide +kernel
theorem dL_law_779 : decode cL_law 779 = .ok (.iadd, 1) := by decide +kernel
theorem dL_law_780 : decode cL_law 780 = .ok (.iaload, 1) := by decide +kernel
theorem dL_law_781 : decode cL_law 781 = .ok (.aload_n 0, 1) := by decide +kernel
theorem dL_law_782 : decode cL_law 782 = .ok (.iload_n 3, 1) := by decide +kernel
theorem dL_law_783 : decode cL_law 783 = .ok (.iconst 4, 1) := by decide +kernel
theorem dL_law_784 : decode cL_law 784 = .ok (.iadd, 1) := by decide +kernel
theorem dL_law_785 : decode cL_law 785 = .ok (.iaload, 1) := by decide +kernel
theorem dL_law_786 : decode cL_law 786 = .ok (.aload_n 0, 1) := by decide +kernel
theorem dL_law_787 : decode cL_law 787 = .ok (.iload_n 3, 1) := by decide +kernel
theorem dL_law_788 : decode cL_law 788 = .ok (.iconst 5, 1) := by decide +kernel
theorem dL_law_789 : decode cL_law 789 = .ok (.iadd, 1) := by decide +kernel
theorem dL_law_790 : decode cL_law 790 = .ok (.iaload, 1) := by decide +kernel
theorem dL_law_791 : decode cL_law 791 = .ok (.invokevirtual 106, 3) := by decide +kernel
theorem dL_law_794 : decode cL_law 794 = .ok (.aload_n 2, 1) := by decide +kernel
theorem dL_law_795 : decode cL_law 795 = .ok (.aload_n 0, 1) := by decide +kernel
theorem dL_law_796 : decode cL_law 796 = .ok (.iload_n 3, 1) := by decide +kernel
theorem dL_law_797 : decode cL_law 797 = .ok (.iconst 1, 1) := by decide +kernel
theorem dL_law_798 : decode cL_law 798 = .ok (.iadd, 1) := by decide +kernel
theorem dL_law_799 : decode cL_law 799 = .ok (.iaload, 1) := by decide +kernel
theorem dL_law_800 : decode cL_law 800 = .ok (.aload_n 0, 1) := by decide +kernel
theorem dL_law_801 : decode cL_law 801 = .ok (.iload_n 3, 1) := by decide +kernel
theorem dL_law_802 : decode cL_law 802 = .ok (.iconst 2, 1) := by decide +kernel
theorem dL_law_803 : decode cL_law 803 = .ok (.iadd, 1) := by decide +kernel
theorem dL_law_804 : decode cL_law 804 = .ok (.iaload, 1) := by decide +kernel
theorem dL_law_805 : decode cL_law 805 = .ok (.aload_n 0, 1) := by decide +kernel
theorem dL_law_806 : decode cL_law 806 = .ok (.iload_n 3, 1) := by decide +kernel
theorem dL_law_807 : decode cL_law 807 = .ok (.iconst 3, 1) := by decide +kernel
theorem dL_law_808 : decode cL_law 808 = .ok (.iadd, 1) := by decide +kernel
theorem dL_law_809 : decode cL_law 809 = .ok (.iaload, 1) := by decide +kernel
theorem dL_law_810 : decode cL_law 810 = .ok (.aload_n 0, 1) := by decide +kernel
theorem dL_law_811 : decode cL_law 811 = .ok (.iload_n 3, 1) := by decide +kernel
theorem dL_law_812 : decode cL_law 812 = .ok (.iconst 4, 1) := by decide +kernel
theorem dL_law_813 : decode cL_law 813 = .ok (.iadd, 1) := by decide +kernel
theorem dL_law_814 : decode cL_law 814 = .ok (.iaload, 1) := by decide +kernel
theorem dL_law_815 : decode cL_law 815 = .ok (.aload_n 0, 1) := by decide +kernel
theorem dL_law_816 : decode cL_law 816 = .ok (.iload_n 3, 1) := by decide +kernel
theorem dL_law_817 : decode cL_law 817 = .ok (.iconst 5, 1) := by decide +kernel
theorem dL_law_818 : decode cL_law 818 = .ok (.iadd, 1) := by decide +kernel
theorem dL_law_819 : decode cL_law 819 = .ok (.iaload, 1) := by decide +kernel
theorem dL_law_820 : decode cL_law 820 = .ok (.invokevirtual 110, 3) := by decide +kernel
theorem dL_law_823 : decode cL_law 823 = .ok (.if_icmp .eq 91, 3) := by decide +kernel
theorem dL_law_826 : decode cL_law 826 = .ok (.iconst 0, 1) := by decide +kernel
theorem dL_law_827 : decode cL_law 827 = .ok (.ireturn, 1) := by decide +kernel
theorem dL_law_828 : decode cL_law 828 = .ok (.aload_n 1, 1) := by decide +kernel
theorem dL_law_829 : decode cL_law 829 = .ok (.aload_n 0, 1) := by decide +kernel
theorem dL_law_830 : decode cL_law 830 = .ok (.iload_n 3, 1) := by decide +kernel
theorem dL_law_831 : decode cL_law 831 = .ok (.iconst 1, 1) := by decide +kernel
theorem dL_law_832 : decode cL_law 832 = .ok (.iadd, 1) := by decide +kernel
theorem dL_law_833 : decode cL_law 833 = .ok (.iaload, 1) := by decide +kernel
theorem dL_law_834 : decode cL_law 834 = .ok (.aload_n 0, 1) := by decide +kernel
theorem dL_law_835 : decode cL_law 835 = .ok (.iload_n 3, 1) := by decide +kernel
theorem dL_law_836 : decode cL_law 836 = .ok (.iconst 2, 1) := by decide +kernel
theorem dL_law_837 : decode cL_law 837 = .ok (.iadd, 1) := by decide +kernel
theorem dL_law_838 : decode cL_law 838 = .ok (.iaload, 1) := by decide +kernel
theorem dL_law_839 : decode cL_law 839 = .ok (.aload_n 0, 1) := by decide +kernel
theorem dL_law_840 : decode cL_law 840 = .ok (.iload_n 3, 1) := by decide +kernel
theorem dL_law_841 : decode cL_law 841 = .ok (.iconst 3, 1) := by decide +kernel
theorem dL_law_842 : decode cL_law 842 = .ok (.iadd, 1) := by decide +kernel
theorem dL_law_843 : decode cL_law 843 = .ok (.iaload, 1) := by decide +kernel
theorem dL_law_844 : decode cL_law 844 = .ok (.aload_n 0, 1) := by decide +kernel
theorem dL_law_845 : decode cL_law 845 = .ok (.iload_n 3, 1) := by decide +kernel
theorem dL_law_846 : decode cL_law 846 = .ok (.iconst 4, 1) := by decide +kernel
theorem dL_law_847 : decode cL_law 847 = .ok (.iadd, 1) := by decide +kernel
theorem dL_law_848 : decode cL_law 848 = .ok (.iaload, 1) := by decide +kernel
theorem dL_law_849 : decode cL_law 849 = .ok (.invokevirtual 111, 3) := by decide +kernel
theorem dL_law_852 : decode cL_law 852 = .ok (.aload_n 2, 1) := by decide +kernel
theorem dL_law_853 : decode cL_law 853 = .ok (.aload_n 0, 1) := by decide +kernel
theorem dL_law_854 : decode cL_law 854 = .ok (.iload_n 3, 1) := by decide +kernel
theorem dL_law_855 : decode cL_law 855 = .ok (.iconst 1, 1) := by decide +kernel
theorem dL_law_856 : decode cL_law 856 = .ok (.iadd, 1) := by decide +kernel
theorem dL_law_857 : decode cL_law 857 = .ok (.iaload, 1) := by decide +kernel
theorem dL_law_858 : decode cL_law 858 = .ok (.aload_n 0, 1) := by decide +kernel
theorem dL_law_859 : decode cL_law 859 = .ok (.iload_n 3, 1) := by decide +kernel
theorem dL_law_860 : decode cL_law 860 = .ok (.iconst 2, 1) := by decide +kernel
theorem dL_law_861 : decode cL_law 861 = .ok (.iadd, 1) := by decide +kernel
theorem dL_law_862 : decode cL_law 862 = .ok (.iaload, 1) := by decide +kernel
theorem dL_law_863 : decode cL_law 863 = .ok (.aload_n 0, 1) := by decide +kernel
theorem dL_law_864 : decode cL_law 864 = .ok (.iload_n 3, 1) := by decide +kernel
theorem dL_law_865 : decode cL_law 865 = .ok (.iconst 3, 1) := by decide +kernel
theorem dL_law_866 : decode cL_law 866 = .ok (.iadd, 1) := by decide +kernel
theorem dL_law_867 : decode cL_law 867 = .ok (.iaload, 1) := by decide +kernel
theorem dL_law_868 : decode cL_law 868 = .ok (.aload_n 0, 1) := by decide +kernel
theorem dL_law_869 : decode cL_law 869 = .ok (.iload_n 3, 1) := by decide +kernel
theorem dL_law_870 : decode cL_law 870 = .ok (.iconst 4, 1) := by decide +kernel
theorem dL_law_871 : decode cL_law 871 = .ok (.iadd, 1) := by decide +kernel
theorem dL_law_872 : decode cL_law 872 = .ok (.iaload, 1) := by decide +kernel
theorem dL_law_873 : decode cL_law 873 = .ok (.invokevirtual 115, 3) := by decide +kernel
theorem dL_law_876 : decode cL_law 876 = .ok (.if_icmp .eq 38, 3) := by decide +kernel
theorem dL_law_879 : decode cL_law 879 = .ok (.iconst 0, 1) := by decide +kernel
theorem dL_law_880 : decode cL_law 880 = .ok (.ireturn, 1) := by decide +kernel
theorem dL_law_881 : decode cL_law 881 = .ok (.aload_n 1, 1) := by decide +kernel
theorem dL_law_882 : decode cL_law 882 = .ok (.aload_n 0, 1) := by decide +kernel
theorem dL_law_883 : decode cL_law 883 = .ok (.iload_n 3, 1) := by decide +kernel
theorem dL_law_884 : decode cL_law 884 = .ok (.iconst 1, 1) := by decide +kernel
theorem dL_law_885 : decode cL_law 885 = .ok (.iadd, 1) := by decide +kernel
theorem dL_law_886 : decode cL_law 886 = .ok (.iaload, 1) := by decide +kernel
theorem dL_law_887 : decode cL_law 887 = .ok (.aload_n 0, 1) := by decide +kernel
theorem dL_law_888 : decode cL_law 888 = .ok (.iload_n 3, 1) := by decide +kernel
theorem dL_law_889 : decode cL_law 889 = .ok (.iconst 2, 1) := by decide +kernel
theorem dL_law_890 : decode cL_law 890 = .ok (.iadd, 1) := by decide +kernel
theorem dL_law_891 : decode cL_law 891 = .ok (.iaload, 1) := by decide +kernel
theorem dL_law_892 : decode cL_law 892 = .ok (.invokevirtual 116, 3) := by decide +kernel
theorem dL_law_895 : decode cL_law 895 = .ok (.aload_n 2, 1) := by decide +kernel
theorem dL_law_896 : decode cL_law 896 = .ok (.aload_n 0, 1) := by decide +kernel
theorem dL_law_897 : decode cL_law 897 = .ok (.iload_n 3, 1) := by decide +kernel
theorem dL_law_898 : decode cL_law 898 = .ok (.iconst 1, 1) := by decide +kernel
theorem dL_law_899 : decode cL_law 899 = .ok (.iadd, 1) := by decide +kernel
theorem dL_law_900 : decode cL_law 900 = .ok (.iaload, 1) := by decide +kernel
theorem dL_law_901 : decode cL_law 901 = .ok (.aload_n 0, 1) := by decide +kernel
theorem dL_law_902 : decode cL_law 902 = .ok (.iload_n 3, 1) := by decide +kernel
theorem dL_law_903 : decode cL_law 903 = .ok (.iconst 2, 1) := by decide +kernel
theorem dL_law_904 : decode cL_law 904 = .ok (.iadd, 1) := by decide +kernel
theorem dL_law_905 : decode cL_law 905 = .ok (.iaload, 1) := by decide +kernel
theorem dL_law_906 : decode cL_law 906 = .ok (.invokevirtual 119, 3) := by decide +kernel
theorem dL_law_909 : decode cL_law 909 = .ok (.if_icmp .eq 5, 3) := by decide +kernel
theorem dL_law_912 : decode cL_law 912 = .ok (.iconst 0, 1) := by decide +kernel
theorem dL_law_913 : decode cL_law 913 = .ok (.ireturn, 1) := by decide +kernel
theorem dL_law_914 : decode cL_law 914 = .ok (.iinc 3 6, 3) := by decide +kernel
theorem dL_law_917 : decode cL_law 917 = .ok (.goto (-899), 3) := by decide +kernel
theorem dL_law_920 : decode cL_law 920 = .ok (.iconst 1, 1) := by decide +kernel
theorem dL_law_921 : decode cL_law 921 = .ok (.ireturn, 1) := by decide +kernel
theorem dJ9_max_7cf53_0 : decode cJ9_max_7cf53 0 = .ok (.iload_n 0, 1) := by decide +kernel
theorem dJ9_max_7cf53_1 : decode cJ9_max_7cf53 1 = .ok (.iload_n 1, 1) := by decide +kernel
theorem dJ9_max_7cf53_2 : decode cJ9_max_7cf53 2 = .ok (.if_icmp .lt 7, 3) := by decide +kernel
theorem dJ9_max_7cf53_5 : decode cJ9_max_7cf53 5 = .ok (.iload_n 0, 1) := by decide +kernel
theorem dJ9_max_7cf53_6 : decode cJ9_max_7cf53 6 = .ok (.goto 4, 3) := by decide +kernel
theorem dJ9_max_7cf53_9 : decode cJ9_max_7cf53 9 = .ok (.iload_n 1, 1) := by decide +kernel
theorem dJ9_max_7cf53_10 : decode cJ9_max_7cf53 10 = .ok (.ireturn, 1) := by decide +kernel
theorem dJ9_min_7cf53_0 : decode cJ9_min_7cf53 0 = .ok (.iload_n 0, 1) := by decide +kernel
theorem dJ9_min_7cf53_1 : decode cJ9_min_7cf53 1 = .ok (.iload_n 1, 1) := by decide +kernel
theorem dJ9_min_7cf53_2 : decode cJ9_min_7cf53 2 = .ok (.if_icmp .gt 7, 3) := by decide +kernel
theorem dJ9_min_7cf53_5 : decode cJ9_min_7cf53 5 = .ok (.iload_n 0, 1) := by decide +kernel
theorem dJ9_min_7cf53_6 : decode cJ9_min_7cf53 6 = .ok (.goto 4, 3) := by decide +kernel
theorem dJ9_min_7cf53_9 : decode cJ9_min_7cf53 9 = .ok (.iload_n 1, 1) := by decide +kernel
theorem dJ9_min_7cf53_10 : decode cJ9_min_7cf53 10 = .ok (.ireturn, 1) := by decide +kernel
theorem dJ0_length_8abf5_0 : decode cJ0_length_8abf5 0 = .ok (.aload_n 0, 1) := by decide +kernel
theorem dJ0_length_8abf5_1 : decode cJ0_length_8abf5 1 = .ok (.getfield 9, 3) := by decide +kernel
theorem dJ0_length_8abf5_4 : decode cJ0_length_8abf5 4 = .ok (.arraylength, 1) := by decide +kernel
theorem dJ0_length_8abf5_5 : decode cJ0_length_8abf5 5 = .ok (.aload_n 0, 1) := by decide +kernel
theorem dJ0_length_8abf5_6 : decode cJ0_length_8abf5 6 = .ok (.invokevirtual 335, 3) := by decide +kernel
theorem dJ0_length_8abf5_9 : decode cJ0_length_8abf5 9 = .ok (.ishr, 1) := by decide +kernel
theorem dJ0_length_8abf5_10 : decode cJ0_length_8abf5 10 = .ok (.ireturn, 1) := by decide +kernel
theorem dJ0_charAt_5068e_0 : decode cJ0_charAt_5068e 0 = .ok (.aload_n 0, 1) := by decide +kernel
theorem dJ0_charAt_5068e_1 : decode cJ0_charAt_5068e 1 = .ok (.invokevirtual 492, 3) := by decide +kernel
theorem dJ0_charAt_5068e_4 : decode cJ0_charAt_5068e 4 = .ok (.ifCond .eq 12, 3) := by decide +kernel
theorem dJ0_charAt_5068e_7 : decode cJ0_charAt_5068e 7 = .ok (.aload_n 0, 1) := by decide +kernel
theorem dJ0_charAt_5068e_8 : decode cJ0_charAt_5068e 8 = .ok (.getfield 9, 3) := by decide +kernel
theorem dJ0_charAt_5068e_11 : decode cJ0_charAt_5068e 11 = .ok (.iload_n 1, 1) := by decide +kernel
theorem dJ0_charAt_5068e_12 : decode cJ0_charAt_5068e 12 = .ok (.invokestatic 495, 3) := by decide +kernel
theorem dJ0_charAt_5068e_15 : decode cJ0_charAt_5068e 15 = .ok (.ireturn, 1) := by decide +kernel
theorem dJ0_charAt_5068e_16 : decode cJ0_charAt_5068e 16 = .ok (.aload_n 0, 1) := by decide +kernel
theorem dJ0_charAt_5068e_17 : decode cJ0_charAt_5068e 17 = .ok (.getfield 9, 3) := by decide +kernel
theorem dJ0_charAt_5068e_20 : decode cJ0_charAt_5068e 20 = .ok (.iload_n 1, 1) := by decide +kernel
theorem dJ0_charAt_5068e_21 : decode cJ0_charAt_5068e 21 = .ok (.invokestatic 498, 3) := by decide +kernel
theorem dJ0_charAt_5068e_24 : decode cJ0_charAt_5068e 24 = .ok (.ireturn, 1) := by decide +kernel
theorem dJ0_coder_7d493_0 : decode cJ0_coder_7d493 0 = .ok (.getstatic 38, 3) := by decide +kernel
theorem dJ0_coder_7d493_3 : decode cJ0_coder_7d493 3 = .ok (.ifCond .eq 10, 3) := by decide +kernel
theorem dJ0_coder_7d493_6 : decode cJ0_coder_7d493 6 = .ok (.aload_n 0, 1) := by decide +kernel
theorem dJ0_coder_7d493_7 : decode cJ0_coder_7d493 7 = .ok (.getfield 15, 3) := by decide +kernel
theorem dJ0_coder_7d493_10 : decode cJ0_coder_7d493 10 = .ok (.goto 4, 3) := by decide +kernel
theorem dJ0_coder_7d493_13 : decode cJ0_coder_7d493 13 = .ok (.iconst 1, 1) := by decide +kernel
theorem dJ0_coder_7d493_14 : decode cJ0_coder_7d493 14 = .ok (.ireturn, 1) := by decide +kernel
theorem dJ0_isLatin1_aae02_0 : decode cJ0_isLatin1_aae02 0 = .ok (.getstatic 38, 3) := by decide +kernel
theorem dJ0_isLatin1_aae02_3 : decode cJ0_isLatin1_aae02 3 = .ok (.ifCond .eq 14, 3) := by decide +kernel
theorem dJ0_isLatin1_aae02_6 : decode cJ0_isLatin1_aae02 6 = .ok (.aload_n 0, 1) := by decide +kernel
theorem dJ0_isLatin1_aae02_7 : decode cJ0_isLatin1_aae02 7 = .ok (.getfield 15, 3) := by decide +kernel
theorem dJ0_isLatin1_aae02_10 : decode cJ0_isLatin1_aae02 10 = .ok (.ifCond .ne 7, 3) := by decide +kernel
theorem dJ0_isLatin1_aae02_13 : decode cJ0_isLatin1_aae02 13 = .ok (.iconst 1, 1) := by decide +kernel
theorem dJ0_isLatin1_aae02_14 : decode cJ0_isLatin1_aae02 14 = .ok (.goto 4, 3) := by decide +kernel
theorem dJ0_isLatin1_aae02_17 : decode cJ0_isLatin1_aae02 17 = .ok (.iconst 0, 1) := by decide +kernel
theorem dJ0_isLatin1_aae02_18 : decode cJ0_isLatin1_aae02 18 = .ok (.ireturn, 1) := by decide +kernel
theorem dJ0_checkIndex_df160_0 : decode cJ0_checkIndex_df160 0 = .ok (.iload_n 0, 1) := by decide +kernel
theorem dJ0_checkIndex_df160_1 : decode cJ0_checkIndex_df160 1 = .ok (.iload_n 1, 1) := by decide +kernel
theorem dJ0_checkIndex_df160_2 : decode cJ0_checkIndex_df160 2 = .ok (.getstatic 1053, 3) := by decide +kernel
theorem dJ0_checkIndex_df160_5 : decode cJ0_checkIndex_df160 5 = .ok (.invokestatic 1059, 3) := by decide +kernel
theorem dJ0_checkIndex_df160_8 : decode cJ0_checkIndex_df160 8 = .ok (.pop, 1) := by decide +kernel
theorem dJ0_checkIndex_df160_9 : decode cJ0_checkIndex_df160 9 = .ok (.return_, 1) := by decide +kernel
theorem dJ1_charAt_3b067_0 : decode cJ1_charAt_3b067 0 = .ok (.iload_n 1, 1) := by decide +kernel
theorem dJ1_charAt_3b067_1 : decode cJ1_charAt_3b067 1 = .ok (.aload_n 0, 1) := by decide +kernel
theorem dJ1_charAt_3b067_2 : decode cJ1_charAt_3b067 2 = .ok (.arraylength, 1) := by decide +kernel
theorem dJ1_charAt_3b067_3 : decode cJ1_charAt_3b067 3 = .ok (.invokestatic 9, 3) := by decide +kernel
theorem dJ1_charAt_3b067_6 : decode cJ1_charAt_3b067 6 = .ok (.aload_n 0, 1) := by decide +kernel
theorem dJ1_charAt_3b067_7 : decode cJ1_charAt_3b067 7 = .ok (.iload_n 1, 1) := by decide +kernel
theorem dJ1_charAt_3b067_8 : decode cJ1_charAt_3b067 8 = .ok (.baload, 1) := by decide +kernel
theorem dJ1_charAt_3b067_9 : decode cJ1_charAt_3b067 9 = .ok (.sipush 255, 3) := by decide +kernel
theorem dJ1_charAt_3b067_12 : decode cJ1_charAt_3b067 12 = .ok (.iand, 1) := by decide +kernel
theorem dJ1_charAt_3b067_13 : decode cJ1_charAt_3b067 13 = .ok (.i2c, 1) := by decide +kernel
theorem dJ1_charAt_3b067_14 : decode cJ1_charAt_3b067 14 = .ok (.ireturn, 1) := by decide +kernel
theorem dJ2_getChar_3b067_0 : decode cJ2_getChar_3b067 0 = .ok (.getstatic 44, 3) := by decide +kernel
theorem dJ2_getChar_3b067_3 : decode cJ2_getChar_3b067 3 = .ok (.ifCond .ne 25, 3) := by decide +kernel
theorem dJ2_getChar_3b067_6 : decode cJ2_getChar_3b067 6 = .ok (.iload_n 1, 1) := by decide +kernel
theorem dJ2_getChar_3b067_7 : decode cJ2_getChar_3b067 7 = .ok (.ifCond .lt 11, 3) := by decide +kernel
theorem dJ2_getChar_3b067_10 : decode cJ2_getChar_3b067 10 = .ok (.iload_n 1, 1) := by decide +kernel
theorem dJ2_getChar_3b067_11 : decode cJ2_getChar_3b067 11 = .ok (.aload_n 0, 1) := by decide +kernel
theorem dJ2_getChar_3b067_12 : decode cJ2_getChar_3b067 12 = .ok (.invokestatic 48, 3) := by decide +kernel
theorem dJ2_getChar_3b067_15 : decode cJ2_getChar_3b067 15 = .ok (.if_icmp .lt 13, 3) := by decide +kernel
theorem dJ2_getChar_3b067_18 : decode cJ2_getChar_3b067 18 = .ok (.new 52, 3) := by decide +kernel
theorem dJ2_getChar_3b067_21 : decode cJ2_getChar_3b067 21 = .ok (.dup, 1) := by decide +kernel
theorem dJ2_getChar_3b067_22 : decode cJ2_getChar_3b067 22 = .ok (.ldc 54, 2) := by decide +kernel
theorem dJ2_getChar_3b067_24 : decode cJ2_getChar_3b067 24 = .ok (.invokespecial 56, 3) := by decide +kernel
theorem dJ2_getChar_3b067_27 : decode cJ2_getChar_3b067 27 = .ok (.athrow, 1) := by decide +kernel
theorem dJ2_getChar_3b067_28 : decode cJ2_getChar_3b067 28 = .ok (.iload_n 1, 1) := by decide +kernel
theorem dJ2_getChar_3b067_29 : decode cJ2_getChar_3b067 29 = .ok (.iconst 1, 1) := by decide +kernel
theorem dJ2_getChar_3b067_30 : decode cJ2_getChar_3b067 30 = .ok (.ishl, 1) := by decide +kernel
theorem dJ2_getChar_3b067_31 : decode cJ2_getChar_3b067 31 = .ok (.istore_n 1, 1) := by decide +kernel
theorem dJ2_getChar_3b067_32 : decode cJ2_getChar_3b067 32 = .ok (.aload_n 0, 1) := by decide +kernel
theorem dJ2_getChar_3b067_33 : decode cJ2_getChar_3b067 33 = .ok (.iload_n 1, 1) := by decide +kernel
theorem dJ2_getChar_3b067_34 : decode cJ2_getChar_3b067 34 = .ok (.iinc 1 1, 3) := by decide +kernel
theorem dJ2_getChar_3b067_37 : decode cJ2_getChar_3b067 37 = .ok (.baload, 1) := by decide +kernel
theorem dJ2_getChar_3b067_38 : decode cJ2_getChar_3b067 38 = .ok (.sipush 255, 3) := by decide +kernel
theorem dJ2_getChar_3b067_41 : decode cJ2_getChar_3b067 41 = .ok (.iand, 1) := by decide +kernel
theorem dJ2_getChar_3b067_42 : decode cJ2_getChar_3b067 42 = .ok (.getstatic 59, 3) := by decide +kernel
theorem dJ2_getChar_3b067_45 : decode cJ2_getChar_3b067 45 = .ok (.ishl, 1) := by decide +kernel
theorem dJ2_getChar_3b067_46 : decode cJ2_getChar_3b067 46 = .ok (.aload_n 0, 1) := by decide +kernel
theorem dJ2_getChar_3b067_47 : decode cJ2_getChar_3b067 47 = .ok (.iload_n 1, 1) := by decide +kernel
theorem dJ2_getChar_3b067_48 : decode cJ2_getChar_3b067 48 = .ok (.baload, 1) := by decide +kernel
theorem dJ2_getChar_3b067_49 : decode cJ2_getChar_3b067 49 = .ok (.sipush 255, 3) := by decide +kernel
theorem dJ2_getChar_3b067_52 : decode cJ2_getChar_3b067 52 = .ok (.iand, 1) := by decide +kernel
theorem dJ2_getChar_3b067_53 : decode cJ2_getChar_3b067 53 = .ok (.getstatic 63, 3) := by decide +kernel
theorem dJ2_getChar_3b067_56 : decode cJ2_getChar_3b067 56 = .ok (.ishl, 1) := by decide +kernel
theorem dJ2_getChar_3b067_57 : decode cJ2_getChar_3b067 57 = .ok (.ior, 1) := by decide +kernel
theorem dJ2_getChar_3b067_58 : decode cJ2_getChar_3b067 58 = .ok (.i2c, 1) := by decide +kernel
theorem dJ2_getChar_3b067_59 : decode cJ2_getChar_3b067 59 = .ok (.ireturn, 1) := by decide +kernel
theorem dJ2_length_9d52b_0 : decode cJ2_length_9d52b 0 = .ok (.aload_n 0, 1) := by decide +kernel
theorem dJ2_length_9d52b_1 : decode cJ2_length_9d52b 1 = .ok (.arraylength, 1) := by decide +kernel
theorem dJ2_length_9d52b_2 : decode cJ2_length_9d52b 2 = .ok (.iconst 1, 1) := by decide +kernel
theorem dJ2_length_9d52b_3 : decode cJ2_length_9d52b 3 = .ok (.ishr, 1) := by decide +kernel
theorem dJ2_length_9d52b_4 : decode cJ2_length_9d52b 4 = .ok (.ireturn, 1) := by decide +kernel
theorem dJ2_charAt_3b067_0 : decode cJ2_charAt_3b067 0 = .ok (.iload_n 1, 1) := by decide +kernel
theorem dJ2_charAt_3b067_1 : decode cJ2_charAt_3b067 1 = .ok (.aload_n 0, 1) := by decide +kernel
theorem dJ2_charAt_3b067_2 : decode cJ2_charAt_3b067 2 = .ok (.invokestatic 67, 3) := by decide +kernel
theorem dJ2_charAt_3b067_5 : decode cJ2_charAt_3b067 5 = .ok (.aload_n 0, 1) := by decide +kernel
theorem dJ2_charAt_3b067_6 : decode cJ2_charAt_3b067 6 = .ok (.iload_n 1, 1) := by decide +kernel
theorem dJ2_charAt_3b067_7 : decode cJ2_charAt_3b067 7 = .ok (.invokestatic 71, 3) := by decide +kernel
theorem dJ2_charAt_3b067_10 : decode cJ2_charAt_3b067 10 = .ok (.ireturn, 1) := by decide +kernel
theorem dJ2_checkIndex_2214a_0 : decode cJ2_checkIndex_2214a 0 = .ok (.iload_n 0, 1) := by decide +kernel
theorem dJ2_checkIndex_2214a_1 : decode cJ2_checkIndex_2214a 1 = .ok (.aload_n 1, 1) := by decide +kernel
theorem dJ2_checkIndex_2214a_2 : decode cJ2_checkIndex_2214a 2 = .ok (.invokestatic 48, 3) := by decide +kernel
theorem dJ2_checkIndex_2214a_5 : decode cJ2_checkIndex_2214a 5 = .ok (.invokestatic 414, 3) := by decide +kernel
theorem dJ2_checkIndex_2214a_8 : decode cJ2_checkIndex_2214a 8 = .ok (.return_, 1) := by decide +kernel
theorem dJ3_checkIndex_8e157_0 : decode cJ3_checkIndex_8e157 0 = .ok (.iload_n 0, 1) := by decide +kernel
theorem dJ3_checkIndex_8e157_1 : decode cJ3_checkIndex_8e157 1 = .ok (.ifCond .lt 8, 3) := by decide +kernel
theorem dJ3_checkIndex_8e157_4 : decode cJ3_checkIndex_8e157 4 = .ok (.iload_n 0, 1) := by decide +kernel
theorem dJ3_checkIndex_8e157_5 : decode cJ3_checkIndex_8e157 5 = .ok (.iload_n 1, 1) := by decide +kernel
theorem dJ3_checkIndex_8e157_6 : decode cJ3_checkIndex_8e157 6 = .ok (.if_icmp .lt 10, 3) := by decide +kernel
theorem dJ3_checkIndex_8e157_9 : decode cJ3_checkIndex_8e157 9 = .ok (.aload_n 2, 1) := by decide +kernel
theorem dJ3_checkIndex_8e157_10 : decode cJ3_checkIndex_8e157 10 = .ok (.iload_n 0, 1) := by decide +kernel
theorem dJ3_checkIndex_8e157_11 : decode cJ3_checkIndex_8e157 11 = .ok (.iload_n 1, 1) := by decide +kernel
theorem dJ3_checkIndex_8e157_12 : decode cJ3_checkIndex_8e157 12 = .ok (.invokestatic 95, 3) := by decide +kernel
theorem dJ3_checkIndex_8e157_15 : decode cJ3_checkIndex_8e157 15 = .ok (.athrow, 1) := by decide +kernel
theorem dJ3_checkIndex_8e157_16 : decode cJ3_checkIndex_8e157 16 = .ok (.iload_n 0, 1) := by decide +kernel
theorem dJ3_checkIndex_8e157_17 : decode cJ3_checkIndex_8e157 17 = .ok (.ireturn, 1) := by decide +kernel
end
section
theorem q_native : Cond.native arraycopyName ∈ wsL_law := wu (tb4 (List.mem_of_getElem? (i := 103) (by decide +kernel))) rfl
theorem q_acstatic : Cond.static arraycopyName ∈ wsL_law := wu (tb4 (List.mem_of_getElem? (i := 102) (by decide +kernel))) rfl
theorem q_sysinit : Cond.initialized "java/lang/System" ∈ wsL_law := wu (tb1 (List.mem_of_getElem? (i := 17) (by decide +kernel))) rfl
theorem q_mmaxS : Cond.static Lib.Math.max.name ∈ wsL_law := wu (tb3 (List.mem_of_getElem? (i := 112) (by decide +kernel))) rfl
theorem q_mminS : Cond.static Lib.Math.min.name ∈ wsL_law := wu (tb3 (List.mem_of_getElem? (i := 109) (by decide +kernel))) rfl
theorem q_mathI : Cond.initialized "java/lang/Math" ∈ wsL_law := wu (tb1 (List.mem_of_getElem? (i := 16) (by decide +kernel))) rfl
theorem q_mmaxC : Cond.code Lib.Math.max.name Lib.Math.max.code 2 (some .int) ∈ wsL_law := wu (tb3 (List.mem_of_getElem? (i := 113) (by decide +kernel))) rfl
theorem q_mminC : Cond.code Lib.Math.min.name Lib.Math.min.code 2 (some .int) ∈ wsL_law := wu (tb3 (List.mem_of_getElem? (i := 110) (by decide +kernel))) rfl
abbrev St : Type := (Nat → Nat → Int32) × Int64
def up (σ : St) (k j : Nat) (v : Int32) : St := (fun a b => if a = k ∧ b = j then v else σ.1 a b, σ.2)
def upL (σ : St) (w : Int64) : St := (σ.1, w)
def upA (σ : St) (k : Nat) (f : Nat → Int32) : St := (fun a b => if a = k then f b else σ.1 a b, σ.2)
/-- a shape: how many cells, the kind of each (below 20: an object of that class; 20 ..: an array of that type), its length, what it refers to -/
abbrev Sh : Type := Nat × (Nat → Nat) × (Nat → Nat) × (Nat → Nat → Nat)
/-- classes and slots; the cells' addresses; the arrays' classes; where the static arrays, the strings, their bytes are -/
abbrev Gx : Type := va_G × (Nat → Nat) × (Nat → ClassId) × (Nat → Nat) × (Nat → Nat) × (Nat → Nat)
def fk (ci j : Nat) : Nat := (([[2, 2, 0, 0, 0, 0, 0], [2, 2, 2, 2, 2, 2, 2, 2, 0, 0], [2, 2], [2, 2, 2, 2, 0, 0, 0], [0, 0, 0, 0, 0, 0, 0, 0, 0], [0, 0, 0, 0, 0, 0, 2, 2, 2, 2], [2, 0, 0], [2, 0, 0, 0, 0], [2, 2, 2, 2, 2, 0], [2, 2, 0, 2, 2, 2, 2, 2, 2, 2], [0, 2, 2, 0, 0, 2, 0, 2, 0, 2, 2, 0, 0, 0, 0, 0, 0, 0, 0, 0, 0, 0, 0, 1, 0, 0, 0, 2, 2, 2, 2, 0, 0, 0, 0, 0, 0, 2, 2, 2, 2, 0, 0, 0, 2, 2, 2, 2]] : List (List Nat)).getD ci []).getD j 0
def fv (sh : Sh) (G : Gx) (σ : St) (k j : Nat) : Value := if fk (sh.2.1 k) j = 0 then .int (σ.1 k j) else if fk (sh.2.1 k) j = 1 then .long σ.2 else .ref (G.2.1 (sh.2.2.2 k j))
def fl (sh : Sh) (G : Gx) (σ : St) (k : Nat) : List Value := (List.range (sh.2.2.1 k)).map (fv sh G σ k)
def ce (sh : Sh) (G : Gx) (σ : St) (k : Nat) : va_E := if sh.2.1 k < 20 then .inr (sh.2.1 k, fl sh G σ k) else if sh.2.1 k < 22 then .inl (G.2.2.1 (sh.2.1 k - 20), sh.2.2.1 k, .inl (σ.1 k)) else .inl (G.2.2.1 (sh.2.1 k - 20), sh.2.2.1 k, .inr (.inr (.inr (.inr (fun i => if i < sh.2.2.1 k then some (G.2.1 (sh.2.2.2 k i)) else none)))))
def Wd (sh : Sh) (G : Gx) (σ : St) : va_W := (List.range sh.1).map (fun k => (G.2.1 k, ce sh G σ k))
def tyl (G : Gx) : List (ClassId × FieldType) := [(G.2.2.1 0, .int), (G.2.2.1 1, .boolean), (G.2.2.1 2, .array .int), (G.2.2.1 3, .object "SamovarOpinions$Sheet")]
def AW (sh : Sh) (G : Gx) (sz : Nat) : Nat → Prop := fun q => (∃ k, k < sh.1 ∧ q = G.2.1 k) ∨ sz ≤ q
def Inj (sh : Sh) (G : Gx) : Prop := ∀ i j, i < sh.1 → j < sh.1 → G.2.1 i = G.2.1 j → i = j
def stNm : List (String × List Int32) := [("LEAST", [0, 1, 0, 0, 0, 0, 0]), ("MOST", [99, 99, 999, 9, 7, 1, 5]), ("UNDER", [-1, 0, 0, 1, 2, 0])]
def strO : List (String × Nat × String) := [("SamovarOpinions", 78, "warms 5 + topic ; cools 2 ; screams last < 4 ;"), ("SamovarOpinions$Tape", 55, "topic"), ("SamovarOpinions$Tape", 61, "last"), ("SamovarOpinions$Tape", 63, "warmth"), ("SamovarOpinions$Tape", 65, "number"), ("SamovarOpinions$Tape", 67, "said"), ("SamovarOpinions$Tape", 69, "place"), ("SamovarOpinions$Tape", 71, "warms"), ("SamovarOpinions$Tape", 73, "cools"), ("SamovarOpinions$Tape", 75, "screams"), ("SamovarOpinions$Tape", 77, "or"), ("SamovarOpinions$Tape", 79, "and"), ("SamovarOpinions$Tape", 81, "not")]
def strB : List (List Int32) := [[119, 97, 114, 109, 115, 32, 53, 32, 43, 32, 116, 111, 112, 105, 99, 32, 59, 32, 99, 111, 111, 108, 115, 32, 50, 32, 59, 32, 115, 99, 114, 101, 97, 109, 115, 32, 108, 97, 115, 116, 32, 60, 32, 52, 32, 59], [116, 111, 112, 105, 99], [108, 97, 115, 116], [119, 97, 114, 109, 116, 104], [110, 117, 109, 98, 101, 114], [115, 97, 105, 100], [112, 108, 97, 99, 101], [119, 97, 114, 109, 115], [99, 111, 111, 108, 115], [115, 99, 114, 101, 97, 109, 115], [111, 114], [97, 110, 100], [110, 111, 116]]
def strL : List Nat := [46, 5, 4, 6, 6, 4, 5, 5, 5, 7, 2, 3, 3]
def SX (G : Gx) (A : Nat → Prop) (U : State) (H : Heap) : Prop := (∀ i, i < 3 → va_Z "SamovarOpinions" (stNm.getD i ("", [])).1 "[I" (.ref (G.2.2.2.1 i)) A U H ∧ va_T .int (G.2.2.2.1 i) (stNm.getD i ("", [])).2.length (fun j => .int ((stNm.getD i ("", [])).2.getD j 0)) A U H) ∧ vk_S 13 strL strB G.2.2.2.2.1 G.2.2.2.2.2 A U H ∧ (∀ i, i < 13 → vk_R (strO.getD i ("", 0, "")).1 (strO.getD i ("", 0, "")).2.1 (strO.getD i ("", 0, "")).2.2 (G.2.2.2.2.1 i) U) ∧ (∀ w ∈ nws, va_Nw w U) ∧ va_Z "java/lang/String" "COMPACT_STRINGS" "Z" (.int 1) A U H ∧ va_Zq "jdk/internal/util/Preconditions" "SIOOBE_FORMATTER" "Ljava/util/function/BiFunction;" A U H
theorem SX.warm {G : Gx} {A : Nat → Prop} {s U : State} {H : Heap} (hW : s.WarmedH U.vm) (h : SX G A s H) : SX G A U H :=
  ⟨fun i hi => ⟨va_Z.moved hW.alike (h.1 i hi).1, va_T.moved hW.alike (h.1 i hi).2⟩, vk_S.moved hW.alike h.2.1, fun i hi => (h.2.2.1 i hi).warm hW, fun w hw => nws_warm hw hW (h.2.2.2.1 w hw), va_Z.moved hW.alike h.2.2.2.2.1, va_Zq.moved hW.alike h.2.2.2.2.2⟩
theorem SX.same {G : Gx} {A : Nat → Prop} {u U : State} {H : Heap} (hv : U.vm = u.vm) (h : SX G A u H) : SX G A U H := by
  have ha : u.vm.Alike U.vm := by rw [hv]; exact Vm.Alike.refl _
  exact ⟨fun i hi => ⟨va_Z.moved ha (h.1 i hi).1, va_T.moved ha (h.1 i hi).2⟩, vk_S.moved ha h.2.1, fun i hi => (h.2.2.1 i hi).same hv, fun w hw => nws_same hw hv.symm (h.2.2.2.1 w hw), va_Z.moved ha h.2.2.2.2.1, va_Zq.moved ha h.2.2.2.2.2⟩
theorem SX.kept {G : Gx} {A : Nat → Prop} {U : State} {H H1 : Heap} (h : SX G A U H) (hq : ∀ a : Nat, a < H.size → ¬ A a → H1[a]? = H[a]?) : SX G A U H1 :=
  ⟨fun i hi => ⟨(h.1 i hi).1.kept hq, (h.1 i hi).2.kept hq⟩, h.2.1.kept hq, h.2.2.1, h.2.2.2.1, h.2.2.2.2.1.kept hq, h.2.2.2.2.2.imp (fun z => z.kept hq) (fun ⟨t, z⟩ => ⟨t, z.kept hq⟩)⟩
theorem SX.narrow {G : Gx} {A B : Nat → Prop} {U : State} {H : Heap} (h : SX G A U H) (hAB : ∀ q, B q → A q) : SX G B U H :=
  ⟨fun i hi => ⟨(h.1 i hi).1.narrow hAB, (h.1 i hi).2.narrow hAB⟩, h.2.1.narrow hAB, h.2.2.1, h.2.2.2.1, h.2.2.2.2.1.narrow hAB, h.2.2.2.2.2.imp (fun z => z.narrow hAB) (fun ⟨t, z⟩ => ⟨t, z.narrow hAB⟩)⟩
def Rm (d : Nat) : Room := { frames := d, cells := 0, slots := 0, locals := 60 * d }
def PZ (sh : Sh) (G : Gx) (σ : St) (sz : Nat) (U : State) : Prop := U.heap.size = sz ∧ va_P G.1 vwCl (Wd sh G σ) U.heap ∧ va_K G.1 vwCl (tyl G) U ∧ Inj sh G ∧ SX G (AW sh G sz) U U.heap
def Qz (sh : Sh) (G : Gx) (v : Option Value) (τ : St) (A : Nat → Prop) : Array Value → State → Outcome → State → Prop := fun _ st oc t => oc = .returned v ∧ va_P G.1 vwCl (Wd sh G τ) t.heap ∧ va_F A st t
/-- the contract of a method, over the world of a shape: from the state σ it returns v, and the state is τ -/
def Ct (sh : Sh) (h : Nat) (y : MethodName) (bytes : ByteArray) (maxL : Nat) (rt : Option FieldType) (av : Gx → List Value) (σ : St) (v : Gx → Option Value) (τ : St) : Prop :=
  ∀ (l : Launch) (d : Nat) (G : Gx) (sz : Nat), h ≤ d → Met l y (.code y bytes maxL rt :: wsL_law) (Rm d) (va_Pc (av G) (PZ sh G σ sz)) (Qz sh G (v G) τ (AW sh G sz)) 0 0 (AW sh G sz)
theorem Wd_at {sh : Sh} {G : Gx} {σ : St} {k : Nat} (h : k < sh.1) : (Wd sh G σ)[k]? = some (G.2.1 k, ce sh G σ k) := by
  simp [Wd, h]
theorem Wd_len {sh : Sh} {G : Gx} {σ : St} : (Wd sh G σ).length = sh.1 := by simp [Wd]
theorem Wd_some {sh : Sh} {G : Gx} {σ : St} {k : Nat} {q : Nat × va_E} (h : (Wd sh G σ)[k]? = some q) : k < sh.1 ∧ q = (G.2.1 k, ce sh G σ k) := by
  have h1 : k < sh.1 := by
    have := (List.getElem?_eq_some_iff.mp h).1
    rwa [Wd_len] at this
  rw [Wd_at h1] at h
  exact ⟨h1, (Option.some.inj h).symm⟩
theorem Wd_D {sh : Sh} {G : Gx} {σ : St} {sz : Nat} (hi : Inj sh G) : va_D (AW sh G sz) (Wd sh G σ) := by
  refine ⟨fun i j p q h1 h2 e => ?_, fun k q h => ?_⟩
  · obtain ⟨a1, rfl⟩ := Wd_some h1
    obtain ⟨a2, rfl⟩ := Wd_some h2
    exact hi i j a1 a2 e
  · obtain ⟨a1, rfl⟩ := Wd_some h
    exact Or.inl ⟨k, a1, rfl⟩
theorem Wd_set {sh : Sh} {G : Gx} {σ τ : St} {k : Nat} {E : va_E} (hk : k < sh.1) (hE : ce sh G τ k = E) (hne : ∀ i, i ≠ k → ce sh G τ i = ce sh G σ i) : (Wd sh G σ).set k (G.2.1 k, E) = Wd sh G τ := by
  subst hE
  apply List.ext_getElem?
  intro i
  by_cases hi : i = k
  · subst hi
    rw [List.getElem?_set_self (by rw [Wd_len]; exact hk), Wd_at hk]
  · rw [List.getElem?_set_ne (Ne.symm hi)]
    by_cases hl : i < sh.1
    · rw [Wd_at hl, Wd_at hl, hne i hi]
    · rw [List.getElem?_eq_none (by rw [Wd_len]; omega), List.getElem?_eq_none (by rw [Wd_len]; omega)]
theorem fk_long {ci j : Nat} (h : ci ≠ 10) : fk ci j ≠ 1 := by
  intro h1
  have h2 : ∀ ci, ci < 11 → ci ≠ 10 → ∀ j, j < 60 → fk ci j ≠ 1 := by decide +kernel
  by_cases hc : ci < 11
  · by_cases hj : j < 60
    · exact h2 ci hc h j hj h1
    · have h3 : ∀ ci, ci < 11 → (([[2, 2, 0, 0, 0, 0, 0], [2, 2, 2, 2, 2, 2, 2, 2, 0, 0], [2, 2], [2, 2, 2, 2, 0, 0, 0], [0, 0, 0, 0, 0, 0, 0, 0, 0], [0, 0, 0, 0, 0, 0, 2, 2, 2, 2], [2, 0, 0], [2, 0, 0, 0, 0], [2, 2, 2, 2, 2, 0], [2, 2, 0, 2, 2, 2, 2, 2, 2, 2], [0, 2, 2, 0, 0, 2, 0, 2, 0, 2, 2, 0, 0, 0, 0, 0, 0, 0, 0, 0, 0, 0, 0, 1, 0, 0, 0, 2, 2, 2, 2, 0, 0, 0, 0, 0, 0, 2, 2, 2, 2, 0, 0, 0, 2, 2, 2, 2]] : List (List Nat)).getD ci []).length ≤ 60 := by decide +kernel
      have h4 := h3 ci hc
      unfold fk at h1
      rw [List.getD_eq_getElem?_getD, List.getElem?_eq_none (by omega)] at h1
      exact absurd h1 (by decide)
  · unfold fk at h1
    rw [List.getD_eq_getElem?_getD (l := [[2, 2, 0, 0, 0, 0, 0], [2, 2, 2, 2, 2, 2, 2, 2, 0, 0], [2, 2], [2, 2, 2, 2, 0, 0, 0], [0, 0, 0, 0, 0, 0, 0, 0, 0], [0, 0, 0, 0, 0, 0, 2, 2, 2, 2], [2, 0, 0], [2, 0, 0, 0, 0], [2, 2, 2, 2, 2, 0], [2, 2, 0, 2, 2, 2, 2, 2, 2, 2], [0, 2, 2, 0, 0, 2, 0, 2, 0, 2, 2, 0, 0, 0, 0, 0, 0, 0, 0, 0, 0, 0, 0, 1, 0, 0, 0, 2, 2, 2, 2, 0, 0, 0, 0, 0, 0, 2, 2, 2, 2, 0, 0, 0, 2, 2, 2, 2]]), List.getElem?_eq_none (show ([[2, 2, 0, 0, 0, 0, 0], [2, 2, 2, 2, 2, 2, 2, 2, 0, 0], [2, 2], [2, 2, 2, 2, 0, 0, 0], [0, 0, 0, 0, 0, 0, 0, 0, 0], [0, 0, 0, 0, 0, 0, 2, 2, 2, 2], [2, 0, 0], [2, 0, 0, 0, 0], [2, 2, 2, 2, 2, 0], [2, 2, 0, 2, 2, 2, 2, 2, 2, 2], [0, 2, 2, 0, 0, 2, 0, 2, 0, 2, 2, 0, 0, 0, 0, 0, 0, 0, 0, 0, 0, 0, 0, 1, 0, 0, 0, 2, 2, 2, 2, 0, 0, 0, 0, 0, 0, 2, 2, 2, 2, 0, 0, 0, 2, 2, 2, 2]] : List (List Nat)).length ≤ ci from by simp; omega)] at h1
    exact absurd h1 (by simp)
theorem ce_same {sh : Sh} {G : Gx} {σ τ : St} {i : Nat} (h1 : τ.1 i = σ.1 i) (h2 : τ.2 = σ.2 ∨ sh.2.1 i ≠ 10) : ce sh G τ i = ce sh G σ i := by
  have hf : fv sh G τ i = fv sh G σ i := by
    funext j
    unfold fv
    rw [h1]
    rcases h2 with h | h
    · rw [h]
    · by_cases a : fk (sh.2.1 i) j = 0
      · rw [if_pos a, if_pos a]
      · rw [if_neg a, if_neg a]
        by_cases b : fk (sh.2.1 i) j = 1
        · exact absurd b (fk_long h)
        · rw [if_neg b, if_neg b]
  unfold ce fl
  rw [hf, h1]
theorem up_ne {σ : St} {k j i : Nat} {v : Int32} (h : i ≠ k) : (up σ k j v).1 i = σ.1 i := by
  funext b
  simp [up, h]
theorem upA_ne {σ : St} {k i : Nat} {f : Nat → Int32} (h : i ≠ k) : (upA σ k f).1 i = σ.1 i := by
  funext b
  simp [upA, h]
theorem up_at {σ : St} {k j : Nat} {v : Int32} : (up σ k j v).1 k = upd (σ.1 k) j v := by
  funext b
  simp [up, upd]
theorem fl_len {sh : Sh} {G : Gx} {σ : St} {k : Nat} : (fl sh G σ k).length = sh.2.2.1 k := by simp [fl]
theorem fl_at {sh : Sh} {G : Gx} {σ : St} {k j : Nat} (h : j < sh.2.2.1 k) : (fl sh G σ k)[j]? = some (fv sh G σ k j) := by simp [fl, h]
theorem fl_set {sh : Sh} {G : Gx} {σ τ : St} {k j : Nat} {v : Value} (hj : j < sh.2.2.1 k) (hv : fv sh G τ k j = v) (hne : ∀ i, i ≠ j → fv sh G τ k i = fv sh G σ k i) : (fl sh G σ k).set j v = fl sh G τ k := by
  subst hv
  apply List.ext_getElem?
  intro i
  by_cases hi : i = j
  · subst hi
    rw [List.getElem?_set_self (by rw [fl_len]; exact hj), fl_at hj]
  · rw [List.getElem?_set_ne (Ne.symm hi)]
    by_cases hl : i < sh.2.2.1 k
    · rw [fl_at hl, fl_at hl, hne i hi]
    · rw [List.getElem?_eq_none (by rw [fl_len]; omega), List.getElem?_eq_none (by rw [fl_len]; omega)]
abbrev OK (sh : Sh) (G : Gx) (p : Program) (s : State) (m : MethodId) (args : Array Value) (meth : Method) (c : Code) (own : String) (cc : ByteArray) (nL : Nat) (ret : Option FieldType) (A : Nat → Prop) : Prop :=
  p.tables.exec = Jvm.exec ∧ c.code = cc ∧ c.maxLocals = nL ∧ s.vm.findClass own = some m.cls ∧ (∀ w ∈ wsL_law, w.before args s = true) ∧ meth.locks = false ∧ meth.sig.returnType = ret ∧ va_K G.1 vwCl (tyl G) s ∧ Inj sh G ∧ SX G A s s.heap ∧ A = AW sh G s.heap.size
def Vw (sh : Sh) (G : Gx) (p : Program) (l : Launch) (e : Env) (d : Nat) (s : State) (m : MethodId) (args : Array Value) (below : List Frame) (meth : Method) (c : Code) (nL : Nat) (A : Nat → Prop) (σ : St) (pc : Nat) (lv : List (Nat × Value)) (st : List Value) (v : Option Value) (τ : St) : Prop :=
  ∀ (H : Heap) (locs : List Loc) (ls : Array Slot), va_P G.1 vwCl (Wd sh G σ) H → va_S A s.heap H locs → lv_has ls nL lv → W p l e (Rm d) s m args below meth c H locs 0 0 (MQ below (Qz sh G v τ A) args s 0 0 A) (F0 m pc ls st)
section VROWS
variable {sh : Sh} {G : Gx} {p : Program} {l : Launch} {e : Env} {d : Nat} {s : State} {m : MethodId} {args : Array Value} {below : List Frame} {meth : Method} {c : Code} {own : String} {cc : ByteArray} {nL : Nat} {ret : Option FieldType} {A : Nat → Prop} {σ τ : St} {pc : Nat} {lv lv' : List (Nat × Value)} {st : List Value} {v : Option Value}
theorem V_aload_n (C : OK sh G p s m args meth c own cc nL ret A) {k : Fin 4} {i : Nat} {x : Nat} (q : Nat) (hdg : decode cc pc = .ok (.aload_n k, 1)) (hi : (k : Nat) = i) (hl0 : lv[q]? = some (i, .ref x)) (k9 : Vw sh G p l e d s m args below meth c nL A σ (pc + 1) lv (.ref x :: st) v τ) : Vw sh G p l e d s m args below meth c nL A σ pc lv st v τ := fun H locs ls hP hS hl => lv_aload_n C.1 C.2.1 hdg hi (lv_at hl q hl0) (k9 H locs ls hP hS hl)
theorem V_aload (C : OK sh G p s m args meth c own cc nL ret A) {i : Nat} {x : Nat} (q : Nat) (hdg : decode cc pc = .ok (.aload i, 2)) (hl0 : lv[q]? = some (i, .ref x)) (k9 : Vw sh G p l e d s m args below meth c nL A σ (pc + 2) lv (.ref x :: st) v τ) : Vw sh G p l e d s m args below meth c nL A σ pc lv st v τ := fun H locs ls hP hS hl => lv_aload C.1 C.2.1 hdg (lv_at hl q hl0) (k9 H locs ls hP hS hl)
theorem V_iload_n (C : OK sh G p s m args meth c own cc nL ret A) {k : Fin 4} {i : Nat} {x : Int32} (q : Nat) (hdg : decode cc pc = .ok (.iload_n k, 1)) (hi : (k : Nat) = i) (hl0 : lv[q]? = some (i, .int x)) (k9 : Vw sh G p l e d s m args below meth c nL A σ (pc + 1) lv (.int x :: st) v τ) : Vw sh G p l e d s m args below meth c nL A σ pc lv st v τ := fun H locs ls hP hS hl => lv_iload_n C.1 C.2.1 hdg hi (lv_at hl q hl0) (k9 H locs ls hP hS hl)
theorem V_iload (C : OK sh G p s m args meth c own cc nL ret A) {i : Nat} {x : Int32} (q : Nat) (hdg : decode cc pc = .ok (.iload i, 2)) (hl0 : lv[q]? = some (i, .int x)) (k9 : Vw sh G p l e d s m args below meth c nL A σ (pc + 2) lv (.int x :: st) v τ) : Vw sh G p l e d s m args below meth c nL A σ pc lv st v τ := fun H locs ls hP hS hl => lv_iload C.1 C.2.1 hdg (lv_at hl q hl0) (k9 H locs ls hP hS hl)
theorem V_lload_n (C : OK sh G p s m args meth c own cc nL ret A) {k : Fin 4} {i : Nat} {x : Int64} (q : Nat) (hdg : decode cc pc = .ok (.lload_n k, 1)) (hi : (k : Nat) = i) (hl0 : lv[q]? = some (i, .long x)) (k9 : Vw sh G p l e d s m args below meth c nL A σ (pc + 1) lv (.long x :: st) v τ) : Vw sh G p l e d s m args below meth c nL A σ pc lv st v τ := fun H locs ls hP hS hl => lv_lload_n C.1 C.2.1 hdg hi (lv_at hl q hl0) (k9 H locs ls hP hS hl)
theorem V_lload (C : OK sh G p s m args meth c own cc nL ret A) {i : Nat} {x : Int64} (q : Nat) (hdg : decode cc pc = .ok (.lload i, 2)) (hl0 : lv[q]? = some (i, .long x)) (k9 : Vw sh G p l e d s m args below meth c nL A σ (pc + 2) lv (.long x :: st) v τ) : Vw sh G p l e d s m args below meth c nL A σ pc lv st v τ := fun H locs ls hP hS hl => lv_lload C.1 C.2.1 hdg (lv_at hl q hl0) (k9 H locs ls hP hS hl)
theorem V_aload_nN (C : OK sh G p s m args meth c own cc nL ret A) {k : Fin 4} {i : Nat} (q : Nat) (hdg : decode cc pc = .ok (.aload_n k, 1)) (hi : (k : Nat) = i) (hl0 : lv[q]? = some (i, .null)) (k9 : Vw sh G p l e d s m args below meth c nL A σ (pc + 1) lv (.null :: st) v τ) : Vw sh G p l e d s m args below meth c nL A σ pc lv st v τ := fun H locs ls hP hS hl => lv_aload_nN C.1 C.2.1 hdg hi (lv_at hl q hl0) (k9 H locs ls hP hS hl)
theorem V_aloadN (C : OK sh G p s m args meth c own cc nL ret A) {i : Nat} (q : Nat) (hdg : decode cc pc = .ok (.aload i, 2)) (hl0 : lv[q]? = some (i, .null)) (k9 : Vw sh G p l e d s m args below meth c nL A σ (pc + 2) lv (.null :: st) v τ) : Vw sh G p l e d s m args below meth c nL A σ pc lv st v τ := fun H locs ls hP hS hl => lv_aloadN C.1 C.2.1 hdg (lv_at hl q hl0) (k9 H locs ls hP hS hl)
theorem V_astore_n (C : OK sh G p s m args meth c own cc nL ret A) {k : Fin 4} {i : Nat} {x : Nat} (hdg : decode cc pc = .ok (.astore_n k, 1)) (hi : (k : Nat) = i) (hn : i < nL) (hl0 : (i, (.ref x : Value)) :: lv.filter (fun q => !(q.1 == i) && !(q.1 + 1 == i && q.2.category == 2)) = lv') (k9 : Vw sh G p l e d s m args below meth c nL A σ (pc + 1) lv' st v τ) : Vw sh G p l e d s m args below meth c nL A σ pc lv (.ref x :: st) v τ := fun H locs ls hP hS hl => lv_astore_n C.1 C.2.1 hdg hi hl hn hl0 (fun ls' hl' => k9 H locs ls' hP hS hl')
theorem V_astore (C : OK sh G p s m args meth c own cc nL ret A) {i : Nat} {x : Nat} (hdg : decode cc pc = .ok (.astore i, 2)) (hn : i < nL) (hl0 : (i, (.ref x : Value)) :: lv.filter (fun q => !(q.1 == i) && !(q.1 + 1 == i && q.2.category == 2)) = lv') (k9 : Vw sh G p l e d s m args below meth c nL A σ (pc + 2) lv' st v τ) : Vw sh G p l e d s m args below meth c nL A σ pc lv (.ref x :: st) v τ := fun H locs ls hP hS hl => lv_astore C.1 C.2.1 hdg hl hn hl0 (fun ls' hl' => k9 H locs ls' hP hS hl')
theorem V_istore_n (C : OK sh G p s m args meth c own cc nL ret A) {k : Fin 4} {i : Nat} {x : Int32} (hdg : decode cc pc = .ok (.istore_n k, 1)) (hi : (k : Nat) = i) (hn : i < nL) (hl0 : (i, (.int x : Value)) :: lv.filter (fun q => !(q.1 == i) && !(q.1 + 1 == i && q.2.category == 2)) = lv') (k9 : Vw sh G p l e d s m args below meth c nL A σ (pc + 1) lv' st v τ) : Vw sh G p l e d s m args below meth c nL A σ pc lv (.int x :: st) v τ := fun H locs ls hP hS hl => lv_istore_n C.1 C.2.1 hdg hi hl hn hl0 (fun ls' hl' => k9 H locs ls' hP hS hl')
theorem V_istore (C : OK sh G p s m args meth c own cc nL ret A) {i : Nat} {x : Int32} (hdg : decode cc pc = .ok (.istore i, 2)) (hn : i < nL) (hl0 : (i, (.int x : Value)) :: lv.filter (fun q => !(q.1 == i) && !(q.1 + 1 == i && q.2.category == 2)) = lv') (k9 : Vw sh G p l e d s m args below meth c nL A σ (pc + 2) lv' st v τ) : Vw sh G p l e d s m args below meth c nL A σ pc lv (.int x :: st) v τ := fun H locs ls hP hS hl => lv_istore C.1 C.2.1 hdg hl hn hl0 (fun ls' hl' => k9 H locs ls' hP hS hl')
theorem V_lstore_n (C : OK sh G p s m args meth c own cc nL ret A) {k : Fin 4} {i : Nat} {x : Int64} (hdg : decode cc pc = .ok (.lstore_n k, 1)) (hi : (k : Nat) = i) (hn : i + 1 < nL) (hl0 : (i, (.long x : Value)) :: lv.filter (fun q => !(q.1 == i) && (!(q.1 == i + 1) && !(q.1 + 1 == i && q.2.category == 2))) = lv') (k9 : Vw sh G p l e d s m args below meth c nL A σ (pc + 1) lv' st v τ) : Vw sh G p l e d s m args below meth c nL A σ pc lv (.long x :: st) v τ := fun H locs ls hP hS hl => lv_lstore_n C.1 C.2.1 hdg hi hl hn hl0 (fun ls' hl' => k9 H locs ls' hP hS hl')
theorem V_lstore (C : OK sh G p s m args meth c own cc nL ret A) {i : Nat} {x : Int64} (hdg : decode cc pc = .ok (.lstore i, 2)) (hn : i + 1 < nL) (hl0 : (i, (.long x : Value)) :: lv.filter (fun q => !(q.1 == i) && (!(q.1 == i + 1) && !(q.1 + 1 == i && q.2.category == 2))) = lv') (k9 : Vw sh G p l e d s m args below meth c nL A σ (pc + 2) lv' st v τ) : Vw sh G p l e d s m args below meth c nL A σ pc lv (.long x :: st) v τ := fun H locs ls hP hS hl => lv_lstore C.1 C.2.1 hdg hl hn hl0 (fun ls' hl' => k9 H locs ls' hP hS hl')
theorem V_astore_nN (C : OK sh G p s m args meth c own cc nL ret A) {k : Fin 4} {i : Nat}  (hdg : decode cc pc = .ok (.astore_n k, 1)) (hi : (k : Nat) = i) (hn : i < nL) (hl0 : (i, (.null : Value)) :: lv.filter (fun q => !(q.1 == i) && !(q.1 + 1 == i && q.2.category == 2)) = lv') (k9 : Vw sh G p l e d s m args below meth c nL A σ (pc + 1) lv' st v τ) : Vw sh G p l e d s m args below meth c nL A σ pc lv (.null :: st) v τ := fun H locs ls hP hS hl => lv_astore_nN C.1 C.2.1 hdg hi hl hn hl0 (fun ls' hl' => k9 H locs ls' hP hS hl')
theorem V_astoreN (C : OK sh G p s m args meth c own cc nL ret A) {i : Nat}  (hdg : decode cc pc = .ok (.astore i, 2)) (hn : i < nL) (hl0 : (i, (.null : Value)) :: lv.filter (fun q => !(q.1 == i) && !(q.1 + 1 == i && q.2.category == 2)) = lv') (k9 : Vw sh G p l e d s m args below meth c nL A σ (pc + 2) lv' st v τ) : Vw sh G p l e d s m args below meth c nL A σ pc lv (.null :: st) v τ := fun H locs ls hP hS hl => lv_astoreN C.1 C.2.1 hdg hl hn hl0 (fun ls' hl' => k9 H locs ls' hP hS hl')
theorem V_iinc (C : OK sh G p s m args meth c own cc nL ret A) {i : Nat} {n : Int} {x w : Int32} (q : Nat) (hdg : decode cc pc = .ok (.iinc i n, 3)) (hk : lv[q]? = some (i, .int x)) (hv : x + Int32.ofInt n = w) (hn : i < nL) (hl0 : (i, (.int w : Value)) :: lv.filter (fun q => !(q.1 == i) && !(q.1 + 1 == i && q.2.category == 2)) = lv') (k9 : Vw sh G p l e d s m args below meth c nL A σ (pc + 3) lv' st v τ) : Vw sh G p l e d s m args below meth c nL A σ pc lv st v τ := fun H locs ls hP hS hl => lv_iinc (k := q) C.1 C.2.1 hdg hl hk hv hn hl0 (fun ls' hl' => k9 H locs ls' hP hS hl')
theorem V_iconst (C : OK sh G p s m args meth c own cc nL ret A) {n : Int} {w : Int32} (hdg : decode cc pc = .ok (.iconst n, 1)) (hv : Int32.ofInt n = w) (k : Vw sh G p l e d s m args below meth c nL A σ (pc + 1) lv (.int w :: st) v τ) : Vw sh G p l e d s m args below meth c nL A σ pc lv (st) v τ := fun H locs ls hP hS hl => lv_iconst C.1 C.2.1 hdg hv (k H locs ls hP hS hl)
theorem V_bipush (C : OK sh G p s m args meth c own cc nL ret A) {n : Int} {w : Int32} (hdg : decode cc pc = .ok (.bipush n, 2)) (hv : (Int8.ofInt n).toInt32 = w) (k : Vw sh G p l e d s m args below meth c nL A σ (pc + 2) lv (.int w :: st) v τ) : Vw sh G p l e d s m args below meth c nL A σ pc lv (st) v τ := fun H locs ls hP hS hl => lv_bipush C.1 C.2.1 hdg hv (k H locs ls hP hS hl)
theorem V_sipush (C : OK sh G p s m args meth c own cc nL ret A) {n : Int} {w : Int32} (hdg : decode cc pc = .ok (.sipush n, 3)) (hv : (Int16.ofInt n).toInt32 = w) (k : Vw sh G p l e d s m args below meth c nL A σ (pc + 3) lv (.int w :: st) v τ) : Vw sh G p l e d s m args below meth c nL A σ pc lv (st) v τ := fun H locs ls hP hS hl => lv_sipush C.1 C.2.1 hdg hv (k H locs ls hP hS hl)
theorem V_lconst (C : OK sh G p s m args meth c own cc nL ret A) {n : Fin 2} {w : Int64} (hdg : decode cc pc = .ok (.lconst n, 1)) (hv : Int64.ofNat (n : Nat) = w) (k : Vw sh G p l e d s m args below meth c nL A σ (pc + 1) lv (.long w :: st) v τ) : Vw sh G p l e d s m args below meth c nL A σ pc lv (st) v τ := fun H locs ls hP hS hl => lv_lconst C.1 C.2.1 hdg hv (k H locs ls hP hS hl)
theorem V_null (C : OK sh G p s m args meth c own cc nL ret A)  (hdg : decode cc pc = .ok (.aconst_null, 1)) (k : Vw sh G p l e d s m args below meth c nL A σ (pc + 1) lv (.null :: st) v τ) : Vw sh G p l e d s m args below meth c nL A σ pc lv (st) v τ := fun H locs ls hP hS hl => lv_null C.1 C.2.1 hdg  (k H locs ls hP hS hl)
theorem V_iadd (C : OK sh G p s m args meth c own cc nL ret A) {x y : Int32} (hdg : decode cc pc = .ok (.iadd, 1)) (k : Vw sh G p l e d s m args below meth c nL A σ (pc + 1) lv (.int (x + y) :: st) v τ) : Vw sh G p l e d s m args below meth c nL A σ pc lv (.int y :: .int x :: st) v τ := fun H locs ls hP hS hl => lv_iadd C.1 C.2.1 hdg  (k H locs ls hP hS hl)
theorem V_isub (C : OK sh G p s m args meth c own cc nL ret A) {x y : Int32} (hdg : decode cc pc = .ok (.isub, 1)) (k : Vw sh G p l e d s m args below meth c nL A σ (pc + 1) lv (.int (x - y) :: st) v τ) : Vw sh G p l e d s m args below meth c nL A σ pc lv (.int y :: .int x :: st) v τ := fun H locs ls hP hS hl => lv_isub C.1 C.2.1 hdg  (k H locs ls hP hS hl)
theorem V_imul (C : OK sh G p s m args meth c own cc nL ret A) {x y : Int32} (hdg : decode cc pc = .ok (.imul, 1)) (k : Vw sh G p l e d s m args below meth c nL A σ (pc + 1) lv (.int (x * y) :: st) v τ) : Vw sh G p l e d s m args below meth c nL A σ pc lv (.int y :: .int x :: st) v τ := fun H locs ls hP hS hl => lv_imul C.1 C.2.1 hdg  (k H locs ls hP hS hl)
theorem V_iand (C : OK sh G p s m args meth c own cc nL ret A) {x y : Int32} (hdg : decode cc pc = .ok (.iand, 1)) (k : Vw sh G p l e d s m args below meth c nL A σ (pc + 1) lv (.int (x &&& y) :: st) v τ) : Vw sh G p l e d s m args below meth c nL A σ pc lv (.int y :: .int x :: st) v τ := fun H locs ls hP hS hl => lv_iand C.1 C.2.1 hdg  (k H locs ls hP hS hl)
theorem V_ior (C : OK sh G p s m args meth c own cc nL ret A) {x y : Int32} (hdg : decode cc pc = .ok (.ior, 1)) (k : Vw sh G p l e d s m args below meth c nL A σ (pc + 1) lv (.int (x ||| y) :: st) v τ) : Vw sh G p l e d s m args below meth c nL A σ pc lv (.int y :: .int x :: st) v τ := fun H locs ls hP hS hl => lv_ior C.1 C.2.1 hdg  (k H locs ls hP hS hl)
theorem V_ixor (C : OK sh G p s m args meth c own cc nL ret A) {x y : Int32} (hdg : decode cc pc = .ok (.ixor, 1)) (k : Vw sh G p l e d s m args below meth c nL A σ (pc + 1) lv (.int (x ^^^ y) :: st) v τ) : Vw sh G p l e d s m args below meth c nL A σ pc lv (.int y :: .int x :: st) v τ := fun H locs ls hP hS hl => lv_ixor C.1 C.2.1 hdg  (k H locs ls hP hS hl)
theorem V_ishl (C : OK sh G p s m args meth c own cc nL ret A) {x y : Int32} (hdg : decode cc pc = .ok (.ishl, 1)) (k : Vw sh G p l e d s m args below meth c nL A σ (pc + 1) lv (.int (x <<< (y &&& 31)) :: st) v τ) : Vw sh G p l e d s m args below meth c nL A σ pc lv (.int y :: .int x :: st) v τ := fun H locs ls hP hS hl => lv_ishl C.1 C.2.1 hdg  (k H locs ls hP hS hl)
theorem V_ishr (C : OK sh G p s m args meth c own cc nL ret A) {x y : Int32} (hdg : decode cc pc = .ok (.ishr, 1)) (k : Vw sh G p l e d s m args below meth c nL A σ (pc + 1) lv (.int (x >>> (y &&& 31)) :: st) v τ) : Vw sh G p l e d s m args below meth c nL A σ pc lv (.int y :: .int x :: st) v τ := fun H locs ls hP hS hl => lv_ishr C.1 C.2.1 hdg  (k H locs ls hP hS hl)
theorem V_idiv (C : OK sh G p s m args meth c own cc nL ret A) {x y : Int32} (hdg : decode cc pc = .ok (.idiv, 1)) (hne : ¬ y = 0) (k : Vw sh G p l e d s m args below meth c nL A σ (pc + 1) lv (.int (x / y) :: st) v τ) : Vw sh G p l e d s m args below meth c nL A σ pc lv (.int y :: .int x :: st) v τ := fun H locs ls hP hS hl => lv_idiv C.1 C.2.1 hdg hne (k H locs ls hP hS hl)
theorem V_irem (C : OK sh G p s m args meth c own cc nL ret A) {x y : Int32} (hdg : decode cc pc = .ok (.irem, 1)) (hne : ¬ y = 0) (k : Vw sh G p l e d s m args below meth c nL A σ (pc + 1) lv (.int (x - x / y * y) :: st) v τ) : Vw sh G p l e d s m args below meth c nL A σ pc lv (.int y :: .int x :: st) v τ := fun H locs ls hP hS hl => lv_irem C.1 C.2.1 hdg hne (k H locs ls hP hS hl)
theorem V_iushr (C : OK sh G p s m args meth c own cc nL ret A) {x y w : Int32} (hdg : decode cc pc = .ok (.iushr, 1)) (hv : (x.toUInt32 >>> (y.toUInt32 &&& Int32.toUInt32 31)).toInt32 = w) (k : Vw sh G p l e d s m args below meth c nL A σ (pc + 1) lv (.int w :: st) v τ) : Vw sh G p l e d s m args below meth c nL A σ pc lv (.int y :: .int x :: st) v τ := fun H locs ls hP hS hl => lv_iushr C.1 C.2.1 hdg hv (k H locs ls hP hS hl)
theorem V_ineg (C : OK sh G p s m args meth c own cc nL ret A) {x : Int32} (hdg : decode cc pc = .ok (.ineg, 1)) (k : Vw sh G p l e d s m args below meth c nL A σ (pc + 1) lv (.int (-x) :: st) v τ) : Vw sh G p l e d s m args below meth c nL A σ pc lv (.int x :: st) v τ := fun H locs ls hP hS hl => lv_ineg C.1 C.2.1 hdg  (k H locs ls hP hS hl)
theorem V_ladd (C : OK sh G p s m args meth c own cc nL ret A) {x y : Int64} (hdg : decode cc pc = .ok (.ladd, 1)) (k : Vw sh G p l e d s m args below meth c nL A σ (pc + 1) lv (.long (x + y) :: st) v τ) : Vw sh G p l e d s m args below meth c nL A σ pc lv (.long y :: .long x :: st) v τ := fun H locs ls hP hS hl => lv_ladd C.1 C.2.1 hdg  (k H locs ls hP hS hl)
theorem V_lsub (C : OK sh G p s m args meth c own cc nL ret A) {x y : Int64} (hdg : decode cc pc = .ok (.lsub, 1)) (k : Vw sh G p l e d s m args below meth c nL A σ (pc + 1) lv (.long (x - y) :: st) v τ) : Vw sh G p l e d s m args below meth c nL A σ pc lv (.long y :: .long x :: st) v τ := fun H locs ls hP hS hl => lv_lsub C.1 C.2.1 hdg  (k H locs ls hP hS hl)
theorem V_lmul (C : OK sh G p s m args meth c own cc nL ret A) {x y : Int64} (hdg : decode cc pc = .ok (.lmul, 1)) (k : Vw sh G p l e d s m args below meth c nL A σ (pc + 1) lv (.long (x * y) :: st) v τ) : Vw sh G p l e d s m args below meth c nL A σ pc lv (.long y :: .long x :: st) v τ := fun H locs ls hP hS hl => lv_lmul C.1 C.2.1 hdg  (k H locs ls hP hS hl)
theorem V_ldiv (C : OK sh G p s m args meth c own cc nL ret A) {x y : Int64} (hdg : decode cc pc = .ok (.ldiv, 1)) (hne : ¬ y = 0) (k : Vw sh G p l e d s m args below meth c nL A σ (pc + 1) lv (.long (x / y) :: st) v τ) : Vw sh G p l e d s m args below meth c nL A σ pc lv (.long y :: .long x :: st) v τ := fun H locs ls hP hS hl => lv_ldiv C.1 C.2.1 hdg hne (k H locs ls hP hS hl)
theorem V_lrem (C : OK sh G p s m args meth c own cc nL ret A) {x y : Int64} (hdg : decode cc pc = .ok (.lrem, 1)) (hne : ¬ y = 0) (k : Vw sh G p l e d s m args below meth c nL A σ (pc + 1) lv (.long (x - x / y * y) :: st) v τ) : Vw sh G p l e d s m args below meth c nL A σ pc lv (.long y :: .long x :: st) v τ := fun H locs ls hP hS hl => lv_lrem C.1 C.2.1 hdg hne (k H locs ls hP hS hl)
theorem V_lcmp (C : OK sh G p s m args meth c own cc nL ret A) {x y : Int64} (hdg : decode cc pc = .ok (.lcmp, 1)) (k : Vw sh G p l e d s m args below meth c nL A σ (pc + 1) lv (.int (lg_cmp x y) :: st) v τ) : Vw sh G p l e d s m args below meth c nL A σ pc lv (.long y :: .long x :: st) v τ := fun H locs ls hP hS hl => W.lcmp C.1 C.2.1 hdg  (k H locs ls hP hS hl)
theorem V_i2l (C : OK sh G p s m args meth c own cc nL ret A) {x : Int32} (hdg : decode cc pc = .ok (.i2l, 1)) (k : Vw sh G p l e d s m args below meth c nL A σ (pc + 1) lv (.long x.toInt64 :: st) v τ) : Vw sh G p l e d s m args below meth c nL A σ pc lv (.int x :: st) v τ := fun H locs ls hP hS hl => lv_i2l C.1 C.2.1 hdg rfl (k H locs ls hP hS hl)
theorem V_l2i (C : OK sh G p s m args meth c own cc nL ret A) {x : Int64} (hdg : decode cc pc = .ok (.l2i, 1)) (k : Vw sh G p l e d s m args below meth c nL A σ (pc + 1) lv (.int x.toInt32 :: st) v τ) : Vw sh G p l e d s m args below meth c nL A σ pc lv (.long x :: st) v τ := fun H locs ls hP hS hl => lv_l2i C.1 C.2.1 hdg rfl (k H locs ls hP hS hl)
theorem V_i2b (C : OK sh G p s m args meth c own cc nL ret A) {x : Int32} (hdg : decode cc pc = .ok (.i2b, 1)) (k : Vw sh G p l e d s m args below meth c nL A σ (pc + 1) lv (.int x.toInt8.toInt32 :: st) v τ) : Vw sh G p l e d s m args below meth c nL A σ pc lv (.int x :: st) v τ := fun H locs ls hP hS hl => lv_i2b C.1 C.2.1 hdg rfl (k H locs ls hP hS hl)
theorem V_i2s (C : OK sh G p s m args meth c own cc nL ret A) {x : Int32} (hdg : decode cc pc = .ok (.i2s, 1)) (k : Vw sh G p l e d s m args below meth c nL A σ (pc + 1) lv (.int x.toInt16.toInt32 :: st) v τ) : Vw sh G p l e d s m args below meth c nL A σ pc lv (.int x :: st) v τ := fun H locs ls hP hS hl => lv_i2s C.1 C.2.1 hdg rfl (k H locs ls hP hS hl)
theorem V_dup (C : OK sh G p s m args meth c own cc nL ret A) {va : Value} (hdg : decode cc pc = .ok (.dup, 1)) (h1 : va.category = 1) (k : Vw sh G p l e d s m args below meth c nL A σ (pc + 1) lv (va :: va :: st) v τ) : Vw sh G p l e d s m args below meth c nL A σ pc lv (va :: st) v τ := fun H locs ls hP hS hl => lv_dup C.1 C.2.1 hdg h1 (k H locs ls hP hS hl)
theorem V_pop (C : OK sh G p s m args meth c own cc nL ret A) {va : Value} (hdg : decode cc pc = .ok (.pop, 1)) (h1 : va.category = 1) (k : Vw sh G p l e d s m args below meth c nL A σ (pc + 1) lv (st) v τ) : Vw sh G p l e d s m args below meth c nL A σ pc lv (va :: st) v τ := fun H locs ls hP hS hl => lv_pop C.1 C.2.1 hdg h1 (k H locs ls hP hS hl)
theorem V_dup_x1 (C : OK sh G p s m args meth c own cc nL ret A) {va vb : Value} (hdg : decode cc pc = .ok (.dup_x1, 1)) (h1 : va.category = 1) (h2 : vb.category = 1) (k : Vw sh G p l e d s m args below meth c nL A σ (pc + 1) lv (va :: vb :: va :: st) v τ) : Vw sh G p l e d s m args below meth c nL A σ pc lv (va :: vb :: st) v τ := fun H locs ls hP hS hl => lv_dup_x1 C.1 C.2.1 hdg h1 h2 (k H locs ls hP hS hl)
theorem V_dup2 (C : OK sh G p s m args meth c own cc nL ret A) {va vb : Value} (hdg : decode cc pc = .ok (.dup2, 1)) (h1 : va.category = 1) (h2 : vb.category = 1) (k : Vw sh G p l e d s m args below meth c nL A σ (pc + 1) lv (va :: vb :: va :: vb :: st) v τ) : Vw sh G p l e d s m args below meth c nL A σ pc lv (va :: vb :: st) v τ := fun H locs ls hP hS hl => lv_dup2_11 C.1 C.2.1 hdg h1 h2 (k H locs ls hP hS hl)
theorem V_goto (C : OK sh G p s m args meth c own cc nL ret A) {off : Int} (tgt : Nat) (hdg : decode cc pc = .ok (.goto off, 3)) (ht : (pc : Int) + off = (tgt : Int)) (k : Vw sh G p l e d s m args below meth c nL A σ tgt lv st v τ) : Vw sh G p l e d s m args below meth c nL A σ pc lv st v τ := fun H locs ls hP hS hl => lv_goto C.1 C.2.1 hdg ht (k H locs ls hP hS hl)
theorem V_if_eqT (C : OK sh G p s m args meth c own cc nL ret A) {x : Int32} {off : Int} (tgt : Nat) (hdg : decode cc pc = .ok (.ifCond .eq off, 3)) (ht : (pc : Int) + off = (tgt : Int)) (hc : x = 0) (k : Vw sh G p l e d s m args below meth c nL A σ tgt lv st v τ) : Vw sh G p l e d s m args below meth c nL A σ pc lv (.int x :: st) v τ := fun H locs ls hP hS hl => lv_if_eq C.1 C.2.1 hdg ht (fun _ => (k H locs ls hP hS hl)) (fun h => absurd hc (by simpa using h))
theorem V_if_eqF (C : OK sh G p s m args meth c own cc nL ret A) {x : Int32} {off : Int} (tgt : Nat) (hdg : decode cc pc = .ok (.ifCond .eq off, 3)) (ht : (pc : Int) + off = (tgt : Int)) (hc : ¬ x = 0) (k : Vw sh G p l e d s m args below meth c nL A σ (pc + 3) lv st v τ) : Vw sh G p l e d s m args below meth c nL A σ pc lv (.int x :: st) v τ := fun H locs ls hP hS hl => lv_if_eq C.1 C.2.1 hdg ht (fun h => absurd h hc) (fun _ => (k H locs ls hP hS hl))
theorem V_icmp_eqT (C : OK sh G p s m args meth c own cc nL ret A) {x y : Int32} {off : Int} (tgt : Nat) (hdg : decode cc pc = .ok (.if_icmp .eq off, 3)) (ht : (pc : Int) + off = (tgt : Int)) (hc : x = y) (k : Vw sh G p l e d s m args below meth c nL A σ tgt lv st v τ) : Vw sh G p l e d s m args below meth c nL A σ pc lv (.int y :: .int x :: st) v τ := fun H locs ls hP hS hl => lv_icmp_eq C.1 C.2.1 hdg ht (fun _ => (k H locs ls hP hS hl)) (fun h => absurd hc (by simpa using h))
theorem V_icmp_eqF (C : OK sh G p s m args meth c own cc nL ret A) {x y : Int32} {off : Int} (tgt : Nat) (hdg : decode cc pc = .ok (.if_icmp .eq off, 3)) (ht : (pc : Int) + off = (tgt : Int)) (hc : ¬ x = y) (k : Vw sh G p l e d s m args below meth c nL A σ (pc + 3) lv st v τ) : Vw sh G p l e d s m args below meth c nL A σ pc lv (.int y :: .int x :: st) v τ := fun H locs ls hP hS hl => lv_icmp_eq C.1 C.2.1 hdg ht (fun h => absurd h hc) (fun _ => (k H locs ls hP hS hl))
theorem V_if_neT (C : OK sh G p s m args meth c own cc nL ret A) {x : Int32} {off : Int} (tgt : Nat) (hdg : decode cc pc = .ok (.ifCond .ne off, 3)) (ht : (pc : Int) + off = (tgt : Int)) (hc : ¬ x = 0) (k : Vw sh G p l e d s m args below meth c nL A σ tgt lv st v τ) : Vw sh G p l e d s m args below meth c nL A σ pc lv (.int x :: st) v τ := fun H locs ls hP hS hl => lv_if_ne C.1 C.2.1 hdg ht (fun _ => (k H locs ls hP hS hl)) (fun h => absurd h hc)
theorem V_if_neF (C : OK sh G p s m args meth c own cc nL ret A) {x : Int32} {off : Int} (tgt : Nat) (hdg : decode cc pc = .ok (.ifCond .ne off, 3)) (ht : (pc : Int) + off = (tgt : Int)) (hc : x = 0) (k : Vw sh G p l e d s m args below meth c nL A σ (pc + 3) lv st v τ) : Vw sh G p l e d s m args below meth c nL A σ pc lv (.int x :: st) v τ := fun H locs ls hP hS hl => lv_if_ne C.1 C.2.1 hdg ht (fun h => absurd hc h) (fun _ => (k H locs ls hP hS hl))
theorem V_icmp_neT (C : OK sh G p s m args meth c own cc nL ret A) {x y : Int32} {off : Int} (tgt : Nat) (hdg : decode cc pc = .ok (.if_icmp .ne off, 3)) (ht : (pc : Int) + off = (tgt : Int)) (hc : ¬ x = y) (k : Vw sh G p l e d s m args below meth c nL A σ tgt lv st v τ) : Vw sh G p l e d s m args below meth c nL A σ pc lv (.int y :: .int x :: st) v τ := fun H locs ls hP hS hl => lv_icmp_ne C.1 C.2.1 hdg ht (fun _ => (k H locs ls hP hS hl)) (fun h => absurd h hc)
theorem V_icmp_neF (C : OK sh G p s m args meth c own cc nL ret A) {x y : Int32} {off : Int} (tgt : Nat) (hdg : decode cc pc = .ok (.if_icmp .ne off, 3)) (ht : (pc : Int) + off = (tgt : Int)) (hc : x = y) (k : Vw sh G p l e d s m args below meth c nL A σ (pc + 3) lv st v τ) : Vw sh G p l e d s m args below meth c nL A σ pc lv (.int y :: .int x :: st) v τ := fun H locs ls hP hS hl => lv_icmp_ne C.1 C.2.1 hdg ht (fun h => absurd hc h) (fun _ => (k H locs ls hP hS hl))
theorem V_if_ltT (C : OK sh G p s m args meth c own cc nL ret A) {x : Int32} {off : Int} (tgt : Nat) (hdg : decode cc pc = .ok (.ifCond .lt off, 3)) (ht : (pc : Int) + off = (tgt : Int)) (hc : x < 0) (k : Vw sh G p l e d s m args below meth c nL A σ tgt lv st v τ) : Vw sh G p l e d s m args below meth c nL A σ pc lv (.int x :: st) v τ := fun H locs ls hP hS hl => lv_if_lt C.1 C.2.1 hdg ht (fun _ => (k H locs ls hP hS hl)) (fun h => absurd hc (by simpa using h))
theorem V_if_ltF (C : OK sh G p s m args meth c own cc nL ret A) {x : Int32} {off : Int} (tgt : Nat) (hdg : decode cc pc = .ok (.ifCond .lt off, 3)) (ht : (pc : Int) + off = (tgt : Int)) (hc : ¬ x < 0) (k : Vw sh G p l e d s m args below meth c nL A σ (pc + 3) lv st v τ) : Vw sh G p l e d s m args below meth c nL A σ pc lv (.int x :: st) v τ := fun H locs ls hP hS hl => lv_if_lt C.1 C.2.1 hdg ht (fun h => absurd h hc) (fun _ => (k H locs ls hP hS hl))
theorem V_icmp_ltT (C : OK sh G p s m args meth c own cc nL ret A) {x y : Int32} {off : Int} (tgt : Nat) (hdg : decode cc pc = .ok (.if_icmp .lt off, 3)) (ht : (pc : Int) + off = (tgt : Int)) (hc : x < y) (k : Vw sh G p l e d s m args below meth c nL A σ tgt lv st v τ) : Vw sh G p l e d s m args below meth c nL A σ pc lv (.int y :: .int x :: st) v τ := fun H locs ls hP hS hl => lv_icmp_lt C.1 C.2.1 hdg ht (fun _ => (k H locs ls hP hS hl)) (fun h => absurd hc (by simpa using h))
theorem V_icmp_ltF (C : OK sh G p s m args meth c own cc nL ret A) {x y : Int32} {off : Int} (tgt : Nat) (hdg : decode cc pc = .ok (.if_icmp .lt off, 3)) (ht : (pc : Int) + off = (tgt : Int)) (hc : ¬ x < y) (k : Vw sh G p l e d s m args below meth c nL A σ (pc + 3) lv st v τ) : Vw sh G p l e d s m args below meth c nL A σ pc lv (.int y :: .int x :: st) v τ := fun H locs ls hP hS hl => lv_icmp_lt C.1 C.2.1 hdg ht (fun h => absurd h hc) (fun _ => (k H locs ls hP hS hl))
theorem V_if_geT (C : OK sh G p s m args meth c own cc nL ret A) {x : Int32} {off : Int} (tgt : Nat) (hdg : decode cc pc = .ok (.ifCond .ge off, 3)) (ht : (pc : Int) + off = (tgt : Int)) (hc : 0 ≤ x) (k : Vw sh G p l e d s m args below meth c nL A σ tgt lv st v τ) : Vw sh G p l e d s m args below meth c nL A σ pc lv (.int x :: st) v τ := fun H locs ls hP hS hl => lv_if_ge C.1 C.2.1 hdg ht (fun _ => (k H locs ls hP hS hl)) (fun h => absurd hc (by simpa using h))
theorem V_if_geF (C : OK sh G p s m args meth c own cc nL ret A) {x : Int32} {off : Int} (tgt : Nat) (hdg : decode cc pc = .ok (.ifCond .ge off, 3)) (ht : (pc : Int) + off = (tgt : Int)) (hc : ¬ 0 ≤ x) (k : Vw sh G p l e d s m args below meth c nL A σ (pc + 3) lv st v τ) : Vw sh G p l e d s m args below meth c nL A σ pc lv (.int x :: st) v τ := fun H locs ls hP hS hl => lv_if_ge C.1 C.2.1 hdg ht (fun h => absurd h hc) (fun _ => (k H locs ls hP hS hl))
theorem V_icmp_geT (C : OK sh G p s m args meth c own cc nL ret A) {x y : Int32} {off : Int} (tgt : Nat) (hdg : decode cc pc = .ok (.if_icmp .ge off, 3)) (ht : (pc : Int) + off = (tgt : Int)) (hc : y ≤ x) (k : Vw sh G p l e d s m args below meth c nL A σ tgt lv st v τ) : Vw sh G p l e d s m args below meth c nL A σ pc lv (.int y :: .int x :: st) v τ := fun H locs ls hP hS hl => lv_icmp_ge C.1 C.2.1 hdg ht (fun _ => (k H locs ls hP hS hl)) (fun h => absurd hc (by simpa using h))
theorem V_icmp_geF (C : OK sh G p s m args meth c own cc nL ret A) {x y : Int32} {off : Int} (tgt : Nat) (hdg : decode cc pc = .ok (.if_icmp .ge off, 3)) (ht : (pc : Int) + off = (tgt : Int)) (hc : ¬ y ≤ x) (k : Vw sh G p l e d s m args below meth c nL A σ (pc + 3) lv st v τ) : Vw sh G p l e d s m args below meth c nL A σ pc lv (.int y :: .int x :: st) v τ := fun H locs ls hP hS hl => lv_icmp_ge C.1 C.2.1 hdg ht (fun h => absurd h hc) (fun _ => (k H locs ls hP hS hl))
theorem V_if_gtT (C : OK sh G p s m args meth c own cc nL ret A) {x : Int32} {off : Int} (tgt : Nat) (hdg : decode cc pc = .ok (.ifCond .gt off, 3)) (ht : (pc : Int) + off = (tgt : Int)) (hc : 0 < x) (k : Vw sh G p l e d s m args below meth c nL A σ tgt lv st v τ) : Vw sh G p l e d s m args below meth c nL A σ pc lv (.int x :: st) v τ := fun H locs ls hP hS hl => lv_if_gt C.1 C.2.1 hdg ht (fun _ => (k H locs ls hP hS hl)) (fun h => absurd hc (by simpa using h))
theorem V_if_gtF (C : OK sh G p s m args meth c own cc nL ret A) {x : Int32} {off : Int} (tgt : Nat) (hdg : decode cc pc = .ok (.ifCond .gt off, 3)) (ht : (pc : Int) + off = (tgt : Int)) (hc : ¬ 0 < x) (k : Vw sh G p l e d s m args below meth c nL A σ (pc + 3) lv st v τ) : Vw sh G p l e d s m args below meth c nL A σ pc lv (.int x :: st) v τ := fun H locs ls hP hS hl => lv_if_gt C.1 C.2.1 hdg ht (fun h => absurd h hc) (fun _ => (k H locs ls hP hS hl))
theorem V_icmp_gtT (C : OK sh G p s m args meth c own cc nL ret A) {x y : Int32} {off : Int} (tgt : Nat) (hdg : decode cc pc = .ok (.if_icmp .gt off, 3)) (ht : (pc : Int) + off = (tgt : Int)) (hc : y < x) (k : Vw sh G p l e d s m args below meth c nL A σ tgt lv st v τ) : Vw sh G p l e d s m args below meth c nL A σ pc lv (.int y :: .int x :: st) v τ := fun H locs ls hP hS hl => lv_icmp_gt C.1 C.2.1 hdg ht (fun _ => (k H locs ls hP hS hl)) (fun h => absurd hc (by simpa using h))
theorem V_icmp_gtF (C : OK sh G p s m args meth c own cc nL ret A) {x y : Int32} {off : Int} (tgt : Nat) (hdg : decode cc pc = .ok (.if_icmp .gt off, 3)) (ht : (pc : Int) + off = (tgt : Int)) (hc : ¬ y < x) (k : Vw sh G p l e d s m args below meth c nL A σ (pc + 3) lv st v τ) : Vw sh G p l e d s m args below meth c nL A σ pc lv (.int y :: .int x :: st) v τ := fun H locs ls hP hS hl => lv_icmp_gt C.1 C.2.1 hdg ht (fun h => absurd h hc) (fun _ => (k H locs ls hP hS hl))
theorem V_if_leT (C : OK sh G p s m args meth c own cc nL ret A) {x : Int32} {off : Int} (tgt : Nat) (hdg : decode cc pc = .ok (.ifCond .le off, 3)) (ht : (pc : Int) + off = (tgt : Int)) (hc : x ≤ 0) (k : Vw sh G p l e d s m args below meth c nL A σ tgt lv st v τ) : Vw sh G p l e d s m args below meth c nL A σ pc lv (.int x :: st) v τ := fun H locs ls hP hS hl => lv_if_le C.1 C.2.1 hdg ht (fun _ => (k H locs ls hP hS hl)) (fun h => absurd hc (by simpa using h))
theorem V_if_leF (C : OK sh G p s m args meth c own cc nL ret A) {x : Int32} {off : Int} (tgt : Nat) (hdg : decode cc pc = .ok (.ifCond .le off, 3)) (ht : (pc : Int) + off = (tgt : Int)) (hc : ¬ x ≤ 0) (k : Vw sh G p l e d s m args below meth c nL A σ (pc + 3) lv st v τ) : Vw sh G p l e d s m args below meth c nL A σ pc lv (.int x :: st) v τ := fun H locs ls hP hS hl => lv_if_le C.1 C.2.1 hdg ht (fun h => absurd h hc) (fun _ => (k H locs ls hP hS hl))
theorem V_icmp_leT (C : OK sh G p s m args meth c own cc nL ret A) {x y : Int32} {off : Int} (tgt : Nat) (hdg : decode cc pc = .ok (.if_icmp .le off, 3)) (ht : (pc : Int) + off = (tgt : Int)) (hc : x ≤ y) (k : Vw sh G p l e d s m args below meth c nL A σ tgt lv st v τ) : Vw sh G p l e d s m args below meth c nL A σ pc lv (.int y :: .int x :: st) v τ := fun H locs ls hP hS hl => lv_icmp_le C.1 C.2.1 hdg ht (fun _ => (k H locs ls hP hS hl)) (fun h => absurd hc (by simpa using h))
theorem V_icmp_leF (C : OK sh G p s m args meth c own cc nL ret A) {x y : Int32} {off : Int} (tgt : Nat) (hdg : decode cc pc = .ok (.if_icmp .le off, 3)) (ht : (pc : Int) + off = (tgt : Int)) (hc : ¬ x ≤ y) (k : Vw sh G p l e d s m args below meth c nL A σ (pc + 3) lv st v τ) : Vw sh G p l e d s m args below meth c nL A σ pc lv (.int y :: .int x :: st) v τ := fun H locs ls hP hS hl => lv_icmp_le C.1 C.2.1 hdg ht (fun h => absurd h hc) (fun _ => (k H locs ls hP hS hl))
theorem V_ifnullT (C : OK sh G p s m args meth c own cc nL ret A) {off : Int} (tgt : Nat) (hdg : decode cc pc = .ok (.ifnull off, 3)) (ht : (pc : Int) + off = (tgt : Int)) (k : Vw sh G p l e d s m args below meth c nL A σ tgt lv st v τ) : Vw sh G p l e d s m args below meth c nL A σ pc lv (.null :: st) v τ := fun H locs ls hP hS hl => lv_ifnullN C.1 C.2.1 hdg ht (k H locs ls hP hS hl)
theorem V_ifnullF (C : OK sh G p s m args meth c own cc nL ret A) {off : Int} {x : Nat} (hdg : decode cc pc = .ok (.ifnull off, 3)) (k : Vw sh G p l e d s m args below meth c nL A σ (pc + 3) lv st v τ) : Vw sh G p l e d s m args below meth c nL A σ pc lv (.ref x :: st) v τ := fun H locs ls hP hS hl => lv_ifnull C.1 C.2.1 hdg (k H locs ls hP hS hl)
theorem V_ifnonnullT (C : OK sh G p s m args meth c own cc nL ret A) {off : Int} {x : Nat} (tgt : Nat) (hdg : decode cc pc = .ok (.ifnonnull off, 3)) (ht : (pc : Int) + off = (tgt : Int)) (k : Vw sh G p l e d s m args below meth c nL A σ tgt lv st v τ) : Vw sh G p l e d s m args below meth c nL A σ pc lv (.ref x :: st) v τ := fun H locs ls hP hS hl => lv_ifnonnull C.1 C.2.1 hdg ht (k H locs ls hP hS hl)
theorem V_ifnonnullF (C : OK sh G p s m args meth c own cc nL ret A) {off : Int} (hdg : decode cc pc = .ok (.ifnonnull off, 3)) (k : Vw sh G p l e d s m args below meth c nL A σ (pc + 3) lv st v τ) : Vw sh G p l e d s m args below meth c nL A σ pc lv (.null :: st) v τ := fun H locs ls hP hS hl => lv_ifnonnullN C.1 C.2.1 hdg (k H locs ls hP hS hl)
theorem V_tableIn (C : OK sh G p s m args meth c own cc nL ret A) {dflt lo hi : Int} {offs : Array Int} {len : Nat} {x : Int32} {off : Int} (tgt : Nat) (hdg : decode cc pc = .ok (.tableswitch dflt lo hi offs, len)) (h1 : ¬ x.toInt < lo ∧ ¬ hi < x.toInt ∧ offs[(x.toInt - lo).toNat]? = some off) (ht : (pc : Int) + off = (tgt : Int)) (k : Vw sh G p l e d s m args below meth c nL A σ tgt lv st v τ) : Vw sh G p l e d s m args below meth c nL A σ pc lv (.int x :: st) v τ := fun H locs ls hP hS hl => lv_tableIn C.1 C.2.1 hdg h1.1 h1.2.1 h1.2.2 ht (k H locs ls hP hS hl)
theorem V_tableOut (C : OK sh G p s m args meth c own cc nL ret A) {dflt lo hi : Int} {offs : Array Int} {len : Nat} {x : Int32} (tgt : Nat) (hdg : decode cc pc = .ok (.tableswitch dflt lo hi offs, len)) (h : x.toInt < lo ∨ hi < x.toInt) (ht : (pc : Int) + dflt = (tgt : Int)) (k : Vw sh G p l e d s m args below meth c nL A σ tgt lv st v τ) : Vw sh G p l e d s m args below meth c nL A σ pc lv (.int x :: st) v τ := fun H locs ls hP hS hl => lv_tableOut C.1 C.2.1 hdg h ht (k H locs ls hP hS hl)
theorem V_lookup (C : OK sh G p s m args meth c own cc nL ret A) {dflt : Int} {ps : Array (Int × Int)} {len : Nat} {x : Int32} {off : Int} (tgt : Nat) (hdg : decode cc pc = .ok (.lookupswitch dflt ps, len)) (hp : (ps.toList.zip (ps.toList.drop 1)).all (fun (a, next) => a.1 < next.1) = true) (ho : Op.lookupswitch.offset ps.toList dflt x.toInt = off) (ht : (pc : Int) + off = (tgt : Int)) (k : Vw sh G p l e d s m args below meth c nL A σ tgt lv st v τ) : Vw sh G p l e d s m args below meth c nL A σ pc lv (.int x :: st) v τ := fun H locs ls hP hS hl => lv_lookup C.1 C.2.1 hdg hp ho ht (k H locs ls hP hS hl)
theorem V_ldc (C : OK sh G p s m args meth c own cc nL ret A) {index : Nat} {w : Int32} (hdg : decode cc pc = .ok (.ldc index, 2)) (hw : Jvm.Cond.constant own index w ∈ wsL_law) (k : Vw sh G p l e d s m args below meth c nL A σ (pc + 2) lv (.int w :: st) v τ) : Vw sh G p l e d s m args below meth c nL A σ pc lv st v τ := fun H locs ls hP hS hl => lv_ldc C.1 C.2.1 C.2.2.2.1 (C.2.2.2.2.1 _ hw) hdg (k H locs ls hP hS hl)
theorem V_ldcw (C : OK sh G p s m args meth c own cc nL ret A) {index : Nat} {w : Int32} (hdg : decode cc pc = .ok (.ldc_w index, 3)) (hw : Jvm.Cond.constant own index w ∈ wsL_law) (k : Vw sh G p l e d s m args below meth c nL A σ (pc + 3) lv (.int w :: st) v τ) : Vw sh G p l e d s m args below meth c nL A σ pc lv st v τ := fun H locs ls hP hS hl => lv_ldcw C.1 C.2.1 C.2.2.2.1 (C.2.2.2.2.1 _ hw) hdg (k H locs ls hP hS hl)
theorem V_ldc2 (C : OK sh G p s m args meth c own cc nL ret A) {index : Nat} {w : Int64} (hdg : decode cc pc = .ok (.ldc2_w index, 3)) (hw : Jvm.Cond.constantLong own index w ∈ wsL_law) (k : Vw sh G p l e d s m args below meth c nL A σ (pc + 3) lv (.long w :: st) v τ) : Vw sh G p l e d s m args below meth c nL A σ pc lv st v τ := fun H locs ls hP hS hl => lv_ldc2 C.1 C.2.1 C.2.2.2.1 (C.2.2.2.2.1 _ hw) hdg (k H locs ls hP hS hl)
theorem V_sub  (ks : List Nat) (h : lv_pick lv ks = lv') (k : Vw sh G p l e d s m args below meth c nL A σ pc lv' st v τ) : Vw sh G p l e d s m args below meth c nL A σ pc lv st v τ := fun H locs ls hP hS hl => k H locs ls hP hS (lv_sub hl ks h)
theorem V_getI (C : OK sh G p s m args meth c own cc nL ret A) {k ci j index : Nat} {nm dn ref : String} {T : u_T} {Nc : Nat} {C0 : String} (hk : k < sh.1) (hc : sh.2.1 k = ci) (hcl : vwCl[ci]? = some (C0, T, Nc)) (hci : ci < 20) (hln : sh.2.2.1 k = Nc) (hin : ∀ w ∈ u_ws C0 T Nc, w ∈ wsL_law) (hj : j < Nc) (hf : fk ci j = 0) (hT : (T j).1 = ref) (hw : Cond.fieldLink own index ref (T j).2.1 (T j).2.2.1 ∈ wsL_law) (hdg : decode cc pc = .ok (.getfield index, 3)) (k9 : Vw sh G p l e d s m args below meth c nL A σ (pc + 3) lv (.int (σ.1 k j) :: st) v τ) : Vw sh G p l e d s m args below meth c nL A σ pc lv (.ref (G.2.1 k) :: st) v τ := by
  intro H locs ls hP hS hl
  subst hc
  have he : (Wd sh G σ)[k]? = some (G.2.1 k, .inr (sh.2.1 k, fl sh G σ k)) := by rw [Wd_at hk, ce, if_pos hci]
  have hv : (fl sh G σ k)[j]? = some (.int (σ.1 k j)) := by rw [fl_at (by rw [hln]; exact hj), fv, if_pos hf]
  exact va_get C.1 C.2.1 C.2.2.2.2.1 hin C.2.2.2.1 C.2.2.2.2.2.2.2.1 hP k he hcl j hj (C.2.2.2.2.1 _ hw) (fun x hx => by rw [← hT]; exact hx) hv hdg (k9 H locs ls hP hS hl)
theorem V_getR (C : OK sh G p s m args meth c own cc nL ret A) {k ci j r index : Nat} {ref : String} {T : u_T} {Nc : Nat} {C0 : String} (hk : k < sh.1) (hc : sh.2.1 k = ci) (hcl : vwCl[ci]? = some (C0, T, Nc)) (hci : ci < 20) (hln : sh.2.2.1 k = Nc) (hin : ∀ w ∈ u_ws C0 T Nc, w ∈ wsL_law) (hj : j < Nc) (hf : fk ci j = 2) (hT : (T j).1 = ref) (hr : sh.2.2.2 k j = r) (hw : Cond.fieldLink own index ref (T j).2.1 (T j).2.2.1 ∈ wsL_law) (hdg : decode cc pc = .ok (.getfield index, 3)) (k9 : Vw sh G p l e d s m args below meth c nL A σ (pc + 3) lv (.ref (G.2.1 r) :: st) v τ) : Vw sh G p l e d s m args below meth c nL A σ pc lv (.ref (G.2.1 k) :: st) v τ := by
  intro H locs ls hP hS hl
  subst hc
  subst hr
  have he : (Wd sh G σ)[k]? = some (G.2.1 k, .inr (sh.2.1 k, fl sh G σ k)) := by rw [Wd_at hk, ce, if_pos hci]
  have hv : (fl sh G σ k)[j]? = some (.ref (G.2.1 (sh.2.2.2 k j))) := by rw [fl_at (by rw [hln]; exact hj), fv, if_neg (by rw [hf]; decide), if_neg (by rw [hf]; decide)]
  exact va_get C.1 C.2.1 C.2.2.2.2.1 hin C.2.2.2.1 C.2.2.2.2.2.2.2.1 hP k he hcl j hj (C.2.2.2.2.1 _ hw) (fun x hx => by rw [← hT]; exact hx) hv hdg (k9 H locs ls hP hS hl)
theorem V_getL (C : OK sh G p s m args meth c own cc nL ret A) {k ci j index : Nat} {ref : String} {T : u_T} {Nc : Nat} {C0 : String} (hk : k < sh.1) (hc : sh.2.1 k = ci) (hcl : vwCl[ci]? = some (C0, T, Nc)) (hci : ci < 20) (hln : sh.2.2.1 k = Nc) (hin : ∀ w ∈ u_ws C0 T Nc, w ∈ wsL_law) (hj : j < Nc) (hf : fk ci j = 1) (hT : (T j).1 = ref) (hw : Cond.fieldLink own index ref (T j).2.1 (T j).2.2.1 ∈ wsL_law) (hdg : decode cc pc = .ok (.getfield index, 3)) (k9 : Vw sh G p l e d s m args below meth c nL A σ (pc + 3) lv (.long σ.2 :: st) v τ) : Vw sh G p l e d s m args below meth c nL A σ pc lv (.ref (G.2.1 k) :: st) v τ := by
  intro H locs ls hP hS hl
  subst hc
  have he : (Wd sh G σ)[k]? = some (G.2.1 k, .inr (sh.2.1 k, fl sh G σ k)) := by rw [Wd_at hk, ce, if_pos hci]
  have hv : (fl sh G σ k)[j]? = some (.long σ.2) := by rw [fl_at (by rw [hln]; exact hj), fv, if_neg (by rw [hf]; decide), if_pos hf]
  exact va_get C.1 C.2.1 C.2.2.2.2.1 hin C.2.2.2.1 C.2.2.2.2.2.2.2.1 hP k he hcl j hj (C.2.2.2.2.1 _ hw) (fun x hx => by rw [← hT]; exact hx) hv hdg (k9 H locs ls hP hS hl)
theorem V_putI (C : OK sh G p s m args meth c own cc nL ret A) {k ci j index : Nat} {x : Int32} {ref : String} {T : u_T} {Nc : Nat} {C0 : String} (ty0 : Nat → FieldType) {ty : FieldType} (hk : k < sh.1) (hc : sh.2.1 k = ci) (hcl : vwCl[ci]? = some (C0, T, Nc)) (hci : ci < 20) (hln : sh.2.2.1 k = Nc) (hin : ∀ w ∈ u_ws C0 T Nc, w ∈ wsL_law) (hty : ∀ k, k < Nc → parseFieldDescriptor (T k).2.2.1 = some (ty0 k)) (hnm : ∀ a, a < Nc → ∀ b, b < Nc → a ≠ b → (T a).2.1 ≠ (T b).2.1) (hj : j < Nc) (hf : fk ci j = 0) (hT : (T j).1 = ref) (hfin : (T j).2.2.2 = false) (hd : ty0 j = ty) (hn : narrow ty (.int x) = .int x) (hfit : fits ty (.int x) = true) (hw : Cond.fieldLink own index ref (T j).2.1 (T j).2.2.1 ∈ wsL_law) (hdg : decode cc pc = .ok (.putfield index, 3)) (k9 : Vw sh G p l e d s m args below meth c nL A (up σ k j x) (pc + 3) lv st v τ) : Vw sh G p l e d s m args below meth c nL A σ pc lv (.int x :: .ref (G.2.1 k) :: st) v τ := by
  intro H locs ls hP hS hl
  subst hc
  have he : (Wd sh G σ)[k]? = some (G.2.1 k, .inr (sh.2.1 k, fl sh G σ k)) := by rw [Wd_at hk, ce, if_pos hci]
  have hjl : j < sh.2.2.1 k := by rw [hln]; exact hj
  have hs1 : (fl sh G σ k).set j (.int x) = fl sh G (up σ k j x) k := by
    refine fl_set hjl ?_ (fun i hi => ?_)
    · simp only [fv, if_pos hf]
      simp [up]
    · simp only [fv]
      have h5 : (up σ k j x).1 k i = σ.1 k i := by simp [up, hi]
      rw [h5]
      rfl
  have hset : (Wd sh G σ).set k (G.2.1 k, .inr (sh.2.1 k, (fl sh G σ k).set j (.int x))) = Wd sh G (up σ k j x) := by
    refine Wd_set hk ?_ (fun i hi => ce_same (up_ne hi) (Or.inl rfl))
    rw [ce, if_pos hci, hs1]
  have hD : va_D A (Wd sh G σ) := by rw [C.2.2.2.2.2.2.2.2.2.2]; exact Wd_D C.2.2.2.2.2.2.2.2.1
  refine va_put C.1 C.2.1 C.2.2.2.2.1 hin ty0 hty hnm C.2.2.2.1 C.2.2.2.2.2.2.2.1 hP hD hS k he hcl j hj (C.2.2.2.2.1 _ hw) (fun x hx => by rw [← hT]; exact hx) hfin (hty j hj) (by rw [hd]; exact hn) (by rw [hd]; exact hfit) (by rw [fl_len]; exact hjl) hdg (fun H1 locs1 hP1 _ hS1 => ?_)
  rw [hset] at hP1
  exact k9 H1 locs1 ls hP1 hS1 hl
theorem V_putL (C : OK sh G p s m args meth c own cc nL ret A) {k ci j index : Nat} {x : Int64} {ref : String} {T : u_T} {Nc : Nat} {C0 : String} (ty0 : Nat → FieldType) (hk : k < sh.1) (hc : sh.2.1 k = ci) (hcl : vwCl[ci]? = some (C0, T, Nc)) (hci : ci < 20) (hln : sh.2.2.1 k = Nc) (hin : ∀ w ∈ u_ws C0 T Nc, w ∈ wsL_law) (hty : ∀ k, k < Nc → parseFieldDescriptor (T k).2.2.1 = some (ty0 k)) (hnm : ∀ a, a < Nc → ∀ b, b < Nc → a ≠ b → (T a).2.1 ≠ (T b).2.1) (hj : j < Nc) (hf : fk ci j = 1) (hfo : ∀ i, i ≠ j → fk ci i ≠ 1) (ho : ∀ i, i ≠ k → sh.2.1 i ≠ 10) (hT : (T j).1 = ref) (hfin : (T j).2.2.2 = false) (hd : ty0 j = .long) (hw : Cond.fieldLink own index ref (T j).2.1 (T j).2.2.1 ∈ wsL_law) (hdg : decode cc pc = .ok (.putfield index, 3)) (k9 : Vw sh G p l e d s m args below meth c nL A (upL σ x) (pc + 3) lv st v τ) : Vw sh G p l e d s m args below meth c nL A σ pc lv (.long x :: .ref (G.2.1 k) :: st) v τ := by
  intro H locs ls hP hS hl
  subst hc
  have he : (Wd sh G σ)[k]? = some (G.2.1 k, .inr (sh.2.1 k, fl sh G σ k)) := by rw [Wd_at hk, ce, if_pos hci]
  have hjl : j < sh.2.2.1 k := by rw [hln]; exact hj
  have hs1 : (fl sh G σ k).set j (.long x) = fl sh G (upL σ x) k := by
    refine fl_set hjl ?_ (fun i hi => ?_)
    · simp only [fv, if_neg (show ¬ fk (sh.2.1 k) j = 0 by rw [hf]; decide), if_pos hf]
      rfl
    · simp only [fv, if_neg (hfo i hi)]
      rfl
  have hset : (Wd sh G σ).set k (G.2.1 k, .inr (sh.2.1 k, (fl sh G σ k).set j (.long x))) = Wd sh G (upL σ x) := by
    refine Wd_set hk ?_ (fun i hi => ce_same rfl (Or.inr (ho i hi)))
    rw [ce, if_pos hci, hs1]
  have hD : va_D A (Wd sh G σ) := by rw [C.2.2.2.2.2.2.2.2.2.2]; exact Wd_D C.2.2.2.2.2.2.2.2.1
  refine va_put C.1 C.2.1 C.2.2.2.2.1 hin ty0 hty hnm C.2.2.2.1 C.2.2.2.2.2.2.2.1 hP hD hS k he hcl j hj (C.2.2.2.2.1 _ hw) (fun x hx => by rw [← hT]; exact hx) hfin (hty j hj) (by rw [hd]; rfl) (by rw [hd]; rfl) (by rw [fl_len]; exact hjl) hdg (fun H1 locs1 hP1 _ hS1 => ?_)
  rw [hset] at hP1
  exact k9 H1 locs1 ls hP1 hS1 hl
theorem V_getIN (C : OK sh G p s m args meth c own cc nL ret A) {k ci j index : Nat} {ref host : String} {T : u_T} {Nc : Nat} {C0 : String} (hk : k < sh.1) (hc : sh.2.1 k = ci) (hcl : vwCl[ci]? = some (C0, T, Nc)) (hci : ci < 20) (hln : sh.2.2.1 k = Nc) (hin : ∀ w ∈ u_ws C0 T Nc, w ∈ wsL_law) (hj : j < Nc) (hf : fk ci j = 0) (hT : (T j).1 = ref) (hw : Cond.fieldLinkNest own index ref (T j).2.1 (T j).2.2.1 host ∈ nws) (hdg : decode cc pc = .ok (.getfield index, 3)) (k9 : Vw sh G p l e d s m args below meth c nL A σ (pc + 3) lv (.int (σ.1 k j) :: st) v τ) : Vw sh G p l e d s m args below meth c nL A σ pc lv (.ref (G.2.1 k) :: st) v τ := by
  intro H locs ls hP hS hl
  subst hc
  have he : (Wd sh G σ)[k]? = some (G.2.1 k, .inr (sh.2.1 k, fl sh G σ k)) := by rw [Wd_at hk, ce, if_pos hci]
  have hv : (fl sh G σ k)[j]? = some (.int (σ.1 k j)) := by rw [fl_at (by rw [hln]; exact hj), fv, if_pos hf]
  exact va_getN C.1 C.2.1 C.2.2.2.2.1 hin C.2.2.2.1 C.2.2.2.2.2.2.2.1 hP k he hcl j hj (va_Nw.use rfl (C.2.2.2.2.2.2.2.2.2.1.2.2.2.1 _ hw)) (fun x hx => by rw [← hT]; exact hx) hv hdg (k9 H locs ls hP hS hl)
theorem V_getRN (C : OK sh G p s m args meth c own cc nL ret A) {k ci j r index : Nat} {ref host : String} {T : u_T} {Nc : Nat} {C0 : String} (hk : k < sh.1) (hc : sh.2.1 k = ci) (hcl : vwCl[ci]? = some (C0, T, Nc)) (hci : ci < 20) (hln : sh.2.2.1 k = Nc) (hin : ∀ w ∈ u_ws C0 T Nc, w ∈ wsL_law) (hj : j < Nc) (hf : fk ci j = 2) (hT : (T j).1 = ref) (hr : sh.2.2.2 k j = r) (hw : Cond.fieldLinkNest own index ref (T j).2.1 (T j).2.2.1 host ∈ nws) (hdg : decode cc pc = .ok (.getfield index, 3)) (k9 : Vw sh G p l e d s m args below meth c nL A σ (pc + 3) lv (.ref (G.2.1 r) :: st) v τ) : Vw sh G p l e d s m args below meth c nL A σ pc lv (.ref (G.2.1 k) :: st) v τ := by
  intro H locs ls hP hS hl
  subst hc
  subst hr
  have he : (Wd sh G σ)[k]? = some (G.2.1 k, .inr (sh.2.1 k, fl sh G σ k)) := by rw [Wd_at hk, ce, if_pos hci]
  have hv : (fl sh G σ k)[j]? = some (.ref (G.2.1 (sh.2.2.2 k j))) := by rw [fl_at (by rw [hln]; exact hj), fv, if_neg (by rw [hf]; decide), if_neg (by rw [hf]; decide)]
  exact va_getN C.1 C.2.1 C.2.2.2.2.1 hin C.2.2.2.1 C.2.2.2.2.2.2.2.1 hP k he hcl j hj (va_Nw.use rfl (C.2.2.2.2.2.2.2.2.2.1.2.2.2.1 _ hw)) (fun x hx => by rw [← hT]; exact hx) hv hdg (k9 H locs ls hP hS hl)
theorem V_putIN (C : OK sh G p s m args meth c own cc nL ret A) {k ci j index : Nat} {x : Int32} {ref host : String} {T : u_T} {Nc : Nat} {C0 : String} (ty0 : Nat → FieldType) {ty : FieldType} (hk : k < sh.1) (hc : sh.2.1 k = ci) (hcl : vwCl[ci]? = some (C0, T, Nc)) (hci : ci < 20) (hln : sh.2.2.1 k = Nc) (hin : ∀ w ∈ u_ws C0 T Nc, w ∈ wsL_law) (hty : ∀ k, k < Nc → parseFieldDescriptor (T k).2.2.1 = some (ty0 k)) (hnm : ∀ a, a < Nc → ∀ b, b < Nc → a ≠ b → (T a).2.1 ≠ (T b).2.1) (hj : j < Nc) (hf : fk ci j = 0) (hT : (T j).1 = ref) (hfin : (T j).2.2.2 = false) (hd : ty0 j = ty) (hn : narrow ty (.int x) = .int x) (hfit : fits ty (.int x) = true) (hw : Cond.fieldLinkNest own index ref (T j).2.1 (T j).2.2.1 host ∈ nws) (hdg : decode cc pc = .ok (.putfield index, 3)) (k9 : Vw sh G p l e d s m args below meth c nL A (up σ k j x) (pc + 3) lv st v τ) : Vw sh G p l e d s m args below meth c nL A σ pc lv (.int x :: .ref (G.2.1 k) :: st) v τ := by
  intro H locs ls hP hS hl
  subst hc
  have he : (Wd sh G σ)[k]? = some (G.2.1 k, .inr (sh.2.1 k, fl sh G σ k)) := by rw [Wd_at hk, ce, if_pos hci]
  have hjl : j < sh.2.2.1 k := by rw [hln]; exact hj
  have hs1 : (fl sh G σ k).set j (.int x) = fl sh G (up σ k j x) k := by
    refine fl_set hjl ?_ (fun i hi => ?_)
    · simp only [fv, if_pos hf]
      simp [up]
    · simp only [fv]
      have h5 : (up σ k j x).1 k i = σ.1 k i := by simp [up, hi]
      rw [h5]
      rfl
  have hset : (Wd sh G σ).set k (G.2.1 k, .inr (sh.2.1 k, (fl sh G σ k).set j (.int x))) = Wd sh G (up σ k j x) := by
    refine Wd_set hk ?_ (fun i hi => ce_same (up_ne hi) (Or.inl rfl))
    rw [ce, if_pos hci, hs1]
  have hD : va_D A (Wd sh G σ) := by rw [C.2.2.2.2.2.2.2.2.2.2]; exact Wd_D C.2.2.2.2.2.2.2.2.1
  refine va_putN C.1 C.2.1 C.2.2.2.2.1 hin ty0 hty hnm C.2.2.2.1 C.2.2.2.2.2.2.2.1 hP hD hS k he hcl j hj (va_Nw.use rfl (C.2.2.2.2.2.2.2.2.2.1.2.2.2.1 _ hw)) (fun x hx => by rw [← hT]; exact hx) hfin (hty j hj) (by rw [hd]; exact hn) (by rw [hd]; exact hfit) (by rw [fl_len]; exact hjl) hdg (fun H1 locs1 hP1 _ hS1 => ?_)
  rw [hset] at hP1
  exact k9 H1 locs1 ls hP1 hS1 hl
theorem ce_ai {k : Nat} (h : sh.2.1 k = 20 ∨ sh.2.1 k = 21) : ce sh G σ k = .inl (G.2.2.1 (sh.2.1 k - 20), sh.2.2.1 k, .inl (σ.1 k)) := by
  rw [ce, if_neg (by omega), if_pos (by omega)]
theorem V_iald (C : OK sh G p s m args meth c own cc nL ret A) {k : Nat} {i : Int32} (hk : k < sh.1) (hc : sh.2.1 k = 20) (hi : vp_in i (sh.2.2.1 k)) (hdg : decode cc pc = .ok (.iaload, 1)) (k9 : Vw sh G p l e d s m args below meth c nL A σ (pc + 1) lv (.int (σ.1 k i.toNatClampNeg) :: st) v τ) : Vw sh G p l e d s m args below meth c nL A σ pc lv (.int i :: .ref (G.2.1 k) :: st) v τ := fun H locs ls hP hS hl =>
  va_iald (f := σ.1 k) C.1 C.2.1 C.2.2.2.2.2.2.2.1 hP k 0 (by rw [Wd_at hk, ce_ai (Or.inl hc), hc]) rfl hi hdg (k9 H locs ls hP hS hl)
theorem V_zald (C : OK sh G p s m args meth c own cc nL ret A) {k : Nat} {i : Int32} (hk : k < sh.1) (hc : sh.2.1 k = 21) (hi : vp_in i (sh.2.2.1 k)) (hdg : decode cc pc = .ok (.baload, 1)) (k9 : Vw sh G p l e d s m args below meth c nL A σ (pc + 1) lv (.int (σ.1 k i.toNatClampNeg) :: st) v τ) : Vw sh G p l e d s m args below meth c nL A σ pc lv (.int i :: .ref (G.2.1 k) :: st) v τ := fun H locs ls hP hS hl =>
  va_zald (f := σ.1 k) C.1 C.2.1 C.2.2.2.2.2.2.2.1 hP k 1 (by rw [Wd_at hk, ce_ai (Or.inr hc), hc]) rfl hi hdg (k9 H locs ls hP hS hl)
theorem V_alenI (C : OK sh G p s m args meth c own cc nL ret A) {k : Nat} {w : Int32} (hk : k < sh.1) (hc : sh.2.1 k = 20) (hv : Int32.ofNat (sh.2.2.1 k) = w) (hdg : decode cc pc = .ok (.arraylength, 1)) (k9 : Vw sh G p l e d s m args below meth c nL A σ (pc + 1) lv (.int w :: st) v τ) : Vw sh G p l e d s m args below meth c nL A σ pc lv (.ref (G.2.1 k) :: st) v τ := fun H locs ls hP hS hl =>
  va_alen (x := (sh.2.2.1 k, .inl (σ.1 k))) C.1 C.2.1 C.2.2.2.2.2.2.2.1 hP k 0 (by rw [Wd_at hk, ce_ai (Or.inl hc), hc]) rfl hv hdg (k9 H locs ls hP hS hl)
theorem V_alenZ (C : OK sh G p s m args meth c own cc nL ret A) {k : Nat} {w : Int32} (hk : k < sh.1) (hc : sh.2.1 k = 21) (hv : Int32.ofNat (sh.2.2.1 k) = w) (hdg : decode cc pc = .ok (.arraylength, 1)) (k9 : Vw sh G p l e d s m args below meth c nL A σ (pc + 1) lv (.int w :: st) v τ) : Vw sh G p l e d s m args below meth c nL A σ pc lv (.ref (G.2.1 k) :: st) v τ := fun H locs ls hP hS hl =>
  va_alen (x := (sh.2.2.1 k, .inl (σ.1 k))) C.1 C.2.1 C.2.2.2.2.2.2.2.1 hP k 1 (by rw [Wd_at hk, ce_ai (Or.inr hc), hc]) rfl hv hdg (k9 H locs ls hP hS hl)
theorem V_alenR (C : OK sh G p s m args meth c own cc nL ret A) {k : Nat} {w : Int32} (hk : k < sh.1) (hc : sh.2.1 k = 23) (hv : Int32.ofNat (sh.2.2.1 k) = w) (hdg : decode cc pc = .ok (.arraylength, 1)) (k9 : Vw sh G p l e d s m args below meth c nL A σ (pc + 1) lv (.int w :: st) v τ) : Vw sh G p l e d s m args below meth c nL A σ pc lv (.ref (G.2.1 k) :: st) v τ := fun H locs ls hP hS hl =>
  va_alen (x := (sh.2.2.1 k, .inr (.inr (.inr (.inr (fun i => if i < sh.2.2.1 k then some (G.2.1 (sh.2.2.2 k i)) else none)))))) C.1 C.2.1 C.2.2.2.2.2.2.2.1 hP k 3 (by rw [Wd_at hk, ce, if_neg (by omega), if_neg (by omega), hc]) rfl hv hdg (k9 H locs ls hP hS hl)
theorem va_inLt {i : Int32} {n : Nat} (h : vp_in i n) : i.toNatClampNeg < n := Nat.not_le.mp (fun q => h (Or.inr q))
theorem V_aald2 (C : OK sh G p s m args meth c own cc nL ret A) {k : Nat} {i : Int32} (hk : k < sh.1) (hc : sh.2.1 k = 22) (hi : vp_in i (sh.2.2.1 k)) (hdg : decode cc pc = .ok (.aaload, 1)) (k9 : Vw sh G p l e d s m args below meth c nL A σ (pc + 1) lv (.ref (G.2.1 (sh.2.2.2 k i.toNatClampNeg)) :: st) v τ) : Vw sh G p l e d s m args below meth c nL A σ pc lv (.int i :: .ref (G.2.1 k) :: st) v τ := by
  intro H locs ls hP hS hl
  have he : (Wd sh G σ)[k]? = some (G.2.1 k, .inl (G.2.2.1 2, sh.2.2.1 k, .inr (.inr (.inr (.inr (fun i => if i < sh.2.2.1 k then some (G.2.1 (sh.2.2.2 k i)) else none)))))) := by rw [Wd_at hk, ce, if_neg (by omega), if_neg (by omega), hc]
  have hlt := va_inLt hi
  refine W.aald (v := va_rf (if i.toNatClampNeg < sh.2.2.1 k then some (G.2.1 (sh.2.2.2 k i.toNatClampNeg)) else none)) (ty := .array .int) C.1 C.2.1 (hP k _ he) ((C.2.2.2.2.2.2.2.1.2 2 _ rfl).1 (sh.2.2.1 k) (fun j => va_rf (if j < sh.2.2.1 k then some (G.2.1 (sh.2.2.2 k j)) else none))) rfl (fun q => by cases q) (by show ¬ (i < 0 ∨ (arrV _ _ _).slots.size ≤ _); rw [arrV_size]; exact hi) (by show (arrV _ _ _).slots[_]? = _; rw [arrV_read _ _ hlt]) rfl rfl hdg ?_
  rw [if_pos hlt]
  exact k9 H locs ls hP hS hl
theorem V_aald3 (C : OK sh G p s m args meth c own cc nL ret A) {k : Nat} {i : Int32} (hk : k < sh.1) (hc : sh.2.1 k = 23) (hi : vp_in i (sh.2.2.1 k)) (hdg : decode cc pc = .ok (.aaload, 1)) (k9 : Vw sh G p l e d s m args below meth c nL A σ (pc + 1) lv (.ref (G.2.1 (sh.2.2.2 k i.toNatClampNeg)) :: st) v τ) : Vw sh G p l e d s m args below meth c nL A σ pc lv (.int i :: .ref (G.2.1 k) :: st) v τ := fun H locs ls hP hS hl =>
  va_aldq (C := "SamovarOpinions$Sheet") (f := fun i => if i < sh.2.2.1 k then some (G.2.1 (sh.2.2.2 k i)) else none) C.1 C.2.1 C.2.2.2.2.2.2.2.1 hP k 3 (by rw [Wd_at hk, ce, if_neg (by omega), if_neg (by omega), hc]) rfl hi hdg (by rw [if_pos (va_inLt hi)]; exact k9 H locs ls hP hS hl)
theorem V_iast (C : OK sh G p s m args meth c own cc nL ret A) {k : Nat} {i x : Int32} (hk : k < sh.1) (hc : sh.2.1 k = 20) (hi : vp_in i (sh.2.2.1 k)) (hdg : decode cc pc = .ok (.iastore, 1)) (k9 : Vw sh G p l e d s m args below meth c nL A (up σ k i.toNatClampNeg x) (pc + 1) lv st v τ) : Vw sh G p l e d s m args below meth c nL A σ pc lv (.int x :: .int i :: .ref (G.2.1 k) :: st) v τ := by
  intro H locs ls hP hS hl
  have hD : va_D A (Wd sh G σ) := by rw [C.2.2.2.2.2.2.2.2.2.2]; exact Wd_D C.2.2.2.2.2.2.2.2.1
  have hset : (Wd sh G σ).set k (G.2.1 k, .inl (G.2.2.1 0, sh.2.2.1 k, .inl (upd (σ.1 k) i.toNatClampNeg x))) = Wd sh G (up σ k i.toNatClampNeg x) := by
    refine Wd_set hk ?_ (fun j hj => ce_same (up_ne hj) (Or.inl rfl))
    rw [ce_ai (by omega), hc, up_at]
  refine va_iast (f := σ.1 k) C.1 C.2.1 C.2.2.2.2.2.2.2.1 hP hD hS k 0 (by rw [Wd_at hk, ce_ai (by omega), hc]) rfl hi hdg (fun H1 locs1 hP1 _ hS1 => ?_)
  rw [hset] at hP1
  exact k9 H1 locs1 ls hP1 hS1 hl
theorem V_zast (C : OK sh G p s m args meth c own cc nL ret A) {k : Nat} {i x : Int32} (hk : k < sh.1) (hc : sh.2.1 k = 21) (hi : vp_in i (sh.2.2.1 k)) (hdg : decode cc pc = .ok (.bastore, 1)) (k9 : Vw sh G p l e d s m args below meth c nL A (up σ k i.toNatClampNeg (vp_nar .boolean x)) (pc + 1) lv st v τ) : Vw sh G p l e d s m args below meth c nL A σ pc lv (.int x :: .int i :: .ref (G.2.1 k) :: st) v τ := by
  intro H locs ls hP hS hl
  have hD : va_D A (Wd sh G σ) := by rw [C.2.2.2.2.2.2.2.2.2.2]; exact Wd_D C.2.2.2.2.2.2.2.2.1
  have hset : (Wd sh G σ).set k (G.2.1 k, .inl (G.2.2.1 1, sh.2.2.1 k, .inl (upd (σ.1 k) i.toNatClampNeg (vp_nar .boolean x)))) = Wd sh G (up σ k i.toNatClampNeg (vp_nar .boolean x)) := by
    refine Wd_set hk ?_ (fun j hj => ce_same (up_ne hj) (Or.inl rfl))
    rw [ce_ai (by omega), hc, up_at]
  refine va_zast (f := σ.1 k) C.1 C.2.1 C.2.2.2.2.2.2.2.1 hP hD hS k 1 (by rw [Wd_at hk, ce_ai (by omega), hc]) rfl hi hdg (fun H1 locs1 hP1 _ hS1 => ?_)
  rw [hset] at hP1
  exact k9 H1 locs1 ls hP1 hS1 hl
theorem V_copyI (C : OK sh G p s m args meth c own cc nL ret A) {a b : Nat} {sp dp n : Int32} {index : Nat} (ha : a < sh.1) (hb : b < sh.1) (hca : sh.2.1 a = 20) (hcb : sh.2.1 b = 20) (hw : Cond.methodLink own index arraycopyName ∈ wsL_law) (h1 : ¬ sp < 0) (h2 : ¬ dp < 0) (h3 : ¬ n < 0) (h4 : sp.toNatClampNeg + n.toNatClampNeg ≤ sh.2.2.1 a) (h5 : dp.toNatClampNeg + n.toNatClampNeg ≤ sh.2.2.1 b) (hd : 1 ≤ d) (hst : (st.map fun v => v.category).sum ≤ 8) (hdg : decode cc pc = .ok (.invokestatic index, 3)) (k9 : Vw sh G p l e d s m args below meth c nL A (upA σ b (va_cpy (σ.1 a) (σ.1 b) sp.toNatClampNeg dp.toNatClampNeg n.toNatClampNeg)) (pc + 3) lv st v τ) : Vw sh G p l e d s m args below meth c nL A σ pc lv (.int n :: .int dp :: .ref (G.2.1 b) :: .int sp :: .ref (G.2.1 a) :: st) v τ := by
  intro H locs ls hP hS hl
  have hD : va_D A (Wd sh G σ) := by rw [C.2.2.2.2.2.2.2.2.2.2]; exact Wd_D C.2.2.2.2.2.2.2.2.1
  have hset : (Wd sh G σ).set b (G.2.1 b, .inl (G.2.2.1 0, sh.2.2.1 b, .inl (va_cpy (σ.1 a) (σ.1 b) sp.toNatClampNeg dp.toNatClampNeg n.toNatClampNeg))) = Wd sh G (upA σ b (va_cpy (σ.1 a) (σ.1 b) sp.toNatClampNeg dp.toNatClampNeg n.toNatClampNeg)) := by
    refine Wd_set hb ?_ (fun j hj => ce_same (upA_ne hj) (Or.inl rfl))
    rw [ce_ai (by omega), hcb]
    simp [upA]
  refine va_copyi (f := σ.1 a) (g := σ.1 b) (ty := .int) C.1 C.2.1 (C.2.2.1.trans hl.1.symm) C.2.2.2.1 (C.2.2.2.2.1 _ hw) (C.2.2.2.2.1 _ q_native) (C.2.2.2.2.1 _ q_acstatic) (C.2.2.2.2.1 _ q_sysinit) C.2.2.2.2.2.2.2.1 hP hD hS a b 0 0 (by rw [Wd_at ha, ce_ai (by omega), hca]) (by rw [Wd_at hb, ce_ai (by omega), hcb]) rfl rfl rfl h1 h2 h3 h4 h5 (fun _ _ => rfl) hd ?_ hdg (fun H1 locs1 hP1 _ hS1 => ?_)
  · have h7 : nativeFrameWords "java/lang/System" "arraycopy" 5 ≤ 30 := by decide +kernel
    show _ ≤ 60 * d
    omega
  · rw [hset] at hP1
    exact k9 H1 locs1 ls hP1 hS1 hl
theorem V_gets (C : OK sh G p s m args meth c own cc nL ret A) {i index : Nat} (hi : i < 3) (hw : Cond.fieldLink own index "SamovarOpinions" (stNm.getD i ("", [])).1 "[I" ∈ wsL_law) (hdg : decode cc pc = .ok (.getstatic index, 3)) (k9 : Vw sh G p l e d s m args below meth c nL A σ (pc + 3) lv (.ref (G.2.2.2.1 i) :: st) v τ) : Vw sh G p l e d s m args below meth c nL A σ pc lv st v τ := fun H locs ls hP hS hl =>
  va_gets C.1 C.2.1 (C.2.2.2.2.2.2.2.2.2.1.1 i hi).1 hS C.2.2.2.1 (C.2.2.2.2.1 _ hw) (fun _ h => h) hdg (k9 H locs ls hP hS hl)
theorem V_slen (C : OK sh G p s m args meth c own cc nL ret A) {i : Nat} {w : Int32} (hi : i < 3) (hv : Int32.ofNat (stNm.getD i ("", [])).2.length = w) (hdg : decode cc pc = .ok (.arraylength, 1)) (k9 : Vw sh G p l e d s m args below meth c nL A σ (pc + 1) lv (.int w :: st) v τ) : Vw sh G p l e d s m args below meth c nL A σ pc lv (.ref (G.2.2.2.1 i) :: st) v τ := fun H locs ls hP hS hl =>
  va_tlen C.1 C.2.1 (C.2.2.2.2.2.2.2.2.2.1.1 i hi).2 hS hv hdg (k9 H locs ls hP hS hl)
theorem V_sld (C : OK sh G p s m args meth c own cc nL ret A) {i : Nat} {x : Int32} (hi : i < 3) (hx : vp_in x (stNm.getD i ("", [])).2.length) (hdg : decode cc pc = .ok (.iaload, 1)) (k9 : Vw sh G p l e d s m args below meth c nL A σ (pc + 1) lv (.int ((stNm.getD i ("", [])).2.getD x.toNatClampNeg 0) :: st) v τ) : Vw sh G p l e d s m args below meth c nL A σ pc lv (.int x :: .ref (G.2.2.2.1 i) :: st) v τ := fun H locs ls hP hS hl =>
  va_ti C.1 C.2.1 (C.2.2.2.2.2.2.2.2.2.1.1 i hi).2 hS hx rfl hdg (k9 H locs ls hP hS hl)
theorem V_ldcS (C : OK sh G p s m args meth c own cc nL ret A) {i index : Nat} (hi : i < 13) (ho : (strO.getD i ("", 0, "")).1 = own) (hx : (strO.getD i ("", 0, "")).2.1 = index) (hdg : decode cc pc = .ok (.ldc index, 2)) (k9 : Vw sh G p l e d s m args below meth c nL A σ (pc + 2) lv (.ref (G.2.2.2.2.1 i) :: st) v τ) : Vw sh G p l e d s m args below meth c nL A σ pc lv st v τ := fun H locs ls hP hS hl =>
  va_ldcS C.1 C.2.1 C.2.2.2.1 (by have h := C.2.2.2.2.2.2.2.2.2.1.2.2.1 i hi; rw [ho, hx] at h; exact h) hdg (k9 H locs ls hP hS hl)
theorem V_sgetC (C : OK sh G p s m args meth c own cc nL ret A) {i index : Nat} (hi : i < 13) (hw : Cond.fieldLink own index "java/lang/String" "coder" "B" ∈ wsL_law) (hdg : decode cc pc = .ok (.getfield index, 3)) (k9 : Vw sh G p l e d s m args below meth c nL A σ (pc + 3) lv (.int 0 :: st) v τ) : Vw sh G p l e d s m args below meth c nL A σ pc lv (.ref (G.2.2.2.2.1 i) :: st) v τ := fun H locs ls hP hS hl =>
  vk_getf C.1 C.2.1 (C.2.2.2.2.2.2.2.2.2.1.2.1.1 i hi).2.1 hS C.2.2.2.1 (C.2.2.2.2.1 _ hw) (fun _ h => h) hdg (k9 H locs ls hP hS hl)
theorem V_sgetV (C : OK sh G p s m args meth c own cc nL ret A) {i index : Nat} (hi : i < 13) (hw : Cond.fieldLink own index "java/lang/String" "value" "[B" ∈ wsL_law) (hdg : decode cc pc = .ok (.getfield index, 3)) (k9 : Vw sh G p l e d s m args below meth c nL A σ (pc + 3) lv (.ref (G.2.2.2.2.2 i) :: st) v τ) : Vw sh G p l e d s m args below meth c nL A σ pc lv (.ref (G.2.2.2.2.1 i) :: st) v τ := fun H locs ls hP hS hl =>
  vk_getf C.1 C.2.1 (C.2.2.2.2.2.2.2.2.2.1.2.1.1 i hi).2.2.1 hS C.2.2.2.1 (C.2.2.2.2.1 _ hw) (fun _ h => h) hdg (k9 H locs ls hP hS hl)
theorem V_sbl (C : OK sh G p s m args meth c own cc nL ret A) {i : Nat} {w : Int32} (hi : i < 13) (hv : Int32.ofNat (strL.getD i 0) = w) (hdg : decode cc pc = .ok (.arraylength, 1)) (k9 : Vw sh G p l e d s m args below meth c nL A σ (pc + 1) lv (.int w :: st) v τ) : Vw sh G p l e d s m args below meth c nL A σ pc lv (.ref (G.2.2.2.2.2 i) :: st) v τ := fun H locs ls hP hS hl =>
  va_tlen C.1 C.2.1 (C.2.2.2.2.2.2.2.2.2.1.2.1.1 i hi).2.2.2 hS hv hdg (k9 H locs ls hP hS hl)
theorem V_sbld (C : OK sh G p s m args meth c own cc nL ret A) {i : Nat} {x : Int32} (hi : i < 13) (hx : vp_in x (strL.getD i 0)) (hdg : decode cc pc = .ok (.baload, 1)) (k9 : Vw sh G p l e d s m args below meth c nL A σ (pc + 1) lv (.int ((strB.getD i []).getD x.toNatClampNeg 0) :: st) v τ) : Vw sh G p l e d s m args below meth c nL A σ pc lv (.int x :: .ref (G.2.2.2.2.2 i) :: st) v τ := fun H locs ls hP hS hl =>
  va_tb C.1 C.2.1 (C.2.2.2.2.2.2.2.2.2.1.2.1.1 i hi).2.2.2 hS hx rfl hdg (k9 H locs ls hP hS hl)
theorem V_mmax (C : OK sh G p s m args meth c own cc nL ret A) {x y : Int32} {index : Nat} (hw : Cond.methodLink own index Lib.Math.max.name ∈ wsL_law) (hd : 1 ≤ d) (hst : (st.map fun v => v.category).sum ≤ 8) (hdg : decode cc pc = .ok (.invokestatic index, 3)) (k9 : Vw sh G p l e d s m args below meth c nL A σ (pc + 3) lv (.int (if x < y then y else x) :: st) v τ) : Vw sh G p l e d s m args below meth c nL A σ pc lv (.int y :: .int x :: st) v τ := fun H locs ls hP hS hl =>
  va_mmax C.1 C.2.1 (C.2.2.1.trans hl.1.symm) C.2.2.2.1 (C.2.2.2.2.1 _ hw) (C.2.2.2.2.1 _ q_mmaxS) (C.2.2.2.2.1 _ q_mathI) (C.2.2.2.2.1 _ q_mmaxC) hd (show _ ≤ 60 * d by omega) (Nat.le_refl _) (Nat.le_refl _) hdg (k9 H locs ls hP hS hl)
theorem V_mmin (C : OK sh G p s m args meth c own cc nL ret A) {x y : Int32} {index : Nat} (hw : Cond.methodLink own index Lib.Math.min.name ∈ wsL_law) (hd : 1 ≤ d) (hst : (st.map fun v => v.category).sum ≤ 8) (hdg : decode cc pc = .ok (.invokestatic index, 3)) (k9 : Vw sh G p l e d s m args below meth c nL A σ (pc + 3) lv (.int (if y < x then y else x) :: st) v τ) : Vw sh G p l e d s m args below meth c nL A σ pc lv (.int y :: .int x :: st) v τ := fun H locs ls hP hS hl =>
  va_mmin C.1 C.2.1 (C.2.2.1.trans hl.1.symm) C.2.2.2.1 (C.2.2.2.2.1 _ hw) (C.2.2.2.2.1 _ q_mminS) (C.2.2.2.2.1 _ q_mathI) (C.2.2.2.2.1 _ q_mminC) hd (show _ ≤ 60 * d by omega) (Nat.le_refl _) (Nat.le_refl _) hdg (k9 H locs ls hP hS hl)
theorem V_iret (C : OK sh G p s m args meth c own cc nL ret A) {x : Int32} {ty : FieldType} (hr : ret = some ty) (hn : narrow ty (.int x) = .int x) (hdg : decode cc pc = .ok (.ireturn, 1)) : Vw sh G p l e d s m args below meth c nL A σ pc lv [.int x] (some (.int x)) σ := fun H locs ls hP hS hl =>
  W.zret C.1 C.2.1 (C.2.2.2.2.2.2.1.trans hr) hn (fun t ht _ => ⟨rfl, by rw [ht]; exact hP, hS.F ht⟩) hS.2.2 hdg C.2.2.2.2.2.1
theorem V_lret (C : OK sh G p s m args meth c own cc nL ret A) {x : Int64} (hr : ret = some .long) (hdg : decode cc pc = .ok (.lreturn, 1)) : Vw sh G p l e d s m args below meth c nL A σ pc lv [.long x] (some (.long x)) σ := fun H locs ls hP hS hl =>
  W.lret C.1 C.2.1 (C.2.2.2.2.2.2.1.trans hr) (fun t ht _ => ⟨rfl, by rw [ht]; exact hP, hS.F ht⟩) hS.2.2 hdg C.2.2.2.2.2.1
theorem V_vret (C : OK sh G p s m args meth c own cc nL ret A) (hr : ret = none) (hdg : decode cc pc = .ok (.return_, 1)) : Vw sh G p l e d s m args below meth c nL A σ pc lv [] none σ := fun H locs ls hP hS hl =>
  W.vret C.1 C.2.1 (C.2.2.2.2.2.2.1.trans hr) (fun t ht _ => ⟨rfl, by rw [ht]; exact hP, hS.F ht⟩) hS.2.2 hdg C.2.2.2.2.2.1
theorem V_aret (C : OK sh G p s m args meth c own cc nL ret A) {x : Value} {ty : FieldType} (hr : ret = some ty) (hty : (∃ n, ty = .object n) ∨ ∃ t, ty = .array t) (hx : x = .null ∨ ∃ a, x = .ref a) (hdg : decode cc pc = .ok (.areturn, 1)) : Vw sh G p l e d s m args below meth c nL A σ pc lv [x] (some x) σ := fun H locs ls hP hS hl =>
  W.aret C.1 C.2.1 (C.2.2.2.2.2.2.1.trans hr) hty hx (fun t ht _ => ⟨rfl, by rw [ht]; exact hP, hS.F ht⟩) hS.2.2 hdg C.2.2.2.2.2.1
theorem AW_le {H0 H : Heap} {locs : List Loc} {B : Nat → Prop} (hS : va_S B H0 H locs) : ∀ q, AW sh G H.size q → AW sh G H0.size q := fun q h => h.elim Or.inl (fun h => Or.inr (Nat.le_trans hS.1 h))
theorem PZ_blind {G : Gx} {σ : St} {sz : Nat} {av : List Value} : FrameBlind (va_Pc av (PZ sh G σ sz)) := by
  intro a U g mk h
  obtain ⟨h1, h2, h3, h4, h5, h6⟩ := h
  exact ⟨h1, h2, h3, va_K.moved (u := U) (U := U.calling g mk a) (Vm.Alike.refl U.vm) h4, h5, SX.same (u := U) (U := U.calling g mk a) rfl h6⟩
/-- a method's own words, once for each method -/
def MW (y : MethodName) (bytes : ByteArray) (maxL : Nat) (rt : Option FieldType) (n : Nat) : Prop := Cond.code y bytes maxL rt ∈ wsL_law ∧ Cond.initialized y.cls ∈ wsL_law ∧ (y.cls ≠ "java/lang/invoke/MethodHandle" ∧ y.cls ≠ "java/lang/invoke/VarHandle" ∧ (parseMethodDescriptor y.desc).map (fun d => d.parameters.length) = some n) ∧ maxL ≤ 40
theorem MW.good {y : MethodName} {bytes : ByteArray} {maxL : Nat} {rt : Option FieldType} {n : Nat} (h : MW y bytes maxL rt n) : GoodIn wsL_law (.code y bytes maxL rt :: wsL_law) := fun w hw => by
  rcases List.mem_cons.mp hw with rfl | hw
  · exact wsL_good _ h.1
  · exact wsL_good _ hw
theorem V_back (C : OK sh G p s m args meth c own cc nL ret A) {As : Array Value} {σ1 : St} {vr : Option Value} {st0 : List Value} {H : Heap} {locs : List Loc} {ls : Array Slot} (hS : va_S A s.heap H locs) (hl : lv_has ls nL lv)
    (hr : va_Run p l e (Rm d) s m args below meth c H locs 0 0 0 0 (F0 m pc ls st0) st (Qz sh G vr σ1 (AW sh G H.size) As) (AW sh G H.size)) (k : Vw sh G p l e d s m args below meth c nL A σ1 (pc + 3) lv (vr.toList ++ st) v τ) : W p l e (Rm d) s m args below meth c H locs 0 0 (MQ below (Qz sh G v τ A) args s 0 0 A) (F0 m pc ls st0) := by
  have hA : ∀ q, AW sh G H.size q → A q := by rw [C.2.2.2.2.2.2.2.2.2.2]; exact AW_le hS
  intro T hT X
  obtain ⟨v1, st₀, t, T', L, h0, X', hL, e1, e2, ⟨hv, hP1, hz, hk⟩, stp⟩ := hr T hT X
  cases hv
  rw [h0] at hz hk
  rw [← e1] at hP1 hz hk
  obtain ⟨t2, a1, b1⟩ := k T'.heap (locs ++ L) ls hP1 ⟨Nat.le_trans hS.1 hz, fun q h1 h2 => by rw [hk q (Nat.lt_of_lt_of_le h1 hS.1) (fun z => h2 (hA q z))]; exact hS.2.1 q h1 h2, fun q hq => by
      rcases List.mem_append.mp hq with h | h
      · exact hS.2.2 q h
      · exact hA _ (hL q h)⟩ hl T' rfl X'
  exact ⟨t2, stp t2 a1, b1⟩
theorem V_pre (C : OK sh G p s m args meth c own cc nL ret A) {σ : St} {H : Heap} {locs : List Loc} (hP : va_P G.1 vwCl (Wd sh G σ) H) (hS : va_S A s.heap H locs) : ∀ U : State, U.heap = H → s.WarmedH U.vm → PZ sh G σ H.size U := fun U hU hW => by
  have hA : ∀ q, AW sh G H.size q → A q := by rw [C.2.2.2.2.2.2.2.2.2.2]; exact AW_le hS
  refine ⟨by rw [hU], by rw [hU]; exact hP, va_K.moved hW.alike C.2.2.2.2.2.2.2.1, C.2.2.2.2.2.2.2.2.1, ?_⟩
  rw [hU]
  exact SX.warm hW ((C.2.2.2.2.2.2.2.2.2.1.kept hS.2.1).narrow hA)
theorem V_callV (C : OK sh G p s m args meth c own cc nL ret A) {h k ci n maxL index : Nat} {y : MethodName} {bytes : ByteArray} {rt : Option FieldType} {As : List Value} {av : Gx → List Value} {σ1 : St} {vr : Gx → Option Value} {st0 : List Value} {q : vw_C} (hct : Ct sh h y bytes maxL rt av σ vr σ1) (hmw : MW y bytes maxL rt n) (hin : Cond.instanceMethod y ∈ wsL_law) (hsl : Cond.selects y.cls y y ∈ wsL_law) (hw : Cond.methodLink own index y ∈ wsL_law) (hk : k < sh.1) (hc : sh.2.1 k = ci) (hci : ci < 20) (hcl : vwCl[ci]? = some q) (hq : q.1 = y.cls) (hd : h + 1 ≤ d) (hav : av G = .ref (G.2.1 k) :: As) (hn : As.length = n) (hst0 : st0 = As.reverse ++ .ref (G.2.1 k) :: st) (hst : (st.map fun v => v.category).sum ≤ 8) (hdg : decode cc pc = .ok (.invokevirtual index, 3)) (k9 : Vw sh G p l e d s m args below meth c nL A σ1 (pc + 3) lv ((vr G).toList ++ st) v τ) : Vw sh G p l e d s m args below meth c nL A σ pc lv st0 v τ := by
  intro H locs ls hP hS hl
  obtain ⟨d', rfl⟩ : ∃ d', d = d' + 1 := ⟨d - 1, by omega⟩
  subst hc
  have hM := hct l d' G H.size (by omega)
  rw [hav] at hM
  have he : (Wd sh G σ)[k]? = some (G.2.1 k, .inr (sh.2.1 k, fl sh G σ k)) := by rw [Wd_at hk, ce, if_pos hci]
  have hrc := va_recv C.2.2.2.2.2.2.2.1 hP hcl he
  rw [hq] at hrc
  refine V_back C hS hl (va_runV (C := y.cls) (As := As) (rest := st) (n := n) ⟨C.1, C.2.1, C.2.2.1, C.2.2.2.1, C.2.2.2.2.1⟩ hM ⟨callB_of n C.2.2.2.2.1 hmw.good rfl rfl rfl (C.2.2.2.2.1 _ hmw.2.1) (C.2.2.2.2.1 _ hw) hmw.2.2.1 ⟨Nat.le_refl _, ?_⟩, C.2.2.2.2.1 _ hin, C.2.2.2.2.1 _ hsl⟩ ⟨PZ_blind, hrc, fun U hU hW => ⟨rfl, V_pre C hP hS U hU hW⟩⟩ rfl hn hl.1 hst0 (lv_room hst) hdg ⟨Nat.le_refl _, Nat.le_refl _⟩) k9
  have := hmw.2.2.2
  show 8 + (maxL + 11) + 60 * d' ≤ 60 * (d' + 1)
  omega
theorem V_callS (C : OK sh G p s m args meth c own cc nL ret A) {h n maxL index : Nat} {y : MethodName} {bytes : ByteArray} {rt : Option FieldType} {As : List Value} {av : Gx → List Value} {σ1 : St} {vr : Gx → Option Value} {st0 : List Value} (hct : Ct sh h y bytes maxL rt av σ vr σ1) (hmw : MW y bytes maxL rt n) (hin : Cond.static y ∈ wsL_law) (hw : Cond.methodLink own index y ∈ wsL_law) (hd : h + 1 ≤ d) (hav : av G = As) (hn : As.length = n) (hst0 : st0 = As.reverse ++ st) (hst : (st.map fun v => v.category).sum ≤ 8) (hdg : decode cc pc = .ok (.invokestatic index, 3)) (k9 : Vw sh G p l e d s m args below meth c nL A σ1 (pc + 3) lv ((vr G).toList ++ st) v τ) : Vw sh G p l e d s m args below meth c nL A σ pc lv st0 v τ := by
  intro H locs ls hP hS hl
  obtain ⟨d', rfl⟩ : ∃ d', d = d' + 1 := ⟨d - 1, by omega⟩
  have hM := hct l d' G H.size (by omega)
  rw [hav] at hM
  refine V_back C hS hl (va_runS (As := As) (rest := st) (n := n) ⟨C.1, C.2.1, C.2.2.1, C.2.2.2.1, C.2.2.2.2.1⟩ hM ⟨callB_of n C.2.2.2.2.1 hmw.good rfl rfl rfl (C.2.2.2.2.1 _ hmw.2.1) (C.2.2.2.2.1 _ hw) hmw.2.2.1 ⟨Nat.le_refl _, ?_⟩, C.2.2.2.2.1 _ hin⟩ ⟨PZ_blind, fun U hU hW => ⟨rfl, V_pre C hP hS U hU hW⟩⟩ rfl hn hl.1 hst0 (lv_room hst) hdg ⟨Nat.le_refl _, Nat.le_refl _⟩) k9
  have := hmw.2.2.2
  show 8 + (maxL + 11) + 60 * d' ≤ 60 * (d' + 1)
  omega
theorem V_callSN (C : OK sh G p s m args meth c own cc nL ret A) {h n maxL index : Nat} {y : MethodName} {host : String} {bytes : ByteArray} {rt : Option FieldType} {As : List Value} {av : Gx → List Value} {σ1 : St} {vr : Gx → Option Value} {st0 : List Value} (hct : Ct sh h y bytes maxL rt av σ vr σ1) (hmw : MW y bytes maxL rt n) (hin : Cond.static y ∈ wsL_law) (hw : Cond.methodLinkNest own index y host ∈ nws) (hd : h + 1 ≤ d) (hav : av G = As) (hn : As.length = n) (hst0 : st0 = As.reverse ++ st) (hst : (st.map fun v => v.category).sum ≤ 8) (hdg : decode cc pc = .ok (.invokestatic index, 3)) (k9 : Vw sh G p l e d s m args below meth c nL A σ1 (pc + 3) lv ((vr G).toList ++ st) v τ) : Vw sh G p l e d s m args below meth c nL A σ pc lv st0 v τ := by
  intro H locs ls hP hS hl
  obtain ⟨d', rfl⟩ : ∃ d', d = d' + 1 := ⟨d - 1, by omega⟩
  have hM := hct l d' G H.size (by omega)
  rw [hav] at hM
  refine V_back C hS hl (va_runSN (As := As) (rest := st) (n := n) ⟨C.1, C.2.1, C.2.2.1, C.2.2.2.1, C.2.2.2.2.1⟩ hM ⟨va_cnB n C.2.2.2.2.1 hmw.good rfl rfl rfl (C.2.2.2.2.2.2.2.2.2.1.2.2.2.1 _ hw) (C.2.2.2.2.1 _ hmw.2.1) hmw.2.2.1 ⟨Nat.le_refl _, ?_⟩, C.2.2.2.2.1 _ hin, trivial⟩ ⟨PZ_blind, fun U hU hW => ⟨rfl, V_pre C hP hS U hU hW⟩⟩ rfl hn hl.1 hst0 (lv_room hst) hdg ⟨Nat.le_refl _, Nat.le_refl _⟩) k9
  have := hmw.2.2.2
  show 8 + (maxL + 11) + 60 * d' ≤ 60 * (d' + 1)
  omega
theorem V_callVi (C : OK sh G p s m args meth c own cc nL ret A) {h k ci n maxL index : Nat} {y : MethodName} {bytes : ByteArray} {rt : Option FieldType} {As : List Value} {av : Gx → List Value} {σ1 : St} {r : Int32} {st0 : List Value} {q : vw_C} (hct : Ct sh h y bytes maxL rt av σ (fun _ => some (.int r)) σ1) (hmw : MW y bytes maxL rt n) (hin : Cond.instanceMethod y ∈ wsL_law) (hsl : Cond.selects y.cls y y ∈ wsL_law) (hw : Cond.methodLink own index y ∈ wsL_law) (hk : k < sh.1) (hc : sh.2.1 k = ci) (hci : ci < 20) (hcl : vwCl[ci]? = some q) (hq : q.1 = y.cls) (hd : h + 1 ≤ d) (hav : av G = .ref (G.2.1 k) :: As) (hn : As.length = n) (hst0 : st0 = As.reverse ++ .ref (G.2.1 k) :: st) (hst : (st.map fun v => v.category).sum ≤ 8) (hdg : decode cc pc = .ok (.invokevirtual index, 3)) (k9 : Vw sh G p l e d s m args below meth c nL A σ1 (pc + 3) lv (.int r :: st) v τ) : Vw sh G p l e d s m args below meth c nL A σ pc lv st0 v τ  := V_callV C hct hmw hin hsl hw hk hc hci hcl hq hd hav hn hst0 hst hdg k9
theorem V_callVl (C : OK sh G p s m args meth c own cc nL ret A) {h k ci n maxL index : Nat} {y : MethodName} {bytes : ByteArray} {rt : Option FieldType} {As : List Value} {av : Gx → List Value} {σ1 : St} {r : Int64} {st0 : List Value} {q : vw_C} (hct : Ct sh h y bytes maxL rt av σ (fun _ => some (.long r)) σ1) (hmw : MW y bytes maxL rt n) (hin : Cond.instanceMethod y ∈ wsL_law) (hsl : Cond.selects y.cls y y ∈ wsL_law) (hw : Cond.methodLink own index y ∈ wsL_law) (hk : k < sh.1) (hc : sh.2.1 k = ci) (hci : ci < 20) (hcl : vwCl[ci]? = some q) (hq : q.1 = y.cls) (hd : h + 1 ≤ d) (hav : av G = .ref (G.2.1 k) :: As) (hn : As.length = n) (hst0 : st0 = As.reverse ++ .ref (G.2.1 k) :: st) (hst : (st.map fun v => v.category).sum ≤ 8) (hdg : decode cc pc = .ok (.invokevirtual index, 3)) (k9 : Vw sh G p l e d s m args below meth c nL A σ1 (pc + 3) lv (.long r :: st) v τ) : Vw sh G p l e d s m args below meth c nL A σ pc lv st0 v τ  := V_callV C hct hmw hin hsl hw hk hc hci hcl hq hd hav hn hst0 hst hdg k9
theorem V_callVv (C : OK sh G p s m args meth c own cc nL ret A) {h k ci n maxL index : Nat} {y : MethodName} {bytes : ByteArray} {rt : Option FieldType} {As : List Value} {av : Gx → List Value} {σ1 : St}  {st0 : List Value} {q : vw_C} (hct : Ct sh h y bytes maxL rt av σ (fun _ => none) σ1) (hmw : MW y bytes maxL rt n) (hin : Cond.instanceMethod y ∈ wsL_law) (hsl : Cond.selects y.cls y y ∈ wsL_law) (hw : Cond.methodLink own index y ∈ wsL_law) (hk : k < sh.1) (hc : sh.2.1 k = ci) (hci : ci < 20) (hcl : vwCl[ci]? = some q) (hq : q.1 = y.cls) (hd : h + 1 ≤ d) (hav : av G = .ref (G.2.1 k) :: As) (hn : As.length = n) (hst0 : st0 = As.reverse ++ .ref (G.2.1 k) :: st) (hst : (st.map fun v => v.category).sum ≤ 8) (hdg : decode cc pc = .ok (.invokevirtual index, 3)) (k9 : Vw sh G p l e d s m args below meth c nL A σ1 (pc + 3) lv (st) v τ) : Vw sh G p l e d s m args below meth c nL A σ pc lv st0 v τ  := V_callV C hct hmw hin hsl hw hk hc hci hcl hq hd hav hn hst0 hst hdg k9
theorem V_callVr (C : OK sh G p s m args meth c own cc nL ret A) {h k ci n maxL index : Nat} {y : MethodName} {bytes : ByteArray} {rt : Option FieldType} {As : List Value} {av : Gx → List Value} {σ1 : St} {r : Nat} {st0 : List Value} {q : vw_C} (hct : Ct sh h y bytes maxL rt av σ (fun G => some (.ref (G.2.1 r))) σ1) (hmw : MW y bytes maxL rt n) (hin : Cond.instanceMethod y ∈ wsL_law) (hsl : Cond.selects y.cls y y ∈ wsL_law) (hw : Cond.methodLink own index y ∈ wsL_law) (hk : k < sh.1) (hc : sh.2.1 k = ci) (hci : ci < 20) (hcl : vwCl[ci]? = some q) (hq : q.1 = y.cls) (hd : h + 1 ≤ d) (hav : av G = .ref (G.2.1 k) :: As) (hn : As.length = n) (hst0 : st0 = As.reverse ++ .ref (G.2.1 k) :: st) (hst : (st.map fun v => v.category).sum ≤ 8) (hdg : decode cc pc = .ok (.invokevirtual index, 3)) (k9 : Vw sh G p l e d s m args below meth c nL A σ1 (pc + 3) lv (.ref (G.2.1 r) :: st) v τ) : Vw sh G p l e d s m args below meth c nL A σ pc lv st0 v τ  := V_callV C hct hmw hin hsl hw hk hc hci hcl hq hd hav hn hst0 hst hdg k9
theorem V_callVn (C : OK sh G p s m args meth c own cc nL ret A) {h k ci n maxL index : Nat} {y : MethodName} {bytes : ByteArray} {rt : Option FieldType} {As : List Value} {av : Gx → List Value} {σ1 : St}  {st0 : List Value} {q : vw_C} (hct : Ct sh h y bytes maxL rt av σ (fun _ => some .null) σ1) (hmw : MW y bytes maxL rt n) (hin : Cond.instanceMethod y ∈ wsL_law) (hsl : Cond.selects y.cls y y ∈ wsL_law) (hw : Cond.methodLink own index y ∈ wsL_law) (hk : k < sh.1) (hc : sh.2.1 k = ci) (hci : ci < 20) (hcl : vwCl[ci]? = some q) (hq : q.1 = y.cls) (hd : h + 1 ≤ d) (hav : av G = .ref (G.2.1 k) :: As) (hn : As.length = n) (hst0 : st0 = As.reverse ++ .ref (G.2.1 k) :: st) (hst : (st.map fun v => v.category).sum ≤ 8) (hdg : decode cc pc = .ok (.invokevirtual index, 3)) (k9 : Vw sh G p l e d s m args below meth c nL A σ1 (pc + 3) lv (.null :: st) v τ) : Vw sh G p l e d s m args below meth c nL A σ pc lv st0 v τ  := V_callV C hct hmw hin hsl hw hk hc hci hcl hq hd hav hn hst0 hst hdg k9
theorem V_callSi (C : OK sh G p s m args meth c own cc nL ret A) {h n maxL index : Nat} {y : MethodName} {bytes : ByteArray} {rt : Option FieldType} {As : List Value} {av : Gx → List Value} {σ1 : St} {r : Int32} {st0 : List Value} (hct : Ct sh h y bytes maxL rt av σ (fun _ => some (.int r)) σ1) (hmw : MW y bytes maxL rt n) (hin : Cond.static y ∈ wsL_law) (hw : Cond.methodLink own index y ∈ wsL_law) (hd : h + 1 ≤ d) (hav : av G = As) (hn : As.length = n) (hst0 : st0 = As.reverse ++ st) (hst : (st.map fun v => v.category).sum ≤ 8) (hdg : decode cc pc = .ok (.invokestatic index, 3)) (k9 : Vw sh G p l e d s m args below meth c nL A σ1 (pc + 3) lv (.int r :: st) v τ) : Vw sh G p l e d s m args below meth c nL A σ pc lv st0 v τ  := V_callS C hct hmw hin hw hd hav hn hst0 hst hdg k9
theorem V_callSl (C : OK sh G p s m args meth c own cc nL ret A) {h n maxL index : Nat} {y : MethodName} {bytes : ByteArray} {rt : Option FieldType} {As : List Value} {av : Gx → List Value} {σ1 : St} {r : Int64} {st0 : List Value} (hct : Ct sh h y bytes maxL rt av σ (fun _ => some (.long r)) σ1) (hmw : MW y bytes maxL rt n) (hin : Cond.static y ∈ wsL_law) (hw : Cond.methodLink own index y ∈ wsL_law) (hd : h + 1 ≤ d) (hav : av G = As) (hn : As.length = n) (hst0 : st0 = As.reverse ++ st) (hst : (st.map fun v => v.category).sum ≤ 8) (hdg : decode cc pc = .ok (.invokestatic index, 3)) (k9 : Vw sh G p l e d s m args below meth c nL A σ1 (pc + 3) lv (.long r :: st) v τ) : Vw sh G p l e d s m args below meth c nL A σ pc lv st0 v τ  := V_callS C hct hmw hin hw hd hav hn hst0 hst hdg k9
theorem V_callSv (C : OK sh G p s m args meth c own cc nL ret A) {h n maxL index : Nat} {y : MethodName} {bytes : ByteArray} {rt : Option FieldType} {As : List Value} {av : Gx → List Value} {σ1 : St}  {st0 : List Value} (hct : Ct sh h y bytes maxL rt av σ (fun _ => none) σ1) (hmw : MW y bytes maxL rt n) (hin : Cond.static y ∈ wsL_law) (hw : Cond.methodLink own index y ∈ wsL_law) (hd : h + 1 ≤ d) (hav : av G = As) (hn : As.length = n) (hst0 : st0 = As.reverse ++ st) (hst : (st.map fun v => v.category).sum ≤ 8) (hdg : decode cc pc = .ok (.invokestatic index, 3)) (k9 : Vw sh G p l e d s m args below meth c nL A σ1 (pc + 3) lv (st) v τ) : Vw sh G p l e d s m args below meth c nL A σ pc lv st0 v τ  := V_callS C hct hmw hin hw hd hav hn hst0 hst hdg k9
theorem V_callSr (C : OK sh G p s m args meth c own cc nL ret A) {h n maxL index : Nat} {y : MethodName} {bytes : ByteArray} {rt : Option FieldType} {As : List Value} {av : Gx → List Value} {σ1 : St} {r : Nat} {st0 : List Value} (hct : Ct sh h y bytes maxL rt av σ (fun G => some (.ref (G.2.1 r))) σ1) (hmw : MW y bytes maxL rt n) (hin : Cond.static y ∈ wsL_law) (hw : Cond.methodLink own index y ∈ wsL_law) (hd : h + 1 ≤ d) (hav : av G = As) (hn : As.length = n) (hst0 : st0 = As.reverse ++ st) (hst : (st.map fun v => v.category).sum ≤ 8) (hdg : decode cc pc = .ok (.invokestatic index, 3)) (k9 : Vw sh G p l e d s m args below meth c nL A σ1 (pc + 3) lv (.ref (G.2.1 r) :: st) v τ) : Vw sh G p l e d s m args below meth c nL A σ pc lv st0 v τ  := V_callS C hct hmw hin hw hd hav hn hst0 hst hdg k9
theorem V_callSn (C : OK sh G p s m args meth c own cc nL ret A) {h n maxL index : Nat} {y : MethodName} {bytes : ByteArray} {rt : Option FieldType} {As : List Value} {av : Gx → List Value} {σ1 : St}  {st0 : List Value} (hct : Ct sh h y bytes maxL rt av σ (fun _ => some .null) σ1) (hmw : MW y bytes maxL rt n) (hin : Cond.static y ∈ wsL_law) (hw : Cond.methodLink own index y ∈ wsL_law) (hd : h + 1 ≤ d) (hav : av G = As) (hn : As.length = n) (hst0 : st0 = As.reverse ++ st) (hst : (st.map fun v => v.category).sum ≤ 8) (hdg : decode cc pc = .ok (.invokestatic index, 3)) (k9 : Vw sh G p l e d s m args below meth c nL A σ1 (pc + 3) lv (.null :: st) v τ) : Vw sh G p l e d s m args below meth c nL A σ pc lv st0 v τ  := V_callS C hct hmw hin hw hd hav hn hst0 hst hdg k9
theorem V_callSNi (C : OK sh G p s m args meth c own cc nL ret A) {h n maxL index : Nat} {y : MethodName} {host : String} {bytes : ByteArray} {rt : Option FieldType} {As : List Value} {av : Gx → List Value} {σ1 : St} {r : Int32} {st0 : List Value} (hct : Ct sh h y bytes maxL rt av σ (fun _ => some (.int r)) σ1) (hmw : MW y bytes maxL rt n) (hin : Cond.static y ∈ wsL_law) (hw : Cond.methodLinkNest own index y host ∈ nws) (hd : h + 1 ≤ d) (hav : av G = As) (hn : As.length = n) (hst0 : st0 = As.reverse ++ st) (hst : (st.map fun v => v.category).sum ≤ 8) (hdg : decode cc pc = .ok (.invokestatic index, 3)) (k9 : Vw sh G p l e d s m args below meth c nL A σ1 (pc + 3) lv (.int r :: st) v τ) : Vw sh G p l e d s m args below meth c nL A σ pc lv st0 v τ  := V_callSN C hct hmw hin hw hd hav hn hst0 hst hdg k9
theorem V_callSNl (C : OK sh G p s m args meth c own cc nL ret A) {h n maxL index : Nat} {y : MethodName} {host : String} {bytes : ByteArray} {rt : Option FieldType} {As : List Value} {av : Gx → List Value} {σ1 : St} {r : Int64} {st0 : List Value} (hct : Ct sh h y bytes maxL rt av σ (fun _ => some (.long r)) σ1) (hmw : MW y bytes maxL rt n) (hin : Cond.static y ∈ wsL_law) (hw : Cond.methodLinkNest own index y host ∈ nws) (hd : h + 1 ≤ d) (hav : av G = As) (hn : As.length = n) (hst0 : st0 = As.reverse ++ st) (hst : (st.map fun v => v.category).sum ≤ 8) (hdg : decode cc pc = .ok (.invokestatic index, 3)) (k9 : Vw sh G p l e d s m args below meth c nL A σ1 (pc + 3) lv (.long r :: st) v τ) : Vw sh G p l e d s m args below meth c nL A σ pc lv st0 v τ  := V_callSN C hct hmw hin hw hd hav hn hst0 hst hdg k9
theorem V_callSNv (C : OK sh G p s m args meth c own cc nL ret A) {h n maxL index : Nat} {y : MethodName} {host : String} {bytes : ByteArray} {rt : Option FieldType} {As : List Value} {av : Gx → List Value} {σ1 : St}  {st0 : List Value} (hct : Ct sh h y bytes maxL rt av σ (fun _ => none) σ1) (hmw : MW y bytes maxL rt n) (hin : Cond.static y ∈ wsL_law) (hw : Cond.methodLinkNest own index y host ∈ nws) (hd : h + 1 ≤ d) (hav : av G = As) (hn : As.length = n) (hst0 : st0 = As.reverse ++ st) (hst : (st.map fun v => v.category).sum ≤ 8) (hdg : decode cc pc = .ok (.invokestatic index, 3)) (k9 : Vw sh G p l e d s m args below meth c nL A σ1 (pc + 3) lv (st) v τ) : Vw sh G p l e d s m args below meth c nL A σ pc lv st0 v τ  := V_callSN C hct hmw hin hw hd hav hn hst0 hst hdg k9
theorem V_callSNr (C : OK sh G p s m args meth c own cc nL ret A) {h n maxL index : Nat} {y : MethodName} {host : String} {bytes : ByteArray} {rt : Option FieldType} {As : List Value} {av : Gx → List Value} {σ1 : St} {r : Nat} {st0 : List Value} (hct : Ct sh h y bytes maxL rt av σ (fun G => some (.ref (G.2.1 r))) σ1) (hmw : MW y bytes maxL rt n) (hin : Cond.static y ∈ wsL_law) (hw : Cond.methodLinkNest own index y host ∈ nws) (hd : h + 1 ≤ d) (hav : av G = As) (hn : As.length = n) (hst0 : st0 = As.reverse ++ st) (hst : (st.map fun v => v.category).sum ≤ 8) (hdg : decode cc pc = .ok (.invokestatic index, 3)) (k9 : Vw sh G p l e d s m args below meth c nL A σ1 (pc + 3) lv (.ref (G.2.1 r) :: st) v τ) : Vw sh G p l e d s m args below meth c nL A σ pc lv st0 v τ  := V_callSN C hct hmw hin hw hd hav hn hst0 hst hdg k9
theorem V_callSNn (C : OK sh G p s m args meth c own cc nL ret A) {h n maxL index : Nat} {y : MethodName} {host : String} {bytes : ByteArray} {rt : Option FieldType} {As : List Value} {av : Gx → List Value} {σ1 : St}  {st0 : List Value} (hct : Ct sh h y bytes maxL rt av σ (fun _ => some .null) σ1) (hmw : MW y bytes maxL rt n) (hin : Cond.static y ∈ wsL_law) (hw : Cond.methodLinkNest own index y host ∈ nws) (hd : h + 1 ≤ d) (hav : av G = As) (hn : As.length = n) (hst0 : st0 = As.reverse ++ st) (hst : (st.map fun v => v.category).sum ≤ 8) (hdg : decode cc pc = .ok (.invokestatic index, 3)) (k9 : Vw sh G p l e d s m args below meth c nL A σ1 (pc + 3) lv (.null :: st) v τ) : Vw sh G p l e d s m args below meth c nL A σ pc lv st0 v τ  := V_callSN C hct hmw hin hw hd hav hn hst0 hst hdg k9
end VROWS
/-- a contract out of the walk of the method's body -/
theorem Ct.of {sh : Sh} {h maxL n : Nat} {y : MethodName} {bytes : ByteArray} {rt : Option FieldType} {av : Gx → List Value} {σ τ : St} {v : Gx → Option Value} (hmw : MW y bytes maxL rt n) (hy : plainName y.cls = true) (hlen : ∀ G, (lg_sl (av G)).length ≤ maxL)
    (body : ∀ (G : Gx) (p : Program) (l : Launch) (e : Env) (d : Nat) (s : State) (m : MethodId) (args : Array Value) (below : List Frame) (meth : Method) (c : Code) (A : Nat → Prop), h ≤ d → OK sh G p s m args meth c y.cls bytes maxL rt A → Vw sh G p l e d s m args below meth c maxL A σ 0 (lv_args 0 (av G)) [] (v G) τ) : Ct sh h y bytes maxL rt av σ v τ := by
  intro l d G sz hd
  refine Met.ofW (cc := bytes) (maxL := maxL) (ret := rt) hy rfl ?_
  intro p e s m args below meth c s₁ B hml hv
  obtain ⟨rfl, hsz, hP, hK, hI, hX⟩ := hv
  subst hsz
  have hts := atoms_spec (ws := .code y bytes maxL rt :: wsL_law) B.pre
  have hown : s.vm.findClass y.cls = some m.cls := findClass_of_methodNamed B.named
  have hl := lv_entry (av G) (n := maxL) (hlen G)
  rw [lg_entry_eq]
  exact body G p l e d s m _ below meth c (AW sh G s.heap.size) hd ⟨B.exec, B.bytes, hml, hown, fun w hw => hts w (List.mem_cons_of_mem _ hw), B.notSynchronized, B.returns, hK, hI, hX, rfl⟩ s.heap [] _ hP va_S.rf hl
end
