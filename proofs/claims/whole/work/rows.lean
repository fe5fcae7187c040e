section
-- ===== PART A: goes FIRST, ahead of the names: the tables' words, and 'selects' of the private methods out of them =====
/-- a private method of a class that the tables say can be made, by its rows of tables_1 -/
def lw_okq (q : MethodName × Nat) : Prop := (q.1.cls ≠ "java/lang/invoke/MethodHandle" ∧ q.1.cls ≠ "java/lang/invoke/VarHandle") ∧ Cond.instantiable q.1.cls q.2 ∈ tables_1 ∧ Cond.privateMethod q.1 ∈ tables_1 ∧ Cond.instanceMethod q.1 ∈ tables_1
theorem lw_p0 : lw_okq (⟨"SensorArray", "restart", "(I)V"⟩, 13) := ⟨⟨by decide +kernel, by decide +kernel⟩, List.mem_of_getElem? (i := 15) (by decide +kernel), List.mem_of_getElem? (i := 257) (by decide +kernel), List.mem_of_getElem? (i := 258) (by decide +kernel)⟩
theorem lw_p1 : lw_okq (⟨"SensorArray$Converter", "fit", "()V"⟩, 7) := ⟨⟨by decide +kernel, by decide +kernel⟩, List.mem_of_getElem? (i := 23) (by decide +kernel), List.mem_of_getElem? (i := 269) (by decide +kernel), List.mem_of_getElem? (i := 270) (by decide +kernel)⟩
theorem lw_p2 : lw_okq (⟨"SensorArray", "hasSensor", "(I)Z"⟩, 13) := ⟨⟨by decide +kernel, by decide +kernel⟩, List.mem_of_getElem? (i := 15) (by decide +kernel), List.mem_of_getElem? (i := 366) (by decide +kernel), List.mem_of_getElem? (i := 367) (by decide +kernel)⟩
theorem lw_p3 : lw_okq (⟨"SensorArray", "isReading", "(II)Z"⟩, 13) := ⟨⟨by decide +kernel, by decide +kernel⟩, List.mem_of_getElem? (i := 15) (by decide +kernel), List.mem_of_getElem? (i := 378) (by decide +kernel), List.mem_of_getElem? (i := 379) (by decide +kernel)⟩
theorem lw_p4 : lw_okq (⟨"SensorArray$Converter", "correction", "(II)J"⟩, 7) := ⟨⟨by decide +kernel, by decide +kernel⟩, List.mem_of_getElem? (i := 23) (by decide +kernel), List.mem_of_getElem? (i := 395) (by decide +kernel), List.mem_of_getElem? (i := 396) (by decide +kernel)⟩
theorem lw_p5 : lw_okq (⟨"SensorArray$Drift", "sumUp", "(I)V"⟩, 8) := ⟨⟨by decide +kernel, by decide +kernel⟩, List.mem_of_getElem? (i := 123) (by decide +kernel), List.mem_of_getElem? (i := 475) (by decide +kernel), List.mem_of_getElem? (i := 476) (by decide +kernel)⟩
theorem lw_p6 : lw_okq (⟨"SensorArray", "hasClass", "(I)Z"⟩, 13) := ⟨⟨by decide +kernel, by decide +kernel⟩, List.mem_of_getElem? (i := 15) (by decide +kernel), List.mem_of_getElem? (i := 523) (by decide +kernel), List.mem_of_getElem? (i := 524) (by decide +kernel)⟩
theorem lw_p7 : lw_okq (⟨"SensorArray", "hasSample", "(II)Z"⟩, 13) := ⟨⟨by decide +kernel, by decide +kernel⟩, List.mem_of_getElem? (i := 15) (by decide +kernel), List.mem_of_getElem? (i := 532) (by decide +kernel), List.mem_of_getElem? (i := 533) (by decide +kernel)⟩
theorem lw_p8 : lw_okq (⟨"SensorArray", "prepare", "()V"⟩, 13) := ⟨⟨by decide +kernel, by decide +kernel⟩, List.mem_of_getElem? (i := 15) (by decide +kernel), List.mem_of_getElem? (i := 549) (by decide +kernel), List.mem_of_getElem? (i := 550) (by decide +kernel)⟩
theorem lw_p9 : lw_okq (⟨"SensorArray", "gapToClass", "([II)I"⟩, 13) := ⟨⟨by decide +kernel, by decide +kernel⟩, List.mem_of_getElem? (i := 15) (by decide +kernel), List.mem_of_getElem? (i := 567) (by decide +kernel), List.mem_of_getElem? (i := 568) (by decide +kernel)⟩
theorem lw_p10 : lw_okq (⟨"SensorArray", "nearestTo", "([II)I"⟩, 13) := ⟨⟨by decide +kernel, by decide +kernel⟩, List.mem_of_getElem? (i := 15) (by decide +kernel), List.mem_of_getElem? (i := 579) (by decide +kernel), List.mem_of_getElem? (i := 580) (by decide +kernel)⟩
theorem lw_p11 : lw_okq (⟨"SensorArray", "reachOf", "(I)I"⟩, 13) := ⟨⟨by decide +kernel, by decide +kernel⟩, List.mem_of_getElem? (i := 15) (by decide +kernel), List.mem_of_getElem? (i := 591) (by decide +kernel), List.mem_of_getElem? (i := 592) (by decide +kernel)⟩
theorem lw_p12 : lw_okq (⟨"SensorArray", "farthestSample", "(I)I"⟩, 13) := ⟨⟨by decide +kernel, by decide +kernel⟩, List.mem_of_getElem? (i := 15) (by decide +kernel), List.mem_of_getElem? (i := 595) (by decide +kernel), List.mem_of_getElem? (i := 596) (by decide +kernel)⟩
theorem lw_p13 : lw_okq (⟨"SensorArray", "gapOfClasses", "(II)I"⟩, 13) := ⟨⟨by decide +kernel, by decide +kernel⟩, List.mem_of_getElem? (i := 15) (by decide +kernel), List.mem_of_getElem? (i := 616) (by decide +kernel), List.mem_of_getElem? (i := 617) (by decide +kernel)⟩
theorem lw_p14 : lw_okq (⟨"SensorArray", "runClustering", "(I)Z"⟩, 13) := ⟨⟨by decide +kernel, by decide +kernel⟩, List.mem_of_getElem? (i := 15) (by decide +kernel), List.mem_of_getElem? (i := 624) (by decide +kernel), List.mem_of_getElem? (i := 625) (by decide +kernel)⟩
theorem lw_p15 : lw_okq (⟨"SensorArray$Linkage", "findPair", "()Z"⟩, 5) := ⟨⟨by decide +kernel, by decide +kernel⟩, List.mem_of_getElem? (i := 206) (by decide +kernel), List.mem_of_getElem? (i := 644) (by decide +kernel), List.mem_of_getElem? (i := 645) (by decide +kernel)⟩
def lw_privs_1 : List (MethodName × Nat) := [(⟨"SensorArray", "restart", "(I)V"⟩, 13), (⟨"SensorArray$Converter", "fit", "()V"⟩, 7), (⟨"SensorArray", "hasSensor", "(I)Z"⟩, 13), (⟨"SensorArray", "isReading", "(II)Z"⟩, 13), (⟨"SensorArray$Converter", "correction", "(II)J"⟩, 7), (⟨"SensorArray$Drift", "sumUp", "(I)V"⟩, 8), (⟨"SensorArray", "hasClass", "(I)Z"⟩, 13), (⟨"SensorArray", "hasSample", "(II)Z"⟩, 13), (⟨"SensorArray", "prepare", "()V"⟩, 13), (⟨"SensorArray", "gapToClass", "([II)I"⟩, 13), (⟨"SensorArray", "nearestTo", "([II)I"⟩, 13), (⟨"SensorArray", "reachOf", "(I)I"⟩, 13), (⟨"SensorArray", "farthestSample", "(I)I"⟩, 13), (⟨"SensorArray", "gapOfClasses", "(II)I"⟩, 13), (⟨"SensorArray", "runClustering", "(I)Z"⟩, 13), (⟨"SensorArray$Linkage", "findPair", "()Z"⟩, 5)]
theorem lw_r1 : ∀ q ∈ lw_privs_1, lw_okq q := List.forall_mem_cons.mpr ⟨lw_p0, List.forall_mem_cons.mpr ⟨lw_p1, List.forall_mem_cons.mpr ⟨lw_p2, List.forall_mem_cons.mpr ⟨lw_p3, List.forall_mem_cons.mpr ⟨lw_p4, List.forall_mem_cons.mpr ⟨lw_p5, List.forall_mem_cons.mpr ⟨lw_p6, List.forall_mem_cons.mpr ⟨lw_p7, List.forall_mem_cons.mpr ⟨lw_p8, List.forall_mem_cons.mpr ⟨lw_p9, List.forall_mem_cons.mpr ⟨lw_p10, List.forall_mem_cons.mpr ⟨lw_p11, List.forall_mem_cons.mpr ⟨lw_p12, List.forall_mem_cons.mpr ⟨lw_p13, List.forall_mem_cons.mpr ⟨lw_p14, List.forall_mem_cons.mpr ⟨lw_p15, fun _ h => absurd h List.not_mem_nil⟩⟩⟩⟩⟩⟩⟩⟩⟩⟩⟩⟩⟩⟩⟩⟩
theorem lw_p16 : lw_okq (⟨"SensorArray$Linkage", "consider", "(III)V"⟩, 5) := ⟨⟨by decide +kernel, by decide +kernel⟩, List.mem_of_getElem? (i := 206) (by decide +kernel), List.mem_of_getElem? (i := 648) (by decide +kernel), List.mem_of_getElem? (i := 649) (by decide +kernel)⟩
theorem lw_p17 : lw_okq (⟨"SensorArray$Linkage", "comesFirst", "(III)Z"⟩, 5) := ⟨⟨by decide +kernel, by decide +kernel⟩, List.mem_of_getElem? (i := 206) (by decide +kernel), List.mem_of_getElem? (i := 656) (by decide +kernel), List.mem_of_getElem? (i := 657) (by decide +kernel)⟩
theorem lw_p18 : lw_okq (⟨"SensorArray$Linkage", "joinPair", "()V"⟩, 5) := ⟨⟨by decide +kernel, by decide +kernel⟩, List.mem_of_getElem? (i := 206) (by decide +kernel), List.mem_of_getElem? (i := 660) (by decide +kernel), List.mem_of_getElem? (i := 661) (by decide +kernel)⟩
theorem lw_p19 : lw_okq (⟨"SensorArray", "rankSamples", "()V"⟩, 13) := ⟨⟨by decide +kernel, by decide +kernel⟩, List.mem_of_getElem? (i := 15) (by decide +kernel), List.mem_of_getElem? (i := 687) (by decide +kernel), List.mem_of_getElem? (i := 688) (by decide +kernel)⟩
theorem lw_p20 : lw_okq (⟨"SensorArray", "gapToSample", "([III)I"⟩, 13) := ⟨⟨by decide +kernel, by decide +kernel⟩, List.mem_of_getElem? (i := 15) (by decide +kernel), List.mem_of_getElem? (i := 695) (by decide +kernel), List.mem_of_getElem? (i := 696) (by decide +kernel)⟩
theorem lw_p21 : lw_okq (⟨"SensorArray$Ranking", "countVotes", "(I)V"⟩, 4) := ⟨⟨by decide +kernel, by decide +kernel⟩, List.mem_of_getElem? (i := 185) (by decide +kernel), List.mem_of_getElem? (i := 712) (by decide +kernel), List.mem_of_getElem? (i := 713) (by decide +kernel)⟩
theorem lw_p22 : lw_okq (⟨"SensorArray", "resultOfTest", "(II)I"⟩, 13) := ⟨⟨by decide +kernel, by decide +kernel⟩, List.mem_of_getElem? (i := 15) (by decide +kernel), List.mem_of_getElem? (i := 720) (by decide +kernel), List.mem_of_getElem? (i := 721) (by decide +kernel)⟩
theorem lw_p23 : lw_okq (⟨"SensorArray", "countResults", "(II)I"⟩, 13) := ⟨⟨by decide +kernel, by decide +kernel⟩, List.mem_of_getElem? (i := 15) (by decide +kernel), List.mem_of_getElem? (i := 729) (by decide +kernel), List.mem_of_getElem? (i := 730) (by decide +kernel)⟩
theorem lw_p24 : lw_okq (⟨"SensorArray", "countCorrect", "(I)I"⟩, 13) := ⟨⟨by decide +kernel, by decide +kernel⟩, List.mem_of_getElem? (i := 15) (by decide +kernel), List.mem_of_getElem? (i := 737) (by decide +kernel), List.mem_of_getElem? (i := 738) (by decide +kernel)⟩
theorem lw_p25 : lw_okq (⟨"SensorArray", "scoreOf", "(I)I"⟩, 13) := ⟨⟨by decide +kernel, by decide +kernel⟩, List.mem_of_getElem? (i := 15) (by decide +kernel), List.mem_of_getElem? (i := 767) (by decide +kernel), List.mem_of_getElem? (i := 768) (by decide +kernel)⟩
theorem lw_p26 : lw_okq (⟨"SensorArrayModel", "starts", "(I)V"⟩, 28) := ⟨⟨by decide +kernel, by decide +kernel⟩, List.mem_of_getElem? (i := 785) (by decide +kernel), List.mem_of_getElem? (i := 791) (by decide +kernel), List.mem_of_getElem? (i := 792) (by decide +kernel)⟩
theorem lw_p27 : lw_okq (⟨"SensorArrayModel", "isSensor", "(I)Z"⟩, 28) := ⟨⟨by decide +kernel, by decide +kernel⟩, List.mem_of_getElem? (i := 785) (by decide +kernel), List.mem_of_getElem? (i := 897) (by decide +kernel), List.mem_of_getElem? (i := 898) (by decide +kernel)⟩
theorem lw_p28 : lw_okq (⟨"SensorArrayModel", "ratioOf", "(II)I"⟩, 28) := ⟨⟨by decide +kernel, by decide +kernel⟩, List.mem_of_getElem? (i := 785) (by decide +kernel), List.mem_of_getElem? (i := 911) (by decide +kernel), List.mem_of_getElem? (i := 912) (by decide +kernel)⟩
theorem lw_p29 : lw_okq (⟨"SensorArrayModel", "featureOf", "(II)I"⟩, 28) := ⟨⟨by decide +kernel, by decide +kernel⟩, List.mem_of_getElem? (i := 785) (by decide +kernel), List.mem_of_getElem? (i := 919) (by decide +kernel), List.mem_of_getElem? (i := 920) (by decide +kernel)⟩
theorem lw_p30 : lw_okq (⟨"SensorArrayModel", "fits", "(I)V"⟩, 28) := ⟨⟨by decide +kernel, by decide +kernel⟩, List.mem_of_getElem? (i := 785) (by decide +kernel), List.mem_of_getElem? (i := 923) (by decide +kernel), List.mem_of_getElem? (i := 924) (by decide +kernel)⟩
theorem lw_p31 : lw_okq (⟨"SensorArrayModel", "copies", "(II)V"⟩, 28) := ⟨⟨by decide +kernel, by decide +kernel⟩, List.mem_of_getElem? (i := 785) (by decide +kernel), List.mem_of_getElem? (i := 936) (by decide +kernel), List.mem_of_getElem? (i := 937) (by decide +kernel)⟩
def lw_privs_2 : List (MethodName × Nat) := [(⟨"SensorArray$Linkage", "consider", "(III)V"⟩, 5), (⟨"SensorArray$Linkage", "comesFirst", "(III)Z"⟩, 5), (⟨"SensorArray$Linkage", "joinPair", "()V"⟩, 5), (⟨"SensorArray", "rankSamples", "()V"⟩, 13), (⟨"SensorArray", "gapToSample", "([III)I"⟩, 13), (⟨"SensorArray$Ranking", "countVotes", "(I)V"⟩, 4), (⟨"SensorArray", "resultOfTest", "(II)I"⟩, 13), (⟨"SensorArray", "countResults", "(II)I"⟩, 13), (⟨"SensorArray", "countCorrect", "(I)I"⟩, 13), (⟨"SensorArray", "scoreOf", "(I)I"⟩, 13), (⟨"SensorArrayModel", "starts", "(I)V"⟩, 28), (⟨"SensorArrayModel", "isSensor", "(I)Z"⟩, 28), (⟨"SensorArrayModel", "ratioOf", "(II)I"⟩, 28), (⟨"SensorArrayModel", "featureOf", "(II)I"⟩, 28), (⟨"SensorArrayModel", "fits", "(I)V"⟩, 28), (⟨"SensorArrayModel", "copies", "(II)V"⟩, 28)]
theorem lw_r2 : ∀ q ∈ lw_privs_2, lw_okq q := List.forall_mem_cons.mpr ⟨lw_p16, List.forall_mem_cons.mpr ⟨lw_p17, List.forall_mem_cons.mpr ⟨lw_p18, List.forall_mem_cons.mpr ⟨lw_p19, List.forall_mem_cons.mpr ⟨lw_p20, List.forall_mem_cons.mpr ⟨lw_p21, List.forall_mem_cons.mpr ⟨lw_p22, List.forall_mem_cons.mpr ⟨lw_p23, List.forall_mem_cons.mpr ⟨lw_p24, List.forall_mem_cons.mpr ⟨lw_p25, List.forall_mem_cons.mpr ⟨lw_p26, List.forall_mem_cons.mpr ⟨lw_p27, List.forall_mem_cons.mpr ⟨lw_p28, List.forall_mem_cons.mpr ⟨lw_p29, List.forall_mem_cons.mpr ⟨lw_p30, List.forall_mem_cons.mpr ⟨lw_p31, fun _ h => absurd h List.not_mem_nil⟩⟩⟩⟩⟩⟩⟩⟩⟩⟩⟩⟩⟩⟩⟩⟩
theorem lw_p32 : lw_okq (⟨"SensorArrayModel", "lays", "(I)V"⟩, 28) := ⟨⟨by decide +kernel, by decide +kernel⟩, List.mem_of_getElem? (i := 785) (by decide +kernel), List.mem_of_getElem? (i := 967) (by decide +kernel), List.mem_of_getElem? (i := 968) (by decide +kernel)⟩
theorem lw_p33 : lw_okq (⟨"SensorArrayModel", "isPlace", "(I)Z"⟩, 28) := ⟨⟨by decide +kernel, by decide +kernel⟩, List.mem_of_getElem? (i := 785) (by decide +kernel), List.mem_of_getElem? (i := 971) (by decide +kernel), List.mem_of_getElem? (i := 972) (by decide +kernel)⟩
theorem lw_p34 : lw_okq (⟨"SensorArrayModel", "laysDrift", "()V"⟩, 28) := ⟨⟨by decide +kernel, by decide +kernel⟩, List.mem_of_getElem? (i := 785) (by decide +kernel), List.mem_of_getElem? (i := 975) (by decide +kernel), List.mem_of_getElem? (i := 976) (by decide +kernel)⟩
theorem lw_p35 : lw_okq (⟨"SensorArrayModel", "isClass", "(I)Z"⟩, 28) := ⟨⟨by decide +kernel, by decide +kernel⟩, List.mem_of_getElem? (i := 785) (by decide +kernel), List.mem_of_getElem? (i := 1004) (by decide +kernel), List.mem_of_getElem? (i := 1005) (by decide +kernel)⟩
theorem lw_p36 : lw_okq (⟨"SensorArrayModel", "isSample", "(II)Z"⟩, 28) := ⟨⟨by decide +kernel, by decide +kernel⟩, List.mem_of_getElem? (i := 785) (by decide +kernel), List.mem_of_getElem? (i := 1015) (by decide +kernel), List.mem_of_getElem? (i := 1016) (by decide +kernel)⟩
theorem lw_p37 : lw_okq (⟨"SensorArrayModel", "farFrom", "(III)J"⟩, 28) := ⟨⟨by decide +kernel, by decide +kernel⟩, List.mem_of_getElem? (i := 785) (by decide +kernel), List.mem_of_getElem? (i := 1031) (by decide +kernel), List.mem_of_getElem? (i := 1032) (by decide +kernel)⟩
theorem lw_p38 : lw_okq (⟨"SensorArrayModel", "sumOf", "(III)J"⟩, 28) := ⟨⟨by decide +kernel, by decide +kernel⟩, List.mem_of_getElem? (i := 785) (by decide +kernel), List.mem_of_getElem? (i := 1036) (by decide +kernel), List.mem_of_getElem? (i := 1037) (by decide +kernel)⟩
theorem lw_p39 : lw_okq (⟨"SensorArrayModel", "far", "(J)J"⟩, 28) := ⟨⟨by decide +kernel, by decide +kernel⟩, List.mem_of_getElem? (i := 785) (by decide +kernel), List.mem_of_getElem? (i := 1040) (by decide +kernel), List.mem_of_getElem? (i := 1041) (by decide +kernel)⟩
theorem lw_p40 : lw_okq (⟨"SensorArrayModel", "nearest", "(IIII)I"⟩, 28) := ⟨⟨by decide +kernel, by decide +kernel⟩, List.mem_of_getElem? (i := 785) (by decide +kernel), List.mem_of_getElem? (i := 1048) (by decide +kernel), List.mem_of_getElem? (i := 1049) (by decide +kernel)⟩
theorem lw_p41 : lw_okq (⟨"SensorArrayModel", "radiusOf", "(I)J"⟩, 28) := ⟨⟨by decide +kernel, by decide +kernel⟩, List.mem_of_getElem? (i := 785) (by decide +kernel), List.mem_of_getElem? (i := 1060) (by decide +kernel), List.mem_of_getElem? (i := 1061) (by decide +kernel)⟩
theorem lw_p42 : lw_okq (⟨"SensorArrayModel", "farthest", "(I)I"⟩, 28) := ⟨⟨by decide +kernel, by decide +kernel⟩, List.mem_of_getElem? (i := 785) (by decide +kernel), List.mem_of_getElem? (i := 1064) (by decide +kernel), List.mem_of_getElem? (i := 1065) (by decide +kernel)⟩
theorem lw_p43 : lw_okq (⟨"SensorArrayModel", "between", "(II)J"⟩, 28) := ⟨⟨by decide +kernel, by decide +kernel⟩, List.mem_of_getElem? (i := 785) (by decide +kernel), List.mem_of_getElem? (i := 1085) (by decide +kernel), List.mem_of_getElem? (i := 1086) (by decide +kernel)⟩
theorem lw_p44 : lw_okq (⟨"SensorArrayModel", "ranks", "()V"⟩, 28) := ⟨⟨by decide +kernel, by decide +kernel⟩, List.mem_of_getElem? (i := 785) (by decide +kernel), List.mem_of_getElem? (i := 1097) (by decide +kernel), List.mem_of_getElem? (i := 1098) (by decide +kernel)⟩
theorem lw_p45 : lw_okq (⟨"SensorArrayModel", "tested", "(II)I"⟩, 28) := ⟨⟨by decide +kernel, by decide +kernel⟩, List.mem_of_getElem? (i := 785) (by decide +kernel), List.mem_of_getElem? (i := 1110) (by decide +kernel), List.mem_of_getElem? (i := 1111) (by decide +kernel)⟩
theorem lw_p46 : lw_okq (⟨"SensorArrayModel", "correctOnes", "()I"⟩, 28) := ⟨⟨by decide +kernel, by decide +kernel⟩, List.mem_of_getElem? (i := 785) (by decide +kernel), List.mem_of_getElem? (i := 1122) (by decide +kernel), List.mem_of_getElem? (i := 1123) (by decide +kernel)⟩
theorem lw_p47 : lw_okq (⟨"SensorArrayModel", "isSet", "(I)Z"⟩, 28) := ⟨⟨by decide +kernel, by decide +kernel⟩, List.mem_of_getElem? (i := 785) (by decide +kernel), List.mem_of_getElem? (i := 1138) (by decide +kernel), List.mem_of_getElem? (i := 1139) (by decide +kernel)⟩
def lw_privs_3 : List (MethodName × Nat) := [(⟨"SensorArrayModel", "lays", "(I)V"⟩, 28), (⟨"SensorArrayModel", "isPlace", "(I)Z"⟩, 28), (⟨"SensorArrayModel", "laysDrift", "()V"⟩, 28), (⟨"SensorArrayModel", "isClass", "(I)Z"⟩, 28), (⟨"SensorArrayModel", "isSample", "(II)Z"⟩, 28), (⟨"SensorArrayModel", "farFrom", "(III)J"⟩, 28), (⟨"SensorArrayModel", "sumOf", "(III)J"⟩, 28), (⟨"SensorArrayModel", "far", "(J)J"⟩, 28), (⟨"SensorArrayModel", "nearest", "(IIII)I"⟩, 28), (⟨"SensorArrayModel", "radiusOf", "(I)J"⟩, 28), (⟨"SensorArrayModel", "farthest", "(I)I"⟩, 28), (⟨"SensorArrayModel", "between", "(II)J"⟩, 28), (⟨"SensorArrayModel", "ranks", "()V"⟩, 28), (⟨"SensorArrayModel", "tested", "(II)I"⟩, 28), (⟨"SensorArrayModel", "correctOnes", "()I"⟩, 28), (⟨"SensorArrayModel", "isSet", "(I)Z"⟩, 28)]
theorem lw_r3 : ∀ q ∈ lw_privs_3, lw_okq q := List.forall_mem_cons.mpr ⟨lw_p32, List.forall_mem_cons.mpr ⟨lw_p33, List.forall_mem_cons.mpr ⟨lw_p34, List.forall_mem_cons.mpr ⟨lw_p35, List.forall_mem_cons.mpr ⟨lw_p36, List.forall_mem_cons.mpr ⟨lw_p37, List.forall_mem_cons.mpr ⟨lw_p38, List.forall_mem_cons.mpr ⟨lw_p39, List.forall_mem_cons.mpr ⟨lw_p40, List.forall_mem_cons.mpr ⟨lw_p41, List.forall_mem_cons.mpr ⟨lw_p42, List.forall_mem_cons.mpr ⟨lw_p43, List.forall_mem_cons.mpr ⟨lw_p44, List.forall_mem_cons.mpr ⟨lw_p45, List.forall_mem_cons.mpr ⟨lw_p46, List.forall_mem_cons.mpr ⟨lw_p47, fun _ h => absurd h List.not_mem_nil⟩⟩⟩⟩⟩⟩⟩⟩⟩⟩⟩⟩⟩⟩⟩⟩
theorem lw_p48 : lw_okq (⟨"SensorArrayModel", "correctBy", "(I)I"⟩, 28) := ⟨⟨by decide +kernel, by decide +kernel⟩, List.mem_of_getElem? (i := 785) (by decide +kernel), List.mem_of_getElem? (i := 1142) (by decide +kernel), List.mem_of_getElem? (i := 1143) (by decide +kernel)⟩
theorem lw_p49 : lw_okq (⟨"SensorArrayModel", "goesTo", "(I)Z"⟩, 28) := ⟨⟨by decide +kernel, by decide +kernel⟩, List.mem_of_getElem? (i := 785) (by decide +kernel), List.mem_of_getElem? (i := 1161) (by decide +kernel), List.mem_of_getElem? (i := 1162) (by decide +kernel)⟩
theorem lw_p50 : lw_okq (⟨"SensorArrayModel", "joins", "()Z"⟩, 28) := ⟨⟨by decide +kernel, by decide +kernel⟩, List.mem_of_getElem? (i := 785) (by decide +kernel), List.mem_of_getElem? (i := 1165) (by decide +kernel), List.mem_of_getElem? (i := 1166) (by decide +kernel)⟩
theorem lw_p51 : lw_okq (⟨"SensorArrayModel", "apart", "(II)J"⟩, 28) := ⟨⟨by decide +kernel, by decide +kernel⟩, List.mem_of_getElem? (i := 785) (by decide +kernel), List.mem_of_getElem? (i := 1169) (by decide +kernel), List.mem_of_getElem? (i := 1170) (by decide +kernel)⟩
theorem lw_p52 : lw_okq (⟨"SensorArrayModel", "squaresOf", "(II)J"⟩, 28) := ⟨⟨by decide +kernel, by decide +kernel⟩, List.mem_of_getElem? (i := 785) (by decide +kernel), List.mem_of_getElem? (i := 1181) (by decide +kernel), List.mem_of_getElem? (i := 1182) (by decide +kernel)⟩
def lw_privs_4 : List (MethodName × Nat) := [(⟨"SensorArrayModel", "correctBy", "(I)I"⟩, 28), (⟨"SensorArrayModel", "goesTo", "(I)Z"⟩, 28), (⟨"SensorArrayModel", "joins", "()Z"⟩, 28), (⟨"SensorArrayModel", "apart", "(II)J"⟩, 28), (⟨"SensorArrayModel", "squaresOf", "(II)J"⟩, 28)]
theorem lw_r4 : ∀ q ∈ lw_privs_4, lw_okq q := List.forall_mem_cons.mpr ⟨lw_p48, List.forall_mem_cons.mpr ⟨lw_p49, List.forall_mem_cons.mpr ⟨lw_p50, List.forall_mem_cons.mpr ⟨lw_p51, List.forall_mem_cons.mpr ⟨lw_p52, fun _ h => absurd h List.not_mem_nil⟩⟩⟩⟩⟩
def lw_privs : List (MethodName × Nat) := lw_privs_1 ++ (lw_privs_2 ++ (lw_privs_3 ++ (lw_privs_4)))
def lw_tbl : List Cond := k2_sels lw_privs ++ tables_1
theorem lw_privs_ok : ∀ q ∈ lw_privs, lw_okq q := by
  show ∀ q ∈ lw_privs_1 ++ (lw_privs_2 ++ (lw_privs_3 ++ (lw_privs_4))), lw_okq q
  exact List.forall_mem_append.mpr ⟨lw_r1, List.forall_mem_append.mpr ⟨lw_r2, List.forall_mem_append.mpr ⟨lw_r3, lw_r4⟩⟩⟩
def RX0 : String := "SensorArray$Converter"
def TX0 : u_T := fun k => match k with
  | 0 => ("SensorArray$Converter", "baselines", "[I", true)
  | 1 => ("SensorArray$Converter", "calibrations", "LSensorArray$Store;", true)
  | 2 => ("SensorArray$Converter", "line", "LSensorArray$Line;", true)
  | 3 => ("SensorArray$Converter", "sxy", "[J", true)
  | 4 => ("SensorArray$Converter", "sxx", "J", false)
  | 5 => ("SensorArray$Converter", "correcting", "Z", false)
  | _ => ("SensorArray$Converter", "sensors", "I", false)
def tyX0 : Nat → FieldType := fun k => match k with
  | 0 => .array .int
  | 1 => .object "SensorArray$Store"
  | 2 => .object "SensorArray$Line"
  | 3 => .array .long
  | 4 => .long
  | 5 => .boolean
  | _ => .int
abbrev wsX00 : List Cond := u_ws RX0 TX0 7
theorem nmX0 : ∀ a, a < 7 → ∀ b, b < 7 → a ≠ b → (TX0 a).2.1 ≠ (TX0 b).2.1 := by decide +kernel
theorem tyX0_ok : ∀ k, k < 7 → parseFieldDescriptor (TX0 k).2.2.1 = some (tyX0 k) := by decide +kernel
abbrev cX0_init : ByteArray := prog_2_method_1_code
def yX0_init : MethodName := ⟨RX0, "<init>", "()V"⟩
abbrev cX0_restart : ByteArray := prog_2_method_2_code
def yX0_restart : MethodName := ⟨RX0, "restart", "(I)V"⟩
abbrev cX0_changeBaseline : ByteArray := prog_2_method_3_code
def yX0_changeBaseline : MethodName := ⟨RX0, "changeBaseline", "(II)I"⟩
abbrev cX0_addToFit : ByteArray := prog_2_method_4_code
def yX0_addToFit : MethodName := ⟨RX0, "addToFit", "(LSensorArray$Measurement;)I"⟩
abbrev cX0_removeFromFit : ByteArray := prog_2_method_5_code
def yX0_removeFromFit : MethodName := ⟨RX0, "removeFromFit", "()I"⟩
abbrev cX0_fit : ByteArray := prog_2_method_6_code
def yX0_fit : MethodName := ⟨RX0, "fit", "()V"⟩
abbrev cX0_ratioIn : ByteArray := prog_2_method_7_code
def yX0_ratioIn : MethodName := ⟨RX0, "ratioIn", "(LSensorArray$Measurement;I)I"⟩
abbrev cX0_featureIn : ByteArray := prog_2_method_8_code
def yX0_featureIn : MethodName := ⟨RX0, "featureIn", "(LSensorArray$Measurement;I)I"⟩
abbrev cX0_correction : ByteArray := prog_2_method_9_code
def yX0_correction : MethodName := ⟨RX0, "correction", "(II)J"⟩
abbrev cX0_fillFeatures : ByteArray := prog_2_method_10_code
def yX0_fillFeatures : MethodName := ⟨RX0, "fillFeatures", "(LSensorArray$Measurement;[I)V"⟩
def RX1 : String := "SensorArray$Drift"
def TX1 : u_T := fun k => match k with
  | 0 => ("SensorArray$Drift", "references", "LSensorArray$Store;", true)
  | 1 => ("SensorArray$Drift", "times", "[I", true)
  | 2 => ("SensorArray$Drift", "line", "LSensorArray$Line;", true)
  | 3 => ("SensorArray$Drift", "rows", "[[I", true)
  | 4 => ("SensorArray$Drift", "trends", "[J", true)
  | 5 => ("SensorArray$Drift", "components", "[I", true)
  | 6 => ("SensorArray$Drift", "exists", "Z", false)
  | _ => ("SensorArray$Drift", "on", "Z", false)
def tyX1 : Nat → FieldType := fun k => match k with
  | 0 => .object "SensorArray$Store"
  | 1 => .array .int
  | 2 => .object "SensorArray$Line"
  | 3 => .array (.array .int)
  | 4 => .array .long
  | 5 => .array .int
  | 6 => .boolean
  | _ => .boolean
abbrev wsX10 : List Cond := u_ws RX1 TX1 8
theorem nmX1 : ∀ a, a < 8 → ∀ b, b < 8 → a ≠ b → (TX1 a).2.1 ≠ (TX1 b).2.1 := by decide +kernel
theorem tyX1_ok : ∀ k, k < 8 → parseFieldDescriptor (TX1 k).2.2.1 = some (tyX1 k) := by decide +kernel
abbrev cX1_init : ByteArray := prog_3_method_1_code
def yX1_init : MethodName := ⟨RX1, "<init>", "()V"⟩
abbrev cX1_restart : ByteArray := prog_3_method_2_code
def yX1_restart : MethodName := ⟨RX1, "restart", "()V"⟩
abbrev cX1_latestTime : ByteArray := prog_3_method_3_code
def yX1_latestTime : MethodName := ⟨RX1, "latestTime", "()I"⟩
abbrev cX1_append : ByteArray := prog_3_method_4_code
def yX1_append : MethodName := ⟨RX1, "append", "(LSensorArray$Measurement;I)I"⟩
abbrev cX1_refresh : ByteArray := prog_3_method_5_code
def yX1_refresh : MethodName := ⟨RX1, "refresh", "(LSensorArray$Converter;)V"⟩
abbrev cX1_sumUp : ByteArray := prog_3_method_6_code
def yX1_sumUp : MethodName := ⟨RX1, "sumUp", "(I)V"⟩
abbrev cX1_positionOf : ByteArray := prog_3_method_7_code
def yX1_positionOf : MethodName := ⟨RX1, "positionOf", "([I)I"⟩
abbrev cX1_predict : ByteArray := prog_3_method_8_code
def yX1_predict : MethodName := ⟨RX1, "predict", "(II)I"⟩
def RX2 : String := "SensorArray$Group"
def TX2 : u_T := fun k => match k with
  | 0 => ("SensorArray$Group", "samples", "LSensorArray$Store;", true)
  | 1 => ("SensorArray$Group", "rows", "[[I", true)
  | 2 => ("SensorArray$Group", "sums", "[I", true)
  | _ => ("SensorArray$Group", "weight", "I", false)
def tyX2 : Nat → FieldType := fun k => match k with
  | 0 => .object "SensorArray$Store"
  | 1 => .array (.array .int)
  | 2 => .array .int
  | _ => .int
abbrev wsX20 : List Cond := u_ws RX2 TX2 4
theorem nmX2 : ∀ a, a < 4 → ∀ b, b < 4 → a ≠ b → (TX2 a).2.1 ≠ (TX2 b).2.1 := by decide +kernel
theorem tyX2_ok : ∀ k, k < 4 → parseFieldDescriptor (TX2 k).2.2.1 = some (tyX2 k) := by decide +kernel
abbrev cX2_init : ByteArray := prog_4_method_1_code
def yX2_init : MethodName := ⟨RX2, "<init>", "()V"⟩
abbrev cX2_refresh : ByteArray := prog_4_method_2_code
def yX2_refresh : MethodName := ⟨RX2, "refresh", "(LSensorArray$Converter;)V"⟩
abbrev cX2_weigh : ByteArray := prog_4_method_3_code
def yX2_weigh : MethodName := ⟨RX2, "weigh", "(II)V"⟩
abbrev cX2_squaresOf : ByteArray := prog_4_method_4_code
def yX2_squaresOf : MethodName := ⟨RX2, "squaresOf", "(I)J"⟩
def RX3 : String := "SensorArray$Line"
def TX3 : u_T := fun k => match k with
  | 0 => ("SensorArray$Line", "n", "J", false)
  | 1 => ("SensorArray$Line", "sumX", "J", false)
  | 2 => ("SensorArray$Line", "sumY", "J", false)
  | 3 => ("SensorArray$Line", "sumXX", "J", false)
  | _ => ("SensorArray$Line", "sumXY", "J", false)
def tyX3 : Nat → FieldType := fun k => match k with
  | 0 => .long
  | 1 => .long
  | 2 => .long
  | 3 => .long
  | _ => .long
abbrev wsX30 : List Cond := u_ws RX3 TX3 5
theorem nmX3 : ∀ a, a < 5 → ∀ b, b < 5 → a ≠ b → (TX3 a).2.1 ≠ (TX3 b).2.1 := by decide +kernel
theorem tyX3_ok : ∀ k, k < 5 → parseFieldDescriptor (TX3 k).2.2.1 = some (tyX3 k) := by decide +kernel
abbrev cX3_init : ByteArray := prog_5_method_1_code
def yX3_init : MethodName := ⟨RX3, "<init>", "()V"⟩
abbrev cX3_clear : ByteArray := prog_5_method_2_code
def yX3_clear : MethodName := ⟨RX3, "clear", "()V"⟩
abbrev cX3_add : ByteArray := prog_5_method_3_code
def yX3_add : MethodName := ⟨RX3, "add", "(JJ)V"⟩
abbrev cX3_cross : ByteArray := prog_5_method_4_code
def yX3_cross : MethodName := ⟨RX3, "cross", "()J"⟩
abbrev cX3_square : ByteArray := prog_5_method_5_code
def yX3_square : MethodName := ⟨RX3, "square", "()J"⟩
def RX4 : String := "SensorArray$Linkage"
def TX4 : u_T := fun k => match k with
  | 0 => ("SensorArray$Linkage", "gaps", "[[I", true)
  | 1 => ("SensorArray$Linkage", "heads", "[I", true)
  | 2 => ("SensorArray$Linkage", "first", "I", false)
  | 3 => ("SensorArray$Linkage", "second", "I", false)
  | _ => ("SensorArray$Linkage", "gap", "I", false)
def tyX4 : Nat → FieldType := fun k => match k with
  | 0 => .array (.array .int)
  | 1 => .array .int
  | 2 => .int
  | 3 => .int
  | _ => .int
abbrev wsX40 : List Cond := u_ws RX4 TX4 5
theorem nmX4 : ∀ a, a < 5 → ∀ b, b < 5 → a ≠ b → (TX4 a).2.1 ≠ (TX4 b).2.1 := by decide +kernel
theorem tyX4_ok : ∀ k, k < 5 → parseFieldDescriptor (TX4 k).2.2.1 = some (tyX4 k) := by decide +kernel
abbrev cX4_init : ByteArray := prog_6_method_1_code
def yX4_init : MethodName := ⟨RX4, "<init>", "()V"⟩
abbrev cX4_clear : ByteArray := prog_6_method_2_code
def yX4_clear : MethodName := ⟨RX4, "clear", "()V"⟩
abbrev cX4_include : ByteArray := prog_6_method_3_code
def yX4_include : MethodName := ⟨RX4, "include", "(I)V"⟩
abbrev cX4_setGap : ByteArray := prog_6_method_4_code
def yX4_setGap : MethodName := ⟨RX4, "setGap", "(III)V"⟩
abbrev cX4_pairCode : ByteArray := prog_6_method_5_code
def yX4_pairCode : MethodName := ⟨RX4, "pairCode", "()I"⟩
abbrev cX4_runTo : ByteArray := prog_6_method_6_code
def yX4_runTo : MethodName := ⟨RX4, "runTo", "(I)Z"⟩
abbrev cX4_findPair : ByteArray := prog_6_method_7_code
def yX4_findPair : MethodName := ⟨RX4, "findPair", "()Z"⟩
abbrev cX4_consider : ByteArray := prog_6_method_8_code
def yX4_consider : MethodName := ⟨RX4, "consider", "(III)V"⟩
abbrev cX4_comesFirst : ByteArray := prog_6_method_9_code
def yX4_comesFirst : MethodName := ⟨RX4, "comesFirst", "(III)Z"⟩
abbrev cX4_joinPair : ByteArray := prog_6_method_10_code
def yX4_joinPair : MethodName := ⟨RX4, "joinPair", "()V"⟩
def RX5 : String := "SensorArray$Measurement"
def TX5 : u_T := fun k => match k with
  | 0 => ("SensorArray$Measurement", "humidity", "I", true)
  | _ => ("SensorArray$Measurement", "readings", "[I", true)
def tyX5 : Nat → FieldType := fun k => match k with
  | 0 => .int
  | _ => .array .int
abbrev wsX50 : List Cond := u_ws RX5 TX5 2
theorem nmX5 : ∀ a, a < 2 → ∀ b, b < 2 → a ≠ b → (TX5 a).2.1 ≠ (TX5 b).2.1 := by decide +kernel
theorem tyX5_ok : ∀ k, k < 2 → parseFieldDescriptor (TX5 k).2.2.1 = some (tyX5 k) := by decide +kernel
abbrev cX5_init : ByteArray := prog_7_method_1_code
def yX5_init : MethodName := ⟨RX5, "<init>", "(IIIIII)V"⟩
def RX6 : String := "SensorArray$Metric"
def TX6 : u_T := fun k => match k with
  | 0 => ("SensorArray$Metric", "taken", "[Z", true)
  | 1 => ("SensorArray$Metric", "direction", "[I", true)
  | _ => ("SensorArray$Metric", "dd", "J", false)
def tyX6 : Nat → FieldType := fun k => match k with
  | 0 => .array .boolean
  | 1 => .array .int
  | _ => .long
abbrev wsX60 : List Cond := u_ws RX6 TX6 3
theorem nmX6 : ∀ a, a < 3 → ∀ b, b < 3 → a ≠ b → (TX6 a).2.1 ≠ (TX6 b).2.1 := by decide +kernel
theorem tyX6_ok : ∀ k, k < 3 → parseFieldDescriptor (TX6 k).2.2.1 = some (tyX6 k) := by decide +kernel
abbrev cX6_init : ByteArray := prog_8_method_1_code
def yX6_init : MethodName := ⟨RX6, "<init>", "()V"⟩
abbrev cX6_aim : ByteArray := prog_8_method_2_code
def yX6_aim : MethodName := ⟨RX6, "aim", "(LSensorArray$Drift;I)V"⟩
abbrev cX6_gap : ByteArray := prog_8_method_3_code
def yX6_gap : MethodName := ⟨RX6, "gap", "([II[II)I"⟩
def RX7 : String := "SensorArray$Ranking"
def TX7 : u_T := fun k => match k with
  | 0 => ("SensorArray$Ranking", "codes", "[I", true)
  | 1 => ("SensorArray$Ranking", "gaps", "[I", true)
  | 2 => ("SensorArray$Ranking", "votes", "[I", true)
  | _ => ("SensorArray$Ranking", "size", "I", false)
def tyX7 : Nat → FieldType := fun k => match k with
  | 0 => .array .int
  | 1 => .array .int
  | 2 => .array .int
  | _ => .int
abbrev wsX70 : List Cond := u_ws RX7 TX7 4
theorem nmX7 : ∀ a, a < 4 → ∀ b, b < 4 → a ≠ b → (TX7 a).2.1 ≠ (TX7 b).2.1 := by decide +kernel
theorem tyX7_ok : ∀ k, k < 4 → parseFieldDescriptor (TX7 k).2.2.1 = some (tyX7 k) := by decide +kernel
abbrev cX7_init : ByteArray := prog_9_method_1_code
def yX7_init : MethodName := ⟨RX7, "<init>", "()V"⟩
abbrev cX7_clear : ByteArray := prog_9_method_2_code
def yX7_clear : MethodName := ⟨RX7, "clear", "()V"⟩
abbrev cX7_insert : ByteArray := prog_9_method_3_code
def yX7_insert : MethodName := ⟨RX7, "insert", "(II)V"⟩
abbrev cX7_winnerOf : ByteArray := prog_9_method_4_code
def yX7_winnerOf : MethodName := ⟨RX7, "winnerOf", "(I)I"⟩
abbrev cX7_countVotes : ByteArray := prog_9_method_5_code
def yX7_countVotes : MethodName := ⟨RX7, "countVotes", "(I)V"⟩
def RX8 : String := "SensorArray$Store"
def TX8 : u_T := fun k => match k with
  | 0 => ("SensorArray$Store", "held", "[LSensorArray$Measurement;", true)
  | 1 => ("SensorArray$Store", "blank", "LSensorArray$Measurement;", true)
  | _ => ("SensorArray$Store", "count", "I", false)
def tyX8 : Nat → FieldType := fun k => match k with
  | 0 => .array (.object "SensorArray$Measurement")
  | 1 => .object "SensorArray$Measurement"
  | _ => .int
abbrev wsX80 : List Cond := u_ws RX8 TX8 3
theorem nmX8 : ∀ a, a < 3 → ∀ b, b < 3 → a ≠ b → (TX8 a).2.1 ≠ (TX8 b).2.1 := by decide +kernel
theorem tyX8_ok : ∀ k, k < 3 → parseFieldDescriptor (TX8 k).2.2.1 = some (tyX8 k) := by decide +kernel
abbrev cX8_init : ByteArray := prog_10_method_1_code
def yX8_init : MethodName := ⟨RX8, "<init>", "(I)V"⟩
abbrev cX8_isFull : ByteArray := prog_10_method_2_code
def yX8_isFull : MethodName := ⟨RX8, "isFull", "()Z"⟩
abbrev cX8_clear : ByteArray := prog_10_method_3_code
def yX8_clear : MethodName := ⟨RX8, "clear", "()V"⟩
abbrev cX8_append : ByteArray := prog_10_method_4_code
def yX8_append : MethodName := ⟨RX8, "append", "(LSensorArray$Measurement;)V"⟩
abbrev cX8_removeAt : ByteArray := prog_10_method_5_code
def yX8_removeAt : MethodName := ⟨RX8, "removeAt", "(I)V"⟩
abbrev cX8_at : ByteArray := prog_10_method_6_code
def yX8_at : MethodName := ⟨RX8, "at", "(I)LSensorArray$Measurement;"⟩
def RX9 : String := "SensorArray"
def TX9 : u_T := fun k => match k with
  | 0 => ("SensorArray", "converter", "LSensorArray$Converter;", true)
  | 1 => ("SensorArray", "drift", "LSensorArray$Drift;", true)
  | 2 => ("SensorArray", "metric", "LSensorArray$Metric;", true)
  | 3 => ("SensorArray", "groups", "[LSensorArray$Group;", true)
  | 4 => ("SensorArray", "ranking", "LSensorArray$Ranking;", true)
  | 5 => ("SensorArray", "linkage", "LSensorArray$Linkage;", true)
  | 6 => ("SensorArray", "blank", "LSensorArray$Measurement;", true)
  | 7 => ("SensorArray", "here", "[I", true)
  | 8 => ("SensorArray", "current", "LSensorArray$Measurement;", false)
  | 9 => ("SensorArray", "measured", "Z", false)
  | 10 => ("SensorArray", "classes", "I", false)
  | 11 => ("SensorArray", "margin", "I", false)
  | _ => ("SensorArray", "slack", "I", false)
def tyX9 : Nat → FieldType := fun k => match k with
  | 0 => .object "SensorArray$Converter"
  | 1 => .object "SensorArray$Drift"
  | 2 => .object "SensorArray$Metric"
  | 3 => .array (.object "SensorArray$Group")
  | 4 => .object "SensorArray$Ranking"
  | 5 => .object "SensorArray$Linkage"
  | 6 => .object "SensorArray$Measurement"
  | 7 => .array .int
  | 8 => .object "SensorArray$Measurement"
  | 9 => .boolean
  | 10 => .int
  | 11 => .int
  | _ => .int
abbrev wsX90 : List Cond := u_ws RX9 TX9 13
theorem nmX9 : ∀ a, a < 13 → ∀ b, b < 13 → a ≠ b → (TX9 a).2.1 ≠ (TX9 b).2.1 := by decide +kernel
theorem tyX9_ok : ∀ k, k < 13 → parseFieldDescriptor (TX9 k).2.2.1 = some (tyX9 k) := by decide +kernel
abbrev cX9_init : ByteArray := prog_1_method_1_code
def yX9_init : MethodName := ⟨RX9, "<init>", "()V"⟩
abbrev cX9_reset : ByteArray := prog_1_method_2_code
def yX9_reset : MethodName := ⟨RX9, "reset", "(I)I"⟩
abbrev cX9_sensorCount : ByteArray := prog_1_method_3_code
def yX9_sensorCount : MethodName := ⟨RX9, "sensorCount", "()I"⟩
abbrev cX9_setBaseline : ByteArray := prog_1_method_4_code
def yX9_setBaseline : MethodName := ⟨RX9, "setBaseline", "(II)I"⟩
abbrev cX9_measure : ByteArray := prog_1_method_5_code
def yX9_measure : MethodName := ⟨RX9, "measure", "(IIIIII)I"⟩
abbrev cX9_ratio : ByteArray := prog_1_method_6_code
def yX9_ratio : MethodName := ⟨RX9, "ratio", "(I)I"⟩
abbrev cX9_feature : ByteArray := prog_1_method_7_code
def yX9_feature : MethodName := ⟨RX9, "feature", "(I)I"⟩
abbrev cX9_addCalibration : ByteArray := prog_1_method_8_code
def yX9_addCalibration : MethodName := ⟨RX9, "addCalibration", "()I"⟩
abbrev cX9_removeCalibration : ByteArray := prog_1_method_9_code
def yX9_removeCalibration : MethodName := ⟨RX9, "removeCalibration", "()I"⟩
abbrev cX9_humiditySlope : ByteArray := prog_1_method_10_code
def yX9_humiditySlope : MethodName := ⟨RX9, "humiditySlope", "(I)I"⟩
abbrev cX9_useHumidity : ByteArray := prog_1_method_11_code
def yX9_useHumidity : MethodName := ⟨RX9, "useHumidity", "(Z)I"⟩
abbrev cX9_addReference : ByteArray := prog_1_method_12_code
def yX9_addReference : MethodName := ⟨RX9, "addReference", "(I)I"⟩
abbrev cX9_removeReference : ByteArray := prog_1_method_13_code
def yX9_removeReference : MethodName := ⟨RX9, "removeReference", "()I"⟩
abbrev cX9_driftComponent : ByteArray := prog_1_method_14_code
def yX9_driftComponent : MethodName := ⟨RX9, "driftComponent", "(I)I"⟩
abbrev cX9_driftPosition : ByteArray := prog_1_method_15_code
def yX9_driftPosition : MethodName := ⟨RX9, "driftPosition", "()I"⟩
abbrev cX9_useDrift : ByteArray := prog_1_method_16_code
def yX9_useDrift : MethodName := ⟨RX9, "useDrift", "(Z)I"⟩
abbrev cX9_predictedReference : ByteArray := prog_1_method_17_code
def yX9_predictedReference : MethodName := ⟨RX9, "predictedReference", "(II)I"⟩
abbrev cX9_addClass : ByteArray := prog_1_method_18_code
def yX9_addClass : MethodName := ⟨RX9, "addClass", "()I"⟩
abbrev cX9_classCount : ByteArray := prog_1_method_19_code
def yX9_classCount : MethodName := ⟨RX9, "classCount", "()I"⟩
abbrev cX9_addSample : ByteArray := prog_1_method_20_code
def yX9_addSample : MethodName := ⟨RX9, "addSample", "(I)I"⟩
abbrev cX9_removeSample : ByteArray := prog_1_method_21_code
def yX9_removeSample : MethodName := ⟨RX9, "removeSample", "(II)I"⟩
abbrev cX9_recall : ByteArray := prog_1_method_22_code
def yX9_recall : MethodName := ⟨RX9, "recall", "(II)I"⟩
abbrev cX9_sampleCount : ByteArray := prog_1_method_23_code
def yX9_sampleCount : MethodName := ⟨RX9, "sampleCount", "(I)I"⟩
abbrev cX9_distance : ByteArray := prog_1_method_24_code
def yX9_distance : MethodName := ⟨RX9, "distance", "(I)I"⟩
abbrev cX9_nearestClass : ByteArray := prog_1_method_25_code
def yX9_nearestClass : MethodName := ⟨RX9, "nearestClass", "()I"⟩
abbrev cX9_runnerUp : ByteArray := prog_1_method_26_code
def yX9_runnerUp : MethodName := ⟨RX9, "runnerUp", "()I"⟩
abbrev cX9_radius : ByteArray := prog_1_method_27_code
def yX9_radius : MethodName := ⟨RX9, "radius", "(I)I"⟩
abbrev cX9_setMargin : ByteArray := prog_1_method_28_code
def yX9_setMargin : MethodName := ⟨RX9, "setMargin", "(I)I"⟩
abbrev cX9_setSlack : ByteArray := prog_1_method_29_code
def yX9_setSlack : MethodName := ⟨RX9, "setSlack", "(I)I"⟩
abbrev cX9_classify : ByteArray := prog_1_method_30_code
def yX9_classify : MethodName := ⟨RX9, "classify", "()I"⟩
abbrev cX9_classDistance : ByteArray := prog_1_method_31_code
def yX9_classDistance : MethodName := ⟨RX9, "classDistance", "(II)I"⟩
abbrev cX9_closestClasses : ByteArray := prog_1_method_32_code
def yX9_closestClasses : MethodName := ⟨RX9, "closestClasses", "()I"⟩
abbrev cX9_suspectSensor : ByteArray := prog_1_method_33_code
def yX9_suspectSensor : MethodName := ⟨RX9, "suspectSensor", "()I"⟩
abbrev cX9_joinedGroups : ByteArray := prog_1_method_34_code
def yX9_joinedGroups : MethodName := ⟨RX9, "joinedGroups", "(I)I"⟩
abbrev cX9_joinDistance : ByteArray := prog_1_method_35_code
def yX9_joinDistance : MethodName := ⟨RX9, "joinDistance", "(I)I"⟩
abbrev cX9_nearestSample : ByteArray := prog_1_method_36_code
def yX9_nearestSample : MethodName := ⟨RX9, "nearestSample", "(I)I"⟩
abbrev cX9_vote : ByteArray := prog_1_method_37_code
def yX9_vote : MethodName := ⟨RX9, "vote", "(I)I"⟩
abbrev cX9_leaveOneOut : ByteArray := prog_1_method_38_code
def yX9_leaveOneOut : MethodName := ⟨RX9, "leaveOneOut", "(II)I"⟩
abbrev cX9_confusion : ByteArray := prog_1_method_39_code
def yX9_confusion : MethodName := ⟨RX9, "confusion", "(II)I"⟩
abbrev cX9_correctCount : ByteArray := prog_1_method_40_code
def yX9_correctCount : MethodName := ⟨RX9, "correctCount", "()I"⟩
abbrev cX9_correctWithout : ByteArray := prog_1_method_41_code
def yX9_correctWithout : MethodName := ⟨RX9, "correctWithout", "(I)I"⟩
abbrev cX9_correctWith : ByteArray := prog_1_method_42_code
def yX9_correctWith : MethodName := ⟨RX9, "correctWith", "(I)I"⟩
abbrev cX9_bestSubset : ByteArray := prog_1_method_43_code
def yX9_bestSubset : MethodName := ⟨RX9, "bestSubset", "(I)I"⟩
abbrev cX9_leastUsefulSensor : ByteArray := prog_1_method_44_code
def yX9_leastUsefulSensor : MethodName := ⟨RX9, "leastUsefulSensor", "()I"⟩
abbrev cX9_sensorScore : ByteArray := prog_1_method_45_code
def yX9_sensorScore : MethodName := ⟨RX9, "sensorScore", "(I)I"⟩
abbrev cX9_outlier : ByteArray := prog_1_method_46_code
def yX9_outlier : MethodName := ⟨RX9, "outlier", "(I)I"⟩
abbrev cX9_restart : ByteArray := prog_1_method_47_code
def yX9_restart : MethodName := ⟨RX9, "restart", "(I)V"⟩
abbrev cX9_prepare : ByteArray := prog_1_method_48_code
def yX9_prepare : MethodName := ⟨RX9, "prepare", "()V"⟩
abbrev cX9_hasSensor : ByteArray := prog_1_method_49_code
def yX9_hasSensor : MethodName := ⟨RX9, "hasSensor", "(I)Z"⟩
abbrev cX9_hasClass : ByteArray := prog_1_method_50_code
def yX9_hasClass : MethodName := ⟨RX9, "hasClass", "(I)Z"⟩
abbrev cX9_hasSample : ByteArray := prog_1_method_51_code
def yX9_hasSample : MethodName := ⟨RX9, "hasSample", "(II)Z"⟩
abbrev cX9_isReading : ByteArray := prog_1_method_52_code
def yX9_isReading : MethodName := ⟨RX9, "isReading", "(II)Z"⟩
abbrev cX9_gapToClass : ByteArray := prog_1_method_53_code
def yX9_gapToClass : MethodName := ⟨RX9, "gapToClass", "([II)I"⟩
abbrev cX9_gapToSample : ByteArray := prog_1_method_54_code
def yX9_gapToSample : MethodName := ⟨RX9, "gapToSample", "([III)I"⟩
abbrev cX9_gapOfClasses : ByteArray := prog_1_method_55_code
def yX9_gapOfClasses : MethodName := ⟨RX9, "gapOfClasses", "(II)I"⟩
abbrev cX9_nearestTo : ByteArray := prog_1_method_56_code
def yX9_nearestTo : MethodName := ⟨RX9, "nearestTo", "([II)I"⟩
abbrev cX9_farthestSample : ByteArray := prog_1_method_57_code
def yX9_farthestSample : MethodName := ⟨RX9, "farthestSample", "(I)I"⟩
abbrev cX9_reachOf : ByteArray := prog_1_method_58_code
def yX9_reachOf : MethodName := ⟨RX9, "reachOf", "(I)I"⟩
abbrev cX9_runClustering : ByteArray := prog_1_method_59_code
def yX9_runClustering : MethodName := ⟨RX9, "runClustering", "(I)Z"⟩
abbrev cX9_rankSamples : ByteArray := prog_1_method_60_code
def yX9_rankSamples : MethodName := ⟨RX9, "rankSamples", "()V"⟩
abbrev cX9_resultOfTest : ByteArray := prog_1_method_61_code
def yX9_resultOfTest : MethodName := ⟨RX9, "resultOfTest", "(II)I"⟩
abbrev cX9_countResults : ByteArray := prog_1_method_62_code
def yX9_countResults : MethodName := ⟨RX9, "countResults", "(II)I"⟩
abbrev cX9_countCorrect : ByteArray := prog_1_method_63_code
def yX9_countCorrect : MethodName := ⟨RX9, "countCorrect", "(I)I"⟩
abbrev cX9_scoreOf : ByteArray := prog_1_method_64_code
def yX9_scoreOf : MethodName := ⟨RX9, "scoreOf", "(I)I"⟩
abbrev cX9_scatter : ByteArray := prog_1_method_65_code
def yX9_scatter : MethodName := ⟨RX9, "scatter", "(JJJ)J"⟩
abbrev cX9_allBut : ByteArray := prog_1_method_66_code
def yX9_allBut : MethodName := ⟨RX9, "allBut", "(I)I"⟩
abbrev cX9_isWithin : ByteArray := prog_1_method_67_code
def yX9_isWithin : MethodName := ⟨RX9, "isWithin", "(III)Z"⟩
abbrev cX9_quotient : ByteArray := prog_1_method_68_code
def yX9_quotient : MethodName := ⟨RX9, "quotient", "(JJ)J"⟩
def RX10 : String := "SensorArrayModel"
def TX10 : u_T := fun k => match k with
  | 0 => ("SensorArrayModel", "thrown", "I", false)
  | 1 => ("SensorArrayModel", "sensors", "I", false)
  | 2 => ("SensorArrayModel", "calibrations", "I", false)
  | 3 => ("SensorArrayModel", "references", "I", false)
  | 4 => ("SensorArrayModel", "classes", "I", false)
  | 5 => ("SensorArrayModel", "margin", "I", false)
  | 6 => ("SensorArrayModel", "slack", "I", false)
  | 7 => ("SensorArrayModel", "isMeasured", "Z", false)
  | 8 => ("SensorArrayModel", "usesHumidity", "Z", false)
  | 9 => ("SensorArrayModel", "usesDrift", "Z", false)
  | 10 => ("SensorArrayModel", "baseline", "[I", true)
  | 11 => ("SensorArrayModel", "data", "[I", true)
  | 12 => ("SensorArrayModel", "times", "[I", true)
  | 13 => ("SensorArrayModel", "samples", "[I", true)
  | 14 => ("SensorArrayModel", "sxy", "J", false)
  | 15 => ("SensorArrayModel", "sxx", "J", false)
  | 16 => ("SensorArrayModel", "feature", "[I", true)
  | 17 => ("SensorArrayModel", "drift", "[I", true)
  | 18 => ("SensorArrayModel", "isActive", "Z", false)
  | 19 => ("SensorArrayModel", "hasDrift", "Z", false)
  | 20 => ("SensorArrayModel", "moved", "[J", true)
  | 21 => ("SensorArrayModel", "u", "[J", true)
  | 22 => ("SensorArrayModel", "order", "[I", true)
  | 23 => ("SensorArrayModel", "farOf", "[J", true)
  | 24 => ("SensorArrayModel", "ordered", "I", false)
  | 25 => ("SensorArrayModel", "group", "[I", true)
  | 26 => ("SensorArrayModel", "joined", "I", false)
  | _ => ("SensorArrayModel", "joinedFar", "J", false)
def tyX10 : Nat → FieldType := fun k => match k with
  | 0 => .int
  | 1 => .int
  | 2 => .int
  | 3 => .int
  | 4 => .int
  | 5 => .int
  | 6 => .int
  | 7 => .boolean
  | 8 => .boolean
  | 9 => .boolean
  | 10 => .array .int
  | 11 => .array .int
  | 12 => .array .int
  | 13 => .array .int
  | 14 => .long
  | 15 => .long
  | 16 => .array .int
  | 17 => .array .int
  | 18 => .boolean
  | 19 => .boolean
  | 20 => .array .long
  | 21 => .array .long
  | 22 => .array .int
  | 23 => .array .long
  | 24 => .int
  | 25 => .array .int
  | 26 => .int
  | _ => .long
abbrev wsX100 : List Cond := u_ws RX10 TX10 28
theorem nmX10 : ∀ a, a < 28 → ∀ b, b < 28 → a ≠ b → (TX10 a).2.1 ≠ (TX10 b).2.1 := by decide +kernel
theorem tyX10_ok : ∀ k, k < 28 → parseFieldDescriptor (TX10 k).2.2.1 = some (tyX10 k) := by decide +kernel
abbrev cX10_isIn : ByteArray := prog_12_method_2_code
def yX10_isIn : MethodName := ⟨RX10, "isIn", "(JJJ)Z"⟩
abbrev cX10_down : ByteArray := prog_12_method_3_code
def yX10_down : MethodName := ⟨RX10, "down", "(JJ)J"⟩
abbrev cX10_init : ByteArray := prog_12_method_4_code
def yX10_init : MethodName := ⟨RX10, "<init>", "()V"⟩
abbrev cX10_starts : ByteArray := prog_12_method_5_code
def yX10_starts : MethodName := ⟨RX10, "starts", "(I)V"⟩
abbrev cX10_reset : ByteArray := prog_12_method_6_code
def yX10_reset : MethodName := ⟨RX10, "reset", "(I)I"⟩
abbrev cX10_sensorCount : ByteArray := prog_12_method_7_code
def yX10_sensorCount : MethodName := ⟨RX10, "sensorCount", "()I"⟩
abbrev cX10_isSensor : ByteArray := prog_12_method_8_code
def yX10_isSensor : MethodName := ⟨RX10, "isSensor", "(I)Z"⟩
abbrev cX10_setBaseline : ByteArray := prog_12_method_9_code
def yX10_setBaseline : MethodName := ⟨RX10, "setBaseline", "(II)I"⟩
abbrev cX10_measure : ByteArray := prog_12_method_10_code
def yX10_measure : MethodName := ⟨RX10, "measure", "(IIIIII)I"⟩
abbrev cX10_copies : ByteArray := prog_12_method_11_code
def yX10_copies : MethodName := ⟨RX10, "copies", "(II)V"⟩
abbrev cX10_ratioOf : ByteArray := prog_12_method_12_code
def yX10_ratioOf : MethodName := ⟨RX10, "ratioOf", "(II)I"⟩
abbrev cX10_fits : ByteArray := prog_12_method_13_code
def yX10_fits : MethodName := ⟨RX10, "fits", "(I)V"⟩
abbrev cX10_featureOf : ByteArray := prog_12_method_14_code
def yX10_featureOf : MethodName := ⟨RX10, "featureOf", "(II)I"⟩
abbrev cX10_ratio : ByteArray := prog_12_method_15_code
def yX10_ratio : MethodName := ⟨RX10, "ratio", "(I)I"⟩
abbrev cX10_feature : ByteArray := prog_12_method_16_code
def yX10_feature : MethodName := ⟨RX10, "feature", "(I)I"⟩
abbrev cX10_addCalibration : ByteArray := prog_12_method_17_code
def yX10_addCalibration : MethodName := ⟨RX10, "addCalibration", "()I"⟩
abbrev cX10_removeCalibration : ByteArray := prog_12_method_18_code
def yX10_removeCalibration : MethodName := ⟨RX10, "removeCalibration", "()I"⟩
abbrev cX10_humiditySlope : ByteArray := prog_12_method_19_code
def yX10_humiditySlope : MethodName := ⟨RX10, "humiditySlope", "(I)I"⟩
abbrev cX10_useHumidity : ByteArray := prog_12_method_20_code
def yX10_useHumidity : MethodName := ⟨RX10, "useHumidity", "(Z)I"⟩
abbrev cX10_lays : ByteArray := prog_12_method_21_code
def yX10_lays : MethodName := ⟨RX10, "lays", "(I)V"⟩
abbrev cX10_isPlace : ByteArray := prog_12_method_22_code
def yX10_isPlace : MethodName := ⟨RX10, "isPlace", "(I)Z"⟩
abbrev cX10_laysDrift : ByteArray := prog_12_method_23_code
def yX10_laysDrift : MethodName := ⟨RX10, "laysDrift", "()V"⟩
abbrev cX10_addReference : ByteArray := prog_12_method_24_code
def yX10_addReference : MethodName := ⟨RX10, "addReference", "(I)I"⟩
abbrev cX10_removeReference : ByteArray := prog_12_method_25_code
def yX10_removeReference : MethodName := ⟨RX10, "removeReference", "()I"⟩
abbrev cX10_driftComponent : ByteArray := prog_12_method_26_code
def yX10_driftComponent : MethodName := ⟨RX10, "driftComponent", "(I)I"⟩
abbrev cX10_driftPosition : ByteArray := prog_12_method_27_code
def yX10_driftPosition : MethodName := ⟨RX10, "driftPosition", "()I"⟩
abbrev cX10_predictedReference : ByteArray := prog_12_method_28_code
def yX10_predictedReference : MethodName := ⟨RX10, "predictedReference", "(II)I"⟩
abbrev cX10_useDrift : ByteArray := prog_12_method_29_code
def yX10_useDrift : MethodName := ⟨RX10, "useDrift", "(Z)I"⟩
abbrev cX10_isClass : ByteArray := prog_12_method_30_code
def yX10_isClass : MethodName := ⟨RX10, "isClass", "(I)Z"⟩
abbrev cX10_isSample : ByteArray := prog_12_method_31_code
def yX10_isSample : MethodName := ⟨RX10, "isSample", "(II)Z"⟩
abbrev cX10_placeOf : ByteArray := prog_12_method_32_code
def yX10_placeOf : MethodName := ⟨RX10, "placeOf", "(II)I"⟩
abbrev cX10_addClass : ByteArray := prog_12_method_33_code
def yX10_addClass : MethodName := ⟨RX10, "addClass", "()I"⟩
abbrev cX10_classCount : ByteArray := prog_12_method_34_code
def yX10_classCount : MethodName := ⟨RX10, "classCount", "()I"⟩
abbrev cX10_addSample : ByteArray := prog_12_method_35_code
def yX10_addSample : MethodName := ⟨RX10, "addSample", "(I)I"⟩
abbrev cX10_removeSample : ByteArray := prog_12_method_36_code
def yX10_removeSample : MethodName := ⟨RX10, "removeSample", "(II)I"⟩
abbrev cX10_recall : ByteArray := prog_12_method_37_code
def yX10_recall : MethodName := ⟨RX10, "recall", "(II)I"⟩
abbrev cX10_sampleCount : ByteArray := prog_12_method_38_code
def yX10_sampleCount : MethodName := ⟨RX10, "sampleCount", "(I)I"⟩
abbrev cX10_far : ByteArray := prog_12_method_39_code
def yX10_far : MethodName := ⟨RX10, "far", "(J)J"⟩
abbrev cX10_sumOf : ByteArray := prog_12_method_40_code
def yX10_sumOf : MethodName := ⟨RX10, "sumOf", "(III)J"⟩
abbrev cX10_farFrom : ByteArray := prog_12_method_41_code
def yX10_farFrom : MethodName := ⟨RX10, "farFrom", "(III)J"⟩
abbrev cX10_nearest : ByteArray := prog_12_method_42_code
def yX10_nearest : MethodName := ⟨RX10, "nearest", "(IIII)I"⟩
abbrev cX10_distance : ByteArray := prog_12_method_43_code
def yX10_distance : MethodName := ⟨RX10, "distance", "(I)I"⟩
abbrev cX10_nearestClass : ByteArray := prog_12_method_44_code
def yX10_nearestClass : MethodName := ⟨RX10, "nearestClass", "()I"⟩
abbrev cX10_runnerUp : ByteArray := prog_12_method_45_code
def yX10_runnerUp : MethodName := ⟨RX10, "runnerUp", "()I"⟩
abbrev cX10_farthest : ByteArray := prog_12_method_46_code
def yX10_farthest : MethodName := ⟨RX10, "farthest", "(I)I"⟩
abbrev cX10_radiusOf : ByteArray := prog_12_method_47_code
def yX10_radiusOf : MethodName := ⟨RX10, "radiusOf", "(I)J"⟩
abbrev cX10_radius : ByteArray := prog_12_method_48_code
def yX10_radius : MethodName := ⟨RX10, "radius", "(I)I"⟩
abbrev cX10_setMargin : ByteArray := prog_12_method_49_code
def yX10_setMargin : MethodName := ⟨RX10, "setMargin", "(I)I"⟩
abbrev cX10_setSlack : ByteArray := prog_12_method_50_code
def yX10_setSlack : MethodName := ⟨RX10, "setSlack", "(I)I"⟩
abbrev cX10_classify : ByteArray := prog_12_method_51_code
def yX10_classify : MethodName := ⟨RX10, "classify", "()I"⟩
abbrev cX10_between : ByteArray := prog_12_method_52_code
def yX10_between : MethodName := ⟨RX10, "between", "(II)J"⟩
abbrev cX10_classDistance : ByteArray := prog_12_method_53_code
def yX10_classDistance : MethodName := ⟨RX10, "classDistance", "(II)I"⟩
abbrev cX10_closestClasses : ByteArray := prog_12_method_54_code
def yX10_closestClasses : MethodName := ⟨RX10, "closestClasses", "()I"⟩
abbrev cX10_ranks : ByteArray := prog_12_method_55_code
def yX10_ranks : MethodName := ⟨RX10, "ranks", "()V"⟩
abbrev cX10_nearestSample : ByteArray := prog_12_method_56_code
def yX10_nearestSample : MethodName := ⟨RX10, "nearestSample", "(I)I"⟩
abbrev cX10_vote : ByteArray := prog_12_method_57_code
def yX10_vote : MethodName := ⟨RX10, "vote", "(I)I"⟩
abbrev cX10_tested : ByteArray := prog_12_method_58_code
def yX10_tested : MethodName := ⟨RX10, "tested", "(II)I"⟩
abbrev cX10_leaveOneOut : ByteArray := prog_12_method_59_code
def yX10_leaveOneOut : MethodName := ⟨RX10, "leaveOneOut", "(II)I"⟩
abbrev cX10_confusion : ByteArray := prog_12_method_60_code
def yX10_confusion : MethodName := ⟨RX10, "confusion", "(II)I"⟩
abbrev cX10_correctOnes : ByteArray := prog_12_method_61_code
def yX10_correctOnes : MethodName := ⟨RX10, "correctOnes", "()I"⟩
abbrev cX10_correctCount : ByteArray := prog_12_method_62_code
def yX10_correctCount : MethodName := ⟨RX10, "correctCount", "()I"⟩
abbrev cX10_correctWithout : ByteArray := prog_12_method_63_code
def yX10_correctWithout : MethodName := ⟨RX10, "correctWithout", "(I)I"⟩
abbrev cX10_leastUsefulSensor : ByteArray := prog_12_method_64_code
def yX10_leastUsefulSensor : MethodName := ⟨RX10, "leastUsefulSensor", "()I"⟩
abbrev cX10_isSet : ByteArray := prog_12_method_65_code
def yX10_isSet : MethodName := ⟨RX10, "isSet", "(I)Z"⟩
abbrev cX10_correctBy : ByteArray := prog_12_method_66_code
def yX10_correctBy : MethodName := ⟨RX10, "correctBy", "(I)I"⟩
abbrev cX10_correctWith : ByteArray := prog_12_method_67_code
def yX10_correctWith : MethodName := ⟨RX10, "correctWith", "(I)I"⟩
abbrev cX10_sizeOf : ByteArray := prog_12_method_68_code
def yX10_sizeOf : MethodName := ⟨RX10, "sizeOf", "(I)I"⟩
abbrev cX10_bestSubset : ByteArray := prog_12_method_69_code
def yX10_bestSubset : MethodName := ⟨RX10, "bestSubset", "(I)I"⟩
abbrev cX10_suspectSensor : ByteArray := prog_12_method_70_code
def yX10_suspectSensor : MethodName := ⟨RX10, "suspectSensor", "()I"⟩
abbrev cX10_apart : ByteArray := prog_12_method_71_code
def yX10_apart : MethodName := ⟨RX10, "apart", "(II)J"⟩
abbrev cX10_joins : ByteArray := prog_12_method_72_code
def yX10_joins : MethodName := ⟨RX10, "joins", "()Z"⟩
abbrev cX10_goesTo : ByteArray := prog_12_method_73_code
def yX10_goesTo : MethodName := ⟨RX10, "goesTo", "(I)Z"⟩
abbrev cX10_joinedGroups : ByteArray := prog_12_method_74_code
def yX10_joinedGroups : MethodName := ⟨RX10, "joinedGroups", "(I)I"⟩
abbrev cX10_joinDistance : ByteArray := prog_12_method_75_code
def yX10_joinDistance : MethodName := ⟨RX10, "joinDistance", "(I)I"⟩
abbrev cX10_squaresOf : ByteArray := prog_12_method_76_code
def yX10_squaresOf : MethodName := ⟨RX10, "squaresOf", "(II)J"⟩
abbrev cX10_sensorScore : ByteArray := prog_12_method_77_code
def yX10_sensorScore : MethodName := ⟨RX10, "sensorScore", "(I)I"⟩
abbrev cX10_outlier : ByteArray := prog_12_method_78_code
def yX10_outlier : MethodName := ⟨RX10, "outlier", "(I)I"⟩
def RJ6 : String := "java/lang/Integer"
abbrev cJ6_bitCount_0f7a4 : ByteArray := prog_13_method_49_code
def yJ6_bitCount_0f7a4 : MethodName := ⟨RJ6, "bitCount", "(I)I"⟩
def RJ9 : String := "java/lang/Math"
abbrev cJ9_abs_067f4 : ByteArray := prog_14_method_61_code
def yJ9_abs_067f4 : MethodName := ⟨RJ9, "abs", "(J)J"⟩
abbrev cJ9_max_7cf53 : ByteArray := prog_14_method_65_code
def yJ9_max_7cf53 : MethodName := ⟨RJ9, "max", "(II)I"⟩
abbrev cJ9_max_f86c9 : ByteArray := prog_14_method_66_code
def yJ9_max_f86c9 : MethodName := ⟨RJ9, "max", "(JJ)J"⟩
abbrev cJ9_min_7cf53 : ByteArray := prog_14_method_69_code
def yJ9_min_7cf53 : MethodName := ⟨RJ9, "min", "(II)I"⟩
abbrev cJ9_min_f86c9 : ByteArray := prog_14_method_70_code
def yJ9_min_f86c9 : MethodName := ⟨RJ9, "min", "(JJ)J"⟩
def RL : String := "SensorArrayLaw"
abbrev cL_law : ByteArray := code
def yL_law : MethodName := ⟨RL, "law", "([I)Z"⟩
theorem dX0_init_0 : decode cX0_init 0 = .ok (.aload_n 0, 1) := by decide +kernel
theorem dX0_init_1 : decode cX0_init 1 = .ok (.invokespecial 3, 3) := by decide +kernel
theorem dX0_init_4 : decode cX0_init 4 = .ok (.aload_n 0, 1) := by decide +kernel
theorem dX0_init_5 : decode cX0_init 5 = .ok (.iconst 5, 1) := by decide +kernel
theorem dX0_init_6 : decode cX0_init 6 = .ok (.newarray .int, 2) := by decide +kernel
theorem dX0_init_8 : decode cX0_init 8 = .ok (.putfield 9, 3) := by decide +kernel
theorem dX0_init_11 : decode cX0_init 11 = .ok (.aload_n 0, 1) := by decide +kernel
theorem dX0_init_12 : decode cX0_init 12 = .ok (.new 15, 3) := by decide +kernel
theorem dX0_init_15 : decode cX0_init 15 = .ok (.dup, 1) := by decide +kernel
theorem dX0_init_16 : decode cX0_init 16 = .ok (.bipush 12, 2) := by decide +kernel
theorem dX0_init_18 : decode cX0_init 18 = .ok (.invokespecial 17, 3) := by decide +kernel
theorem dX0_init_21 : decode cX0_init 21 = .ok (.putfield 20, 3) := by decide +kernel
theorem dX0_init_24 : decode cX0_init 24 = .ok (.aload_n 0, 1) := by decide +kernel
theorem dX0_init_25 : decode cX0_init 25 = .ok (.new 24, 3) := by decide +kernel
theorem dX0_init_28 : decode cX0_init 28 = .ok (.dup, 1) := by decide +kernel
theorem dX0_init_29 : decode cX0_init 29 = .ok (.invokespecial 26, 3) := by decide +kernel
theorem dX0_init_32 : decode cX0_init 32 = .ok (.putfield 27, 3) := by decide +kernel
theorem dX0_init_35 : decode cX0_init 35 = .ok (.aload_n 0, 1) := by decide +kernel
theorem dX0_init_36 : decode cX0_init 36 = .ok (.iconst 5, 1) := by decide +kernel
theorem dX0_init_37 : decode cX0_init 37 = .ok (.newarray .long, 2) := by decide +kernel
theorem dX0_init_39 : decode cX0_init 39 = .ok (.putfield 31, 3) := by decide +kernel
theorem dX0_init_42 : decode cX0_init 42 = .ok (.return_, 1) := by decide +kernel
theorem dX0_restart_0 : decode cX0_restart 0 = .ok (.aload_n 0, 1) := by decide +kernel
theorem dX0_restart_1 : decode cX0_restart 1 = .ok (.iload_n 1, 1) := by decide +kernel
theorem dX0_restart_2 : decode cX0_restart 2 = .ok (.putfield 35, 3) := by decide +kernel
theorem dX0_restart_5 : decode cX0_restart 5 = .ok (.iconst 0, 1) := by decide +kernel
theorem dX0_restart_6 : decode cX0_restart 6 = .ok (.istore_n 2, 1) := by decide +kernel
theorem dX0_restart_7 : decode cX0_restart 7 = .ok (.iload_n 2, 1) := by decide +kernel
theorem dX0_restart_8 : decode cX0_restart 8 = .ok (.iconst 5, 1) := by decide +kernel
theorem dX0_restart_9 : decode cX0_restart 9 = .ok (.if_icmp .ge 18, 3) := by decide +kernel
theorem dX0_restart_12 : decode cX0_restart 12 = .ok (.aload_n 0, 1) := by decide +kernel
theorem dX0_restart_13 : decode cX0_restart 13 = .ok (.getfield 9, 3) := by decide +kernel
theorem dX0_restart_16 : decode cX0_restart 16 = .ok (.iload_n 2, 1) := by decide +kernel
theorem dX0_restart_17 : decode cX0_restart 17 = .ok (.sipush 1000, 3) := by decide +kernel
theorem dX0_restart_20 : decode cX0_restart 20 = .ok (.iastore, 1) := by decide +kernel
theorem dX0_restart_21 : decode cX0_restart 21 = .ok (.iinc 2 1, 3) := by decide +kernel
theorem dX0_restart_24 : decode cX0_restart 24 = .ok (.goto (-17), 3) := by decide +kernel
theorem dX0_restart_27 : decode cX0_restart 27 = .ok (.aload_n 0, 1) := by decide +kernel
theorem dX0_restart_28 : decode cX0_restart 28 = .ok (.getfield 20, 3) := by decide +kernel
theorem dX0_restart_31 : decode cX0_restart 31 = .ok (.invokevirtual 39, 3) := by decide +kernel
theorem dX0_restart_34 : decode cX0_restart 34 = .ok (.aload_n 0, 1) := by decide +kernel
theorem dX0_restart_35 : decode cX0_restart 35 = .ok (.iconst 1, 1) := by decide +kernel
theorem dX0_restart_36 : decode cX0_restart 36 = .ok (.putfield 42, 3) := by decide +kernel
theorem dX0_restart_39 : decode cX0_restart 39 = .ok (.aload_n 0, 1) := by decide +kernel
theorem dX0_restart_40 : decode cX0_restart 40 = .ok (.invokevirtual 46, 3) := by decide +kernel
theorem dX0_restart_43 : decode cX0_restart 43 = .ok (.return_, 1) := by decide +kernel
theorem dX0_changeBaseline_0 : decode cX0_changeBaseline 0 = .ok (.aload_n 0, 1) := by decide +kernel
theorem dX0_changeBaseline_1 : decode cX0_changeBaseline 1 = .ok (.getfield 9, 3) := by decide +kernel
theorem dX0_changeBaseline_4 : decode cX0_changeBaseline 4 = .ok (.iload_n 1, 1) := by decide +kernel
theorem dX0_changeBaseline_5 : decode cX0_changeBaseline 5 = .ok (.iaload, 1) := by decide +kernel
theorem dX0_changeBaseline_6 : decode cX0_changeBaseline 6 = .ok (.istore_n 3, 1) := by decide +kernel
theorem dX0_changeBaseline_7 : decode cX0_changeBaseline 7 = .ok (.aload_n 0, 1) := by decide +kernel
theorem dX0_changeBaseline_8 : decode cX0_changeBaseline 8 = .ok (.getfield 9, 3) := by decide +kernel
theorem dX0_changeBaseline_11 : decode cX0_changeBaseline 11 = .ok (.iload_n 1, 1) := by decide +kernel
theorem dX0_changeBaseline_12 : decode cX0_changeBaseline 12 = .ok (.iload_n 2, 1) := by decide +kernel
theorem dX0_changeBaseline_13 : decode cX0_changeBaseline 13 = .ok (.iastore, 1) := by decide +kernel
theorem dX0_changeBaseline_14 : decode cX0_changeBaseline 14 = .ok (.aload_n 0, 1) := by decide +kernel
theorem dX0_changeBaseline_15 : decode cX0_changeBaseline 15 = .ok (.invokevirtual 46, 3) := by decide +kernel
theorem dX0_changeBaseline_18 : decode cX0_changeBaseline 18 = .ok (.iload_n 3, 1) := by decide +kernel
theorem dX0_changeBaseline_19 : decode cX0_changeBaseline 19 = .ok (.ireturn, 1) := by decide +kernel
theorem dX0_addToFit_0 : decode cX0_addToFit 0 = .ok (.aload_n 0, 1) := by decide +kernel
theorem dX0_addToFit_1 : decode cX0_addToFit 1 = .ok (.getfield 20, 3) := by decide +kernel
theorem dX0_addToFit_4 : decode cX0_addToFit 4 = .ok (.aload_n 1, 1) := by decide +kernel
theorem dX0_addToFit_5 : decode cX0_addToFit 5 = .ok (.invokevirtual 49, 3) := by decide +kernel
theorem dX0_addToFit_8 : decode cX0_addToFit 8 = .ok (.aload_n 0, 1) := by decide +kernel
theorem dX0_addToFit_9 : decode cX0_addToFit 9 = .ok (.invokevirtual 46, 3) := by decide +kernel
theorem dX0_addToFit_12 : decode cX0_addToFit 12 = .ok (.aload_n 0, 1) := by decide +kernel
theorem dX0_addToFit_13 : decode cX0_addToFit 13 = .ok (.getfield 20, 3) := by decide +kernel
theorem dX0_addToFit_16 : decode cX0_addToFit 16 = .ok (.getfield 53, 3) := by decide +kernel
theorem dX0_addToFit_19 : decode cX0_addToFit 19 = .ok (.ireturn, 1) := by decide +kernel
theorem dX0_removeFromFit_0 : decode cX0_removeFromFit 0 = .ok (.aload_n 0, 1) := by decide +kernel
theorem dX0_removeFromFit_1 : decode cX0_removeFromFit 1 = .ok (.getfield 20, 3) := by decide +kernel
theorem dX0_removeFromFit_4 : decode cX0_removeFromFit 4 = .ok (.aload_n 0, 1) := by decide +kernel
theorem dX0_removeFromFit_5 : decode cX0_removeFromFit 5 = .ok (.getfield 20, 3) := by decide +kernel
theorem dX0_removeFromFit_8 : decode cX0_removeFromFit 8 = .ok (.getfield 53, 3) := by decide +kernel
theorem dX0_removeFromFit_11 : decode cX0_removeFromFit 11 = .ok (.iconst 1, 1) := by decide +kernel
theorem dX0_removeFromFit_12 : decode cX0_removeFromFit 12 = .ok (.isub, 1) := by decide +kernel
theorem dX0_removeFromFit_13 : decode cX0_removeFromFit 13 = .ok (.invokevirtual 56, 3) := by decide +kernel
theorem dX0_removeFromFit_16 : decode cX0_removeFromFit 16 = .ok (.aload_n 0, 1) := by decide +kernel
theorem dX0_removeFromFit_17 : decode cX0_removeFromFit 17 = .ok (.invokevirtual 46, 3) := by decide +kernel
theorem dX0_removeFromFit_20 : decode cX0_removeFromFit 20 = .ok (.aload_n 0, 1) := by decide +kernel
theorem dX0_removeFromFit_21 : decode cX0_removeFromFit 21 = .ok (.getfield 20, 3) := by decide +kernel
theorem dX0_removeFromFit_24 : decode cX0_removeFromFit 24 = .ok (.getfield 53, 3) := by decide +kernel
theorem dX0_removeFromFit_27 : decode cX0_removeFromFit 27 = .ok (.ireturn, 1) := by decide +kernel
theorem dX0_fit_0 : decode cX0_fit 0 = .ok (.iconst 0, 1) := by decide +kernel
theorem dX0_fit_1 : decode cX0_fit 1 = .ok (.istore_n 1, 1) := by decide +kernel
theorem dX0_fit_2 : decode cX0_fit 2 = .ok (.iload_n 1, 1) := by decide +kernel
theorem dX0_fit_3 : decode cX0_fit 3 = .ok (.iconst 5, 1) := by decide +kernel
theorem dX0_fit_4 : decode cX0_fit 4 = .ok (.if_icmp .ge 87, 3) := by decide +kernel
theorem dX0_fit_7 : decode cX0_fit 7 = .ok (.aload_n 0, 1) := by decide +kernel
theorem dX0_fit_8 : decode cX0_fit 8 = .ok (.getfield 27, 3) := by decide +kernel
theorem dX0_fit_11 : decode cX0_fit 11 = .ok (.invokevirtual 59, 3) := by decide +kernel
theorem dX0_fit_14 : decode cX0_fit 14 = .ok (.iconst 0, 1) := by decide +kernel
theorem dX0_fit_15 : decode cX0_fit 15 = .ok (.istore_n 2, 1) := by decide +kernel
theorem dX0_fit_16 : decode cX0_fit 16 = .ok (.iload_n 2, 1) := by decide +kernel
theorem dX0_fit_17 : decode cX0_fit 17 = .ok (.aload_n 0, 1) := by decide +kernel
theorem dX0_fit_18 : decode cX0_fit 18 = .ok (.getfield 20, 3) := by decide +kernel
theorem dX0_fit_21 : decode cX0_fit 21 = .ok (.getfield 53, 3) := by decide +kernel
theorem dX0_fit_24 : decode cX0_fit 24 = .ok (.if_icmp .ge 37, 3) := by decide +kernel
theorem dX0_fit_27 : decode cX0_fit 27 = .ok (.aload_n 0, 1) := by decide +kernel
theorem dX0_fit_28 : decode cX0_fit 28 = .ok (.getfield 20, 3) := by decide +kernel
theorem dX0_fit_31 : decode cX0_fit 31 = .ok (.iload_n 2, 1) := by decide +kernel
theorem dX0_fit_32 : decode cX0_fit 32 = .ok (.invokevirtual 60, 3) := by decide +kernel
theorem dX0_fit_35 : decode cX0_fit 35 = .ok (.astore_n 3, 1) := by decide +kernel
theorem dX0_fit_36 : decode cX0_fit 36 = .ok (.aload_n 0, 1) := by decide +kernel
theorem dX0_fit_37 : decode cX0_fit 37 = .ok (.getfield 27, 3) := by decide +kernel
theorem dX0_fit_40 : decode cX0_fit 40 = .ok (.aload_n 3, 1) := by decide +kernel
theorem dX0_fit_41 : decode cX0_fit 41 = .ok (.getfield 64, 3) := by decide +kernel
theorem dX0_fit_44 : decode cX0_fit 44 = .ok (.i2l, 1) := by decide +kernel
theorem dX0_fit_45 : decode cX0_fit 45 = .ok (.aload_n 0, 1) := by decide +kernel
theorem dX0_fit_46 : decode cX0_fit 46 = .ok (.aload_n 3, 1) := by decide +kernel
theorem dX0_fit_47 : decode cX0_fit 47 = .ok (.iload_n 1, 1) := by decide +kernel
theorem dX0_fit_48 : decode cX0_fit 48 = .ok (.invokevirtual 69, 3) := by decide +kernel
theorem dX0_fit_51 : decode cX0_fit 51 = .ok (.i2l, 1) := by decide +kernel
theorem dX0_fit_52 : decode cX0_fit 52 = .ok (.invokevirtual 73, 3) := by decide +kernel
theorem dX0_fit_55 : decode cX0_fit 55 = .ok (.iinc 2 1, 3) := by decide +kernel
theorem dX0_fit_58 : decode cX0_fit 58 = .ok (.goto (-42), 3) := by decide +kernel
theorem dX0_fit_61 : decode cX0_fit 61 = .ok (.aload_n 0, 1) := by decide +kernel
theorem dX0_fit_62 : decode cX0_fit 62 = .ok (.getfield 31, 3) := by decide +kernel
theorem dX0_fit_65 : decode cX0_fit 65 = .ok (.iload_n 1, 1) := by decide +kernel
theorem dX0_fit_66 : decode cX0_fit 66 = .ok (.aload_n 0, 1) := by decide +kernel
theorem dX0_fit_67 : decode cX0_fit 67 = .ok (.getfield 27, 3) := by decide +kernel
theorem dX0_fit_70 : decode cX0_fit 70 = .ok (.invokevirtual 77, 3) := by decide +kernel
theorem dX0_fit_73 : decode cX0_fit 73 = .ok (.lastore, 1) := by decide +kernel
theorem dX0_fit_74 : decode cX0_fit 74 = .ok (.aload_n 0, 1) := by decide +kernel
theorem dX0_fit_75 : decode cX0_fit 75 = .ok (.aload_n 0, 1) := by decide +kernel
theorem dX0_fit_76 : decode cX0_fit 76 = .ok (.getfield 27, 3) := by decide +kernel
theorem dX0_fit_79 : decode cX0_fit 79 = .ok (.invokevirtual 81, 3) := by decide +kernel
theorem dX0_fit_82 : decode cX0_fit 82 = .ok (.putfield 84, 3) := by decide +kernel
theorem dX0_fit_85 : decode cX0_fit 85 = .ok (.iinc 1 1, 3) := by decide +kernel
theorem dX0_fit_88 : decode cX0_fit 88 = .ok (.goto (-86), 3) := by decide +kernel
theorem dX0_fit_91 : decode cX0_fit 91 = .ok (.return_, 1) := by decide +kernel
theorem dX0_ratioIn_0 : decode cX0_ratioIn 0 = .ok (.ldc2_w 88, 3) := by decide +kernel
theorem dX0_ratioIn_3 : decode cX0_ratioIn 3 = .ok (.aload_n 1, 1) := by decide +kernel
theorem dX0_ratioIn_4 : decode cX0_ratioIn 4 = .ok (.getfield 90, 3) := by decide +kernel
theorem dX0_ratioIn_7 : decode cX0_ratioIn 7 = .ok (.iload_n 2, 1) := by decide +kernel
theorem dX0_ratioIn_8 : decode cX0_ratioIn 8 = .ok (.iaload, 1) := by decide +kernel
theorem dX0_ratioIn_9 : decode cX0_ratioIn 9 = .ok (.i2l, 1) := by decide +kernel
theorem dX0_ratioIn_10 : decode cX0_ratioIn 10 = .ok (.lmul, 1) := by decide +kernel
theorem dX0_ratioIn_11 : decode cX0_ratioIn 11 = .ok (.aload_n 0, 1) := by decide +kernel
theorem dX0_ratioIn_12 : decode cX0_ratioIn 12 = .ok (.getfield 9, 3) := by decide +kernel
theorem dX0_ratioIn_15 : decode cX0_ratioIn 15 = .ok (.iload_n 2, 1) := by decide +kernel
theorem dX0_ratioIn_16 : decode cX0_ratioIn 16 = .ok (.iaload, 1) := by decide +kernel
theorem dX0_ratioIn_17 : decode cX0_ratioIn 17 = .ok (.i2l, 1) := by decide +kernel
theorem dX0_ratioIn_18 : decode cX0_ratioIn 18 = .ok (.invokestatic 93, 3) := by decide +kernel
theorem dX0_ratioIn_21 : decode cX0_ratioIn 21 = .ok (.lstore_n 3, 1) := by decide +kernel
theorem dX0_ratioIn_22 : decode cX0_ratioIn 22 = .ok (.lload_n 3, 1) := by decide +kernel
theorem dX0_ratioIn_23 : decode cX0_ratioIn 23 = .ok (.ldc2_w 97, 3) := by decide +kernel
theorem dX0_ratioIn_26 : decode cX0_ratioIn 26 = .ok (.invokestatic 99, 3) := by decide +kernel
theorem dX0_ratioIn_29 : decode cX0_ratioIn 29 = .ok (.l2i, 1) := by decide +kernel
theorem dX0_ratioIn_30 : decode cX0_ratioIn 30 = .ok (.ireturn, 1) := by decide +kernel
theorem dX0_featureIn_0 : decode cX0_featureIn 0 = .ok (.aload_n 0, 1) := by decide +kernel
theorem dX0_featureIn_1 : decode cX0_featureIn 1 = .ok (.aload_n 1, 1) := by decide +kernel
theorem dX0_featureIn_2 : decode cX0_featureIn 2 = .ok (.iload_n 2, 1) := by decide +kernel
theorem dX0_featureIn_3 : decode cX0_featureIn 3 = .ok (.invokevirtual 69, 3) := by decide +kernel
theorem dX0_featureIn_6 : decode cX0_featureIn 6 = .ok (.i2l, 1) := by decide +kernel
theorem dX0_featureIn_7 : decode cX0_featureIn 7 = .ok (.aload_n 0, 1) := by decide +kernel
theorem dX0_featureIn_8 : decode cX0_featureIn 8 = .ok (.iload_n 2, 1) := by decide +kernel
theorem dX0_featureIn_9 : decode cX0_featureIn 9 = .ok (.aload_n 1, 1) := by decide +kernel
theorem dX0_featureIn_10 : decode cX0_featureIn 10 = .ok (.getfield 64, 3) := by decide +kernel
theorem dX0_featureIn_13 : decode cX0_featureIn 13 = .ok (.invokevirtual 104, 3) := by decide +kernel
theorem dX0_featureIn_16 : decode cX0_featureIn 16 = .ok (.lsub, 1) := by decide +kernel
theorem dX0_featureIn_17 : decode cX0_featureIn 17 = .ok (.lstore_n 3, 1) := by decide +kernel
theorem dX0_featureIn_18 : decode cX0_featureIn 18 = .ok (.ldc2_w 108, 3) := by decide +kernel
theorem dX0_featureIn_21 : decode cX0_featureIn 21 = .ok (.lload_n 3, 1) := by decide +kernel
theorem dX0_featureIn_22 : decode cX0_featureIn 22 = .ok (.ldc2_w 110, 3) := by decide +kernel
theorem dX0_featureIn_25 : decode cX0_featureIn 25 = .ok (.invokestatic 99, 3) := by decide +kernel
theorem dX0_featureIn_28 : decode cX0_featureIn 28 = .ok (.invokestatic 112, 3) := by decide +kernel
theorem dX0_featureIn_31 : decode cX0_featureIn 31 = .ok (.l2i, 1) := by decide +kernel
theorem dX0_featureIn_32 : decode cX0_featureIn 32 = .ok (.ireturn, 1) := by decide +kernel
theorem dX0_correction_0 : decode cX0_correction 0 = .ok (.aload_n 0, 1) := by decide +kernel
theorem dX0_correction_1 : decode cX0_correction 1 = .ok (.getfield 42, 3) := by decide +kernel
theorem dX0_correction_4 : decode cX0_correction 4 = .ok (.ifCond .eq 12, 3) := by decide +kernel
theorem dX0_correction_7 : decode cX0_correction 7 = .ok (.aload_n 0, 1) := by decide +kernel
theorem dX0_correction_8 : decode cX0_correction 8 = .ok (.getfield 84, 3) := by decide +kernel
theorem dX0_correction_11 : decode cX0_correction 11 = .ok (.lconst 0, 1) := by decide +kernel
theorem dX0_correction_12 : decode cX0_correction 12 = .ok (.lcmp, 1) := by decide +kernel
theorem dX0_correction_13 : decode cX0_correction 13 = .ok (.ifCond .ne 5, 3) := by decide +kernel
theorem dX0_correction_16 : decode cX0_correction 16 = .ok (.lconst 0, 1) := by decide +kernel
theorem dX0_correction_17 : decode cX0_correction 17 = .ok (.lreturn, 1) := by decide +kernel
theorem dX0_correction_18 : decode cX0_correction 18 = .ok (.aload_n 0, 1) := by decide +kernel
theorem dX0_correction_19 : decode cX0_correction 19 = .ok (.getfield 31, 3) := by decide +kernel
theorem dX0_correction_22 : decode cX0_correction 22 = .ok (.iload_n 1, 1) := by decide +kernel
theorem dX0_correction_23 : decode cX0_correction 23 = .ok (.laload, 1) := by decide +kernel
theorem dX0_correction_24 : decode cX0_correction 24 = .ok (.iload_n 2, 1) := by decide +kernel
theorem dX0_correction_25 : decode cX0_correction 25 = .ok (.bipush 50, 2) := by decide +kernel
theorem dX0_correction_27 : decode cX0_correction 27 = .ok (.isub, 1) := by decide +kernel
theorem dX0_correction_28 : decode cX0_correction 28 = .ok (.i2l, 1) := by decide +kernel
theorem dX0_correction_29 : decode cX0_correction 29 = .ok (.lmul, 1) := by decide +kernel
theorem dX0_correction_30 : decode cX0_correction 30 = .ok (.aload_n 0, 1) := by decide +kernel
theorem dX0_correction_31 : decode cX0_correction 31 = .ok (.getfield 84, 3) := by decide +kernel
theorem dX0_correction_34 : decode cX0_correction 34 = .ok (.invokestatic 93, 3) := by decide +kernel
theorem dX0_correction_37 : decode cX0_correction 37 = .ok (.lreturn, 1) := by decide +kernel
theorem dX0_fillFeatures_0 : decode cX0_fillFeatures 0 = .ok (.iconst 0, 1) := by decide +kernel
theorem dX0_fillFeatures_1 : decode cX0_fillFeatures 1 = .ok (.istore_n 3, 1) := by decide +kernel
theorem dX0_fillFeatures_2 : decode cX0_fillFeatures 2 = .ok (.iload_n 3, 1) := by decide +kernel
theorem dX0_fillFeatures_3 : decode cX0_fillFeatures 3 = .ok (.aload_n 2, 1) := by decide +kernel
theorem dX0_fillFeatures_4 : decode cX0_fillFeatures 4 = .ok (.arraylength, 1) := by decide +kernel
theorem dX0_fillFeatures_5 : decode cX0_fillFeatures 5 = .ok (.if_icmp .ge 23, 3) := by decide +kernel
theorem dX0_fillFeatures_8 : decode cX0_fillFeatures 8 = .ok (.iload_n 3, 1) := by decide +kernel
theorem dX0_fillFeatures_9 : decode cX0_fillFeatures 9 = .ok (.iconst 5, 1) := by decide +kernel
theorem dX0_fillFeatures_10 : decode cX0_fillFeatures 10 = .ok (.if_icmp .ge 18, 3) := by decide +kernel
theorem dX0_fillFeatures_13 : decode cX0_fillFeatures 13 = .ok (.aload_n 2, 1) := by decide +kernel
theorem dX0_fillFeatures_14 : decode cX0_fillFeatures 14 = .ok (.iload_n 3, 1) := by decide +kernel
theorem dX0_fillFeatures_15 : decode cX0_fillFeatures 15 = .ok (.aload_n 0, 1) := by decide +kernel
theorem dX0_fillFeatures_16 : decode cX0_fillFeatures 16 = .ok (.aload_n 1, 1) := by decide +kernel
theorem dX0_fillFeatures_17 : decode cX0_fillFeatures 17 = .ok (.iload_n 3, 1) := by decide +kernel
theorem dX0_fillFeatures_18 : decode cX0_fillFeatures 18 = .ok (.invokevirtual 115, 3) := by decide +kernel
theorem dX0_fillFeatures_21 : decode cX0_fillFeatures 21 = .ok (.iastore, 1) := by decide +kernel
theorem dX0_fillFeatures_22 : decode cX0_fillFeatures 22 = .ok (.iinc 3 1, 3) := by decide +kernel
theorem dX0_fillFeatures_25 : decode cX0_fillFeatures 25 = .ok (.goto (-23), 3) := by decide +kernel
theorem dX0_fillFeatures_28 : decode cX0_fillFeatures 28 = .ok (.return_, 1) := by decide +kernel
theorem dX1_init_0 : decode cX1_init 0 = .ok (.aload_n 0, 1) := by decide +kernel
theorem dX1_init_1 : decode cX1_init 1 = .ok (.invokespecial 3, 3) := by decide +kernel
theorem dX1_init_4 : decode cX1_init 4 = .ok (.aload_n 0, 1) := by decide +kernel
theorem dX1_init_5 : decode cX1_init 5 = .ok (.new 9, 3) := by decide +kernel
theorem dX1_init_8 : decode cX1_init 8 = .ok (.dup, 1) := by decide +kernel
theorem dX1_init_9 : decode cX1_init 9 = .ok (.bipush 10, 2) := by decide +kernel
theorem dX1_init_11 : decode cX1_init 11 = .ok (.invokespecial 11, 3) := by decide +kernel
theorem dX1_init_14 : decode cX1_init 14 = .ok (.putfield 14, 3) := by decide +kernel
theorem dX1_init_17 : decode cX1_init 17 = .ok (.aload_n 0, 1) := by decide +kernel
theorem dX1_init_18 : decode cX1_init 18 = .ok (.bipush 10, 2) := by decide +kernel
theorem dX1_init_20 : decode cX1_init 20 = .ok (.newarray .int, 2) := by decide +kernel
theorem dX1_init_22 : decode cX1_init 22 = .ok (.putfield 20, 3) := by decide +kernel
theorem dX1_init_25 : decode cX1_init 25 = .ok (.aload_n 0, 1) := by decide +kernel
theorem dX1_init_26 : decode cX1_init 26 = .ok (.new 24, 3) := by decide +kernel
theorem dX1_init_29 : decode cX1_init 29 = .ok (.dup, 1) := by decide +kernel
theorem dX1_init_30 : decode cX1_init 30 = .ok (.invokespecial 26, 3) := by decide +kernel
theorem dX1_init_33 : decode cX1_init 33 = .ok (.putfield 27, 3) := by decide +kernel
theorem dX1_init_36 : decode cX1_init 36 = .ok (.aload_n 0, 1) := by decide +kernel
theorem dX1_init_37 : decode cX1_init 37 = .ok (.bipush 10, 2) := by decide +kernel
theorem dX1_init_39 : decode cX1_init 39 = .ok (.iconst 5, 1) := by decide +kernel
theorem dX1_init_40 : decode cX1_init 40 = .ok (.multianewarray 31 2, 4) := by decide +kernel
theorem dX1_init_44 : decode cX1_init 44 = .ok (.putfield 33, 3) := by decide +kernel
theorem dX1_init_47 : decode cX1_init 47 = .ok (.aload_n 0, 1) := by decide +kernel
theorem dX1_init_48 : decode cX1_init 48 = .ok (.iconst 5, 1) := by decide +kernel
theorem dX1_init_49 : decode cX1_init 49 = .ok (.newarray .long, 2) := by decide +kernel
theorem dX1_init_51 : decode cX1_init 51 = .ok (.putfield 36, 3) := by decide +kernel
theorem dX1_init_54 : decode cX1_init 54 = .ok (.aload_n 0, 1) := by decide +kernel
theorem dX1_init_55 : decode cX1_init 55 = .ok (.iconst 5, 1) := by decide +kernel
theorem dX1_init_56 : decode cX1_init 56 = .ok (.newarray .int, 2) := by decide +kernel
theorem dX1_init_58 : decode cX1_init 58 = .ok (.putfield 40, 3) := by decide +kernel
theorem dX1_init_61 : decode cX1_init 61 = .ok (.return_, 1) := by decide +kernel
theorem dX1_restart_0 : decode cX1_restart 0 = .ok (.aload_n 0, 1) := by decide +kernel
theorem dX1_restart_1 : decode cX1_restart 1 = .ok (.getfield 14, 3) := by decide +kernel
theorem dX1_restart_4 : decode cX1_restart 4 = .ok (.invokevirtual 43, 3) := by decide +kernel
theorem dX1_restart_7 : decode cX1_restart 7 = .ok (.aload_n 0, 1) := by decide +kernel
theorem dX1_restart_8 : decode cX1_restart 8 = .ok (.iconst 1, 1) := by decide +kernel
theorem dX1_restart_9 : decode cX1_restart 9 = .ok (.putfield 46, 3) := by decide +kernel
theorem dX1_restart_12 : decode cX1_restart 12 = .ok (.return_, 1) := by decide +kernel
theorem dX1_latestTime_0 : decode cX1_latestTime 0 = .ok (.aload_n 0, 1) := by decide +kernel
theorem dX1_latestTime_1 : decode cX1_latestTime 1 = .ok (.getfield 14, 3) := by decide +kernel
theorem dX1_latestTime_4 : decode cX1_latestTime 4 = .ok (.getfield 50, 3) := by decide +kernel
theorem dX1_latestTime_7 : decode cX1_latestTime 7 = .ok (.iconst 1, 1) := by decide +kernel
theorem dX1_latestTime_8 : decode cX1_latestTime 8 = .ok (.isub, 1) := by decide +kernel
theorem dX1_latestTime_9 : decode cX1_latestTime 9 = .ok (.istore_n 1, 1) := by decide +kernel
theorem dX1_latestTime_10 : decode cX1_latestTime 10 = .ok (.iload_n 1, 1) := by decide +kernel
theorem dX1_latestTime_11 : decode cX1_latestTime 11 = .ok (.ifCond .lt 21, 3) := by decide +kernel
theorem dX1_latestTime_14 : decode cX1_latestTime 14 = .ok (.iload_n 1, 1) := by decide +kernel
theorem dX1_latestTime_15 : decode cX1_latestTime 15 = .ok (.aload_n 0, 1) := by decide +kernel
theorem dX1_latestTime_16 : decode cX1_latestTime 16 = .ok (.getfield 20, 3) := by decide +kernel
theorem dX1_latestTime_19 : decode cX1_latestTime 19 = .ok (.arraylength, 1) := by decide +kernel
theorem dX1_latestTime_20 : decode cX1_latestTime 20 = .ok (.if_icmp .ge 12, 3) := by decide +kernel
theorem dX1_latestTime_23 : decode cX1_latestTime 23 = .ok (.aload_n 0, 1) := by decide +kernel
theorem dX1_latestTime_24 : decode cX1_latestTime 24 = .ok (.getfield 20, 3) := by decide +kernel
theorem dX1_latestTime_27 : decode cX1_latestTime 27 = .ok (.iload_n 1, 1) := by decide +kernel
theorem dX1_latestTime_28 : decode cX1_latestTime 28 = .ok (.iaload, 1) := by decide +kernel
theorem dX1_latestTime_29 : decode cX1_latestTime 29 = .ok (.goto 4, 3) := by decide +kernel
theorem dX1_latestTime_32 : decode cX1_latestTime 32 = .ok (.iconst (-1), 1) := by decide +kernel
theorem dX1_latestTime_33 : decode cX1_latestTime 33 = .ok (.ireturn, 1) := by decide +kernel
theorem dX1_append_0 : decode cX1_append 0 = .ok (.aload_n 0, 1) := by decide +kernel
theorem dX1_append_1 : decode cX1_append 1 = .ok (.getfield 14, 3) := by decide +kernel
theorem dX1_append_4 : decode cX1_append 4 = .ok (.getfield 50, 3) := by decide +kernel
theorem dX1_append_7 : decode cX1_append 7 = .ok (.aload_n 0, 1) := by decide +kernel
theorem dX1_append_8 : decode cX1_append 8 = .ok (.getfield 20, 3) := by decide +kernel
theorem dX1_append_11 : decode cX1_append 11 = .ok (.arraylength, 1) := by decide +kernel
theorem dX1_append_12 : decode cX1_append 12 = .ok (.if_icmp .ge 24, 3) := by decide +kernel
theorem dX1_append_15 : decode cX1_append 15 = .ok (.aload_n 0, 1) := by decide +kernel
theorem dX1_append_16 : decode cX1_append 16 = .ok (.getfield 20, 3) := by decide +kernel
theorem dX1_append_19 : decode cX1_append 19 = .ok (.aload_n 0, 1) := by decide +kernel
theorem dX1_append_20 : decode cX1_append 20 = .ok (.getfield 14, 3) := by decide +kernel
theorem dX1_append_23 : decode cX1_append 23 = .ok (.getfield 50, 3) := by decide +kernel
theorem dX1_append_26 : decode cX1_append 26 = .ok (.iload_n 2, 1) := by decide +kernel
theorem dX1_append_27 : decode cX1_append 27 = .ok (.iastore, 1) := by decide +kernel
theorem dX1_append_28 : decode cX1_append 28 = .ok (.aload_n 0, 1) := by decide +kernel
theorem dX1_append_29 : decode cX1_append 29 = .ok (.getfield 14, 3) := by decide +kernel
theorem dX1_append_32 : decode cX1_append 32 = .ok (.aload_n 1, 1) := by decide +kernel
theorem dX1_append_33 : decode cX1_append 33 = .ok (.invokevirtual 54, 3) := by decide +kernel
theorem dX1_append_36 : decode cX1_append 36 = .ok (.aload_n 0, 1) := by decide +kernel
theorem dX1_append_37 : decode cX1_append 37 = .ok (.getfield 14, 3) := by decide +kernel
theorem dX1_append_40 : decode cX1_append 40 = .ok (.getfield 50, 3) := by decide +kernel
theorem dX1_append_43 : decode cX1_append 43 = .ok (.ireturn, 1) := by decide +kernel
theorem dX1_refresh_0 : decode cX1_refresh 0 = .ok (.iconst 0, 1) := by decide +kernel
theorem dX1_refresh_1 : decode cX1_refresh 1 = .ok (.istore_n 2, 1) := by decide +kernel
theorem dX1_refresh_2 : decode cX1_refresh 2 = .ok (.iload_n 2, 1) := by decide +kernel
theorem dX1_refresh_3 : decode cX1_refresh 3 = .ok (.aload_n 0, 1) := by decide +kernel
theorem dX1_refresh_4 : decode cX1_refresh 4 = .ok (.getfield 14, 3) := by decide +kernel
theorem dX1_refresh_7 : decode cX1_refresh 7 = .ok (.getfield 50, 3) := by decide +kernel
theorem dX1_refresh_10 : decode cX1_refresh 10 = .ok (.if_icmp .ge 27, 3) := by decide +kernel
theorem dX1_refresh_13 : decode cX1_refresh 13 = .ok (.aload_n 1, 1) := by decide +kernel
theorem dX1_refresh_14 : decode cX1_refresh 14 = .ok (.aload_n 0, 1) := by decide +kernel
theorem dX1_refresh_15 : decode cX1_refresh 15 = .ok (.getfield 14, 3) := by decide +kernel
theorem dX1_refresh_18 : decode cX1_refresh 18 = .ok (.iload_n 2, 1) := by decide +kernel
theorem dX1_refresh_19 : decode cX1_refresh 19 = .ok (.invokevirtual 58, 3) := by decide +kernel
theorem dX1_refresh_22 : decode cX1_refresh 22 = .ok (.aload_n 0, 1) := by decide +kernel
theorem dX1_refresh_23 : decode cX1_refresh 23 = .ok (.getfield 33, 3) := by decide +kernel
theorem dX1_refresh_26 : decode cX1_refresh 26 = .ok (.iload_n 2, 1) := by decide +kernel
theorem dX1_refresh_27 : decode cX1_refresh 27 = .ok (.aaload, 1) := by decide +kernel
theorem dX1_refresh_28 : decode cX1_refresh 28 = .ok (.invokevirtual 62, 3) := by decide +kernel
theorem dX1_refresh_31 : decode cX1_refresh 31 = .ok (.iinc 2 1, 3) := by decide +kernel
theorem dX1_refresh_34 : decode cX1_refresh 34 = .ok (.goto (-32), 3) := by decide +kernel
theorem dX1_refresh_37 : decode cX1_refresh 37 = .ok (.lconst 0, 1) := by decide +kernel
theorem dX1_refresh_38 : decode cX1_refresh 38 = .ok (.lstore_n 2, 1) := by decide +kernel
theorem dX1_refresh_39 : decode cX1_refresh 39 = .ok (.iconst 0, 1) := by decide +kernel
theorem dX1_refresh_40 : decode cX1_refresh 40 = .ok (.istore 4, 2) := by decide +kernel
theorem dX1_refresh_42 : decode cX1_refresh 42 = .ok (.iload 4, 2) := by decide +kernel
theorem dX1_refresh_44 : decode cX1_refresh 44 = .ok (.iconst 5, 1) := by decide +kernel
theorem dX1_refresh_45 : decode cX1_refresh 45 = .ok (.if_icmp .ge 44, 3) := by decide +kernel
theorem dX1_refresh_48 : decode cX1_refresh 48 = .ok (.aload_n 0, 1) := by decide +kernel
theorem dX1_refresh_49 : decode cX1_refresh 49 = .ok (.iload 4, 2) := by decide +kernel
theorem dX1_refresh_51 : decode cX1_refresh 51 = .ok (.invokevirtual 68, 3) := by decide +kernel
theorem dX1_refresh_54 : decode cX1_refresh 54 = .ok (.aload_n 0, 1) := by decide +kernel
theorem dX1_refresh_55 : decode cX1_refresh 55 = .ok (.getfield 36, 3) := by decide +kernel
theorem dX1_refresh_58 : decode cX1_refresh 58 = .ok (.iload 4, 2) := by decide +kernel
theorem dX1_refresh_60 : decode cX1_refresh 60 = .ok (.aload_n 0, 1) := by decide +kernel
theorem dX1_refresh_61 : decode cX1_refresh 61 = .ok (.getfield 27, 3) := by decide +kernel
theorem dX1_refresh_64 : decode cX1_refresh 64 = .ok (.invokevirtual 71, 3) := by decide +kernel
theorem dX1_refresh_67 : decode cX1_refresh 67 = .ok (.lastore, 1) := by decide +kernel
theorem dX1_refresh_68 : decode cX1_refresh 68 = .ok (.lload_n 2, 1) := by decide +kernel
theorem dX1_refresh_69 : decode cX1_refresh 69 = .ok (.aload_n 0, 1) := by decide +kernel
theorem dX1_refresh_70 : decode cX1_refresh 70 = .ok (.getfield 36, 3) := by decide +kernel
theorem dX1_refresh_73 : decode cX1_refresh 73 = .ok (.iload 4, 2) := by decide +kernel
theorem dX1_refresh_75 : decode cX1_refresh 75 = .ok (.laload, 1) := by decide +kernel
theorem dX1_refresh_76 : decode cX1_refresh 76 = .ok (.invokestatic 75, 3) := by decide +kernel
theorem dX1_refresh_79 : decode cX1_refresh 79 = .ok (.invokestatic 81, 3) := by decide +kernel
theorem dX1_refresh_82 : decode cX1_refresh 82 = .ok (.lstore_n 2, 1) := by decide +kernel
theorem dX1_refresh_83 : decode cX1_refresh 83 = .ok (.iinc 4 1, 3) := by decide +kernel
theorem dX1_refresh_86 : decode cX1_refresh 86 = .ok (.goto (-44), 3) := by decide +kernel
theorem dX1_refresh_89 : decode cX1_refresh 89 = .ok (.aload_n 0, 1) := by decide +kernel
theorem dX1_refresh_90 : decode cX1_refresh 90 = .ok (.lload_n 2, 1) := by decide +kernel
theorem dX1_refresh_91 : decode cX1_refresh 91 = .ok (.lconst 0, 1) := by decide +kernel
theorem dX1_refresh_92 : decode cX1_refresh 92 = .ok (.lcmp, 1) := by decide +kernel
theorem dX1_refresh_93 : decode cX1_refresh 93 = .ok (.ifCond .eq 7, 3) := by decide +kernel
theorem dX1_refresh_96 : decode cX1_refresh 96 = .ok (.iconst 1, 1) := by decide +kernel
theorem dX1_refresh_97 : decode cX1_refresh 97 = .ok (.goto 4, 3) := by decide +kernel
theorem dX1_refresh_100 : decode cX1_refresh 100 = .ok (.iconst 0, 1) := by decide +kernel
theorem dX1_refresh_101 : decode cX1_refresh 101 = .ok (.putfield 85, 3) := by decide +kernel
theorem dX1_refresh_104 : decode cX1_refresh 104 = .ok (.iconst 0, 1) := by decide +kernel
theorem dX1_refresh_105 : decode cX1_refresh 105 = .ok (.istore 4, 2) := by decide +kernel
theorem dX1_refresh_107 : decode cX1_refresh 107 = .ok (.iload 4, 2) := by decide +kernel
theorem dX1_refresh_109 : decode cX1_refresh 109 = .ok (.iconst 5, 1) := by decide +kernel
theorem dX1_refresh_110 : decode cX1_refresh 110 = .ok (.if_icmp .ge 41, 3) := by decide +kernel
theorem dX1_refresh_113 : decode cX1_refresh 113 = .ok (.aload_n 0, 1) := by decide +kernel
theorem dX1_refresh_114 : decode cX1_refresh 114 = .ok (.getfield 40, 3) := by decide +kernel
theorem dX1_refresh_117 : decode cX1_refresh 117 = .ok (.iload 4, 2) := by decide +kernel
theorem dX1_refresh_119 : decode cX1_refresh 119 = .ok (.aload_n 0, 1) := by decide +kernel
theorem dX1_refresh_120 : decode cX1_refresh 120 = .ok (.getfield 85, 3) := by decide +kernel
theorem dX1_refresh_123 : decode cX1_refresh 123 = .ok (.ifCond .eq 20, 3) := by decide +kernel
theorem dX1_refresh_126 : decode cX1_refresh 126 = .ok (.aload_n 0, 1) := by decide +kernel
theorem dX1_refresh_127 : decode cX1_refresh 127 = .ok (.getfield 36, 3) := by decide +kernel
theorem dX1_refresh_130 : decode cX1_refresh 130 = .ok (.iload 4, 2) := by decide +kernel
theorem dX1_refresh_132 : decode cX1_refresh 132 = .ok (.laload, 1) := by decide +kernel
theorem dX1_refresh_133 : decode cX1_refresh 133 = .ok (.ldc2_w 88, 3) := by decide +kernel
theorem dX1_refresh_136 : decode cX1_refresh 136 = .ok (.lmul, 1) := by decide +kernel
theorem dX1_refresh_137 : decode cX1_refresh 137 = .ok (.lload_n 2, 1) := by decide +kernel
theorem dX1_refresh_138 : decode cX1_refresh 138 = .ok (.ldiv, 1) := by decide +kernel
theorem dX1_refresh_139 : decode cX1_refresh 139 = .ok (.l2i, 1) := by decide +kernel
theorem dX1_refresh_140 : decode cX1_refresh 140 = .ok (.goto 4, 3) := by decide +kernel
theorem dX1_refresh_143 : decode cX1_refresh 143 = .ok (.iconst 0, 1) := by decide +kernel
theorem dX1_refresh_144 : decode cX1_refresh 144 = .ok (.iastore, 1) := by decide +kernel
theorem dX1_refresh_145 : decode cX1_refresh 145 = .ok (.iinc 4 1, 3) := by decide +kernel
theorem dX1_refresh_148 : decode cX1_refresh 148 = .ok (.goto (-41), 3) := by decide +kernel
theorem dX1_refresh_151 : decode cX1_refresh 151 = .ok (.return_, 1) := by decide +kernel
theorem dX1_sumUp_0 : decode cX1_sumUp 0 = .ok (.aload_n 0, 1) := by decide +kernel
theorem dX1_sumUp_1 : decode cX1_sumUp 1 = .ok (.getfield 27, 3) := by decide +kernel
theorem dX1_sumUp_4 : decode cX1_sumUp 4 = .ok (.invokevirtual 90, 3) := by decide +kernel
theorem dX1_sumUp_7 : decode cX1_sumUp 7 = .ok (.iconst 0, 1) := by decide +kernel
theorem dX1_sumUp_8 : decode cX1_sumUp 8 = .ok (.istore_n 2, 1) := by decide +kernel
theorem dX1_sumUp_9 : decode cX1_sumUp 9 = .ok (.iload_n 2, 1) := by decide +kernel
theorem dX1_sumUp_10 : decode cX1_sumUp 10 = .ok (.aload_n 0, 1) := by decide +kernel
theorem dX1_sumUp_11 : decode cX1_sumUp 11 = .ok (.getfield 14, 3) := by decide +kernel
theorem dX1_sumUp_14 : decode cX1_sumUp 14 = .ok (.getfield 50, 3) := by decide +kernel
theorem dX1_sumUp_17 : decode cX1_sumUp 17 = .ok (.if_icmp .ge 32, 3) := by decide +kernel
theorem dX1_sumUp_20 : decode cX1_sumUp 20 = .ok (.aload_n 0, 1) := by decide +kernel
theorem dX1_sumUp_21 : decode cX1_sumUp 21 = .ok (.getfield 27, 3) := by decide +kernel
theorem dX1_sumUp_24 : decode cX1_sumUp 24 = .ok (.aload_n 0, 1) := by decide +kernel
theorem dX1_sumUp_25 : decode cX1_sumUp 25 = .ok (.getfield 20, 3) := by decide +kernel
theorem dX1_sumUp_28 : decode cX1_sumUp 28 = .ok (.iload_n 2, 1) := by decide +kernel
theorem dX1_sumUp_29 : decode cX1_sumUp 29 = .ok (.iaload, 1) := by decide +kernel
theorem dX1_sumUp_30 : decode cX1_sumUp 30 = .ok (.i2l, 1) := by decide +kernel
theorem dX1_sumUp_31 : decode cX1_sumUp 31 = .ok (.aload_n 0, 1) := by decide +kernel
theorem dX1_sumUp_32 : decode cX1_sumUp 32 = .ok (.getfield 33, 3) := by decide +kernel
theorem dX1_sumUp_35 : decode cX1_sumUp 35 = .ok (.iload_n 2, 1) := by decide +kernel
theorem dX1_sumUp_36 : decode cX1_sumUp 36 = .ok (.aaload, 1) := by decide +kernel
theorem dX1_sumUp_37 : decode cX1_sumUp 37 = .ok (.iload_n 1, 1) := by decide +kernel
theorem dX1_sumUp_38 : decode cX1_sumUp 38 = .ok (.iaload, 1) := by decide +kernel
theorem dX1_sumUp_39 : decode cX1_sumUp 39 = .ok (.i2l, 1) := by decide +kernel
theorem dX1_sumUp_40 : decode cX1_sumUp 40 = .ok (.invokevirtual 91, 3) := by decide +kernel
theorem dX1_sumUp_43 : decode cX1_sumUp 43 = .ok (.iinc 2 1, 3) := by decide +kernel
theorem dX1_sumUp_46 : decode cX1_sumUp 46 = .ok (.goto (-37), 3) := by decide +kernel
theorem dX1_sumUp_49 : decode cX1_sumUp 49 = .ok (.return_, 1) := by decide +kernel
theorem dX1_positionOf_0 : decode cX1_positionOf 0 = .ok (.lconst 0, 1) := by decide +kernel
theorem dX1_positionOf_1 : decode cX1_positionOf 1 = .ok (.lstore_n 2, 1) := by decide +kernel
theorem dX1_positionOf_2 : decode cX1_positionOf 2 = .ok (.lconst 0, 1) := by decide +kernel
theorem dX1_positionOf_3 : decode cX1_positionOf 3 = .ok (.lstore 4, 2) := by decide +kernel
theorem dX1_positionOf_5 : decode cX1_positionOf 5 = .ok (.iconst 0, 1) := by decide +kernel
theorem dX1_positionOf_6 : decode cX1_positionOf 6 = .ok (.istore 6, 2) := by decide +kernel
theorem dX1_positionOf_8 : decode cX1_positionOf 8 = .ok (.iload 6, 2) := by decide +kernel
theorem dX1_positionOf_10 : decode cX1_positionOf 10 = .ok (.iconst 5, 1) := by decide +kernel
theorem dX1_positionOf_11 : decode cX1_positionOf 11 = .ok (.if_icmp .ge 50, 3) := by decide +kernel
theorem dX1_positionOf_14 : decode cX1_positionOf 14 = .ok (.aload_n 0, 1) := by decide +kernel
theorem dX1_positionOf_15 : decode cX1_positionOf 15 = .ok (.getfield 40, 3) := by decide +kernel
theorem dX1_positionOf_18 : decode cX1_positionOf 18 = .ok (.iload 6, 2) := by decide +kernel
theorem dX1_positionOf_20 : decode cX1_positionOf 20 = .ok (.iaload, 1) := by decide +kernel
theorem dX1_positionOf_21 : decode cX1_positionOf 21 = .ok (.i2l, 1) := by decide +kernel
theorem dX1_positionOf_22 : decode cX1_positionOf 22 = .ok (.lstore 7, 2) := by decide +kernel
theorem dX1_positionOf_24 : decode cX1_positionOf 24 = .ok (.lload_n 2, 1) := by decide +kernel
theorem dX1_positionOf_25 : decode cX1_positionOf 25 = .ok (.aload_n 1, 1) := by decide +kernel
theorem dX1_positionOf_26 : decode cX1_positionOf 26 = .ok (.iload 6, 2) := by decide +kernel
theorem dX1_positionOf_28 : decode cX1_positionOf 28 = .ok (.iaload, 1) := by decide +kernel
theorem dX1_positionOf_29 : decode cX1_positionOf 29 = .ok (.aload_n 0, 1) := by decide +kernel
theorem dX1_positionOf_30 : decode cX1_positionOf 30 = .ok (.getfield 33, 3) := by decide +kernel
theorem dX1_positionOf_33 : decode cX1_positionOf 33 = .ok (.iconst 0, 1) := by decide +kernel
theorem dX1_positionOf_34 : decode cX1_positionOf 34 = .ok (.aaload, 1) := by decide +kernel
theorem dX1_positionOf_35 : decode cX1_positionOf 35 = .ok (.iload 6, 2) := by decide +kernel
theorem dX1_positionOf_37 : decode cX1_positionOf 37 = .ok (.iaload, 1) := by decide +kernel
theorem dX1_positionOf_38 : decode cX1_positionOf 38 = .ok (.isub, 1) := by decide +kernel
theorem dX1_positionOf_39 : decode cX1_positionOf 39 = .ok (.i2l, 1) := by decide +kernel
theorem dX1_positionOf_40 : decode cX1_positionOf 40 = .ok (.lload 7, 2) := by decide +kernel
theorem dX1_positionOf_42 : decode cX1_positionOf 42 = .ok (.lmul, 1) := by decide +kernel
theorem dX1_positionOf_43 : decode cX1_positionOf 43 = .ok (.ladd, 1) := by decide +kernel
theorem dX1_positionOf_44 : decode cX1_positionOf 44 = .ok (.lstore_n 2, 1) := by decide +kernel
theorem dX1_positionOf_45 : decode cX1_positionOf 45 = .ok (.lload 4, 2) := by decide +kernel
theorem dX1_positionOf_47 : decode cX1_positionOf 47 = .ok (.lload 7, 2) := by decide +kernel
theorem dX1_positionOf_49 : decode cX1_positionOf 49 = .ok (.lload 7, 2) := by decide +kernel
theorem dX1_positionOf_51 : decode cX1_positionOf 51 = .ok (.lmul, 1) := by decide +kernel
theorem dX1_positionOf_52 : decode cX1_positionOf 52 = .ok (.ladd, 1) := by decide +kernel
theorem dX1_positionOf_53 : decode cX1_positionOf 53 = .ok (.lstore 4, 2) := by decide +kernel
theorem dX1_positionOf_55 : decode cX1_positionOf 55 = .ok (.iinc 6 1, 3) := by decide +kernel
theorem dX1_positionOf_58 : decode cX1_positionOf 58 = .ok (.goto (-50), 3) := by decide +kernel
theorem dX1_positionOf_61 : decode cX1_positionOf 61 = .ok (.ldc2_w 88, 3) := by decide +kernel
theorem dX1_positionOf_64 : decode cX1_positionOf 64 = .ok (.lload_n 2, 1) := by decide +kernel
theorem dX1_positionOf_65 : decode cX1_positionOf 65 = .ok (.lmul, 1) := by decide +kernel
theorem dX1_positionOf_66 : decode cX1_positionOf 66 = .ok (.lload 4, 2) := by decide +kernel
theorem dX1_positionOf_68 : decode cX1_positionOf 68 = .ok (.invokestatic 95, 3) := by decide +kernel
theorem dX1_positionOf_71 : decode cX1_positionOf 71 = .ok (.l2i, 1) := by decide +kernel
theorem dX1_positionOf_72 : decode cX1_positionOf 72 = .ok (.ireturn, 1) := by decide +kernel
theorem dX1_predict_0 : decode cX1_predict 0 = .ok (.aload_n 0, 1) := by decide +kernel
theorem dX1_predict_1 : decode cX1_predict 1 = .ok (.iload_n 1, 1) := by decide +kernel
theorem dX1_predict_2 : decode cX1_predict 2 = .ok (.invokevirtual 68, 3) := by decide +kernel
theorem dX1_predict_5 : decode cX1_predict 5 = .ok (.aload_n 0, 1) := by decide +kernel
theorem dX1_predict_6 : decode cX1_predict 6 = .ok (.getfield 27, 3) := by decide +kernel
theorem dX1_predict_9 : decode cX1_predict 9 = .ok (.invokevirtual 98, 3) := by decide +kernel
theorem dX1_predict_12 : decode cX1_predict 12 = .ok (.lstore_n 3, 1) := by decide +kernel
theorem dX1_predict_13 : decode cX1_predict 13 = .ok (.aload_n 0, 1) := by decide +kernel
theorem dX1_predict_14 : decode cX1_predict 14 = .ok (.getfield 27, 3) := by decide +kernel
theorem dX1_predict_17 : decode cX1_predict 17 = .ok (.invokevirtual 71, 3) := by decide +kernel
theorem dX1_predict_20 : decode cX1_predict 20 = .ok (.aload_n 0, 1) := by decide +kernel
theorem dX1_predict_21 : decode cX1_predict 21 = .ok (.getfield 27, 3) := by decide +kernel
theorem dX1_predict_24 : decode cX1_predict 24 = .ok (.getfield 101, 3) := by decide +kernel
theorem dX1_predict_27 : decode cX1_predict 27 = .ok (.iload_n 2, 1) := by decide +kernel
theorem dX1_predict_28 : decode cX1_predict 28 = .ok (.i2l, 1) := by decide +kernel
theorem dX1_predict_29 : decode cX1_predict 29 = .ok (.lmul, 1) := by decide +kernel
theorem dX1_predict_30 : decode cX1_predict 30 = .ok (.aload_n 0, 1) := by decide +kernel
theorem dX1_predict_31 : decode cX1_predict 31 = .ok (.getfield 27, 3) := by decide +kernel
theorem dX1_predict_34 : decode cX1_predict 34 = .ok (.getfield 105, 3) := by decide +kernel
theorem dX1_predict_37 : decode cX1_predict 37 = .ok (.lsub, 1) := by decide +kernel
theorem dX1_predict_38 : decode cX1_predict 38 = .ok (.lmul, 1) := by decide +kernel
theorem dX1_predict_39 : decode cX1_predict 39 = .ok (.lstore 5, 2) := by decide +kernel
theorem dX1_predict_41 : decode cX1_predict 41 = .ok (.lload_n 3, 1) := by decide +kernel
theorem dX1_predict_42 : decode cX1_predict 42 = .ok (.aload_n 0, 1) := by decide +kernel
theorem dX1_predict_43 : decode cX1_predict 43 = .ok (.getfield 27, 3) := by decide +kernel
theorem dX1_predict_46 : decode cX1_predict 46 = .ok (.getfield 108, 3) := by decide +kernel
theorem dX1_predict_49 : decode cX1_predict 49 = .ok (.lmul, 1) := by decide +kernel
theorem dX1_predict_50 : decode cX1_predict 50 = .ok (.lload 5, 2) := by decide +kernel
theorem dX1_predict_52 : decode cX1_predict 52 = .ok (.ladd, 1) := by decide +kernel
theorem dX1_predict_53 : decode cX1_predict 53 = .ok (.aload_n 0, 1) := by decide +kernel
theorem dX1_predict_54 : decode cX1_predict 54 = .ok (.getfield 27, 3) := by decide +kernel
theorem dX1_predict_57 : decode cX1_predict 57 = .ok (.getfield 101, 3) := by decide +kernel
theorem dX1_predict_60 : decode cX1_predict 60 = .ok (.lload_n 3, 1) := by decide +kernel
theorem dX1_predict_61 : decode cX1_predict 61 = .ok (.lmul, 1) := by decide +kernel
theorem dX1_predict_62 : decode cX1_predict 62 = .ok (.invokestatic 95, 3) := by decide +kernel
theorem dX1_predict_65 : decode cX1_predict 65 = .ok (.l2i, 1) := by decide +kernel
theorem dX1_predict_66 : decode cX1_predict 66 = .ok (.ireturn, 1) := by decide +kernel
theorem dX2_init_0 : decode cX2_init 0 = .ok (.aload_n 0, 1) := by decide +kernel
theorem dX2_init_1 : decode cX2_init 1 = .ok (.invokespecial 3, 3) := by decide +kernel
theorem dX2_init_4 : decode cX2_init 4 = .ok (.aload_n 0, 1) := by decide +kernel
theorem dX2_init_5 : decode cX2_init 5 = .ok (.new 9, 3) := by decide +kernel
theorem dX2_init_8 : decode cX2_init 8 = .ok (.dup, 1) := by decide +kernel
theorem dX2_init_9 : decode cX2_init 9 = .ok (.bipush 8, 2) := by decide +kernel
theorem dX2_init_11 : decode cX2_init 11 = .ok (.invokespecial 11, 3) := by decide +kernel
theorem dX2_init_14 : decode cX2_init 14 = .ok (.putfield 14, 3) := by decide +kernel
theorem dX2_init_17 : decode cX2_init 17 = .ok (.aload_n 0, 1) := by decide +kernel
theorem dX2_init_18 : decode cX2_init 18 = .ok (.bipush 8, 2) := by decide +kernel
theorem dX2_init_20 : decode cX2_init 20 = .ok (.iconst 5, 1) := by decide +kernel
theorem dX2_init_21 : decode cX2_init 21 = .ok (.multianewarray 20 2, 4) := by decide +kernel
theorem dX2_init_25 : decode cX2_init 25 = .ok (.putfield 22, 3) := by decide +kernel
theorem dX2_init_28 : decode cX2_init 28 = .ok (.aload_n 0, 1) := by decide +kernel
theorem dX2_init_29 : decode cX2_init 29 = .ok (.iconst 5, 1) := by decide +kernel
theorem dX2_init_30 : decode cX2_init 30 = .ok (.newarray .int, 2) := by decide +kernel
theorem dX2_init_32 : decode cX2_init 32 = .ok (.putfield 25, 3) := by decide +kernel
theorem dX2_init_35 : decode cX2_init 35 = .ok (.return_, 1) := by decide +kernel
theorem dX2_refresh_0 : decode cX2_refresh 0 = .ok (.aload_n 0, 1) := by decide +kernel
theorem dX2_refresh_1 : decode cX2_refresh 1 = .ok (.iconst 0, 1) := by decide +kernel
theorem dX2_refresh_2 : decode cX2_refresh 2 = .ok (.putfield 29, 3) := by decide +kernel
theorem dX2_refresh_5 : decode cX2_refresh 5 = .ok (.iconst 0, 1) := by decide +kernel
theorem dX2_refresh_6 : decode cX2_refresh 6 = .ok (.istore_n 2, 1) := by decide +kernel
theorem dX2_refresh_7 : decode cX2_refresh 7 = .ok (.iload_n 2, 1) := by decide +kernel
theorem dX2_refresh_8 : decode cX2_refresh 8 = .ok (.iconst 5, 1) := by decide +kernel
theorem dX2_refresh_9 : decode cX2_refresh 9 = .ok (.if_icmp .ge 16, 3) := by decide +kernel
theorem dX2_refresh_12 : decode cX2_refresh 12 = .ok (.aload_n 0, 1) := by decide +kernel
theorem dX2_refresh_13 : decode cX2_refresh 13 = .ok (.getfield 25, 3) := by decide +kernel
theorem dX2_refresh_16 : decode cX2_refresh 16 = .ok (.iload_n 2, 1) := by decide +kernel
theorem dX2_refresh_17 : decode cX2_refresh 17 = .ok (.iconst 0, 1) := by decide +kernel
theorem dX2_refresh_18 : decode cX2_refresh 18 = .ok (.iastore, 1) := by decide +kernel
theorem dX2_refresh_19 : decode cX2_refresh 19 = .ok (.iinc 2 1, 3) := by decide +kernel
theorem dX2_refresh_22 : decode cX2_refresh 22 = .ok (.goto (-15), 3) := by decide +kernel
theorem dX2_refresh_25 : decode cX2_refresh 25 = .ok (.iconst 0, 1) := by decide +kernel
theorem dX2_refresh_26 : decode cX2_refresh 26 = .ok (.istore_n 2, 1) := by decide +kernel
theorem dX2_refresh_27 : decode cX2_refresh 27 = .ok (.iload_n 2, 1) := by decide +kernel
theorem dX2_refresh_28 : decode cX2_refresh 28 = .ok (.aload_n 0, 1) := by decide +kernel
theorem dX2_refresh_29 : decode cX2_refresh 29 = .ok (.getfield 14, 3) := by decide +kernel
theorem dX2_refresh_32 : decode cX2_refresh 32 = .ok (.getfield 33, 3) := by decide +kernel
theorem dX2_refresh_35 : decode cX2_refresh 35 = .ok (.if_icmp .ge 33, 3) := by decide +kernel
theorem dX2_refresh_38 : decode cX2_refresh 38 = .ok (.aload_n 1, 1) := by decide +kernel
theorem dX2_refresh_39 : decode cX2_refresh 39 = .ok (.aload_n 0, 1) := by decide +kernel
theorem dX2_refresh_40 : decode cX2_refresh 40 = .ok (.getfield 14, 3) := by decide +kernel
theorem dX2_refresh_43 : decode cX2_refresh 43 = .ok (.iload_n 2, 1) := by decide +kernel
theorem dX2_refresh_44 : decode cX2_refresh 44 = .ok (.invokevirtual 36, 3) := by decide +kernel
theorem dX2_refresh_47 : decode cX2_refresh 47 = .ok (.aload_n 0, 1) := by decide +kernel
theorem dX2_refresh_48 : decode cX2_refresh 48 = .ok (.getfield 22, 3) := by decide +kernel
theorem dX2_refresh_51 : decode cX2_refresh 51 = .ok (.iload_n 2, 1) := by decide +kernel
theorem dX2_refresh_52 : decode cX2_refresh 52 = .ok (.aaload, 1) := by decide +kernel
theorem dX2_refresh_53 : decode cX2_refresh 53 = .ok (.invokevirtual 40, 3) := by decide +kernel
theorem dX2_refresh_56 : decode cX2_refresh 56 = .ok (.aload_n 0, 1) := by decide +kernel
theorem dX2_refresh_57 : decode cX2_refresh 57 = .ok (.iload_n 2, 1) := by decide +kernel
theorem dX2_refresh_58 : decode cX2_refresh 58 = .ok (.iconst 1, 1) := by decide +kernel
theorem dX2_refresh_59 : decode cX2_refresh 59 = .ok (.invokevirtual 46, 3) := by decide +kernel
theorem dX2_refresh_62 : decode cX2_refresh 62 = .ok (.iinc 2 1, 3) := by decide +kernel
theorem dX2_refresh_65 : decode cX2_refresh 65 = .ok (.goto (-38), 3) := by decide +kernel
theorem dX2_refresh_68 : decode cX2_refresh 68 = .ok (.return_, 1) := by decide +kernel
theorem dX2_weigh_0 : decode cX2_weigh 0 = .ok (.aload_n 0, 1) := by decide +kernel
theorem dX2_weigh_1 : decode cX2_weigh 1 = .ok (.dup, 1) := by decide +kernel
theorem dX2_weigh_2 : decode cX2_weigh 2 = .ok (.getfield 29, 3) := by decide +kernel
theorem dX2_weigh_5 : decode cX2_weigh 5 = .ok (.iload_n 2, 1) := by decide +kernel
theorem dX2_weigh_6 : decode cX2_weigh 6 = .ok (.iadd, 1) := by decide +kernel
theorem dX2_weigh_7 : decode cX2_weigh 7 = .ok (.putfield 29, 3) := by decide +kernel
theorem dX2_weigh_10 : decode cX2_weigh 10 = .ok (.iconst 0, 1) := by decide +kernel
theorem dX2_weigh_11 : decode cX2_weigh 11 = .ok (.istore_n 3, 1) := by decide +kernel
theorem dX2_weigh_12 : decode cX2_weigh 12 = .ok (.iload_n 3, 1) := by decide +kernel
theorem dX2_weigh_13 : decode cX2_weigh 13 = .ok (.iconst 5, 1) := by decide +kernel
theorem dX2_weigh_14 : decode cX2_weigh 14 = .ok (.if_icmp .ge 28, 3) := by decide +kernel
theorem dX2_weigh_17 : decode cX2_weigh 17 = .ok (.aload_n 0, 1) := by decide +kernel
theorem dX2_weigh_18 : decode cX2_weigh 18 = .ok (.getfield 25, 3) := by decide +kernel
theorem dX2_weigh_21 : decode cX2_weigh 21 = .ok (.iload_n 3, 1) := by decide +kernel
theorem dX2_weigh_22 : decode cX2_weigh 22 = .ok (.dup2, 1) := by decide +kernel
theorem dX2_weigh_23 : decode cX2_weigh 23 = .ok (.iaload, 1) := by decide +kernel
theorem dX2_weigh_24 : decode cX2_weigh 24 = .ok (.iload_n 2, 1) := by decide +kernel
theorem dX2_weigh_25 : decode cX2_weigh 25 = .ok (.aload_n 0, 1) := by decide +kernel
theorem dX2_weigh_26 : decode cX2_weigh 26 = .ok (.getfield 22, 3) := by decide +kernel
theorem dX2_weigh_29 : decode cX2_weigh 29 = .ok (.iload_n 1, 1) := by decide +kernel
theorem dX2_weigh_30 : decode cX2_weigh 30 = .ok (.aaload, 1) := by decide +kernel
theorem dX2_weigh_31 : decode cX2_weigh 31 = .ok (.iload_n 3, 1) := by decide +kernel
theorem dX2_weigh_32 : decode cX2_weigh 32 = .ok (.iaload, 1) := by decide +kernel
theorem dX2_weigh_33 : decode cX2_weigh 33 = .ok (.imul, 1) := by decide +kernel
theorem dX2_weigh_34 : decode cX2_weigh 34 = .ok (.iadd, 1) := by decide +kernel
theorem dX2_weigh_35 : decode cX2_weigh 35 = .ok (.iastore, 1) := by decide +kernel
theorem dX2_weigh_36 : decode cX2_weigh 36 = .ok (.iinc 3 1, 3) := by decide +kernel
theorem dX2_weigh_39 : decode cX2_weigh 39 = .ok (.goto (-27), 3) := by decide +kernel
theorem dX2_weigh_42 : decode cX2_weigh 42 = .ok (.return_, 1) := by decide +kernel
theorem dX2_squaresOf_0 : decode cX2_squaresOf 0 = .ok (.lconst 0, 1) := by decide +kernel
theorem dX2_squaresOf_1 : decode cX2_squaresOf 1 = .ok (.lstore_n 2, 1) := by decide +kernel
theorem dX2_squaresOf_2 : decode cX2_squaresOf 2 = .ok (.iconst 0, 1) := by decide +kernel
theorem dX2_squaresOf_3 : decode cX2_squaresOf 3 = .ok (.istore 4, 2) := by decide +kernel
theorem dX2_squaresOf_5 : decode cX2_squaresOf 5 = .ok (.iload 4, 2) := by decide +kernel
theorem dX2_squaresOf_7 : decode cX2_squaresOf 7 = .ok (.aload_n 0, 1) := by decide +kernel
theorem dX2_squaresOf_8 : decode cX2_squaresOf 8 = .ok (.getfield 14, 3) := by decide +kernel
theorem dX2_squaresOf_11 : decode cX2_squaresOf 11 = .ok (.getfield 33, 3) := by decide +kernel
theorem dX2_squaresOf_14 : decode cX2_squaresOf 14 = .ok (.if_icmp .ge 33, 3) := by decide +kernel
theorem dX2_squaresOf_17 : decode cX2_squaresOf 17 = .ok (.lload_n 2, 1) := by decide +kernel
theorem dX2_squaresOf_18 : decode cX2_squaresOf 18 = .ok (.aload_n 0, 1) := by decide +kernel
theorem dX2_squaresOf_19 : decode cX2_squaresOf 19 = .ok (.getfield 22, 3) := by decide +kernel
theorem dX2_squaresOf_22 : decode cX2_squaresOf 22 = .ok (.iload 4, 2) := by decide +kernel
theorem dX2_squaresOf_24 : decode cX2_squaresOf 24 = .ok (.aaload, 1) := by decide +kernel
theorem dX2_squaresOf_25 : decode cX2_squaresOf 25 = .ok (.iload_n 1, 1) := by decide +kernel
theorem dX2_squaresOf_26 : decode cX2_squaresOf 26 = .ok (.iaload, 1) := by decide +kernel
theorem dX2_squaresOf_27 : decode cX2_squaresOf 27 = .ok (.i2l, 1) := by decide +kernel
theorem dX2_squaresOf_28 : decode cX2_squaresOf 28 = .ok (.aload_n 0, 1) := by decide +kernel
theorem dX2_squaresOf_29 : decode cX2_squaresOf 29 = .ok (.getfield 22, 3) := by decide +kernel
theorem dX2_squaresOf_32 : decode cX2_squaresOf 32 = .ok (.iload 4, 2) := by decide +kernel
theorem dX2_squaresOf_34 : decode cX2_squaresOf 34 = .ok (.aaload, 1) := by decide +kernel
theorem dX2_squaresOf_35 : decode cX2_squaresOf 35 = .ok (.iload_n 1, 1) := by decide +kernel
theorem dX2_squaresOf_36 : decode cX2_squaresOf 36 = .ok (.iaload, 1) := by decide +kernel
theorem dX2_squaresOf_37 : decode cX2_squaresOf 37 = .ok (.i2l, 1) := by decide +kernel
theorem dX2_squaresOf_38 : decode cX2_squaresOf 38 = .ok (.lmul, 1) := by decide +kernel
theorem dX2_squaresOf_39 : decode cX2_squaresOf 39 = .ok (.ladd, 1) := by decide +kernel
theorem dX2_squaresOf_40 : decode cX2_squaresOf 40 = .ok (.lstore_n 2, 1) := by decide +kernel
theorem dX2_squaresOf_41 : decode cX2_squaresOf 41 = .ok (.iinc 4 1, 3) := by decide +kernel
theorem dX2_squaresOf_44 : decode cX2_squaresOf 44 = .ok (.goto (-39), 3) := by decide +kernel
theorem dX2_squaresOf_47 : decode cX2_squaresOf 47 = .ok (.lload_n 2, 1) := by decide +kernel
theorem dX2_squaresOf_48 : decode cX2_squaresOf 48 = .ok (.lreturn, 1) := by decide +kernel
theorem dX3_init_0 : decode cX3_init 0 = .ok (.aload_n 0, 1) := by decide +kernel
theorem dX3_init_1 : decode cX3_init 1 = .ok (.invokespecial 1, 3) := by decide +kernel
theorem dX3_init_4 : decode cX3_init 4 = .ok (.return_, 1) := by decide +kernel
theorem dX3_clear_0 : decode cX3_clear 0 = .ok (.aload_n 0, 1) := by decide +kernel
theorem dX3_clear_1 : decode cX3_clear 1 = .ok (.lconst 0, 1) := by decide +kernel
theorem dX3_clear_2 : decode cX3_clear 2 = .ok (.putfield 7, 3) := by decide +kernel
theorem dX3_clear_5 : decode cX3_clear 5 = .ok (.aload_n 0, 1) := by decide +kernel
theorem dX3_clear_6 : decode cX3_clear 6 = .ok (.lconst 0, 1) := by decide +kernel
theorem dX3_clear_7 : decode cX3_clear 7 = .ok (.putfield 13, 3) := by decide +kernel
theorem dX3_clear_10 : decode cX3_clear 10 = .ok (.aload_n 0, 1) := by decide +kernel
theorem dX3_clear_11 : decode cX3_clear 11 = .ok (.lconst 0, 1) := by decide +kernel
theorem dX3_clear_12 : decode cX3_clear 12 = .ok (.putfield 16, 3) := by decide +kernel
theorem dX3_clear_15 : decode cX3_clear 15 = .ok (.aload_n 0, 1) := by decide +kernel
theorem dX3_clear_16 : decode cX3_clear 16 = .ok (.lconst 0, 1) := by decide +kernel
theorem dX3_clear_17 : decode cX3_clear 17 = .ok (.putfield 19, 3) := by decide +kernel
theorem dX3_clear_20 : decode cX3_clear 20 = .ok (.aload_n 0, 1) := by decide +kernel
theorem dX3_clear_21 : decode cX3_clear 21 = .ok (.lconst 0, 1) := by decide +kernel
theorem dX3_clear_22 : decode cX3_clear 22 = .ok (.putfield 22, 3) := by decide +kernel
theorem dX3_clear_25 : decode cX3_clear 25 = .ok (.return_, 1) := by decide +kernel
theorem dX3_add_0 : decode cX3_add 0 = .ok (.aload_n 0, 1) := by decide +kernel
theorem dX3_add_1 : decode cX3_add 1 = .ok (.dup, 1) := by decide +kernel
theorem dX3_add_2 : decode cX3_add 2 = .ok (.getfield 7, 3) := by decide +kernel
theorem dX3_add_5 : decode cX3_add 5 = .ok (.lconst 1, 1) := by decide +kernel
theorem dX3_add_6 : decode cX3_add 6 = .ok (.ladd, 1) := by decide +kernel
theorem dX3_add_7 : decode cX3_add 7 = .ok (.putfield 7, 3) := by decide +kernel
theorem dX3_add_10 : decode cX3_add 10 = .ok (.aload_n 0, 1) := by decide +kernel
theorem dX3_add_11 : decode cX3_add 11 = .ok (.dup, 1) := by decide +kernel
theorem dX3_add_12 : decode cX3_add 12 = .ok (.getfield 13, 3) := by decide +kernel
theorem dX3_add_15 : decode cX3_add 15 = .ok (.lload_n 1, 1) := by decide +kernel
theorem dX3_add_16 : decode cX3_add 16 = .ok (.ladd, 1) := by decide +kernel
theorem dX3_add_17 : decode cX3_add 17 = .ok (.putfield 13, 3) := by decide +kernel
theorem dX3_add_20 : decode cX3_add 20 = .ok (.aload_n 0, 1) := by decide +kernel
theorem dX3_add_21 : decode cX3_add 21 = .ok (.dup, 1) := by decide +kernel
theorem dX3_add_22 : decode cX3_add 22 = .ok (.getfield 16, 3) := by decide +kernel
theorem dX3_add_25 : decode cX3_add 25 = .ok (.lload_n 3, 1) := by decide +kernel
theorem dX3_add_26 : decode cX3_add 26 = .ok (.ladd, 1) := by decide +kernel
theorem dX3_add_27 : decode cX3_add 27 = .ok (.putfield 16, 3) := by decide +kernel
theorem dX3_add_30 : decode cX3_add 30 = .ok (.aload_n 0, 1) := by decide +kernel
theorem dX3_add_31 : decode cX3_add 31 = .ok (.dup, 1) := by decide +kernel
theorem dX3_add_32 : decode cX3_add 32 = .ok (.getfield 19, 3) := by decide +kernel
theorem dX3_add_35 : decode cX3_add 35 = .ok (.lload_n 1, 1) := by decide +kernel
theorem dX3_add_36 : decode cX3_add 36 = .ok (.lload_n 1, 1) := by decide +kernel
theorem dX3_add_37 : decode cX3_add 37 = .ok (.lmul, 1) := by decide +kernel
theorem dX3_add_38 : decode cX3_add 38 = .ok (.ladd, 1) := by decide +kernel
theorem dX3_add_39 : decode cX3_add 39 = .ok (.putfield 19, 3) := by decide +kernel
theorem dX3_add_42 : decode cX3_add 42 = .ok (.aload_n 0, 1) := by decide +kernel
theorem dX3_add_43 : decode cX3_add 43 = .ok (.dup, 1) := by decide +kernel
theorem dX3_add_44 : decode cX3_add 44 = .ok (.getfield 22, 3) := by decide +kernel
theorem dX3_add_47 : decode cX3_add 47 = .ok (.lload_n 1, 1) := by decide +kernel
theorem dX3_add_48 : decode cX3_add 48 = .ok (.lload_n 3, 1) := by decide +kernel
theorem dX3_add_49 : decode cX3_add 49 = .ok (.lmul, 1) := by decide +kernel
theorem dX3_add_50 : decode cX3_add 50 = .ok (.ladd, 1) := by decide +kernel
theorem dX3_add_51 : decode cX3_add 51 = .ok (.putfield 22, 3) := by decide +kernel
theorem dX3_add_54 : decode cX3_add 54 = .ok (.return_, 1) := by decide +kernel
theorem dX3_cross_0 : decode cX3_cross 0 = .ok (.aload_n 0, 1) := by decide +kernel
theorem dX3_cross_1 : decode cX3_cross 1 = .ok (.getfield 7, 3) := by decide +kernel
theorem dX3_cross_4 : decode cX3_cross 4 = .ok (.aload_n 0, 1) := by decide +kernel
theorem dX3_cross_5 : decode cX3_cross 5 = .ok (.getfield 22, 3) := by decide +kernel
theorem dX3_cross_8 : decode cX3_cross 8 = .ok (.lmul, 1) := by decide +kernel
theorem dX3_cross_9 : decode cX3_cross 9 = .ok (.aload_n 0, 1) := by decide +kernel
theorem dX3_cross_10 : decode cX3_cross 10 = .ok (.getfield 13, 3) := by decide +kernel
theorem dX3_cross_13 : decode cX3_cross 13 = .ok (.aload_n 0, 1) := by decide +kernel
theorem dX3_cross_14 : decode cX3_cross 14 = .ok (.getfield 16, 3) := by decide +kernel
theorem dX3_cross_17 : decode cX3_cross 17 = .ok (.lmul, 1) := by decide +kernel
theorem dX3_cross_18 : decode cX3_cross 18 = .ok (.lsub, 1) := by decide +kernel
theorem dX3_cross_19 : decode cX3_cross 19 = .ok (.lreturn, 1) := by decide +kernel
theorem dX3_square_0 : decode cX3_square 0 = .ok (.aload_n 0, 1) := by decide +kernel
theorem dX3_square_1 : decode cX3_square 1 = .ok (.getfield 7, 3) := by decide +kernel
theorem dX3_square_4 : decode cX3_square 4 = .ok (.aload_n 0, 1) := by decide +kernel
theorem dX3_square_5 : decode cX3_square 5 = .ok (.getfield 19, 3) := by decide +kernel
theorem dX3_square_8 : decode cX3_square 8 = .ok (.lmul, 1) := by decide +kernel
theorem dX3_square_9 : decode cX3_square 9 = .ok (.aload_n 0, 1) := by decide +kernel
theorem dX3_square_10 : decode cX3_square 10 = .ok (.getfield 13, 3) := by decide +kernel
theorem dX3_square_13 : decode cX3_square 13 = .ok (.aload_n 0, 1) := by decide +kernel
theorem dX3_square_14 : decode cX3_square 14 = .ok (.getfield 13, 3) := by decide +kernel
theorem dX3_square_17 : decode cX3_square 17 = .ok (.lmul, 1) := by decide +kernel
theorem dX3_square_18 : decode cX3_square 18 = .ok (.lsub, 1) := by decide +kernel
theorem dX3_square_19 : decode cX3_square 19 = .ok (.lreturn, 1) := by decide +kernel
theorem dX4_init_0 : decode cX4_init 0 = .ok (.aload_n 0, 1) := by decide +kernel
theorem dX4_init_1 : decode cX4_init 1 = .ok (.invokespecial 3, 3) := by decide +kernel
theorem dX4_init_4 : decode cX4_init 4 = .ok (.aload_n 0, 1) := by decide +kernel
theorem dX4_init_5 : decode cX4_init 5 = .ok (.bipush 8, 2) := by decide +kernel
theorem dX4_init_7 : decode cX4_init 7 = .ok (.bipush 8, 2) := by decide +kernel
theorem dX4_init_9 : decode cX4_init 9 = .ok (.multianewarray 9 2, 4) := by decide +kernel
theorem dX4_init_13 : decode cX4_init 13 = .ok (.putfield 11, 3) := by decide +kernel
theorem dX4_init_16 : decode cX4_init 16 = .ok (.aload_n 0, 1) := by decide +kernel
theorem dX4_init_17 : decode cX4_init 17 = .ok (.bipush 8, 2) := by decide +kernel
theorem dX4_init_19 : decode cX4_init 19 = .ok (.newarray .int, 2) := by decide +kernel
theorem dX4_init_21 : decode cX4_init 21 = .ok (.putfield 16, 3) := by decide +kernel
theorem dX4_init_24 : decode cX4_init 24 = .ok (.return_, 1) := by decide +kernel
theorem dX4_clear_0 : decode cX4_clear 0 = .ok (.iconst 0, 1) := by decide +kernel
theorem dX4_clear_1 : decode cX4_clear 1 = .ok (.istore_n 1, 1) := by decide +kernel
theorem dX4_clear_2 : decode cX4_clear 2 = .ok (.iload_n 1, 1) := by decide +kernel
theorem dX4_clear_3 : decode cX4_clear 3 = .ok (.bipush 8, 2) := by decide +kernel
theorem dX4_clear_5 : decode cX4_clear 5 = .ok (.if_icmp .ge 16, 3) := by decide +kernel
theorem dX4_clear_8 : decode cX4_clear 8 = .ok (.aload_n 0, 1) := by decide +kernel
theorem dX4_clear_9 : decode cX4_clear 9 = .ok (.getfield 16, 3) := by decide +kernel
theorem dX4_clear_12 : decode cX4_clear 12 = .ok (.iload_n 1, 1) := by decide +kernel
theorem dX4_clear_13 : decode cX4_clear 13 = .ok (.iconst (-1), 1) := by decide +kernel
theorem dX4_clear_14 : decode cX4_clear 14 = .ok (.iastore, 1) := by decide +kernel
theorem dX4_clear_15 : decode cX4_clear 15 = .ok (.iinc 1 1, 3) := by decide +kernel
theorem dX4_clear_18 : decode cX4_clear 18 = .ok (.goto (-16), 3) := by decide +kernel
theorem dX4_clear_21 : decode cX4_clear 21 = .ok (.return_, 1) := by decide +kernel
theorem dX4_include_0 : decode cX4_include 0 = .ok (.aload_n 0, 1) := by decide +kernel
theorem dX4_include_1 : decode cX4_include 1 = .ok (.getfield 16, 3) := by decide +kernel
theorem dX4_include_4 : decode cX4_include 4 = .ok (.iload_n 1, 1) := by decide +kernel
theorem dX4_include_5 : decode cX4_include 5 = .ok (.iload_n 1, 1) := by decide +kernel
theorem dX4_include_6 : decode cX4_include 6 = .ok (.iastore, 1) := by decide +kernel
theorem dX4_include_7 : decode cX4_include 7 = .ok (.return_, 1) := by decide +kernel
theorem dX4_setGap_0 : decode cX4_setGap 0 = .ok (.aload_n 0, 1) := by decide +kernel
theorem dX4_setGap_1 : decode cX4_setGap 1 = .ok (.getfield 11, 3) := by decide +kernel
theorem dX4_setGap_4 : decode cX4_setGap 4 = .ok (.iload_n 1, 1) := by decide +kernel
theorem dX4_setGap_5 : decode cX4_setGap 5 = .ok (.aaload, 1) := by decide +kernel
theorem dX4_setGap_6 : decode cX4_setGap 6 = .ok (.iload_n 2, 1) := by decide +kernel
theorem dX4_setGap_7 : decode cX4_setGap 7 = .ok (.iload_n 3, 1) := by decide +kernel
theorem dX4_setGap_8 : decode cX4_setGap 8 = .ok (.iastore, 1) := by decide +kernel
theorem dX4_setGap_9 : decode cX4_setGap 9 = .ok (.return_, 1) := by decide +kernel
theorem dX4_pairCode_0 : decode cX4_pairCode 0 = .ok (.bipush 10, 2) := by decide +kernel
theorem dX4_pairCode_2 : decode cX4_pairCode 2 = .ok (.aload_n 0, 1) := by decide +kernel
theorem dX4_pairCode_3 : decode cX4_pairCode 3 = .ok (.getfield 20, 3) := by decide +kernel
theorem dX4_pairCode_6 : decode cX4_pairCode 6 = .ok (.imul, 1) := by decide +kernel
theorem dX4_pairCode_7 : decode cX4_pairCode 7 = .ok (.aload_n 0, 1) := by decide +kernel
theorem dX4_pairCode_8 : decode cX4_pairCode 8 = .ok (.getfield 24, 3) := by decide +kernel
theorem dX4_pairCode_11 : decode cX4_pairCode 11 = .ok (.iadd, 1) := by decide +kernel
theorem dX4_pairCode_12 : decode cX4_pairCode 12 = .ok (.ireturn, 1) := by decide +kernel
theorem dX4_runTo_0 : decode cX4_runTo 0 = .ok (.iload_n 1, 1) := by decide +kernel
theorem dX4_runTo_1 : decode cX4_runTo 1 = .ok (.bipush 8, 2) := by decide +kernel
theorem dX4_runTo_3 : decode cX4_runTo 3 = .ok (.if_icmp .lt 5, 3) := by decide +kernel
theorem dX4_runTo_6 : decode cX4_runTo 6 = .ok (.iconst 0, 1) := by decide +kernel
theorem dX4_runTo_7 : decode cX4_runTo 7 = .ok (.ireturn, 1) := by decide +kernel
theorem dX4_runTo_8 : decode cX4_runTo 8 = .ok (.iconst 0, 1) := by decide +kernel
theorem dX4_runTo_9 : decode cX4_runTo 9 = .ok (.istore_n 2, 1) := by decide +kernel
theorem dX4_runTo_10 : decode cX4_runTo 10 = .ok (.iload_n 2, 1) := by decide +kernel
theorem dX4_runTo_11 : decode cX4_runTo 11 = .ok (.iload_n 1, 1) := by decide +kernel
theorem dX4_runTo_12 : decode cX4_runTo 12 = .ok (.if_icmp .ge 22, 3) := by decide +kernel
theorem dX4_runTo_15 : decode cX4_runTo 15 = .ok (.aload_n 0, 1) := by decide +kernel
theorem dX4_runTo_16 : decode cX4_runTo 16 = .ok (.invokevirtual 27, 3) := by decide +kernel
theorem dX4_runTo_19 : decode cX4_runTo 19 = .ok (.ifCond .ne 5, 3) := by decide +kernel
theorem dX4_runTo_22 : decode cX4_runTo 22 = .ok (.iconst 0, 1) := by decide +kernel
theorem dX4_runTo_23 : decode cX4_runTo 23 = .ok (.ireturn, 1) := by decide +kernel
theorem dX4_runTo_24 : decode cX4_runTo 24 = .ok (.aload_n 0, 1) := by decide +kernel
theorem dX4_runTo_25 : decode cX4_runTo 25 = .ok (.invokevirtual 31, 3) := by decide +kernel
theorem dX4_runTo_28 : decode cX4_runTo 28 = .ok (.iinc 2 1, 3) := by decide +kernel
theorem dX4_runTo_31 : decode cX4_runTo 31 = .ok (.goto (-21), 3) := by decide +kernel
theorem dX4_runTo_34 : decode cX4_runTo 34 = .ok (.aload_n 0, 1) := by decide +kernel
theorem dX4_runTo_35 : decode cX4_runTo 35 = .ok (.invokevirtual 27, 3) := by decide +kernel
theorem dX4_runTo_38 : decode cX4_runTo 38 = .ok (.ireturn, 1) := by decide +kernel
theorem dX4_findPair_0 : decode cX4_findPair 0 = .ok (.aload_n 0, 1) := by decide +kernel
theorem dX4_findPair_1 : decode cX4_findPair 1 = .ok (.iconst (-1), 1) := by decide +kernel
theorem dX4_findPair_2 : decode cX4_findPair 2 = .ok (.putfield 20, 3) := by decide +kernel
theorem dX4_findPair_5 : decode cX4_findPair 5 = .ok (.iconst 0, 1) := by decide +kernel
theorem dX4_findPair_6 : decode cX4_findPair 6 = .ok (.istore_n 1, 1) := by decide +kernel
theorem dX4_findPair_7 : decode cX4_findPair 7 = .ok (.iload_n 1, 1) := by decide +kernel
theorem dX4_findPair_8 : decode cX4_findPair 8 = .ok (.bipush 8, 2) := by decide +kernel
theorem dX4_findPair_10 : decode cX4_findPair 10 = .ok (.if_icmp .ge 94, 3) := by decide +kernel
theorem dX4_findPair_13 : decode cX4_findPair 13 = .ok (.iload_n 1, 1) := by decide +kernel
theorem dX4_findPair_14 : decode cX4_findPair 14 = .ok (.iconst 1, 1) := by decide +kernel
theorem dX4_findPair_15 : decode cX4_findPair 15 = .ok (.iadd, 1) := by decide +kernel
theorem dX4_findPair_16 : decode cX4_findPair 16 = .ok (.istore_n 2, 1) := by decide +kernel
theorem dX4_findPair_17 : decode cX4_findPair 17 = .ok (.iload_n 2, 1) := by decide +kernel
theorem dX4_findPair_18 : decode cX4_findPair 18 = .ok (.bipush 8, 2) := by decide +kernel
theorem dX4_findPair_20 : decode cX4_findPair 20 = .ok (.if_icmp .ge 78, 3) := by decide +kernel
theorem dX4_findPair_23 : decode cX4_findPair 23 = .ok (.aload_n 0, 1) := by decide +kernel
theorem dX4_findPair_24 : decode cX4_findPair 24 = .ok (.getfield 16, 3) := by decide +kernel
theorem dX4_findPair_27 : decode cX4_findPair 27 = .ok (.iload_n 1, 1) := by decide +kernel
theorem dX4_findPair_28 : decode cX4_findPair 28 = .ok (.iaload, 1) := by decide +kernel
theorem dX4_findPair_29 : decode cX4_findPair 29 = .ok (.aload_n 0, 1) := by decide +kernel
theorem dX4_findPair_30 : decode cX4_findPair 30 = .ok (.getfield 16, 3) := by decide +kernel
theorem dX4_findPair_33 : decode cX4_findPair 33 = .ok (.iload_n 2, 1) := by decide +kernel
theorem dX4_findPair_34 : decode cX4_findPair 34 = .ok (.iaload, 1) := by decide +kernel
theorem dX4_findPair_35 : decode cX4_findPair 35 = .ok (.if_icmp .eq 7, 3) := by decide +kernel
theorem dX4_findPair_38 : decode cX4_findPair 38 = .ok (.iconst 1, 1) := by decide +kernel
theorem dX4_findPair_39 : decode cX4_findPair 39 = .ok (.goto 4, 3) := by decide +kernel
theorem dX4_findPair_42 : decode cX4_findPair 42 = .ok (.iconst 0, 1) := by decide +kernel
theorem dX4_findPair_43 : decode cX4_findPair 43 = .ok (.istore_n 3, 1) := by decide +kernel
theorem dX4_findPair_44 : decode cX4_findPair 44 = .ok (.iload_n 3, 1) := by decide +kernel
theorem dX4_findPair_45 : decode cX4_findPair 45 = .ok (.ifCond .eq 47, 3) := by decide +kernel
theorem dX4_findPair_48 : decode cX4_findPair 48 = .ok (.aload_n 0, 1) := by decide +kernel
theorem dX4_findPair_49 : decode cX4_findPair 49 = .ok (.getfield 16, 3) := by decide +kernel
theorem dX4_findPair_52 : decode cX4_findPair 52 = .ok (.iload_n 1, 1) := by decide +kernel
theorem dX4_findPair_53 : decode cX4_findPair 53 = .ok (.iaload, 1) := by decide +kernel
theorem dX4_findPair_54 : decode cX4_findPair 54 = .ok (.iconst (-1), 1) := by decide +kernel
theorem dX4_findPair_55 : decode cX4_findPair 55 = .ok (.if_icmp .eq 37, 3) := by decide +kernel
theorem dX4_findPair_58 : decode cX4_findPair 58 = .ok (.aload_n 0, 1) := by decide +kernel
theorem dX4_findPair_59 : decode cX4_findPair 59 = .ok (.getfield 16, 3) := by decide +kernel
theorem dX4_findPair_62 : decode cX4_findPair 62 = .ok (.iload_n 2, 1) := by decide +kernel
theorem dX4_findPair_63 : decode cX4_findPair 63 = .ok (.iaload, 1) := by decide +kernel
theorem dX4_findPair_64 : decode cX4_findPair 64 = .ok (.iconst (-1), 1) := by decide +kernel
theorem dX4_findPair_65 : decode cX4_findPair 65 = .ok (.if_icmp .eq 27, 3) := by decide +kernel
theorem dX4_findPair_68 : decode cX4_findPair 68 = .ok (.aload_n 0, 1) := by decide +kernel
theorem dX4_findPair_69 : decode cX4_findPair 69 = .ok (.aload_n 0, 1) := by decide +kernel
theorem dX4_findPair_70 : decode cX4_findPair 70 = .ok (.getfield 16, 3) := by decide +kernel
theorem dX4_findPair_73 : decode cX4_findPair 73 = .ok (.iload_n 1, 1) := by decide +kernel
theorem dX4_findPair_74 : decode cX4_findPair 74 = .ok (.iaload, 1) := by decide +kernel
theorem dX4_findPair_75 : decode cX4_findPair 75 = .ok (.aload_n 0, 1) := by decide +kernel
theorem dX4_findPair_76 : decode cX4_findPair 76 = .ok (.getfield 16, 3) := by decide +kernel
theorem dX4_findPair_79 : decode cX4_findPair 79 = .ok (.iload_n 2, 1) := by decide +kernel
theorem dX4_findPair_80 : decode cX4_findPair 80 = .ok (.iaload, 1) := by decide +kernel
theorem dX4_findPair_81 : decode cX4_findPair 81 = .ok (.aload_n 0, 1) := by decide +kernel
theorem dX4_findPair_82 : decode cX4_findPair 82 = .ok (.getfield 11, 3) := by decide +kernel
theorem dX4_findPair_85 : decode cX4_findPair 85 = .ok (.iload_n 1, 1) := by decide +kernel
theorem dX4_findPair_86 : decode cX4_findPair 86 = .ok (.aaload, 1) := by decide +kernel
theorem dX4_findPair_87 : decode cX4_findPair 87 = .ok (.iload_n 2, 1) := by decide +kernel
theorem dX4_findPair_88 : decode cX4_findPair 88 = .ok (.iaload, 1) := by decide +kernel
theorem dX4_findPair_89 : decode cX4_findPair 89 = .ok (.invokevirtual 34, 3) := by decide +kernel
theorem dX4_findPair_92 : decode cX4_findPair 92 = .ok (.iinc 2 1, 3) := by decide +kernel
theorem dX4_findPair_95 : decode cX4_findPair 95 = .ok (.goto (-78), 3) := by decide +kernel
theorem dX4_findPair_98 : decode cX4_findPair 98 = .ok (.iinc 1 1, 3) := by decide +kernel
theorem dX4_findPair_101 : decode cX4_findPair 101 = .ok (.goto (-94), 3) := by decide +kernel
theorem dX4_findPair_104 : decode cX4_findPair 104 = .ok (.aload_n 0, 1) := by decide +kernel
theorem dX4_findPair_105 : decode cX4_findPair 105 = .ok (.getfield 20, 3) := by decide +kernel
theorem dX4_findPair_108 : decode cX4_findPair 108 = .ok (.iconst (-1), 1) := by decide +kernel
theorem dX4_findPair_109 : decode cX4_findPair 109 = .ok (.if_icmp .eq 7, 3) := by decide +kernel
theorem dX4_findPair_112 : decode cX4_findPair 112 = .ok (.iconst 1, 1) := by decide +kernel
theorem dX4_findPair_113 : decode cX4_findPair 113 = .ok (.goto 4, 3) := by decide +kernel
theorem dX4_findPair_116 : decode cX4_findPair 116 = .ok (.iconst 0, 1) := by decide +kernel
theorem dX4_findPair_117 : decode cX4_findPair 117 = .ok (.ireturn, 1) := by decide +kernel
theorem dX4_consider_0 : decode cX4_consider 0 = .ok (.iload_n 1, 1) := by decide +kernel
theorem dX4_consider_1 : decode cX4_consider 1 = .ok (.iload_n 2, 1) := by decide +kernel
theorem dX4_consider_2 : decode cX4_consider 2 = .ok (.invokestatic 38, 3) := by decide +kernel
theorem dX4_consider_5 : decode cX4_consider 5 = .ok (.istore 4, 2) := by decide +kernel
theorem dX4_consider_7 : decode cX4_consider 7 = .ok (.iload_n 1, 1) := by decide +kernel
theorem dX4_consider_8 : decode cX4_consider 8 = .ok (.iload_n 2, 1) := by decide +kernel
theorem dX4_consider_9 : decode cX4_consider 9 = .ok (.invokestatic 44, 3) := by decide +kernel
theorem dX4_consider_12 : decode cX4_consider 12 = .ok (.istore 5, 2) := by decide +kernel
theorem dX4_consider_14 : decode cX4_consider 14 = .ok (.aload_n 0, 1) := by decide +kernel
theorem dX4_consider_15 : decode cX4_consider 15 = .ok (.getfield 20, 3) := by decide +kernel
theorem dX4_consider_18 : decode cX4_consider 18 = .ok (.iconst (-1), 1) := by decide +kernel
theorem dX4_consider_19 : decode cX4_consider 19 = .ok (.if_icmp .eq 15, 3) := by decide +kernel
theorem dX4_consider_22 : decode cX4_consider 22 = .ok (.aload_n 0, 1) := by decide +kernel
theorem dX4_consider_23 : decode cX4_consider 23 = .ok (.iload 4, 2) := by decide +kernel
theorem dX4_consider_25 : decode cX4_consider 25 = .ok (.iload 5, 2) := by decide +kernel
theorem dX4_consider_27 : decode cX4_consider 27 = .ok (.iload_n 3, 1) := by decide +kernel
theorem dX4_consider_28 : decode cX4_consider 28 = .ok (.invokevirtual 47, 3) := by decide +kernel
theorem dX4_consider_31 : decode cX4_consider 31 = .ok (.ifCond .eq 20, 3) := by decide +kernel
theorem dX4_consider_34 : decode cX4_consider 34 = .ok (.aload_n 0, 1) := by decide +kernel
theorem dX4_consider_35 : decode cX4_consider 35 = .ok (.iload 4, 2) := by decide +kernel
theorem dX4_consider_37 : decode cX4_consider 37 = .ok (.putfield 20, 3) := by decide +kernel
theorem dX4_consider_40 : decode cX4_consider 40 = .ok (.aload_n 0, 1) := by decide +kernel
theorem dX4_consider_41 : decode cX4_consider 41 = .ok (.iload 5, 2) := by decide +kernel
theorem dX4_consider_43 : decode cX4_consider 43 = .ok (.putfield 24, 3) := by decide +kernel
theorem dX4_consider_46 : decode cX4_consider 46 = .ok (.aload_n 0, 1) := by decide +kernel
theorem dX4_consider_47 : decode cX4_consider 47 = .ok (.iload_n 3, 1) := by decide +kernel
theorem dX4_consider_48 : decode cX4_consider 48 = .ok (.putfield 51, 3) := by decide +kernel
theorem dX4_consider_51 : decode cX4_consider 51 = .ok (.return_, 1) := by decide +kernel
theorem dX4_comesFirst_0 : decode cX4_comesFirst 0 = .ok (.iload_n 3, 1) := by decide +kernel
theorem dX4_comesFirst_1 : decode cX4_comesFirst 1 = .ok (.aload_n 0, 1) := by decide +kernel
theorem dX4_comesFirst_2 : decode cX4_comesFirst 2 = .ok (.getfield 51, 3) := by decide +kernel
theorem dX4_comesFirst_5 : decode cX4_comesFirst 5 = .ok (.if_icmp .eq 17, 3) := by decide +kernel
theorem dX4_comesFirst_8 : decode cX4_comesFirst 8 = .ok (.iload_n 3, 1) := by decide +kernel
theorem dX4_comesFirst_9 : decode cX4_comesFirst 9 = .ok (.aload_n 0, 1) := by decide +kernel
theorem dX4_comesFirst_10 : decode cX4_comesFirst 10 = .ok (.getfield 51, 3) := by decide +kernel
theorem dX4_comesFirst_13 : decode cX4_comesFirst 13 = .ok (.if_icmp .ge 7, 3) := by decide +kernel
theorem dX4_comesFirst_16 : decode cX4_comesFirst 16 = .ok (.iconst 1, 1) := by decide +kernel
theorem dX4_comesFirst_17 : decode cX4_comesFirst 17 = .ok (.goto 4, 3) := by decide +kernel
theorem dX4_comesFirst_20 : decode cX4_comesFirst 20 = .ok (.iconst 0, 1) := by decide +kernel
theorem dX4_comesFirst_21 : decode cX4_comesFirst 21 = .ok (.ireturn, 1) := by decide +kernel
theorem dX4_comesFirst_22 : decode cX4_comesFirst 22 = .ok (.iload_n 1, 1) := by decide +kernel
theorem dX4_comesFirst_23 : decode cX4_comesFirst 23 = .ok (.aload_n 0, 1) := by decide +kernel
theorem dX4_comesFirst_24 : decode cX4_comesFirst 24 = .ok (.getfield 20, 3) := by decide +kernel
theorem dX4_comesFirst_27 : decode cX4_comesFirst 27 = .ok (.if_icmp .eq 19, 3) := by decide +kernel
theorem dX4_comesFirst_30 : decode cX4_comesFirst 30 = .ok (.iload_n 1, 1) := by decide +kernel
theorem dX4_comesFirst_31 : decode cX4_comesFirst 31 = .ok (.aload_n 0, 1) := by decide +kernel
theorem dX4_comesFirst_32 : decode cX4_comesFirst 32 = .ok (.getfield 20, 3) := by decide +kernel
theorem dX4_comesFirst_35 : decode cX4_comesFirst 35 = .ok (.if_icmp .ge 7, 3) := by decide +kernel
theorem dX4_comesFirst_38 : decode cX4_comesFirst 38 = .ok (.iconst 1, 1) := by decide +kernel
theorem dX4_comesFirst_39 : decode cX4_comesFirst 39 = .ok (.goto 20, 3) := by decide +kernel
theorem dX4_comesFirst_42 : decode cX4_comesFirst 42 = .ok (.iconst 0, 1) := by decide +kernel
theorem dX4_comesFirst_43 : decode cX4_comesFirst 43 = .ok (.goto 16, 3) := by decide +kernel
theorem dX4_comesFirst_46 : decode cX4_comesFirst 46 = .ok (.iload_n 2, 1) := by decide +kernel
theorem dX4_comesFirst_47 : decode cX4_comesFirst 47 = .ok (.aload_n 0, 1) := by decide +kernel
theorem dX4_comesFirst_48 : decode cX4_comesFirst 48 = .ok (.getfield 24, 3) := by decide +kernel
theorem dX4_comesFirst_51 : decode cX4_comesFirst 51 = .ok (.if_icmp .ge 7, 3) := by decide +kernel
theorem dX4_comesFirst_54 : decode cX4_comesFirst 54 = .ok (.iconst 1, 1) := by decide +kernel
theorem dX4_comesFirst_55 : decode cX4_comesFirst 55 = .ok (.goto 4, 3) := by decide +kernel
theorem dX4_comesFirst_58 : decode cX4_comesFirst 58 = .ok (.iconst 0, 1) := by decide +kernel
theorem dX4_comesFirst_59 : decode cX4_comesFirst 59 = .ok (.ireturn, 1) := by decide +kernel
theorem dX4_joinPair_0 : decode cX4_joinPair 0 = .ok (.iconst 0, 1) := by decide +kernel
theorem dX4_joinPair_1 : decode cX4_joinPair 1 = .ok (.istore_n 1, 1) := by decide +kernel
theorem dX4_joinPair_2 : decode cX4_joinPair 2 = .ok (.iload_n 1, 1) := by decide +kernel
theorem dX4_joinPair_3 : decode cX4_joinPair 3 = .ok (.bipush 8, 2) := by decide +kernel
theorem dX4_joinPair_5 : decode cX4_joinPair 5 = .ok (.if_icmp .ge 32, 3) := by decide +kernel
theorem dX4_joinPair_8 : decode cX4_joinPair 8 = .ok (.aload_n 0, 1) := by decide +kernel
theorem dX4_joinPair_9 : decode cX4_joinPair 9 = .ok (.getfield 16, 3) := by decide +kernel
theorem dX4_joinPair_12 : decode cX4_joinPair 12 = .ok (.iload_n 1, 1) := by decide +kernel
theorem dX4_joinPair_13 : decode cX4_joinPair 13 = .ok (.iaload, 1) := by decide +kernel
theorem dX4_joinPair_14 : decode cX4_joinPair 14 = .ok (.aload_n 0, 1) := by decide +kernel
theorem dX4_joinPair_15 : decode cX4_joinPair 15 = .ok (.getfield 24, 3) := by decide +kernel
theorem dX4_joinPair_18 : decode cX4_joinPair 18 = .ok (.if_icmp .ne 13, 3) := by decide +kernel
theorem dX4_joinPair_21 : decode cX4_joinPair 21 = .ok (.aload_n 0, 1) := by decide +kernel
theorem dX4_joinPair_22 : decode cX4_joinPair 22 = .ok (.getfield 16, 3) := by decide +kernel
theorem dX4_joinPair_25 : decode cX4_joinPair 25 = .ok (.iload_n 1, 1) := by decide +kernel
theorem dX4_joinPair_26 : decode cX4_joinPair 26 = .ok (.aload_n 0, 1) := by decide +kernel
theorem dX4_joinPair_27 : decode cX4_joinPair 27 = .ok (.getfield 20, 3) := by decide +kernel
theorem dX4_joinPair_30 : decode cX4_joinPair 30 = .ok (.iastore, 1) := by decide +kernel
theorem dX4_joinPair_31 : decode cX4_joinPair 31 = .ok (.iinc 1 1, 3) := by decide +kernel
theorem dX4_joinPair_34 : decode cX4_joinPair 34 = .ok (.goto (-32), 3) := by decide +kernel
theorem dX4_joinPair_37 : decode cX4_joinPair 37 = .ok (.return_, 1) := by decide +kernel
theorem dX5_init_0 : decode cX5_init 0 = .ok (.aload_n 0, 1) := by decide +kernel
theorem dX5_init_1 : decode cX5_init 1 = .ok (.invokespecial 1, 3) := by decide +kernel
theorem dX5_init_4 : decode cX5_init 4 = .ok (.aload_n 0, 1) := by decide +kernel
theorem dX5_init_5 : decode cX5_init 5 = .ok (.iload_n 1, 1) := by decide +kernel
theorem dX5_init_6 : decode cX5_init 6 = .ok (.putfield 7, 3) := by decide +kernel
theorem dX5_init_9 : decode cX5_init 9 = .ok (.aload_n 0, 1) := by decide +kernel
theorem dX5_init_10 : decode cX5_init 10 = .ok (.iconst 5, 1) := by decide +kernel
theorem dX5_init_11 : decode cX5_init 11 = .ok (.newarray .int, 2) := by decide +kernel
theorem dX5_init_13 : decode cX5_init 13 = .ok (.dup, 1) := by decide +kernel
theorem dX5_init_14 : decode cX5_init 14 = .ok (.iconst 0, 1) := by decide +kernel
theorem dX5_init_15 : decode cX5_init 15 = .ok (.iload_n 2, 1) := by decide +kernel
theorem dX5_init_16 : decode cX5_init 16 = .ok (.iastore, 1) := by decide +kernel
theorem dX5_init_17 : decode cX5_init 17 = .ok (.dup, 1) := by decide +kernel
theorem dX5_init_18 : decode cX5_init 18 = .ok (.iconst 1, 1) := by decide +kernel
theorem dX5_init_19 : decode cX5_init 19 = .ok (.iload_n 3, 1) := by decide +kernel
theorem dX5_init_20 : decode cX5_init 20 = .ok (.iastore, 1) := by decide +kernel
theorem dX5_init_21 : decode cX5_init 21 = .ok (.dup, 1) := by decide +kernel
theorem dX5_init_22 : decode cX5_init 22 = .ok (.iconst 2, 1) := by decide +kernel
theorem dX5_init_23 : decode cX5_init 23 = .ok (.iload 4, 2) := by decide +kernel
theorem dX5_init_25 : decode cX5_init 25 = .ok (.iastore, 1) := by decide +kernel
theorem dX5_init_26 : decode cX5_init 26 = .ok (.dup, 1) := by decide +kernel
theorem dX5_init_27 : decode cX5_init 27 = .ok (.iconst 3, 1) := by decide +kernel
theorem dX5_init_28 : decode cX5_init 28 = .ok (.iload 5, 2) := by decide +kernel
theorem dX5_init_30 : decode cX5_init 30 = .ok (.iastore, 1) := by decide +kernel
theorem dX5_init_31 : decode cX5_init 31 = .ok (.dup, 1) := by decide +kernel
theorem dX5_init_32 : decode cX5_init 32 = .ok (.iconst 4, 1) := by decide +kernel
theorem dX5_init_33 : decode cX5_init 33 = .ok (.iload 6, 2) := by decide +kernel
theorem dX5_init_35 : decode cX5_init 35 = .ok (.iastore, 1) := by decide +kernel
theorem dX5_init_36 : decode cX5_init 36 = .ok (.putfield 13, 3) := by decide +kernel
theorem dX5_init_39 : decode cX5_init 39 = .ok (.return_, 1) := by decide +kernel
theorem dX6_init_0 : decode cX6_init 0 = .ok (.aload_n 0, 1) := by decide +kernel
theorem dX6_init_1 : decode cX6_init 1 = .ok (.invokespecial 3, 3) := by decide +kernel
theorem dX6_init_4 : decode cX6_init 4 = .ok (.aload_n 0, 1) := by decide +kernel
theorem dX6_init_5 : decode cX6_init 5 = .ok (.iconst 5, 1) := by decide +kernel
theorem dX6_init_6 : decode cX6_init 6 = .ok (.newarray .boolean, 2) := by decide +kernel
theorem dX6_init_8 : decode cX6_init 8 = .ok (.putfield 9, 3) := by decide +kernel
theorem dX6_init_11 : decode cX6_init 11 = .ok (.aload_n 0, 1) := by decide +kernel
theorem dX6_init_12 : decode cX6_init 12 = .ok (.iconst 5, 1) := by decide +kernel
theorem dX6_init_13 : decode cX6_init 13 = .ok (.newarray .int, 2) := by decide +kernel
theorem dX6_init_15 : decode cX6_init 15 = .ok (.putfield 15, 3) := by decide +kernel
theorem dX6_init_18 : decode cX6_init 18 = .ok (.return_, 1) := by decide +kernel
theorem dX6_aim_0 : decode cX6_aim 0 = .ok (.aload_n 0, 1) := by decide +kernel
theorem dX6_aim_1 : decode cX6_aim 1 = .ok (.lconst 0, 1) := by decide +kernel
theorem dX6_aim_2 : decode cX6_aim 2 = .ok (.putfield 19, 3) := by decide +kernel
theorem dX6_aim_5 : decode cX6_aim 5 = .ok (.iconst 0, 1) := by decide +kernel
theorem dX6_aim_6 : decode cX6_aim 6 = .ok (.istore_n 3, 1) := by decide +kernel
theorem dX6_aim_7 : decode cX6_aim 7 = .ok (.iload_n 3, 1) := by decide +kernel
theorem dX6_aim_8 : decode cX6_aim 8 = .ok (.iconst 5, 1) := by decide +kernel
theorem dX6_aim_9 : decode cX6_aim 9 = .ok (.if_icmp .ge 85, 3) := by decide +kernel
theorem dX6_aim_12 : decode cX6_aim 12 = .ok (.aload_n 0, 1) := by decide +kernel
theorem dX6_aim_13 : decode cX6_aim 13 = .ok (.getfield 9, 3) := by decide +kernel
theorem dX6_aim_16 : decode cX6_aim 16 = .ok (.iload_n 3, 1) := by decide +kernel
theorem dX6_aim_17 : decode cX6_aim 17 = .ok (.iload_n 2, 1) := by decide +kernel
theorem dX6_aim_18 : decode cX6_aim 18 = .ok (.iload_n 3, 1) := by decide +kernel
theorem dX6_aim_19 : decode cX6_aim 19 = .ok (.ishr, 1) := by decide +kernel
theorem dX6_aim_20 : decode cX6_aim 20 = .ok (.iconst 1, 1) := by decide +kernel
theorem dX6_aim_21 : decode cX6_aim 21 = .ok (.iand, 1) := by decide +kernel
theorem dX6_aim_22 : decode cX6_aim 22 = .ok (.iconst 1, 1) := by decide +kernel
theorem dX6_aim_23 : decode cX6_aim 23 = .ok (.if_icmp .ne 7, 3) := by decide +kernel
theorem dX6_aim_26 : decode cX6_aim 26 = .ok (.iconst 1, 1) := by decide +kernel
theorem dX6_aim_27 : decode cX6_aim 27 = .ok (.goto 4, 3) := by decide +kernel
theorem dX6_aim_30 : decode cX6_aim 30 = .ok (.iconst 0, 1) := by decide +kernel
theorem dX6_aim_31 : decode cX6_aim 31 = .ok (.bastore, 1) := by decide +kernel
theorem dX6_aim_32 : decode cX6_aim 32 = .ok (.aload_n 0, 1) := by decide +kernel
theorem dX6_aim_33 : decode cX6_aim 33 = .ok (.getfield 15, 3) := by decide +kernel
theorem dX6_aim_36 : decode cX6_aim 36 = .ok (.iload_n 3, 1) := by decide +kernel
theorem dX6_aim_37 : decode cX6_aim 37 = .ok (.aload_n 1, 1) := by decide +kernel
theorem dX6_aim_38 : decode cX6_aim 38 = .ok (.getfield 23, 3) := by decide +kernel
theorem dX6_aim_41 : decode cX6_aim 41 = .ok (.ifCond .eq 21, 3) := by decide +kernel
theorem dX6_aim_44 : decode cX6_aim 44 = .ok (.aload_n 0, 1) := by decide +kernel
theorem dX6_aim_45 : decode cX6_aim 45 = .ok (.getfield 9, 3) := by decide +kernel
theorem dX6_aim_48 : decode cX6_aim 48 = .ok (.iload_n 3, 1) := by decide +kernel
theorem dX6_aim_49 : decode cX6_aim 49 = .ok (.baload, 1) := by decide +kernel
theorem dX6_aim_50 : decode cX6_aim 50 = .ok (.ifCond .eq 12, 3) := by decide +kernel
theorem dX6_aim_53 : decode cX6_aim 53 = .ok (.aload_n 1, 1) := by decide +kernel
theorem dX6_aim_54 : decode cX6_aim 54 = .ok (.getfield 29, 3) := by decide +kernel
theorem dX6_aim_57 : decode cX6_aim 57 = .ok (.iload_n 3, 1) := by decide +kernel
theorem dX6_aim_58 : decode cX6_aim 58 = .ok (.iaload, 1) := by decide +kernel
theorem dX6_aim_59 : decode cX6_aim 59 = .ok (.goto 4, 3) := by decide +kernel
theorem dX6_aim_62 : decode cX6_aim 62 = .ok (.iconst 0, 1) := by decide +kernel
theorem dX6_aim_63 : decode cX6_aim 63 = .ok (.iastore, 1) := by decide +kernel
theorem dX6_aim_64 : decode cX6_aim 64 = .ok (.aload_n 0, 1) := by decide +kernel
theorem dX6_aim_65 : decode cX6_aim 65 = .ok (.dup, 1) := by decide +kernel
theorem dX6_aim_66 : decode cX6_aim 66 = .ok (.getfield 19, 3) := by decide +kernel
theorem dX6_aim_69 : decode cX6_aim 69 = .ok (.aload_n 0, 1) := by decide +kernel
theorem dX6_aim_70 : decode cX6_aim 70 = .ok (.getfield 15, 3) := by decide +kernel
theorem dX6_aim_73 : decode cX6_aim 73 = .ok (.iload_n 3, 1) := by decide +kernel
theorem dX6_aim_74 : decode cX6_aim 74 = .ok (.iaload, 1) := by decide +kernel
theorem dX6_aim_75 : decode cX6_aim 75 = .ok (.i2l, 1) := by decide +kernel
theorem dX6_aim_76 : decode cX6_aim 76 = .ok (.aload_n 0, 1) := by decide +kernel
theorem dX6_aim_77 : decode cX6_aim 77 = .ok (.getfield 15, 3) := by decide +kernel
theorem dX6_aim_80 : decode cX6_aim 80 = .ok (.iload_n 3, 1) := by decide +kernel
theorem dX6_aim_81 : decode cX6_aim 81 = .ok (.iaload, 1) := by decide +kernel
theorem dX6_aim_82 : decode cX6_aim 82 = .ok (.i2l, 1) := by decide +kernel
theorem dX6_aim_83 : decode cX6_aim 83 = .ok (.lmul, 1) := by decide +kernel
theorem dX6_aim_84 : decode cX6_aim 84 = .ok (.ladd, 1) := by decide +kernel
theorem dX6_aim_85 : decode cX6_aim 85 = .ok (.putfield 19, 3) := by decide +kernel
theorem dX6_aim_88 : decode cX6_aim 88 = .ok (.iinc 3 1, 3) := by decide +kernel
theorem dX6_aim_91 : decode cX6_aim 91 = .ok (.goto (-84), 3) := by decide +kernel
theorem dX6_aim_94 : decode cX6_aim 94 = .ok (.return_, 1) := by decide +kernel
theorem dX6_gap_0 : decode cX6_gap 0 = .ok (.iload_n 2, 1) := by decide +kernel
theorem dX6_gap_1 : decode cX6_gap 1 = .ok (.ifCond .le 8, 3) := by decide +kernel
theorem dX6_gap_4 : decode cX6_gap 4 = .ok (.iload 4, 2) := by decide +kernel
theorem dX6_gap_6 : decode cX6_gap 6 = .ok (.ifCond .gt 5, 3) := by decide +kernel
theorem dX6_gap_9 : decode cX6_gap 9 = .ok (.iconst (-1), 1) := by decide +kernel
theorem dX6_gap_10 : decode cX6_gap 10 = .ok (.ireturn, 1) := by decide +kernel
theorem dX6_gap_11 : decode cX6_gap 11 = .ok (.lconst 0, 1) := by decide +kernel
theorem dX6_gap_12 : decode cX6_gap 12 = .ok (.lstore 5, 2) := by decide +kernel
theorem dX6_gap_14 : decode cX6_gap 14 = .ok (.lconst 0, 1) := by decide +kernel
theorem dX6_gap_15 : decode cX6_gap 15 = .ok (.lstore 7, 2) := by decide +kernel
theorem dX6_gap_17 : decode cX6_gap 17 = .ok (.iconst 0, 1) := by decide +kernel
theorem dX6_gap_18 : decode cX6_gap 18 = .ok (.istore 9, 2) := by decide +kernel
theorem dX6_gap_20 : decode cX6_gap 20 = .ok (.iload 9, 2) := by decide +kernel
theorem dX6_gap_22 : decode cX6_gap 22 = .ok (.iconst 5, 1) := by decide +kernel
theorem dX6_gap_23 : decode cX6_gap 23 = .ok (.if_icmp .ge 65, 3) := by decide +kernel
theorem dX6_gap_26 : decode cX6_gap 26 = .ok (.aload_n 0, 1) := by decide +kernel
theorem dX6_gap_27 : decode cX6_gap 27 = .ok (.getfield 9, 3) := by decide +kernel
theorem dX6_gap_30 : decode cX6_gap 30 = .ok (.iload 9, 2) := by decide +kernel
theorem dX6_gap_32 : decode cX6_gap 32 = .ok (.baload, 1) := by decide +kernel
theorem dX6_gap_33 : decode cX6_gap 33 = .ok (.ifCond .eq 49, 3) := by decide +kernel
theorem dX6_gap_36 : decode cX6_gap 36 = .ok (.iload 4, 2) := by decide +kernel
theorem dX6_gap_38 : decode cX6_gap 38 = .ok (.i2l, 1) := by decide +kernel
theorem dX6_gap_39 : decode cX6_gap 39 = .ok (.aload_n 1, 1) := by decide +kernel
theorem dX6_gap_40 : decode cX6_gap 40 = .ok (.iload 9, 2) := by decide +kernel
theorem dX6_gap_42 : decode cX6_gap 42 = .ok (.iaload, 1) := by decide +kernel
theorem dX6_gap_43 : decode cX6_gap 43 = .ok (.i2l, 1) := by decide +kernel
theorem dX6_gap_44 : decode cX6_gap 44 = .ok (.lmul, 1) := by decide +kernel
theorem dX6_gap_45 : decode cX6_gap 45 = .ok (.iload_n 2, 1) := by decide +kernel
theorem dX6_gap_46 : decode cX6_gap 46 = .ok (.i2l, 1) := by decide +kernel
theorem dX6_gap_47 : decode cX6_gap 47 = .ok (.aload_n 3, 1) := by decide +kernel
theorem dX6_gap_48 : decode cX6_gap 48 = .ok (.iload 9, 2) := by decide +kernel
theorem dX6_gap_50 : decode cX6_gap 50 = .ok (.iaload, 1) := by decide +kernel
theorem dX6_gap_51 : decode cX6_gap 51 = .ok (.i2l, 1) := by decide +kernel
theorem dX6_gap_52 : decode cX6_gap 52 = .ok (.lmul, 1) := by decide +kernel
theorem dX6_gap_53 : decode cX6_gap 53 = .ok (.lsub, 1) := by decide +kernel
theorem dX6_gap_54 : decode cX6_gap 54 = .ok (.lstore 10, 2) := by decide +kernel
theorem dX6_gap_56 : decode cX6_gap 56 = .ok (.lload 5, 2) := by decide +kernel
theorem dX6_gap_58 : decode cX6_gap 58 = .ok (.lload 10, 2) := by decide +kernel
theorem dX6_gap_60 : decode cX6_gap 60 = .ok (.lload 10, 2) := by decide +kernel
theorem dX6_gap_62 : decode cX6_gap 62 = .ok (.lmul, 1) := by decide +kernel
theorem dX6_gap_63 : decode cX6_gap 63 = .ok (.ladd, 1) := by decide +kernel
theorem dX6_gap_64 : decode cX6_gap 64 = .ok (.lstore 5, 2) := by decide +kernel
theorem dX6_gap_66 : decode cX6_gap 66 = .ok (.lload 7, 2) := by decide +kernel
theorem dX6_gap_68 : decode cX6_gap 68 = .ok (.lload 10, 2) := by decide +kernel
theorem dX6_gap_70 : decode cX6_gap 70 = .ok (.aload_n 0, 1) := by decide +kernel
theorem dX6_gap_71 : decode cX6_gap 71 = .ok (.getfield 15, 3) := by decide +kernel
theorem dX6_gap_74 : decode cX6_gap 74 = .ok (.iload 9, 2) := by decide +kernel
theorem dX6_gap_76 : decode cX6_gap 76 = .ok (.iaload, 1) := by decide +kernel
theorem dX6_gap_77 : decode cX6_gap 77 = .ok (.i2l, 1) := by decide +kernel
theorem dX6_gap_78 : decode cX6_gap 78 = .ok (.lmul, 1) := by decide +kernel
theorem dX6_gap_79 : decode cX6_gap 79 = .ok (.ladd, 1) := by decide +kernel
theorem dX6_gap_80 : decode cX6_gap 80 = .ok (.lstore 7, 2) := by decide +kernel
theorem dX6_gap_82 : decode cX6_gap 82 = .ok (.iinc 9 1, 3) := by decide +kernel
theorem dX6_gap_85 : decode cX6_gap 85 = .ok (.goto (-65), 3) := by decide +kernel
theorem dX6_gap_88 : decode cX6_gap 88 = .ok (.iload_n 2, 1) := by decide +kernel
theorem dX6_gap_89 : decode cX6_gap 89 = .ok (.i2l, 1) := by decide +kernel
theorem dX6_gap_90 : decode cX6_gap 90 = .ok (.iload 4, 2) := by decide +kernel
theorem dX6_gap_92 : decode cX6_gap 92 = .ok (.i2l, 1) := by decide +kernel
theorem dX6_gap_93 : decode cX6_gap 93 = .ok (.lmul, 1) := by decide +kernel
theorem dX6_gap_94 : decode cX6_gap 94 = .ok (.iload_n 2, 1) := by decide +kernel
theorem dX6_gap_95 : decode cX6_gap 95 = .ok (.i2l, 1) := by decide +kernel
theorem dX6_gap_96 : decode cX6_gap 96 = .ok (.lmul, 1) := by decide +kernel
theorem dX6_gap_97 : decode cX6_gap 97 = .ok (.iload 4, 2) := by decide +kernel
theorem dX6_gap_99 : decode cX6_gap 99 = .ok (.i2l, 1) := by decide +kernel
theorem dX6_gap_100 : decode cX6_gap 100 = .ok (.lmul, 1) := by decide +kernel
theorem dX6_gap_101 : decode cX6_gap 101 = .ok (.lstore 9, 2) := by decide +kernel
theorem dX6_gap_103 : decode cX6_gap 103 = .ok (.aload_n 0, 1) := by decide +kernel
theorem dX6_gap_104 : decode cX6_gap 104 = .ok (.getfield 19, 3) := by decide +kernel
theorem dX6_gap_107 : decode cX6_gap 107 = .ok (.lconst 0, 1) := by decide +kernel
theorem dX6_gap_108 : decode cX6_gap 108 = .ok (.lcmp, 1) := by decide +kernel
theorem dX6_gap_109 : decode cX6_gap 109 = .ok (.ifCond .ne 10, 3) := by decide +kernel
theorem dX6_gap_112 : decode cX6_gap 112 = .ok (.lload 5, 2) := by decide +kernel
theorem dX6_gap_114 : decode cX6_gap 114 = .ok (.lload 9, 2) := by decide +kernel
theorem dX6_gap_116 : decode cX6_gap 116 = .ok (.ldiv, 1) := by decide +kernel
theorem dX6_gap_117 : decode cX6_gap 117 = .ok (.l2i, 1) := by decide +kernel
theorem dX6_gap_118 : decode cX6_gap 118 = .ok (.ireturn, 1) := by decide +kernel
theorem dX6_gap_119 : decode cX6_gap 119 = .ok (.lload 5, 2) := by decide +kernel
theorem dX6_gap_121 : decode cX6_gap 121 = .ok (.aload_n 0, 1) := by decide +kernel
theorem dX6_gap_122 : decode cX6_gap 122 = .ok (.getfield 19, 3) := by decide +kernel
theorem dX6_gap_125 : decode cX6_gap 125 = .ok (.lmul, 1) := by decide +kernel
theorem dX6_gap_126 : decode cX6_gap 126 = .ok (.lload 7, 2) := by decide +kernel
theorem dX6_gap_128 : decode cX6_gap 128 = .ok (.lload 7, 2) := by decide +kernel
theorem dX6_gap_130 : decode cX6_gap 130 = .ok (.lmul, 1) := by decide +kernel
theorem dX6_gap_131 : decode cX6_gap 131 = .ok (.lsub, 1) := by decide +kernel
theorem dX6_gap_132 : decode cX6_gap 132 = .ok (.lload 9, 2) := by decide +kernel
theorem dX6_gap_134 : decode cX6_gap 134 = .ok (.aload_n 0, 1) := by decide +kernel
theorem dX6_gap_135 : decode cX6_gap 135 = .ok (.getfield 19, 3) := by decide +kernel
theorem dX6_gap_138 : decode cX6_gap 138 = .ok (.lmul, 1) := by decide +kernel
theorem dX6_gap_139 : decode cX6_gap 139 = .ok (.ldiv, 1) := by decide +kernel
theorem dX6_gap_140 : decode cX6_gap 140 = .ok (.l2i, 1) := by decide +kernel
theorem dX6_gap_141 : decode cX6_gap 141 = .ok (.ireturn, 1) := by decide +kernel
theorem dX7_init_0 : decode cX7_init 0 = .ok (.aload_n 0, 1) := by decide +kernel
theorem dX7_init_1 : decode cX7_init 1 = .ok (.invokespecial 3, 3) := by decide +kernel
theorem dX7_init_4 : decode cX7_init 4 = .ok (.aload_n 0, 1) := by decide +kernel
theorem dX7_init_5 : decode cX7_init 5 = .ok (.bipush 64, 2) := by decide +kernel
theorem dX7_init_7 : decode cX7_init 7 = .ok (.newarray .int, 2) := by decide +kernel
theorem dX7_init_9 : decode cX7_init 9 = .ok (.putfield 9, 3) := by decide +kernel
theorem dX7_init_12 : decode cX7_init 12 = .ok (.aload_n 0, 1) := by decide +kernel
theorem dX7_init_13 : decode cX7_init 13 = .ok (.bipush 64, 2) := by decide +kernel
theorem dX7_init_15 : decode cX7_init 15 = .ok (.newarray .int, 2) := by decide +kernel
theorem dX7_init_17 : decode cX7_init 17 = .ok (.putfield 15, 3) := by decide +kernel
theorem dX7_init_20 : decode cX7_init 20 = .ok (.aload_n 0, 1) := by decide +kernel
theorem dX7_init_21 : decode cX7_init 21 = .ok (.bipush 8, 2) := by decide +kernel
theorem dX7_init_23 : decode cX7_init 23 = .ok (.newarray .int, 2) := by decide +kernel
theorem dX7_init_25 : decode cX7_init 25 = .ok (.putfield 18, 3) := by decide +kernel
theorem dX7_init_28 : decode cX7_init 28 = .ok (.return_, 1) := by decide +kernel
theorem dX7_clear_0 : decode cX7_clear 0 = .ok (.aload_n 0, 1) := by decide +kernel
theorem dX7_clear_1 : decode cX7_clear 1 = .ok (.iconst 0, 1) := by decide +kernel
theorem dX7_clear_2 : decode cX7_clear 2 = .ok (.putfield 21, 3) := by decide +kernel
theorem dX7_clear_5 : decode cX7_clear 5 = .ok (.return_, 1) := by decide +kernel
theorem dX7_insert_0 : decode cX7_insert 0 = .ok (.aload_n 0, 1) := by decide +kernel
theorem dX7_insert_1 : decode cX7_insert 1 = .ok (.getfield 21, 3) := by decide +kernel
theorem dX7_insert_4 : decode cX7_insert 4 = .ok (.aload_n 0, 1) := by decide +kernel
theorem dX7_insert_5 : decode cX7_insert 5 = .ok (.getfield 9, 3) := by decide +kernel
theorem dX7_insert_8 : decode cX7_insert 8 = .ok (.arraylength, 1) := by decide +kernel
theorem dX7_insert_9 : decode cX7_insert 9 = .ok (.if_icmp .lt 4, 3) := by decide +kernel
theorem dX7_insert_12 : decode cX7_insert 12 = .ok (.return_, 1) := by decide +kernel
theorem dX7_insert_13 : decode cX7_insert 13 = .ok (.aload_n 0, 1) := by decide +kernel
theorem dX7_insert_14 : decode cX7_insert 14 = .ok (.getfield 21, 3) := by decide +kernel
theorem dX7_insert_17 : decode cX7_insert 17 = .ok (.istore_n 3, 1) := by decide +kernel
theorem dX7_insert_18 : decode cX7_insert 18 = .ok (.iload_n 3, 1) := by decide +kernel
theorem dX7_insert_19 : decode cX7_insert 19 = .ok (.ifCond .le 49, 3) := by decide +kernel
theorem dX7_insert_22 : decode cX7_insert 22 = .ok (.aload_n 0, 1) := by decide +kernel
theorem dX7_insert_23 : decode cX7_insert 23 = .ok (.getfield 15, 3) := by decide +kernel
theorem dX7_insert_26 : decode cX7_insert 26 = .ok (.iload_n 3, 1) := by decide +kernel
theorem dX7_insert_27 : decode cX7_insert 27 = .ok (.iconst 1, 1) := by decide +kernel
theorem dX7_insert_28 : decode cX7_insert 28 = .ok (.isub, 1) := by decide +kernel
theorem dX7_insert_29 : decode cX7_insert 29 = .ok (.iaload, 1) := by decide +kernel
theorem dX7_insert_30 : decode cX7_insert 30 = .ok (.iload_n 2, 1) := by decide +kernel
theorem dX7_insert_31 : decode cX7_insert 31 = .ok (.if_icmp .le 37, 3) := by decide +kernel
theorem dX7_insert_34 : decode cX7_insert 34 = .ok (.aload_n 0, 1) := by decide +kernel
theorem dX7_insert_35 : decode cX7_insert 35 = .ok (.getfield 9, 3) := by decide +kernel
theorem dX7_insert_38 : decode cX7_insert 38 = .ok (.iload_n 3, 1) := by decide +kernel
theorem dX7_insert_39 : decode cX7_insert 39 = .ok (.aload_n 0, 1) := by decide +kernel
theorem dX7_insert_40 : decode cX7_insert 40 = .ok (.getfield 9, 3) := by decide +kernel
theorem dX7_insert_43 : decode cX7_insert 43 = .ok (.iload_n 3, 1) := by decide +kernel
theorem dX7_insert_44 : decode cX7_insert 44 = .ok (.iconst 1, 1) := by decide +kernel
theorem dX7_insert_45 : decode cX7_insert 45 = .ok (.isub, 1) := by decide +kernel
theorem dX7_insert_46 : decode cX7_insert 46 = .ok (.iaload, 1) := by decide +kernel
theorem dX7_insert_47 : decode cX7_insert 47 = .ok (.iastore, 1) := by decide +kernel
theorem dX7_insert_48 : decode cX7_insert 48 = .ok (.aload_n 0, 1) := by decide +kernel
theorem dX7_insert_49 : decode cX7_insert 49 = .ok (.getfield 15, 3) := by decide +kernel
theorem dX7_insert_52 : decode cX7_insert 52 = .ok (.iload_n 3, 1) := by decide +kernel
theorem dX7_insert_53 : decode cX7_insert 53 = .ok (.aload_n 0, 1) := by decide +kernel
theorem dX7_insert_54 : decode cX7_insert 54 = .ok (.getfield 15, 3) := by decide +kernel
theorem dX7_insert_57 : decode cX7_insert 57 = .ok (.iload_n 3, 1) := by decide +kernel
theorem dX7_insert_58 : decode cX7_insert 58 = .ok (.iconst 1, 1) := by decide +kernel
theorem dX7_insert_59 : decode cX7_insert 59 = .ok (.isub, 1) := by decide +kernel
theorem dX7_insert_60 : decode cX7_insert 60 = .ok (.iaload, 1) := by decide +kernel
theorem dX7_insert_61 : decode cX7_insert 61 = .ok (.iastore, 1) := by decide +kernel
theorem dX7_insert_62 : decode cX7_insert 62 = .ok (.iinc 3 (-1), 3) := by decide +kernel
theorem dX7_insert_65 : decode cX7_insert 65 = .ok (.goto (-47), 3) := by decide +kernel
theorem dX7_insert_68 : decode cX7_insert 68 = .ok (.aload_n 0, 1) := by decide +kernel
theorem dX7_insert_69 : decode cX7_insert 69 = .ok (.getfield 9, 3) := by decide +kernel
theorem dX7_insert_72 : decode cX7_insert 72 = .ok (.iload_n 3, 1) := by decide +kernel
theorem dX7_insert_73 : decode cX7_insert 73 = .ok (.iload_n 1, 1) := by decide +kernel
theorem dX7_insert_74 : decode cX7_insert 74 = .ok (.iastore, 1) := by decide +kernel
theorem dX7_insert_75 : decode cX7_insert 75 = .ok (.aload_n 0, 1) := by decide +kernel
theorem dX7_insert_76 : decode cX7_insert 76 = .ok (.getfield 15, 3) := by decide +kernel
theorem dX7_insert_79 : decode cX7_insert 79 = .ok (.iload_n 3, 1) := by decide +kernel
theorem dX7_insert_80 : decode cX7_insert 80 = .ok (.iload_n 2, 1) := by decide +kernel
theorem dX7_insert_81 : decode cX7_insert 81 = .ok (.iastore, 1) := by decide +kernel
theorem dX7_insert_82 : decode cX7_insert 82 = .ok (.aload_n 0, 1) := by decide +kernel
theorem dX7_insert_83 : decode cX7_insert 83 = .ok (.dup, 1) := by decide +kernel
theorem dX7_insert_84 : decode cX7_insert 84 = .ok (.getfield 21, 3) := by decide +kernel
theorem dX7_insert_87 : decode cX7_insert 87 = .ok (.iconst 1, 1) := by decide +kernel
theorem dX7_insert_88 : decode cX7_insert 88 = .ok (.iadd, 1) := by decide +kernel
theorem dX7_insert_89 : decode cX7_insert 89 = .ok (.putfield 21, 3) := by decide +kernel
theorem dX7_insert_92 : decode cX7_insert 92 = .ok (.return_, 1) := by decide +kernel
theorem dX7_winnerOf_0 : decode cX7_winnerOf 0 = .ok (.iload_n 1, 1) := by decide +kernel
theorem dX7_winnerOf_1 : decode cX7_winnerOf 1 = .ok (.aload_n 0, 1) := by decide +kernel
theorem dX7_winnerOf_2 : decode cX7_winnerOf 2 = .ok (.getfield 21, 3) := by decide +kernel
theorem dX7_winnerOf_5 : decode cX7_winnerOf 5 = .ok (.invokestatic 25, 3) := by decide +kernel
theorem dX7_winnerOf_8 : decode cX7_winnerOf 8 = .ok (.istore_n 2, 1) := by decide +kernel
theorem dX7_winnerOf_9 : decode cX7_winnerOf 9 = .ok (.aload_n 0, 1) := by decide +kernel
theorem dX7_winnerOf_10 : decode cX7_winnerOf 10 = .ok (.iload_n 2, 1) := by decide +kernel
theorem dX7_winnerOf_11 : decode cX7_winnerOf 11 = .ok (.invokevirtual 31, 3) := by decide +kernel
theorem dX7_winnerOf_14 : decode cX7_winnerOf 14 = .ok (.iconst (-1), 1) := by decide +kernel
theorem dX7_winnerOf_15 : decode cX7_winnerOf 15 = .ok (.istore_n 3, 1) := by decide +kernel
theorem dX7_winnerOf_16 : decode cX7_winnerOf 16 = .ok (.iconst 0, 1) := by decide +kernel
theorem dX7_winnerOf_17 : decode cX7_winnerOf 17 = .ok (.istore 4, 2) := by decide +kernel
theorem dX7_winnerOf_19 : decode cX7_winnerOf 19 = .ok (.iconst 0, 1) := by decide +kernel
theorem dX7_winnerOf_20 : decode cX7_winnerOf 20 = .ok (.istore 5, 2) := by decide +kernel
theorem dX7_winnerOf_22 : decode cX7_winnerOf 22 = .ok (.iload 5, 2) := by decide +kernel
theorem dX7_winnerOf_24 : decode cX7_winnerOf 24 = .ok (.iload_n 2, 1) := by decide +kernel
theorem dX7_winnerOf_25 : decode cX7_winnerOf 25 = .ok (.if_icmp .ge 45, 3) := by decide +kernel
theorem dX7_winnerOf_28 : decode cX7_winnerOf 28 = .ok (.aload_n 0, 1) := by decide +kernel
theorem dX7_winnerOf_29 : decode cX7_winnerOf 29 = .ok (.getfield 9, 3) := by decide +kernel
theorem dX7_winnerOf_32 : decode cX7_winnerOf 32 = .ok (.iload 5, 2) := by decide +kernel
theorem dX7_winnerOf_34 : decode cX7_winnerOf 34 = .ok (.iaload, 1) := by decide +kernel
theorem dX7_winnerOf_35 : decode cX7_winnerOf 35 = .ok (.bipush 10, 2) := by decide +kernel
theorem dX7_winnerOf_37 : decode cX7_winnerOf 37 = .ok (.idiv, 1) := by decide +kernel
theorem dX7_winnerOf_38 : decode cX7_winnerOf 38 = .ok (.istore 6, 2) := by decide +kernel
theorem dX7_winnerOf_40 : decode cX7_winnerOf 40 = .ok (.aload_n 0, 1) := by decide +kernel
theorem dX7_winnerOf_41 : decode cX7_winnerOf 41 = .ok (.getfield 18, 3) := by decide +kernel
theorem dX7_winnerOf_44 : decode cX7_winnerOf 44 = .ok (.iload 6, 2) := by decide +kernel
theorem dX7_winnerOf_46 : decode cX7_winnerOf 46 = .ok (.iaload, 1) := by decide +kernel
theorem dX7_winnerOf_47 : decode cX7_winnerOf 47 = .ok (.iload 4, 2) := by decide +kernel
theorem dX7_winnerOf_49 : decode cX7_winnerOf 49 = .ok (.if_icmp .le 15, 3) := by decide +kernel
theorem dX7_winnerOf_52 : decode cX7_winnerOf 52 = .ok (.iload 6, 2) := by decide +kernel
theorem dX7_winnerOf_54 : decode cX7_winnerOf 54 = .ok (.istore_n 3, 1) := by decide +kernel
theorem dX7_winnerOf_55 : decode cX7_winnerOf 55 = .ok (.aload_n 0, 1) := by decide +kernel
theorem dX7_winnerOf_56 : decode cX7_winnerOf 56 = .ok (.getfield 18, 3) := by decide +kernel
theorem dX7_winnerOf_59 : decode cX7_winnerOf 59 = .ok (.iload 6, 2) := by decide +kernel
theorem dX7_winnerOf_61 : decode cX7_winnerOf 61 = .ok (.iaload, 1) := by decide +kernel
theorem dX7_winnerOf_62 : decode cX7_winnerOf 62 = .ok (.istore 4, 2) := by decide +kernel
theorem dX7_winnerOf_64 : decode cX7_winnerOf 64 = .ok (.iinc 5 1, 3) := by decide +kernel
theorem dX7_winnerOf_67 : decode cX7_winnerOf 67 = .ok (.goto (-45), 3) := by decide +kernel
theorem dX7_winnerOf_70 : decode cX7_winnerOf 70 = .ok (.iload_n 3, 1) := by decide +kernel
theorem dX7_winnerOf_71 : decode cX7_winnerOf 71 = .ok (.ireturn, 1) := by decide +kernel
theorem dX7_countVotes_0 : decode cX7_countVotes 0 = .ok (.iconst 0, 1) := by decide +kernel
theorem dX7_countVotes_1 : decode cX7_countVotes 1 = .ok (.istore_n 2, 1) := by decide +kernel
theorem dX7_countVotes_2 : decode cX7_countVotes 2 = .ok (.iload_n 2, 1) := by decide +kernel
theorem dX7_countVotes_3 : decode cX7_countVotes 3 = .ok (.bipush 8, 2) := by decide +kernel
theorem dX7_countVotes_5 : decode cX7_countVotes 5 = .ok (.if_icmp .ge 16, 3) := by decide +kernel
theorem dX7_countVotes_8 : decode cX7_countVotes 8 = .ok (.aload_n 0, 1) := by decide +kernel
theorem dX7_countVotes_9 : decode cX7_countVotes 9 = .ok (.getfield 18, 3) := by decide +kernel
theorem dX7_countVotes_12 : decode cX7_countVotes 12 = .ok (.iload_n 2, 1) := by decide +kernel
theorem dX7_countVotes_13 : decode cX7_countVotes 13 = .ok (.iconst 0, 1) := by decide +kernel
theorem dX7_countVotes_14 : decode cX7_countVotes 14 = .ok (.iastore, 1) := by decide +kernel
theorem dX7_countVotes_15 : decode cX7_countVotes 15 = .ok (.iinc 2 1, 3) := by decide +kernel
theorem dX7_countVotes_18 : decode cX7_countVotes 18 = .ok (.goto (-16), 3) := by decide +kernel
theorem dX7_countVotes_21 : decode cX7_countVotes 21 = .ok (.iconst 0, 1) := by decide +kernel
theorem dX7_countVotes_22 : decode cX7_countVotes 22 = .ok (.istore_n 2, 1) := by decide +kernel
theorem dX7_countVotes_23 : decode cX7_countVotes 23 = .ok (.iload_n 2, 1) := by decide +kernel
theorem dX7_countVotes_24 : decode cX7_countVotes 24 = .ok (.iload_n 1, 1) := by decide +kernel
theorem dX7_countVotes_25 : decode cX7_countVotes 25 = .ok (.if_icmp .ge 27, 3) := by decide +kernel
theorem dX7_countVotes_28 : decode cX7_countVotes 28 = .ok (.aload_n 0, 1) := by decide +kernel
theorem dX7_countVotes_29 : decode cX7_countVotes 29 = .ok (.getfield 18, 3) := by decide +kernel
theorem dX7_countVotes_32 : decode cX7_countVotes 32 = .ok (.aload_n 0, 1) := by decide +kernel
theorem dX7_countVotes_33 : decode cX7_countVotes 33 = .ok (.getfield 9, 3) := by decide +kernel
theorem dX7_countVotes_36 : decode cX7_countVotes 36 = .ok (.iload_n 2, 1) := by decide +kernel
theorem dX7_countVotes_37 : decode cX7_countVotes 37 = .ok (.iaload, 1) := by decide +kernel
theorem dX7_countVotes_38 : decode cX7_countVotes 38 = .ok (.bipush 10, 2) := by decide +kernel
theorem dX7_countVotes_40 : decode cX7_countVotes 40 = .ok (.idiv, 1) := by decide +kernel
theorem dX7_countVotes_41 : decode cX7_countVotes 41 = .ok (.dup2, 1) := by decide +kernel
theorem dX7_countVotes_42 : decode cX7_countVotes 42 = .ok (.iaload, 1) := by decide +kernel
theorem dX7_countVotes_43 : decode cX7_countVotes 43 = .ok (.iconst 1, 1) := by decide +kernel
theorem dX7_countVotes_44 : decode cX7_countVotes 44 = .ok (.iadd, 1) := by decide +kernel
theorem dX7_countVotes_45 : decode cX7_countVotes 45 = .ok (.iastore, 1) := by decide +kernel
theorem dX7_countVotes_46 : decode cX7_countVotes 46 = .ok (.iinc 2 1, 3) := by decide +kernel
theorem dX7_countVotes_49 : decode cX7_countVotes 49 = .ok (.goto (-26), 3) := by decide +kernel
theorem dX7_countVotes_52 : decode cX7_countVotes 52 = .ok (.return_, 1) := by decide +kernel
theorem dX8_init_0 : decode cX8_init 0 = .ok (.aload_n 0, 1) := by decide +kernel
theorem dX8_init_1 : decode cX8_init 1 = .ok (.invokespecial 1, 3) := by decide +kernel
theorem dX8_init_4 : decode cX8_init 4 = .ok (.aload_n 0, 1) := by decide +kernel
theorem dX8_init_5 : decode cX8_init 5 = .ok (.iload_n 1, 1) := by decide +kernel
theorem dX8_init_6 : decode cX8_init 6 = .ok (.iconst 0, 1) := by decide +kernel
theorem dX8_init_7 : decode cX8_init 7 = .ok (.invokestatic 7, 3) := by decide +kernel
theorem dX8_init_10 : decode cX8_init 10 = .ok (.anewarray 13, 3) := by decide +kernel
theorem dX8_init_13 : decode cX8_init 13 = .ok (.putfield 15, 3) := by decide +kernel
theorem dX8_init_16 : decode cX8_init 16 = .ok (.aload_n 0, 1) := by decide +kernel
theorem dX8_init_17 : decode cX8_init 17 = .ok (.new 13, 3) := by decide +kernel
theorem dX8_init_20 : decode cX8_init 20 = .ok (.dup, 1) := by decide +kernel
theorem dX8_init_21 : decode cX8_init 21 = .ok (.iconst 0, 1) := by decide +kernel
theorem dX8_init_22 : decode cX8_init 22 = .ok (.iconst 0, 1) := by decide +kernel
theorem dX8_init_23 : decode cX8_init 23 = .ok (.iconst 0, 1) := by decide +kernel
theorem dX8_init_24 : decode cX8_init 24 = .ok (.iconst 0, 1) := by decide +kernel
theorem dX8_init_25 : decode cX8_init 25 = .ok (.iconst 0, 1) := by decide +kernel
theorem dX8_init_26 : decode cX8_init 26 = .ok (.iconst 0, 1) := by decide +kernel
theorem dX8_init_27 : decode cX8_init 27 = .ok (.invokespecial 21, 3) := by decide +kernel
theorem dX8_init_30 : decode cX8_init 30 = .ok (.putfield 24, 3) := by decide +kernel
theorem dX8_init_33 : decode cX8_init 33 = .ok (.iconst 0, 1) := by decide +kernel
theorem dX8_init_34 : decode cX8_init 34 = .ok (.istore_n 2, 1) := by decide +kernel
theorem dX8_init_35 : decode cX8_init 35 = .ok (.iload_n 2, 1) := by decide +kernel
theorem dX8_init_36 : decode cX8_init 36 = .ok (.aload_n 0, 1) := by decide +kernel
theorem dX8_init_37 : decode cX8_init 37 = .ok (.getfield 15, 3) := by decide +kernel
theorem dX8_init_40 : decode cX8_init 40 = .ok (.arraylength, 1) := by decide +kernel
theorem dX8_init_41 : decode cX8_init 41 = .ok (.if_icmp .ge 19, 3) := by decide +kernel
theorem dX8_init_44 : decode cX8_init 44 = .ok (.aload_n 0, 1) := by decide +kernel
theorem dX8_init_45 : decode cX8_init 45 = .ok (.getfield 15, 3) := by decide +kernel
theorem dX8_init_48 : decode cX8_init 48 = .ok (.iload_n 2, 1) := by decide +kernel
theorem dX8_init_49 : decode cX8_init 49 = .ok (.aload_n 0, 1) := by decide +kernel
theorem dX8_init_50 : decode cX8_init 50 = .ok (.getfield 24, 3) := by decide +kernel
theorem dX8_init_53 : decode cX8_init 53 = .ok (.aastore, 1) := by decide +kernel
theorem dX8_init_54 : decode cX8_init 54 = .ok (.iinc 2 1, 3) := by decide +kernel
theorem dX8_init_57 : decode cX8_init 57 = .ok (.goto (-22), 3) := by decide +kernel
theorem dX8_init_60 : decode cX8_init 60 = .ok (.return_, 1) := by decide +kernel
theorem dX8_isFull_0 : decode cX8_isFull 0 = .ok (.aload_n 0, 1) := by decide +kernel
theorem dX8_isFull_1 : decode cX8_isFull 1 = .ok (.getfield 28, 3) := by decide +kernel
theorem dX8_isFull_4 : decode cX8_isFull 4 = .ok (.aload_n 0, 1) := by decide +kernel
theorem dX8_isFull_5 : decode cX8_isFull 5 = .ok (.getfield 15, 3) := by decide +kernel
theorem dX8_isFull_8 : decode cX8_isFull 8 = .ok (.arraylength, 1) := by decide +kernel
theorem dX8_isFull_9 : decode cX8_isFull 9 = .ok (.if_icmp .lt 7, 3) := by decide +kernel
theorem dX8_isFull_12 : decode cX8_isFull 12 = .ok (.iconst 1, 1) := by decide +kernel
theorem dX8_isFull_13 : decode cX8_isFull 13 = .ok (.goto 4, 3) := by decide +kernel
theorem dX8_isFull_16 : decode cX8_isFull 16 = .ok (.iconst 0, 1) := by decide +kernel
theorem dX8_isFull_17 : decode cX8_isFull 17 = .ok (.ireturn, 1) := by decide +kernel
theorem dX8_clear_0 : decode cX8_clear 0 = .ok (.aload_n 0, 1) := by decide +kernel
theorem dX8_clear_1 : decode cX8_clear 1 = .ok (.iconst 0, 1) := by decide +kernel
theorem dX8_clear_2 : decode cX8_clear 2 = .ok (.putfield 28, 3) := by decide +kernel
theorem dX8_clear_5 : decode cX8_clear 5 = .ok (.return_, 1) := by decide +kernel
theorem dX8_append_0 : decode cX8_append 0 = .ok (.aload_n 0, 1) := by decide +kernel
theorem dX8_append_1 : decode cX8_append 1 = .ok (.getfield 28, 3) := by decide +kernel
theorem dX8_append_4 : decode cX8_append 4 = .ok (.aload_n 0, 1) := by decide +kernel
theorem dX8_append_5 : decode cX8_append 5 = .ok (.getfield 15, 3) := by decide +kernel
theorem dX8_append_8 : decode cX8_append 8 = .ok (.arraylength, 1) := by decide +kernel
theorem dX8_append_9 : decode cX8_append 9 = .ok (.if_icmp .ge 23, 3) := by decide +kernel
theorem dX8_append_12 : decode cX8_append 12 = .ok (.aload_n 0, 1) := by decide +kernel
theorem dX8_append_13 : decode cX8_append 13 = .ok (.getfield 15, 3) := by decide +kernel
theorem dX8_append_16 : decode cX8_append 16 = .ok (.aload_n 0, 1) := by decide +kernel
theorem dX8_append_17 : decode cX8_append 17 = .ok (.getfield 28, 3) := by decide +kernel
theorem dX8_append_20 : decode cX8_append 20 = .ok (.aload_n 1, 1) := by decide +kernel
theorem dX8_append_21 : decode cX8_append 21 = .ok (.aastore, 1) := by decide +kernel
theorem dX8_append_22 : decode cX8_append 22 = .ok (.aload_n 0, 1) := by decide +kernel
theorem dX8_append_23 : decode cX8_append 23 = .ok (.dup, 1) := by decide +kernel
theorem dX8_append_24 : decode cX8_append 24 = .ok (.getfield 28, 3) := by decide +kernel
theorem dX8_append_27 : decode cX8_append 27 = .ok (.iconst 1, 1) := by decide +kernel
theorem dX8_append_28 : decode cX8_append 28 = .ok (.iadd, 1) := by decide +kernel
theorem dX8_append_29 : decode cX8_append 29 = .ok (.putfield 28, 3) := by decide +kernel
theorem dX8_append_32 : decode cX8_append 32 = .ok (.return_, 1) := by decide +kernel
theorem dX8_removeAt_0 : decode cX8_removeAt 0 = .ok (.iload_n 1, 1) := by decide +kernel
theorem dX8_removeAt_1 : decode cX8_removeAt 1 = .ok (.ifCond .lt 11, 3) := by decide +kernel
theorem dX8_removeAt_4 : decode cX8_removeAt 4 = .ok (.iload_n 1, 1) := by decide +kernel
theorem dX8_removeAt_5 : decode cX8_removeAt 5 = .ok (.aload_n 0, 1) := by decide +kernel
theorem dX8_removeAt_6 : decode cX8_removeAt 6 = .ok (.getfield 28, 3) := by decide +kernel
theorem dX8_removeAt_9 : decode cX8_removeAt 9 = .ok (.if_icmp .lt 4, 3) := by decide +kernel
theorem dX8_removeAt_12 : decode cX8_removeAt 12 = .ok (.return_, 1) := by decide +kernel
theorem dX8_removeAt_13 : decode cX8_removeAt 13 = .ok (.iload_n 1, 1) := by decide +kernel
theorem dX8_removeAt_14 : decode cX8_removeAt 14 = .ok (.iconst 1, 1) := by decide +kernel
theorem dX8_removeAt_15 : decode cX8_removeAt 15 = .ok (.iadd, 1) := by decide +kernel
theorem dX8_removeAt_16 : decode cX8_removeAt 16 = .ok (.istore_n 2, 1) := by decide +kernel
theorem dX8_removeAt_17 : decode cX8_removeAt 17 = .ok (.iload_n 2, 1) := by decide +kernel
theorem dX8_removeAt_18 : decode cX8_removeAt 18 = .ok (.aload_n 0, 1) := by decide +kernel
theorem dX8_removeAt_19 : decode cX8_removeAt 19 = .ok (.getfield 28, 3) := by decide +kernel
theorem dX8_removeAt_22 : decode cX8_removeAt 22 = .ok (.if_icmp .ge 23, 3) := by decide +kernel
theorem dX8_removeAt_25 : decode cX8_removeAt 25 = .ok (.aload_n 0, 1) := by decide +kernel
theorem dX8_removeAt_26 : decode cX8_removeAt 26 = .ok (.getfield 15, 3) := by decide +kernel
theorem dX8_removeAt_29 : decode cX8_removeAt 29 = .ok (.iload_n 2, 1) := by decide +kernel
theorem dX8_removeAt_30 : decode cX8_removeAt 30 = .ok (.iconst 1, 1) := by decide +kernel
theorem dX8_removeAt_31 : decode cX8_removeAt 31 = .ok (.isub, 1) := by decide +kernel
theorem dX8_removeAt_32 : decode cX8_removeAt 32 = .ok (.aload_n 0, 1) := by decide +kernel
theorem dX8_removeAt_33 : decode cX8_removeAt 33 = .ok (.getfield 15, 3) := by decide +kernel
theorem dX8_removeAt_36 : decode cX8_removeAt 36 = .ok (.iload_n 2, 1) := by decide +kernel
theorem dX8_removeAt_37 : decode cX8_removeAt 37 = .ok (.aaload, 1) := by decide +kernel
theorem dX8_removeAt_38 : decode cX8_removeAt 38 = .ok (.aastore, 1) := by decide +kernel
theorem dX8_removeAt_39 : decode cX8_removeAt 39 = .ok (.iinc 2 1, 3) := by decide +kernel
theorem dX8_removeAt_42 : decode cX8_removeAt 42 = .ok (.goto (-25), 3) := by decide +kernel
theorem dX8_removeAt_45 : decode cX8_removeAt 45 = .ok (.aload_n 0, 1) := by decide +kernel
theorem dX8_removeAt_46 : decode cX8_removeAt 46 = .ok (.dup, 1) := by decide +kernel
theorem dX8_removeAt_47 : decode cX8_removeAt 47 = .ok (.getfield 28, 3) := by decide +kernel
theorem dX8_removeAt_50 : decode cX8_removeAt 50 = .ok (.iconst 1, 1) := by decide +kernel
theorem dX8_removeAt_51 : decode cX8_removeAt 51 = .ok (.isub, 1) := by decide +kernel
theorem dX8_removeAt_52 : decode cX8_removeAt 52 = .ok (.putfield 28, 3) := by decide +kernel
theorem dX8_removeAt_55 : decode cX8_removeAt 55 = .ok (.return_, 1) := by decide +kernel
theorem dX8_at_0 : decode cX8_at 0 = .ok (.iload_n 1, 1) := by decide +kernel
theorem dX8_at_1 : decode cX8_at 1 = .ok (.ifCond .lt 20, 3) := by decide +kernel
theorem dX8_at_4 : decode cX8_at 4 = .ok (.iload_n 1, 1) := by decide +kernel
theorem dX8_at_5 : decode cX8_at 5 = .ok (.aload_n 0, 1) := by decide +kernel
theorem dX8_at_6 : decode cX8_at 6 = .ok (.getfield 28, 3) := by decide +kernel
theorem dX8_at_9 : decode cX8_at 9 = .ok (.if_icmp .ge 12, 3) := by decide +kernel
theorem dX8_at_12 : decode cX8_at 12 = .ok (.aload_n 0, 1) := by decide +kernel
theorem dX8_at_13 : decode cX8_at 13 = .ok (.getfield 15, 3) := by decide +kernel
theorem dX8_at_16 : decode cX8_at 16 = .ok (.iload_n 1, 1) := by decide +kernel
theorem dX8_at_17 : decode cX8_at 17 = .ok (.aaload, 1) := by decide +kernel
theorem dX8_at_18 : decode cX8_at 18 = .ok (.goto 7, 3) := by decide +kernel
theorem dX8_at_21 : decode cX8_at 21 = .ok (.aload_n 0, 1) := by decide +kernel
theorem dX8_at_22 : decode cX8_at 22 = .ok (.getfield 24, 3) := by decide +kernel
theorem dX8_at_25 : decode cX8_at 25 = .ok (.areturn, 1) := by decide +kernel
theorem dX9_init_0 : decode cX9_init 0 = .ok (.aload_n 0, 1) := by decide +kernel
theorem dX9_init_1 : decode cX9_init 1 = .ok (.invokespecial 3, 3) := by decide +kernel
theorem dX9_init_4 : decode cX9_init 4 = .ok (.aload_n 0, 1) := by decide +kernel
theorem dX9_init_5 : decode cX9_init 5 = .ok (.new 9, 3) := by decide +kernel
theorem dX9_init_8 : decode cX9_init 8 = .ok (.dup, 1) := by decide +kernel
theorem dX9_init_9 : decode cX9_init 9 = .ok (.invokespecial 11, 3) := by decide +kernel
theorem dX9_init_12 : decode cX9_init 12 = .ok (.putfield 12, 3) := by decide +kernel
theorem dX9_init_15 : decode cX9_init 15 = .ok (.aload_n 0, 1) := by decide +kernel
theorem dX9_init_16 : decode cX9_init 16 = .ok (.new 16, 3) := by decide +kernel
theorem dX9_init_19 : decode cX9_init 19 = .ok (.dup, 1) := by decide +kernel
theorem dX9_init_20 : decode cX9_init 20 = .ok (.invokespecial 18, 3) := by decide +kernel
theorem dX9_init_23 : decode cX9_init 23 = .ok (.putfield 19, 3) := by decide +kernel
theorem dX9_init_26 : decode cX9_init 26 = .ok (.aload_n 0, 1) := by decide +kernel
theorem dX9_init_27 : decode cX9_init 27 = .ok (.new 23, 3) := by decide +kernel
theorem dX9_init_30 : decode cX9_init 30 = .ok (.dup, 1) := by decide +kernel
theorem dX9_init_31 : decode cX9_init 31 = .ok (.invokespecial 25, 3) := by decide +kernel
theorem dX9_init_34 : decode cX9_init 34 = .ok (.putfield 26, 3) := by decide +kernel
theorem dX9_init_37 : decode cX9_init 37 = .ok (.aload_n 0, 1) := by decide +kernel
theorem dX9_init_38 : decode cX9_init 38 = .ok (.bipush 8, 2) := by decide +kernel
theorem dX9_init_40 : decode cX9_init 40 = .ok (.anewarray 30, 3) := by decide +kernel
theorem dX9_init_43 : decode cX9_init 43 = .ok (.putfield 32, 3) := by decide +kernel
theorem dX9_init_46 : decode cX9_init 46 = .ok (.aload_n 0, 1) := by decide +kernel
theorem dX9_init_47 : decode cX9_init 47 = .ok (.new 36, 3) := by decide +kernel
theorem dX9_init_50 : decode cX9_init 50 = .ok (.dup, 1) := by decide +kernel
theorem dX9_init_51 : decode cX9_init 51 = .ok (.invokespecial 38, 3) := by decide +kernel
theorem dX9_init_54 : decode cX9_init 54 = .ok (.putfield 39, 3) := by decide +kernel
theorem dX9_init_57 : decode cX9_init 57 = .ok (.aload_n 0, 1) := by decide +kernel
theorem dX9_init_58 : decode cX9_init 58 = .ok (.new 43, 3) := by decide +kernel
theorem dX9_init_61 : decode cX9_init 61 = .ok (.dup, 1) := by decide +kernel
theorem dX9_init_62 : decode cX9_init 62 = .ok (.invokespecial 45, 3) := by decide +kernel
theorem dX9_init_65 : decode cX9_init 65 = .ok (.putfield 46, 3) := by decide +kernel
theorem dX9_init_68 : decode cX9_init 68 = .ok (.aload_n 0, 1) := by decide +kernel
theorem dX9_init_69 : decode cX9_init 69 = .ok (.new 50, 3) := by decide +kernel
theorem dX9_init_72 : decode cX9_init 72 = .ok (.dup, 1) := by decide +kernel
theorem dX9_init_73 : decode cX9_init 73 = .ok (.iconst 0, 1) := by decide +kernel
theorem dX9_init_74 : decode cX9_init 74 = .ok (.iconst 0, 1) := by decide +kernel
theorem dX9_init_75 : decode cX9_init 75 = .ok (.iconst 0, 1) := by decide +kernel
theorem dX9_init_76 : decode cX9_init 76 = .ok (.iconst 0, 1) := by decide +kernel
theorem dX9_init_77 : decode cX9_init 77 = .ok (.iconst 0, 1) := by decide +kernel
theorem dX9_init_78 : decode cX9_init 78 = .ok (.iconst 0, 1) := by decide +kernel
theorem dX9_init_79 : decode cX9_init 79 = .ok (.invokespecial 52, 3) := by decide +kernel
theorem dX9_init_82 : decode cX9_init 82 = .ok (.putfield 55, 3) := by decide +kernel
theorem dX9_init_85 : decode cX9_init 85 = .ok (.aload_n 0, 1) := by decide +kernel
theorem dX9_init_86 : decode cX9_init 86 = .ok (.iconst 5, 1) := by decide +kernel
theorem dX9_init_87 : decode cX9_init 87 = .ok (.newarray .int, 2) := by decide +kernel
theorem dX9_init_89 : decode cX9_init 89 = .ok (.putfield 59, 3) := by decide +kernel
theorem dX9_init_92 : decode cX9_init 92 = .ok (.aload_n 0, 1) := by decide +kernel
theorem dX9_init_93 : decode cX9_init 93 = .ok (.aload_n 0, 1) := by decide +kernel
theorem dX9_init_94 : decode cX9_init 94 = .ok (.getfield 55, 3) := by decide +kernel
theorem dX9_init_97 : decode cX9_init 97 = .ok (.putfield 63, 3) := by decide +kernel
theorem dX9_init_100 : decode cX9_init 100 = .ok (.iconst 0, 1) := by decide +kernel
theorem dX9_init_101 : decode cX9_init 101 = .ok (.istore_n 1, 1) := by decide +kernel
theorem dX9_init_102 : decode cX9_init 102 = .ok (.iload_n 1, 1) := by decide +kernel
theorem dX9_init_103 : decode cX9_init 103 = .ok (.aload_n 0, 1) := by decide +kernel
theorem dX9_init_104 : decode cX9_init 104 = .ok (.getfield 32, 3) := by decide +kernel
theorem dX9_init_107 : decode cX9_init 107 = .ok (.arraylength, 1) := by decide +kernel
theorem dX9_init_108 : decode cX9_init 108 = .ok (.if_icmp .ge 22, 3) := by decide +kernel
theorem dX9_init_111 : decode cX9_init 111 = .ok (.aload_n 0, 1) := by decide +kernel
theorem dX9_init_112 : decode cX9_init 112 = .ok (.getfield 32, 3) := by decide +kernel
theorem dX9_init_115 : decode cX9_init 115 = .ok (.iload_n 1, 1) := by decide +kernel
theorem dX9_init_116 : decode cX9_init 116 = .ok (.new 30, 3) := by decide +kernel
theorem dX9_init_119 : decode cX9_init 119 = .ok (.dup, 1) := by decide +kernel
theorem dX9_init_120 : decode cX9_init 120 = .ok (.invokespecial 66, 3) := by decide +kernel
theorem dX9_init_123 : decode cX9_init 123 = .ok (.aastore, 1) := by decide +kernel
theorem dX9_init_124 : decode cX9_init 124 = .ok (.iinc 1 1, 3) := by decide +kernel
theorem dX9_init_127 : decode cX9_init 127 = .ok (.goto (-25), 3) := by decide +kernel
theorem dX9_init_130 : decode cX9_init 130 = .ok (.aload_n 0, 1) := by decide +kernel
theorem dX9_init_131 : decode cX9_init 131 = .ok (.iconst 2, 1) := by decide +kernel
theorem dX9_init_132 : decode cX9_init 132 = .ok (.invokevirtual 67, 3) := by decide +kernel
theorem dX9_init_135 : decode cX9_init 135 = .ok (.return_, 1) := by decide +kernel
theorem dX9_reset_0 : decode cX9_reset 0 = .ok (.iload_n 1, 1) := by decide +kernel
theorem dX9_reset_1 : decode cX9_reset 1 = .ok (.iconst 2, 1) := by decide +kernel
theorem dX9_reset_2 : decode cX9_reset 2 = .ok (.iconst 5, 1) := by decide +kernel
theorem dX9_reset_3 : decode cX9_reset 3 = .ok (.invokestatic 71, 3) := by decide +kernel
theorem dX9_reset_6 : decode cX9_reset 6 = .ok (.ifCond .ne 6, 3) := by decide +kernel
theorem dX9_reset_9 : decode cX9_reset 9 = .ok (.bipush (-3), 2) := by decide +kernel
theorem dX9_reset_11 : decode cX9_reset 11 = .ok (.ireturn, 1) := by decide +kernel
theorem dX9_reset_12 : decode cX9_reset 12 = .ok (.aload_n 0, 1) := by decide +kernel
theorem dX9_reset_13 : decode cX9_reset 13 = .ok (.iload_n 1, 1) := by decide +kernel
theorem dX9_reset_14 : decode cX9_reset 14 = .ok (.invokevirtual 67, 3) := by decide +kernel
theorem dX9_reset_17 : decode cX9_reset 17 = .ok (.iload_n 1, 1) := by decide +kernel
theorem dX9_reset_18 : decode cX9_reset 18 = .ok (.ireturn, 1) := by decide +kernel
theorem dX9_sensorCount_0 : decode cX9_sensorCount 0 = .ok (.aload_n 0, 1) := by decide +kernel
theorem dX9_sensorCount_1 : decode cX9_sensorCount 1 = .ok (.getfield 12, 3) := by decide +kernel
theorem dX9_sensorCount_4 : decode cX9_sensorCount 4 = .ok (.getfield 75, 3) := by decide +kernel
theorem dX9_sensorCount_7 : decode cX9_sensorCount 7 = .ok (.ireturn, 1) := by decide +kernel
theorem dX9_setBaseline_0 : decode cX9_setBaseline 0 = .ok (.aload_n 0, 1) := by decide +kernel
theorem dX9_setBaseline_1 : decode cX9_setBaseline 1 = .ok (.iload_n 1, 1) := by decide +kernel
theorem dX9_setBaseline_2 : decode cX9_setBaseline 2 = .ok (.invokevirtual 79, 3) := by decide +kernel
theorem dX9_setBaseline_5 : decode cX9_setBaseline 5 = .ok (.ifCond .ne 6, 3) := by decide +kernel
theorem dX9_setBaseline_8 : decode cX9_setBaseline 8 = .ok (.bipush (-2), 2) := by decide +kernel
theorem dX9_setBaseline_10 : decode cX9_setBaseline 10 = .ok (.ireturn, 1) := by decide +kernel
theorem dX9_setBaseline_11 : decode cX9_setBaseline 11 = .ok (.iload_n 2, 1) := by decide +kernel
theorem dX9_setBaseline_12 : decode cX9_setBaseline 12 = .ok (.bipush 100, 2) := by decide +kernel
theorem dX9_setBaseline_14 : decode cX9_setBaseline 14 = .ok (.sipush 9999, 3) := by decide +kernel
theorem dX9_setBaseline_17 : decode cX9_setBaseline 17 = .ok (.invokestatic 71, 3) := by decide +kernel
theorem dX9_setBaseline_20 : decode cX9_setBaseline 20 = .ok (.ifCond .ne 6, 3) := by decide +kernel
theorem dX9_setBaseline_23 : decode cX9_setBaseline 23 = .ok (.bipush (-3), 2) := by decide +kernel
theorem dX9_setBaseline_25 : decode cX9_setBaseline 25 = .ok (.ireturn, 1) := by decide +kernel
theorem dX9_setBaseline_26 : decode cX9_setBaseline 26 = .ok (.aload_n 0, 1) := by decide +kernel
theorem dX9_setBaseline_27 : decode cX9_setBaseline 27 = .ok (.getfield 12, 3) := by decide +kernel
theorem dX9_setBaseline_30 : decode cX9_setBaseline 30 = .ok (.iload_n 1, 1) := by decide +kernel
theorem dX9_setBaseline_31 : decode cX9_setBaseline 31 = .ok (.iload_n 2, 1) := by decide +kernel
theorem dX9_setBaseline_32 : decode cX9_setBaseline 32 = .ok (.invokevirtual 83, 3) := by decide +kernel
theorem dX9_setBaseline_35 : decode cX9_setBaseline 35 = .ok (.ireturn, 1) := by decide +kernel
theorem dX9_measure_0 : decode cX9_measure 0 = .ok (.iload_n 1, 1) := by decide +kernel
theorem dX9_measure_1 : decode cX9_measure 1 = .ok (.iconst 0, 1) := by decide +kernel
theorem dX9_measure_2 : decode cX9_measure 2 = .ok (.bipush 100, 2) := by decide +kernel
theorem dX9_measure_4 : decode cX9_measure 4 = .ok (.invokestatic 71, 3) := by decide +kernel
theorem dX9_measure_7 : decode cX9_measure 7 = .ok (.ifCond .ne 6, 3) := by decide +kernel
theorem dX9_measure_10 : decode cX9_measure 10 = .ok (.bipush (-3), 2) := by decide +kernel
theorem dX9_measure_12 : decode cX9_measure 12 = .ok (.ireturn, 1) := by decide +kernel
theorem dX9_measure_13 : decode cX9_measure 13 = .ok (.aload_n 0, 1) := by decide +kernel
theorem dX9_measure_14 : decode cX9_measure 14 = .ok (.iconst 0, 1) := by decide +kernel
theorem dX9_measure_15 : decode cX9_measure 15 = .ok (.iload_n 2, 1) := by decide +kernel
theorem dX9_measure_16 : decode cX9_measure 16 = .ok (.invokevirtual 87, 3) := by decide +kernel
theorem dX9_measure_19 : decode cX9_measure 19 = .ok (.ifCond .eq 46, 3) := by decide +kernel
theorem dX9_measure_22 : decode cX9_measure 22 = .ok (.aload_n 0, 1) := by decide +kernel
theorem dX9_measure_23 : decode cX9_measure 23 = .ok (.iconst 1, 1) := by decide +kernel
theorem dX9_measure_24 : decode cX9_measure 24 = .ok (.iload_n 3, 1) := by decide +kernel
theorem dX9_measure_25 : decode cX9_measure 25 = .ok (.invokevirtual 87, 3) := by decide +kernel
theorem dX9_measure_28 : decode cX9_measure 28 = .ok (.ifCond .eq 37, 3) := by decide +kernel
theorem dX9_measure_31 : decode cX9_measure 31 = .ok (.aload_n 0, 1) := by decide +kernel
theorem dX9_measure_32 : decode cX9_measure 32 = .ok (.iconst 2, 1) := by decide +kernel
theorem dX9_measure_33 : decode cX9_measure 33 = .ok (.iload 4, 2) := by decide +kernel
theorem dX9_measure_35 : decode cX9_measure 35 = .ok (.invokevirtual 87, 3) := by decide +kernel
theorem dX9_measure_38 : decode cX9_measure 38 = .ok (.ifCond .eq 27, 3) := by decide +kernel
theorem dX9_measure_41 : decode cX9_measure 41 = .ok (.aload_n 0, 1) := by decide +kernel
theorem dX9_measure_42 : decode cX9_measure 42 = .ok (.iconst 3, 1) := by decide +kernel
theorem dX9_measure_43 : decode cX9_measure 43 = .ok (.iload 5, 2) := by decide +kernel
theorem dX9_measure_45 : decode cX9_measure 45 = .ok (.invokevirtual 87, 3) := by decide +kernel
theorem dX9_measure_48 : decode cX9_measure 48 = .ok (.ifCond .eq 17, 3) := by decide +kernel
theorem dX9_measure_51 : decode cX9_measure 51 = .ok (.aload_n 0, 1) := by decide +kernel
theorem dX9_measure_52 : decode cX9_measure 52 = .ok (.iconst 4, 1) := by decide +kernel
theorem dX9_measure_53 : decode cX9_measure 53 = .ok (.iload 6, 2) := by decide +kernel
theorem dX9_measure_55 : decode cX9_measure 55 = .ok (.invokevirtual 87, 3) := by decide +kernel
theorem dX9_measure_58 : decode cX9_measure 58 = .ok (.ifCond .eq 7, 3) := by decide +kernel
theorem dX9_measure_61 : decode cX9_measure 61 = .ok (.iconst 1, 1) := by decide +kernel
theorem dX9_measure_62 : decode cX9_measure 62 = .ok (.goto 4, 3) := by decide +kernel
theorem dX9_measure_65 : decode cX9_measure 65 = .ok (.iconst 0, 1) := by decide +kernel
theorem dX9_measure_66 : decode cX9_measure 66 = .ok (.istore 7, 2) := by decide +kernel
theorem dX9_measure_68 : decode cX9_measure 68 = .ok (.iload 7, 2) := by decide +kernel
theorem dX9_measure_70 : decode cX9_measure 70 = .ok (.ifCond .ne 6, 3) := by decide +kernel
theorem dX9_measure_73 : decode cX9_measure 73 = .ok (.bipush (-3), 2) := by decide +kernel
theorem dX9_measure_75 : decode cX9_measure 75 = .ok (.ireturn, 1) := by decide +kernel
theorem dX9_measure_76 : decode cX9_measure 76 = .ok (.aload_n 0, 1) := by decide +kernel
theorem dX9_measure_77 : decode cX9_measure 77 = .ok (.new 50, 3) := by decide +kernel
theorem dX9_measure_80 : decode cX9_measure 80 = .ok (.dup, 1) := by decide +kernel
theorem dX9_measure_81 : decode cX9_measure 81 = .ok (.iload_n 1, 1) := by decide +kernel
theorem dX9_measure_82 : decode cX9_measure 82 = .ok (.iload_n 2, 1) := by decide +kernel
theorem dX9_measure_83 : decode cX9_measure 83 = .ok (.iload_n 3, 1) := by decide +kernel
theorem dX9_measure_84 : decode cX9_measure 84 = .ok (.iload 4, 2) := by decide +kernel
theorem dX9_measure_86 : decode cX9_measure 86 = .ok (.iload 5, 2) := by decide +kernel
theorem dX9_measure_88 : decode cX9_measure 88 = .ok (.iload 6, 2) := by decide +kernel
theorem dX9_measure_90 : decode cX9_measure 90 = .ok (.invokespecial 52, 3) := by decide +kernel
theorem dX9_measure_93 : decode cX9_measure 93 = .ok (.putfield 63, 3) := by decide +kernel
theorem dX9_measure_96 : decode cX9_measure 96 = .ok (.aload_n 0, 1) := by decide +kernel
theorem dX9_measure_97 : decode cX9_measure 97 = .ok (.iconst 1, 1) := by decide +kernel
theorem dX9_measure_98 : decode cX9_measure 98 = .ok (.putfield 91, 3) := by decide +kernel
theorem dX9_measure_101 : decode cX9_measure 101 = .ok (.iload_n 2, 1) := by decide +kernel
theorem dX9_measure_102 : decode cX9_measure 102 = .ok (.iload_n 3, 1) := by decide +kernel
theorem dX9_measure_103 : decode cX9_measure 103 = .ok (.iadd, 1) := by decide +kernel
theorem dX9_measure_104 : decode cX9_measure 104 = .ok (.iload 4, 2) := by decide +kernel
theorem dX9_measure_106 : decode cX9_measure 106 = .ok (.iadd, 1) := by decide +kernel
theorem dX9_measure_107 : decode cX9_measure 107 = .ok (.iload 5, 2) := by decide +kernel
theorem dX9_measure_109 : decode cX9_measure 109 = .ok (.iadd, 1) := by decide +kernel
theorem dX9_measure_110 : decode cX9_measure 110 = .ok (.iload 6, 2) := by decide +kernel
theorem dX9_measure_112 : decode cX9_measure 112 = .ok (.iadd, 1) := by decide +kernel
theorem dX9_measure_113 : decode cX9_measure 113 = .ok (.ireturn, 1) := by decide +kernel
theorem dX9_ratio_0 : decode cX9_ratio 0 = .ok (.aload_n 0, 1) := by decide +kernel
theorem dX9_ratio_1 : decode cX9_ratio 1 = .ok (.iload_n 1, 1) := by decide +kernel
theorem dX9_ratio_2 : decode cX9_ratio 2 = .ok (.invokevirtual 79, 3) := by decide +kernel
theorem dX9_ratio_5 : decode cX9_ratio 5 = .ok (.ifCond .ne 6, 3) := by decide +kernel
theorem dX9_ratio_8 : decode cX9_ratio 8 = .ok (.bipush (-2), 2) := by decide +kernel
theorem dX9_ratio_10 : decode cX9_ratio 10 = .ok (.ireturn, 1) := by decide +kernel
theorem dX9_ratio_11 : decode cX9_ratio 11 = .ok (.aload_n 0, 1) := by decide +kernel
theorem dX9_ratio_12 : decode cX9_ratio 12 = .ok (.getfield 91, 3) := by decide +kernel
theorem dX9_ratio_15 : decode cX9_ratio 15 = .ok (.ifCond .ne 6, 3) := by decide +kernel
theorem dX9_ratio_18 : decode cX9_ratio 18 = .ok (.bipush (-5), 2) := by decide +kernel
theorem dX9_ratio_20 : decode cX9_ratio 20 = .ok (.ireturn, 1) := by decide +kernel
theorem dX9_ratio_21 : decode cX9_ratio 21 = .ok (.aload_n 0, 1) := by decide +kernel
theorem dX9_ratio_22 : decode cX9_ratio 22 = .ok (.getfield 12, 3) := by decide +kernel
theorem dX9_ratio_25 : decode cX9_ratio 25 = .ok (.aload_n 0, 1) := by decide +kernel
theorem dX9_ratio_26 : decode cX9_ratio 26 = .ok (.getfield 63, 3) := by decide +kernel
theorem dX9_ratio_29 : decode cX9_ratio 29 = .ok (.iload_n 1, 1) := by decide +kernel
theorem dX9_ratio_30 : decode cX9_ratio 30 = .ok (.invokevirtual 95, 3) := by decide +kernel
theorem dX9_ratio_33 : decode cX9_ratio 33 = .ok (.ireturn, 1) := by decide +kernel
theorem dX9_feature_0 : decode cX9_feature 0 = .ok (.aload_n 0, 1) := by decide +kernel
theorem dX9_feature_1 : decode cX9_feature 1 = .ok (.iload_n 1, 1) := by decide +kernel
theorem dX9_feature_2 : decode cX9_feature 2 = .ok (.invokevirtual 79, 3) := by decide +kernel
theorem dX9_feature_5 : decode cX9_feature 5 = .ok (.ifCond .ne 6, 3) := by decide +kernel
theorem dX9_feature_8 : decode cX9_feature 8 = .ok (.bipush (-2), 2) := by decide +kernel
theorem dX9_feature_10 : decode cX9_feature 10 = .ok (.ireturn, 1) := by decide +kernel
theorem dX9_feature_11 : decode cX9_feature 11 = .ok (.aload_n 0, 1) := by decide +kernel
theorem dX9_feature_12 : decode cX9_feature 12 = .ok (.getfield 91, 3) := by decide +kernel
theorem dX9_feature_15 : decode cX9_feature 15 = .ok (.ifCond .ne 6, 3) := by decide +kernel
theorem dX9_feature_18 : decode cX9_feature 18 = .ok (.bipush (-5), 2) := by decide +kernel
theorem dX9_feature_20 : decode cX9_feature 20 = .ok (.ireturn, 1) := by decide +kernel
theorem dX9_feature_21 : decode cX9_feature 21 = .ok (.aload_n 0, 1) := by decide +kernel
theorem dX9_feature_22 : decode cX9_feature 22 = .ok (.getfield 12, 3) := by decide +kernel
theorem dX9_feature_25 : decode cX9_feature 25 = .ok (.aload_n 0, 1) := by decide +kernel
theorem dX9_feature_26 : decode cX9_feature 26 = .ok (.getfield 63, 3) := by decide +kernel
theorem dX9_feature_29 : decode cX9_feature 29 = .ok (.iload_n 1, 1) := by decide +kernel
theorem dX9_feature_30 : decode cX9_feature 30 = .ok (.invokevirtual 99, 3) := by decide +kernel
theorem dX9_feature_33 : decode cX9_feature 33 = .ok (.sipush 10000, 3) := by decide +kernel
theorem dX9_feature_36 : decode cX9_feature 36 = .ok (.iadd, 1) := by decide +kernel
theorem dX9_feature_37 : decode cX9_feature 37 = .ok (.ireturn, 1) := by decide +kernel
theorem dX9_addCalibration_0 : decode cX9_addCalibration 0 = .ok (.aload_n 0, 1) := by decide +kernel
theorem dX9_addCalibration_1 : decode cX9_addCalibration 1 = .ok (.getfield 91, 3) := by decide +kernel
theorem dX9_addCalibration_4 : decode cX9_addCalibration 4 = .ok (.ifCond .ne 6, 3) := by decide +kernel
theorem dX9_addCalibration_7 : decode cX9_addCalibration 7 = .ok (.bipush (-5), 2) := by decide +kernel
theorem dX9_addCalibration_9 : decode cX9_addCalibration 9 = .ok (.ireturn, 1) := by decide +kernel
theorem dX9_addCalibration_10 : decode cX9_addCalibration 10 = .ok (.aload_n 0, 1) := by decide +kernel
theorem dX9_addCalibration_11 : decode cX9_addCalibration 11 = .ok (.getfield 12, 3) := by decide +kernel
theorem dX9_addCalibration_14 : decode cX9_addCalibration 14 = .ok (.getfield 102, 3) := by decide +kernel
theorem dX9_addCalibration_17 : decode cX9_addCalibration 17 = .ok (.invokevirtual 106, 3) := by decide +kernel
theorem dX9_addCalibration_20 : decode cX9_addCalibration 20 = .ok (.ifCond .eq 6, 3) := by decide +kernel
theorem dX9_addCalibration_23 : decode cX9_addCalibration 23 = .ok (.bipush (-4), 2) := by decide +kernel
theorem dX9_addCalibration_25 : decode cX9_addCalibration 25 = .ok (.ireturn, 1) := by decide +kernel
theorem dX9_addCalibration_26 : decode cX9_addCalibration 26 = .ok (.aload_n 0, 1) := by decide +kernel
theorem dX9_addCalibration_27 : decode cX9_addCalibration 27 = .ok (.getfield 12, 3) := by decide +kernel
theorem dX9_addCalibration_30 : decode cX9_addCalibration 30 = .ok (.aload_n 0, 1) := by decide +kernel
theorem dX9_addCalibration_31 : decode cX9_addCalibration 31 = .ok (.getfield 63, 3) := by decide +kernel
theorem dX9_addCalibration_34 : decode cX9_addCalibration 34 = .ok (.invokevirtual 112, 3) := by decide +kernel
theorem dX9_addCalibration_37 : decode cX9_addCalibration 37 = .ok (.ireturn, 1) := by decide +kernel
theorem dX9_removeCalibration_0 : decode cX9_removeCalibration 0 = .ok (.aload_n 0, 1) := by decide +kernel
theorem dX9_removeCalibration_1 : decode cX9_removeCalibration 1 = .ok (.getfield 12, 3) := by decide +kernel
theorem dX9_removeCalibration_4 : decode cX9_removeCalibration 4 = .ok (.getfield 102, 3) := by decide +kernel
theorem dX9_removeCalibration_7 : decode cX9_removeCalibration 7 = .ok (.getfield 116, 3) := by decide +kernel
theorem dX9_removeCalibration_10 : decode cX9_removeCalibration 10 = .ok (.ifCond .ne 6, 3) := by decide +kernel
theorem dX9_removeCalibration_13 : decode cX9_removeCalibration 13 = .ok (.bipush (-2), 2) := by decide +kernel
theorem dX9_removeCalibration_15 : decode cX9_removeCalibration 15 = .ok (.ireturn, 1) := by decide +kernel
theorem dX9_removeCalibration_16 : decode cX9_removeCalibration 16 = .ok (.aload_n 0, 1) := by decide +kernel
theorem dX9_removeCalibration_17 : decode cX9_removeCalibration 17 = .ok (.getfield 12, 3) := by decide +kernel
theorem dX9_removeCalibration_20 : decode cX9_removeCalibration 20 = .ok (.invokevirtual 119, 3) := by decide +kernel
theorem dX9_removeCalibration_23 : decode cX9_removeCalibration 23 = .ok (.ireturn, 1) := by decide +kernel
theorem dX9_humiditySlope_0 : decode cX9_humiditySlope 0 = .ok (.aload_n 0, 1) := by decide +kernel
theorem dX9_humiditySlope_1 : decode cX9_humiditySlope 1 = .ok (.iload_n 1, 1) := by decide +kernel
theorem dX9_humiditySlope_2 : decode cX9_humiditySlope 2 = .ok (.invokevirtual 79, 3) := by decide +kernel
theorem dX9_humiditySlope_5 : decode cX9_humiditySlope 5 = .ok (.ifCond .ne 6, 3) := by decide +kernel
theorem dX9_humiditySlope_8 : decode cX9_humiditySlope 8 = .ok (.bipush (-2), 2) := by decide +kernel
theorem dX9_humiditySlope_10 : decode cX9_humiditySlope 10 = .ok (.ireturn, 1) := by decide +kernel
theorem dX9_humiditySlope_11 : decode cX9_humiditySlope 11 = .ok (.aload_n 0, 1) := by decide +kernel
theorem dX9_humiditySlope_12 : decode cX9_humiditySlope 12 = .ok (.getfield 12, 3) := by decide +kernel
theorem dX9_humiditySlope_15 : decode cX9_humiditySlope 15 = .ok (.getfield 123, 3) := by decide +kernel
theorem dX9_humiditySlope_18 : decode cX9_humiditySlope 18 = .ok (.lconst 0, 1) := by decide +kernel
theorem dX9_humiditySlope_19 : decode cX9_humiditySlope 19 = .ok (.lcmp, 1) := by decide +kernel
theorem dX9_humiditySlope_20 : decode cX9_humiditySlope 20 = .ok (.ifCond .ne 5, 3) := by decide +kernel
theorem dX9_humiditySlope_23 : decode cX9_humiditySlope 23 = .ok (.iconst (-1), 1) := by decide +kernel
theorem dX9_humiditySlope_24 : decode cX9_humiditySlope 24 = .ok (.ireturn, 1) := by decide +kernel
theorem dX9_humiditySlope_25 : decode cX9_humiditySlope 25 = .ok (.ldc2_w 127, 3) := by decide +kernel
theorem dX9_humiditySlope_28 : decode cX9_humiditySlope 28 = .ok (.aload_n 0, 1) := by decide +kernel
theorem dX9_humiditySlope_29 : decode cX9_humiditySlope 29 = .ok (.getfield 12, 3) := by decide +kernel
theorem dX9_humiditySlope_32 : decode cX9_humiditySlope 32 = .ok (.getfield 129, 3) := by decide +kernel
theorem dX9_humiditySlope_35 : decode cX9_humiditySlope 35 = .ok (.iload_n 1, 1) := by decide +kernel
theorem dX9_humiditySlope_36 : decode cX9_humiditySlope 36 = .ok (.laload, 1) := by decide +kernel
theorem dX9_humiditySlope_37 : decode cX9_humiditySlope 37 = .ok (.lmul, 1) := by decide +kernel
theorem dX9_humiditySlope_38 : decode cX9_humiditySlope 38 = .ok (.aload_n 0, 1) := by decide +kernel
theorem dX9_humiditySlope_39 : decode cX9_humiditySlope 39 = .ok (.getfield 12, 3) := by decide +kernel
theorem dX9_humiditySlope_42 : decode cX9_humiditySlope 42 = .ok (.getfield 123, 3) := by decide +kernel
theorem dX9_humiditySlope_45 : decode cX9_humiditySlope 45 = .ok (.invokestatic 133, 3) := by decide +kernel
theorem dX9_humiditySlope_48 : decode cX9_humiditySlope 48 = .ok (.l2i, 1) := by decide +kernel
theorem dX9_humiditySlope_49 : decode cX9_humiditySlope 49 = .ok (.ldc 137, 2) := by decide +kernel
theorem dX9_humiditySlope_51 : decode cX9_humiditySlope 51 = .ok (.iadd, 1) := by decide +kernel
theorem dX9_humiditySlope_52 : decode cX9_humiditySlope 52 = .ok (.ireturn, 1) := by decide +kernel
theorem dX9_useHumidity_0 : decode cX9_useHumidity 0 = .ok (.aload_n 0, 1) := by decide +kernel
theorem dX9_useHumidity_1 : decode cX9_useHumidity 1 = .ok (.getfield 12, 3) := by decide +kernel
theorem dX9_useHumidity_4 : decode cX9_useHumidity 4 = .ok (.getfield 138, 3) := by decide +kernel
theorem dX9_useHumidity_7 : decode cX9_useHumidity 7 = .ok (.ifCond .eq 7, 3) := by decide +kernel
theorem dX9_useHumidity_10 : decode cX9_useHumidity 10 = .ok (.iconst 1, 1) := by decide +kernel
theorem dX9_useHumidity_11 : decode cX9_useHumidity 11 = .ok (.goto 4, 3) := by decide +kernel
theorem dX9_useHumidity_14 : decode cX9_useHumidity 14 = .ok (.iconst 0, 1) := by decide +kernel
theorem dX9_useHumidity_15 : decode cX9_useHumidity 15 = .ok (.istore_n 2, 1) := by decide +kernel
theorem dX9_useHumidity_16 : decode cX9_useHumidity 16 = .ok (.aload_n 0, 1) := by decide +kernel
theorem dX9_useHumidity_17 : decode cX9_useHumidity 17 = .ok (.getfield 12, 3) := by decide +kernel
theorem dX9_useHumidity_20 : decode cX9_useHumidity 20 = .ok (.iload_n 1, 1) := by decide +kernel
theorem dX9_useHumidity_21 : decode cX9_useHumidity 21 = .ok (.putfield 138, 3) := by decide +kernel
theorem dX9_useHumidity_24 : decode cX9_useHumidity 24 = .ok (.iload_n 2, 1) := by decide +kernel
theorem dX9_useHumidity_25 : decode cX9_useHumidity 25 = .ok (.ireturn, 1) := by decide +kernel
theorem dX9_addReference_0 : decode cX9_addReference 0 = .ok (.aload_n 0, 1) := by decide +kernel
theorem dX9_addReference_1 : decode cX9_addReference 1 = .ok (.getfield 91, 3) := by decide +kernel
theorem dX9_addReference_4 : decode cX9_addReference 4 = .ok (.ifCond .ne 6, 3) := by decide +kernel
theorem dX9_addReference_7 : decode cX9_addReference 7 = .ok (.bipush (-5), 2) := by decide +kernel
theorem dX9_addReference_9 : decode cX9_addReference 9 = .ok (.ireturn, 1) := by decide +kernel
theorem dX9_addReference_10 : decode cX9_addReference 10 = .ok (.iload_n 1, 1) := by decide +kernel
theorem dX9_addReference_11 : decode cX9_addReference 11 = .ok (.iconst 0, 1) := by decide +kernel
theorem dX9_addReference_12 : decode cX9_addReference 12 = .ok (.sipush 999, 3) := by decide +kernel
theorem dX9_addReference_15 : decode cX9_addReference 15 = .ok (.invokestatic 71, 3) := by decide +kernel
theorem dX9_addReference_18 : decode cX9_addReference 18 = .ok (.ifCond .eq 14, 3) := by decide +kernel
theorem dX9_addReference_21 : decode cX9_addReference 21 = .ok (.iload_n 1, 1) := by decide +kernel
theorem dX9_addReference_22 : decode cX9_addReference 22 = .ok (.aload_n 0, 1) := by decide +kernel
theorem dX9_addReference_23 : decode cX9_addReference 23 = .ok (.getfield 19, 3) := by decide +kernel
theorem dX9_addReference_26 : decode cX9_addReference 26 = .ok (.invokevirtual 141, 3) := by decide +kernel
theorem dX9_addReference_29 : decode cX9_addReference 29 = .ok (.if_icmp .gt 6, 3) := by decide +kernel
theorem dX9_addReference_32 : decode cX9_addReference 32 = .ok (.bipush (-3), 2) := by decide +kernel
theorem dX9_addReference_34 : decode cX9_addReference 34 = .ok (.ireturn, 1) := by decide +kernel
theorem dX9_addReference_35 : decode cX9_addReference 35 = .ok (.aload_n 0, 1) := by decide +kernel
theorem dX9_addReference_36 : decode cX9_addReference 36 = .ok (.getfield 19, 3) := by decide +kernel
theorem dX9_addReference_39 : decode cX9_addReference 39 = .ok (.getfield 144, 3) := by decide +kernel
theorem dX9_addReference_42 : decode cX9_addReference 42 = .ok (.invokevirtual 106, 3) := by decide +kernel
theorem dX9_addReference_45 : decode cX9_addReference 45 = .ok (.ifCond .eq 6, 3) := by decide +kernel
theorem dX9_addReference_48 : decode cX9_addReference 48 = .ok (.bipush (-4), 2) := by decide +kernel
theorem dX9_addReference_50 : decode cX9_addReference 50 = .ok (.ireturn, 1) := by decide +kernel
theorem dX9_addReference_51 : decode cX9_addReference 51 = .ok (.aload_n 0, 1) := by decide +kernel
theorem dX9_addReference_52 : decode cX9_addReference 52 = .ok (.getfield 19, 3) := by decide +kernel
theorem dX9_addReference_55 : decode cX9_addReference 55 = .ok (.aload_n 0, 1) := by decide +kernel
theorem dX9_addReference_56 : decode cX9_addReference 56 = .ok (.getfield 63, 3) := by decide +kernel
theorem dX9_addReference_59 : decode cX9_addReference 59 = .ok (.iload_n 1, 1) := by decide +kernel
theorem dX9_addReference_60 : decode cX9_addReference 60 = .ok (.invokevirtual 147, 3) := by decide +kernel
theorem dX9_addReference_63 : decode cX9_addReference 63 = .ok (.ireturn, 1) := by decide +kernel
theorem dX9_removeReference_0 : decode cX9_removeReference 0 = .ok (.aload_n 0, 1) := by decide +kernel
theorem dX9_removeReference_1 : decode cX9_removeReference 1 = .ok (.getfield 19, 3) := by decide +kernel
theorem dX9_removeReference_4 : decode cX9_removeReference 4 = .ok (.getfield 144, 3) := by decide +kernel
theorem dX9_removeReference_7 : decode cX9_removeReference 7 = .ok (.getfield 116, 3) := by decide +kernel
theorem dX9_removeReference_10 : decode cX9_removeReference 10 = .ok (.ifCond .ne 6, 3) := by decide +kernel
theorem dX9_removeReference_13 : decode cX9_removeReference 13 = .ok (.bipush (-2), 2) := by decide +kernel
theorem dX9_removeReference_15 : decode cX9_removeReference 15 = .ok (.ireturn, 1) := by decide +kernel
theorem dX9_removeReference_16 : decode cX9_removeReference 16 = .ok (.aload_n 0, 1) := by decide +kernel
theorem dX9_removeReference_17 : decode cX9_removeReference 17 = .ok (.getfield 19, 3) := by decide +kernel
theorem dX9_removeReference_20 : decode cX9_removeReference 20 = .ok (.getfield 144, 3) := by decide +kernel
theorem dX9_removeReference_23 : decode cX9_removeReference 23 = .ok (.aload_n 0, 1) := by decide +kernel
theorem dX9_removeReference_24 : decode cX9_removeReference 24 = .ok (.getfield 19, 3) := by decide +kernel
theorem dX9_removeReference_27 : decode cX9_removeReference 27 = .ok (.getfield 144, 3) := by decide +kernel
theorem dX9_removeReference_30 : decode cX9_removeReference 30 = .ok (.getfield 116, 3) := by decide +kernel
theorem dX9_removeReference_33 : decode cX9_removeReference 33 = .ok (.iconst 1, 1) := by decide +kernel
theorem dX9_removeReference_34 : decode cX9_removeReference 34 = .ok (.isub, 1) := by decide +kernel
theorem dX9_removeReference_35 : decode cX9_removeReference 35 = .ok (.invokevirtual 150, 3) := by decide +kernel
theorem dX9_removeReference_38 : decode cX9_removeReference 38 = .ok (.aload_n 0, 1) := by decide +kernel
theorem dX9_removeReference_39 : decode cX9_removeReference 39 = .ok (.getfield 19, 3) := by decide +kernel
theorem dX9_removeReference_42 : decode cX9_removeReference 42 = .ok (.getfield 144, 3) := by decide +kernel
theorem dX9_removeReference_45 : decode cX9_removeReference 45 = .ok (.getfield 116, 3) := by decide +kernel
theorem dX9_removeReference_48 : decode cX9_removeReference 48 = .ok (.ireturn, 1) := by decide +kernel
theorem dX9_driftComponent_0 : decode cX9_driftComponent 0 = .ok (.aload_n 0, 1) := by decide +kernel
theorem dX9_driftComponent_1 : decode cX9_driftComponent 1 = .ok (.iload_n 1, 1) := by decide +kernel
theorem dX9_driftComponent_2 : decode cX9_driftComponent 2 = .ok (.invokevirtual 79, 3) := by decide +kernel
theorem dX9_driftComponent_5 : decode cX9_driftComponent 5 = .ok (.ifCond .ne 6, 3) := by decide +kernel
theorem dX9_driftComponent_8 : decode cX9_driftComponent 8 = .ok (.bipush (-2), 2) := by decide +kernel
theorem dX9_driftComponent_10 : decode cX9_driftComponent 10 = .ok (.ireturn, 1) := by decide +kernel
theorem dX9_driftComponent_11 : decode cX9_driftComponent 11 = .ok (.aload_n 0, 1) := by decide +kernel
theorem dX9_driftComponent_12 : decode cX9_driftComponent 12 = .ok (.getfield 19, 3) := by decide +kernel
theorem dX9_driftComponent_15 : decode cX9_driftComponent 15 = .ok (.aload_n 0, 1) := by decide +kernel
theorem dX9_driftComponent_16 : decode cX9_driftComponent 16 = .ok (.getfield 12, 3) := by decide +kernel
theorem dX9_driftComponent_19 : decode cX9_driftComponent 19 = .ok (.invokevirtual 153, 3) := by decide +kernel
theorem dX9_driftComponent_22 : decode cX9_driftComponent 22 = .ok (.aload_n 0, 1) := by decide +kernel
theorem dX9_driftComponent_23 : decode cX9_driftComponent 23 = .ok (.getfield 19, 3) := by decide +kernel
theorem dX9_driftComponent_26 : decode cX9_driftComponent 26 = .ok (.getfield 157, 3) := by decide +kernel
theorem dX9_driftComponent_29 : decode cX9_driftComponent 29 = .ok (.iload_n 1, 1) := by decide +kernel
theorem dX9_driftComponent_30 : decode cX9_driftComponent 30 = .ok (.iaload, 1) := by decide +kernel
theorem dX9_driftComponent_31 : decode cX9_driftComponent 31 = .ok (.sipush 1000, 3) := by decide +kernel
theorem dX9_driftComponent_34 : decode cX9_driftComponent 34 = .ok (.iadd, 1) := by decide +kernel
theorem dX9_driftComponent_35 : decode cX9_driftComponent 35 = .ok (.ireturn, 1) := by decide +kernel
theorem dX9_driftPosition_0 : decode cX9_driftPosition 0 = .ok (.aload_n 0, 1) := by decide +kernel
theorem dX9_driftPosition_1 : decode cX9_driftPosition 1 = .ok (.getfield 91, 3) := by decide +kernel
theorem dX9_driftPosition_4 : decode cX9_driftPosition 4 = .ok (.ifCond .ne 6, 3) := by decide +kernel
theorem dX9_driftPosition_7 : decode cX9_driftPosition 7 = .ok (.bipush (-5), 2) := by decide +kernel
theorem dX9_driftPosition_9 : decode cX9_driftPosition 9 = .ok (.ireturn, 1) := by decide +kernel
theorem dX9_driftPosition_10 : decode cX9_driftPosition 10 = .ok (.aload_n 0, 1) := by decide +kernel
theorem dX9_driftPosition_11 : decode cX9_driftPosition 11 = .ok (.getfield 19, 3) := by decide +kernel
theorem dX9_driftPosition_14 : decode cX9_driftPosition 14 = .ok (.aload_n 0, 1) := by decide +kernel
theorem dX9_driftPosition_15 : decode cX9_driftPosition 15 = .ok (.getfield 12, 3) := by decide +kernel
theorem dX9_driftPosition_18 : decode cX9_driftPosition 18 = .ok (.invokevirtual 153, 3) := by decide +kernel
theorem dX9_driftPosition_21 : decode cX9_driftPosition 21 = .ok (.aload_n 0, 1) := by decide +kernel
theorem dX9_driftPosition_22 : decode cX9_driftPosition 22 = .ok (.getfield 19, 3) := by decide +kernel
theorem dX9_driftPosition_25 : decode cX9_driftPosition 25 = .ok (.getfield 160, 3) := by decide +kernel
theorem dX9_driftPosition_28 : decode cX9_driftPosition 28 = .ok (.ifCond .ne 5, 3) := by decide +kernel
theorem dX9_driftPosition_31 : decode cX9_driftPosition 31 = .ok (.iconst (-1), 1) := by decide +kernel
theorem dX9_driftPosition_32 : decode cX9_driftPosition 32 = .ok (.ireturn, 1) := by decide +kernel
theorem dX9_driftPosition_33 : decode cX9_driftPosition 33 = .ok (.aload_n 0, 1) := by decide +kernel
theorem dX9_driftPosition_34 : decode cX9_driftPosition 34 = .ok (.getfield 12, 3) := by decide +kernel
theorem dX9_driftPosition_37 : decode cX9_driftPosition 37 = .ok (.aload_n 0, 1) := by decide +kernel
theorem dX9_driftPosition_38 : decode cX9_driftPosition 38 = .ok (.getfield 63, 3) := by decide +kernel
theorem dX9_driftPosition_41 : decode cX9_driftPosition 41 = .ok (.aload_n 0, 1) := by decide +kernel
theorem dX9_driftPosition_42 : decode cX9_driftPosition 42 = .ok (.getfield 59, 3) := by decide +kernel
theorem dX9_driftPosition_45 : decode cX9_driftPosition 45 = .ok (.invokevirtual 163, 3) := by decide +kernel
theorem dX9_driftPosition_48 : decode cX9_driftPosition 48 = .ok (.aload_n 0, 1) := by decide +kernel
theorem dX9_driftPosition_49 : decode cX9_driftPosition 49 = .ok (.getfield 19, 3) := by decide +kernel
theorem dX9_driftPosition_52 : decode cX9_driftPosition 52 = .ok (.aload_n 0, 1) := by decide +kernel
theorem dX9_driftPosition_53 : decode cX9_driftPosition 53 = .ok (.getfield 59, 3) := by decide +kernel
theorem dX9_driftPosition_56 : decode cX9_driftPosition 56 = .ok (.invokevirtual 167, 3) := by decide +kernel
theorem dX9_driftPosition_59 : decode cX9_driftPosition 59 = .ok (.ldc 171, 2) := by decide +kernel
theorem dX9_driftPosition_61 : decode cX9_driftPosition 61 = .ok (.iadd, 1) := by decide +kernel
theorem dX9_driftPosition_62 : decode cX9_driftPosition 62 = .ok (.ireturn, 1) := by decide +kernel
theorem dX9_useDrift_0 : decode cX9_useDrift 0 = .ok (.aload_n 0, 1) := by decide +kernel
theorem dX9_useDrift_1 : decode cX9_useDrift 1 = .ok (.getfield 19, 3) := by decide +kernel
theorem dX9_useDrift_4 : decode cX9_useDrift 4 = .ok (.getfield 172, 3) := by decide +kernel
theorem dX9_useDrift_7 : decode cX9_useDrift 7 = .ok (.ifCond .eq 7, 3) := by decide +kernel
theorem dX9_useDrift_10 : decode cX9_useDrift 10 = .ok (.iconst 1, 1) := by decide +kernel
theorem dX9_useDrift_11 : decode cX9_useDrift 11 = .ok (.goto 4, 3) := by decide +kernel
theorem dX9_useDrift_14 : decode cX9_useDrift 14 = .ok (.iconst 0, 1) := by decide +kernel
theorem dX9_useDrift_15 : decode cX9_useDrift 15 = .ok (.istore_n 2, 1) := by decide +kernel
theorem dX9_useDrift_16 : decode cX9_useDrift 16 = .ok (.aload_n 0, 1) := by decide +kernel
theorem dX9_useDrift_17 : decode cX9_useDrift 17 = .ok (.getfield 19, 3) := by decide +kernel
theorem dX9_useDrift_20 : decode cX9_useDrift 20 = .ok (.iload_n 1, 1) := by decide +kernel
theorem dX9_useDrift_21 : decode cX9_useDrift 21 = .ok (.putfield 172, 3) := by decide +kernel
theorem dX9_useDrift_24 : decode cX9_useDrift 24 = .ok (.iload_n 2, 1) := by decide +kernel
theorem dX9_useDrift_25 : decode cX9_useDrift 25 = .ok (.ireturn, 1) := by decide +kernel
theorem dX9_predictedReference_0 : decode cX9_predictedReference 0 = .ok (.aload_n 0, 1) := by decide +kernel
theorem dX9_predictedReference_1 : decode cX9_predictedReference 1 = .ok (.iload_n 1, 1) := by decide +kernel
theorem dX9_predictedReference_2 : decode cX9_predictedReference 2 = .ok (.invokevirtual 79, 3) := by decide +kernel
theorem dX9_predictedReference_5 : decode cX9_predictedReference 5 = .ok (.ifCond .ne 6, 3) := by decide +kernel
theorem dX9_predictedReference_8 : decode cX9_predictedReference 8 = .ok (.bipush (-2), 2) := by decide +kernel
theorem dX9_predictedReference_10 : decode cX9_predictedReference 10 = .ok (.ireturn, 1) := by decide +kernel
theorem dX9_predictedReference_11 : decode cX9_predictedReference 11 = .ok (.iload_n 2, 1) := by decide +kernel
theorem dX9_predictedReference_12 : decode cX9_predictedReference 12 = .ok (.iconst 0, 1) := by decide +kernel
theorem dX9_predictedReference_13 : decode cX9_predictedReference 13 = .ok (.sipush 999, 3) := by decide +kernel
theorem dX9_predictedReference_16 : decode cX9_predictedReference 16 = .ok (.invokestatic 71, 3) := by decide +kernel
theorem dX9_predictedReference_19 : decode cX9_predictedReference 19 = .ok (.ifCond .ne 6, 3) := by decide +kernel
theorem dX9_predictedReference_22 : decode cX9_predictedReference 22 = .ok (.bipush (-3), 2) := by decide +kernel
theorem dX9_predictedReference_24 : decode cX9_predictedReference 24 = .ok (.ireturn, 1) := by decide +kernel
theorem dX9_predictedReference_25 : decode cX9_predictedReference 25 = .ok (.aload_n 0, 1) := by decide +kernel
theorem dX9_predictedReference_26 : decode cX9_predictedReference 26 = .ok (.getfield 19, 3) := by decide +kernel
theorem dX9_predictedReference_29 : decode cX9_predictedReference 29 = .ok (.getfield 144, 3) := by decide +kernel
theorem dX9_predictedReference_32 : decode cX9_predictedReference 32 = .ok (.getfield 116, 3) := by decide +kernel
theorem dX9_predictedReference_35 : decode cX9_predictedReference 35 = .ok (.iconst 2, 1) := by decide +kernel
theorem dX9_predictedReference_36 : decode cX9_predictedReference 36 = .ok (.if_icmp .ge 5, 3) := by decide +kernel
theorem dX9_predictedReference_39 : decode cX9_predictedReference 39 = .ok (.iconst (-1), 1) := by decide +kernel
theorem dX9_predictedReference_40 : decode cX9_predictedReference 40 = .ok (.ireturn, 1) := by decide +kernel
theorem dX9_predictedReference_41 : decode cX9_predictedReference 41 = .ok (.aload_n 0, 1) := by decide +kernel
theorem dX9_predictedReference_42 : decode cX9_predictedReference 42 = .ok (.getfield 19, 3) := by decide +kernel
theorem dX9_predictedReference_45 : decode cX9_predictedReference 45 = .ok (.aload_n 0, 1) := by decide +kernel
theorem dX9_predictedReference_46 : decode cX9_predictedReference 46 = .ok (.getfield 12, 3) := by decide +kernel
theorem dX9_predictedReference_49 : decode cX9_predictedReference 49 = .ok (.invokevirtual 153, 3) := by decide +kernel
theorem dX9_predictedReference_52 : decode cX9_predictedReference 52 = .ok (.aload_n 0, 1) := by decide +kernel
theorem dX9_predictedReference_53 : decode cX9_predictedReference 53 = .ok (.getfield 19, 3) := by decide +kernel
theorem dX9_predictedReference_56 : decode cX9_predictedReference 56 = .ok (.iload_n 1, 1) := by decide +kernel
theorem dX9_predictedReference_57 : decode cX9_predictedReference 57 = .ok (.iload_n 2, 1) := by decide +kernel
theorem dX9_predictedReference_58 : decode cX9_predictedReference 58 = .ok (.invokevirtual 175, 3) := by decide +kernel
theorem dX9_predictedReference_61 : decode cX9_predictedReference 61 = .ok (.ldc 137, 2) := by decide +kernel
theorem dX9_predictedReference_63 : decode cX9_predictedReference 63 = .ok (.iadd, 1) := by decide +kernel
theorem dX9_predictedReference_64 : decode cX9_predictedReference 64 = .ok (.ireturn, 1) := by decide +kernel
theorem dX9_addClass_0 : decode cX9_addClass 0 = .ok (.aload_n 0, 1) := by decide +kernel
theorem dX9_addClass_1 : decode cX9_addClass 1 = .ok (.getfield 178, 3) := by decide +kernel
theorem dX9_addClass_4 : decode cX9_addClass 4 = .ok (.bipush 8, 2) := by decide +kernel
theorem dX9_addClass_6 : decode cX9_addClass 6 = .ok (.if_icmp .lt 6, 3) := by decide +kernel
theorem dX9_addClass_9 : decode cX9_addClass 9 = .ok (.bipush (-4), 2) := by decide +kernel
theorem dX9_addClass_11 : decode cX9_addClass 11 = .ok (.ireturn, 1) := by decide +kernel
theorem dX9_addClass_12 : decode cX9_addClass 12 = .ok (.aload_n 0, 1) := by decide +kernel
theorem dX9_addClass_13 : decode cX9_addClass 13 = .ok (.dup, 1) := by decide +kernel
theorem dX9_addClass_14 : decode cX9_addClass 14 = .ok (.getfield 178, 3) := by decide +kernel
theorem dX9_addClass_17 : decode cX9_addClass 17 = .ok (.iconst 1, 1) := by decide +kernel
theorem dX9_addClass_18 : decode cX9_addClass 18 = .ok (.iadd, 1) := by decide +kernel
theorem dX9_addClass_19 : decode cX9_addClass 19 = .ok (.putfield 178, 3) := by decide +kernel
theorem dX9_addClass_22 : decode cX9_addClass 22 = .ok (.aload_n 0, 1) := by decide +kernel
theorem dX9_addClass_23 : decode cX9_addClass 23 = .ok (.getfield 178, 3) := by decide +kernel
theorem dX9_addClass_26 : decode cX9_addClass 26 = .ok (.iconst 1, 1) := by decide +kernel
theorem dX9_addClass_27 : decode cX9_addClass 27 = .ok (.isub, 1) := by decide +kernel
theorem dX9_addClass_28 : decode cX9_addClass 28 = .ok (.ireturn, 1) := by decide +kernel
theorem dX9_classCount_0 : decode cX9_classCount 0 = .ok (.aload_n 0, 1) := by decide +kernel
theorem dX9_classCount_1 : decode cX9_classCount 1 = .ok (.getfield 178, 3) := by decide +kernel
theorem dX9_classCount_4 : decode cX9_classCount 4 = .ok (.ireturn, 1) := by decide +kernel
theorem dX9_addSample_0 : decode cX9_addSample 0 = .ok (.aload_n 0, 1) := by decide +kernel
theorem dX9_addSample_1 : decode cX9_addSample 1 = .ok (.iload_n 1, 1) := by decide +kernel
theorem dX9_addSample_2 : decode cX9_addSample 2 = .ok (.invokevirtual 181, 3) := by decide +kernel
theorem dX9_addSample_5 : decode cX9_addSample 5 = .ok (.ifCond .ne 6, 3) := by decide +kernel
theorem dX9_addSample_8 : decode cX9_addSample 8 = .ok (.bipush (-2), 2) := by decide +kernel
theorem dX9_addSample_10 : decode cX9_addSample 10 = .ok (.ireturn, 1) := by decide +kernel
theorem dX9_addSample_11 : decode cX9_addSample 11 = .ok (.aload_n 0, 1) := by decide +kernel
theorem dX9_addSample_12 : decode cX9_addSample 12 = .ok (.getfield 91, 3) := by decide +kernel
theorem dX9_addSample_15 : decode cX9_addSample 15 = .ok (.ifCond .ne 6, 3) := by decide +kernel
theorem dX9_addSample_18 : decode cX9_addSample 18 = .ok (.bipush (-5), 2) := by decide +kernel
theorem dX9_addSample_20 : decode cX9_addSample 20 = .ok (.ireturn, 1) := by decide +kernel
theorem dX9_addSample_21 : decode cX9_addSample 21 = .ok (.aload_n 0, 1) := by decide +kernel
theorem dX9_addSample_22 : decode cX9_addSample 22 = .ok (.getfield 32, 3) := by decide +kernel
theorem dX9_addSample_25 : decode cX9_addSample 25 = .ok (.iload_n 1, 1) := by decide +kernel
theorem dX9_addSample_26 : decode cX9_addSample 26 = .ok (.aaload, 1) := by decide +kernel
theorem dX9_addSample_27 : decode cX9_addSample 27 = .ok (.getfield 184, 3) := by decide +kernel
theorem dX9_addSample_30 : decode cX9_addSample 30 = .ok (.astore_n 2, 1) := by decide +kernel
theorem dX9_addSample_31 : decode cX9_addSample 31 = .ok (.aload_n 2, 1) := by decide +kernel
theorem dX9_addSample_32 : decode cX9_addSample 32 = .ok (.invokevirtual 106, 3) := by decide +kernel
theorem dX9_addSample_35 : decode cX9_addSample 35 = .ok (.ifCond .eq 6, 3) := by decide +kernel
theorem dX9_addSample_38 : decode cX9_addSample 38 = .ok (.bipush (-4), 2) := by decide +kernel
theorem dX9_addSample_40 : decode cX9_addSample 40 = .ok (.ireturn, 1) := by decide +kernel
theorem dX9_addSample_41 : decode cX9_addSample 41 = .ok (.aload_n 2, 1) := by decide +kernel
theorem dX9_addSample_42 : decode cX9_addSample 42 = .ok (.aload_n 0, 1) := by decide +kernel
theorem dX9_addSample_43 : decode cX9_addSample 43 = .ok (.getfield 63, 3) := by decide +kernel
theorem dX9_addSample_46 : decode cX9_addSample 46 = .ok (.invokevirtual 187, 3) := by decide +kernel
theorem dX9_addSample_49 : decode cX9_addSample 49 = .ok (.aload_n 2, 1) := by decide +kernel
theorem dX9_addSample_50 : decode cX9_addSample 50 = .ok (.getfield 116, 3) := by decide +kernel
theorem dX9_addSample_53 : decode cX9_addSample 53 = .ok (.iconst 1, 1) := by decide +kernel
theorem dX9_addSample_54 : decode cX9_addSample 54 = .ok (.isub, 1) := by decide +kernel
theorem dX9_addSample_55 : decode cX9_addSample 55 = .ok (.ireturn, 1) := by decide +kernel
theorem dX9_removeSample_0 : decode cX9_removeSample 0 = .ok (.aload_n 0, 1) := by decide +kernel
theorem dX9_removeSample_1 : decode cX9_removeSample 1 = .ok (.iload_n 1, 1) := by decide +kernel
theorem dX9_removeSample_2 : decode cX9_removeSample 2 = .ok (.iload_n 2, 1) := by decide +kernel
theorem dX9_removeSample_3 : decode cX9_removeSample 3 = .ok (.invokevirtual 190, 3) := by decide +kernel
theorem dX9_removeSample_6 : decode cX9_removeSample 6 = .ok (.ifCond .ne 6, 3) := by decide +kernel
theorem dX9_removeSample_9 : decode cX9_removeSample 9 = .ok (.bipush (-2), 2) := by decide +kernel
theorem dX9_removeSample_11 : decode cX9_removeSample 11 = .ok (.ireturn, 1) := by decide +kernel
theorem dX9_removeSample_12 : decode cX9_removeSample 12 = .ok (.aload_n 0, 1) := by decide +kernel
theorem dX9_removeSample_13 : decode cX9_removeSample 13 = .ok (.getfield 32, 3) := by decide +kernel
theorem dX9_removeSample_16 : decode cX9_removeSample 16 = .ok (.iload_n 1, 1) := by decide +kernel
theorem dX9_removeSample_17 : decode cX9_removeSample 17 = .ok (.aaload, 1) := by decide +kernel
theorem dX9_removeSample_18 : decode cX9_removeSample 18 = .ok (.getfield 184, 3) := by decide +kernel
theorem dX9_removeSample_21 : decode cX9_removeSample 21 = .ok (.astore_n 3, 1) := by decide +kernel
theorem dX9_removeSample_22 : decode cX9_removeSample 22 = .ok (.aload_n 3, 1) := by decide +kernel
theorem dX9_removeSample_23 : decode cX9_removeSample 23 = .ok (.iload_n 2, 1) := by decide +kernel
theorem dX9_removeSample_24 : decode cX9_removeSample 24 = .ok (.invokevirtual 150, 3) := by decide +kernel
theorem dX9_removeSample_27 : decode cX9_removeSample 27 = .ok (.aload_n 3, 1) := by decide +kernel
theorem dX9_removeSample_28 : decode cX9_removeSample 28 = .ok (.getfield 116, 3) := by decide +kernel
theorem dX9_removeSample_31 : decode cX9_removeSample 31 = .ok (.ireturn, 1) := by decide +kernel
theorem dX9_recall_0 : decode cX9_recall 0 = .ok (.aload_n 0, 1) := by decide +kernel
theorem dX9_recall_1 : decode cX9_recall 1 = .ok (.iload_n 1, 1) := by decide +kernel
theorem dX9_recall_2 : decode cX9_recall 2 = .ok (.iload_n 2, 1) := by decide +kernel
theorem dX9_recall_3 : decode cX9_recall 3 = .ok (.invokevirtual 190, 3) := by decide +kernel
theorem dX9_recall_6 : decode cX9_recall 6 = .ok (.ifCond .ne 6, 3) := by decide +kernel
theorem dX9_recall_9 : decode cX9_recall 9 = .ok (.bipush (-2), 2) := by decide +kernel
theorem dX9_recall_11 : decode cX9_recall 11 = .ok (.ireturn, 1) := by decide +kernel
theorem dX9_recall_12 : decode cX9_recall 12 = .ok (.aload_n 0, 1) := by decide +kernel
theorem dX9_recall_13 : decode cX9_recall 13 = .ok (.aload_n 0, 1) := by decide +kernel
theorem dX9_recall_14 : decode cX9_recall 14 = .ok (.getfield 32, 3) := by decide +kernel
theorem dX9_recall_17 : decode cX9_recall 17 = .ok (.iload_n 1, 1) := by decide +kernel
theorem dX9_recall_18 : decode cX9_recall 18 = .ok (.aaload, 1) := by decide +kernel
theorem dX9_recall_19 : decode cX9_recall 19 = .ok (.getfield 184, 3) := by decide +kernel
theorem dX9_recall_22 : decode cX9_recall 22 = .ok (.iload_n 2, 1) := by decide +kernel
theorem dX9_recall_23 : decode cX9_recall 23 = .ok (.invokevirtual 193, 3) := by decide +kernel
theorem dX9_recall_26 : decode cX9_recall 26 = .ok (.putfield 63, 3) := by decide +kernel
theorem dX9_recall_29 : decode cX9_recall 29 = .ok (.aload_n 0, 1) := by decide +kernel
theorem dX9_recall_30 : decode cX9_recall 30 = .ok (.iconst 1, 1) := by decide +kernel
theorem dX9_recall_31 : decode cX9_recall 31 = .ok (.putfield 91, 3) := by decide +kernel
theorem dX9_recall_34 : decode cX9_recall 34 = .ok (.aload_n 0, 1) := by decide +kernel
theorem dX9_recall_35 : decode cX9_recall 35 = .ok (.getfield 63, 3) := by decide +kernel
theorem dX9_recall_38 : decode cX9_recall 38 = .ok (.getfield 197, 3) := by decide +kernel
theorem dX9_recall_41 : decode cX9_recall 41 = .ok (.ireturn, 1) := by decide +kernel
theorem dX9_sampleCount_0 : decode cX9_sampleCount 0 = .ok (.aload_n 0, 1) := by decide +kernel
theorem dX9_sampleCount_1 : decode cX9_sampleCount 1 = .ok (.iload_n 1, 1) := by decide +kernel
theorem dX9_sampleCount_2 : decode cX9_sampleCount 2 = .ok (.invokevirtual 181, 3) := by decide +kernel
theorem dX9_sampleCount_5 : decode cX9_sampleCount 5 = .ok (.ifCond .eq 18, 3) := by decide +kernel
theorem dX9_sampleCount_8 : decode cX9_sampleCount 8 = .ok (.aload_n 0, 1) := by decide +kernel
theorem dX9_sampleCount_9 : decode cX9_sampleCount 9 = .ok (.getfield 32, 3) := by decide +kernel
theorem dX9_sampleCount_12 : decode cX9_sampleCount 12 = .ok (.iload_n 1, 1) := by decide +kernel
theorem dX9_sampleCount_13 : decode cX9_sampleCount 13 = .ok (.aaload, 1) := by decide +kernel
theorem dX9_sampleCount_14 : decode cX9_sampleCount 14 = .ok (.getfield 184, 3) := by decide +kernel
theorem dX9_sampleCount_17 : decode cX9_sampleCount 17 = .ok (.getfield 116, 3) := by decide +kernel
theorem dX9_sampleCount_20 : decode cX9_sampleCount 20 = .ok (.goto 5, 3) := by decide +kernel
theorem dX9_sampleCount_23 : decode cX9_sampleCount 23 = .ok (.bipush (-2), 2) := by decide +kernel
theorem dX9_sampleCount_25 : decode cX9_sampleCount 25 = .ok (.ireturn, 1) := by decide +kernel
theorem dX9_distance_0 : decode cX9_distance 0 = .ok (.aload_n 0, 1) := by decide +kernel
theorem dX9_distance_1 : decode cX9_distance 1 = .ok (.iload_n 1, 1) := by decide +kernel
theorem dX9_distance_2 : decode cX9_distance 2 = .ok (.invokevirtual 181, 3) := by decide +kernel
theorem dX9_distance_5 : decode cX9_distance 5 = .ok (.ifCond .ne 6, 3) := by decide +kernel
theorem dX9_distance_8 : decode cX9_distance 8 = .ok (.bipush (-2), 2) := by decide +kernel
theorem dX9_distance_10 : decode cX9_distance 10 = .ok (.ireturn, 1) := by decide +kernel
theorem dX9_distance_11 : decode cX9_distance 11 = .ok (.aload_n 0, 1) := by decide +kernel
theorem dX9_distance_12 : decode cX9_distance 12 = .ok (.getfield 91, 3) := by decide +kernel
theorem dX9_distance_15 : decode cX9_distance 15 = .ok (.ifCond .ne 6, 3) := by decide +kernel
theorem dX9_distance_18 : decode cX9_distance 18 = .ok (.bipush (-5), 2) := by decide +kernel
theorem dX9_distance_20 : decode cX9_distance 20 = .ok (.ireturn, 1) := by decide +kernel
theorem dX9_distance_21 : decode cX9_distance 21 = .ok (.aload_n 0, 1) := by decide +kernel
theorem dX9_distance_22 : decode cX9_distance 22 = .ok (.invokevirtual 200, 3) := by decide +kernel
theorem dX9_distance_25 : decode cX9_distance 25 = .ok (.aload_n 0, 1) := by decide +kernel
theorem dX9_distance_26 : decode cX9_distance 26 = .ok (.aload_n 0, 1) := by decide +kernel
theorem dX9_distance_27 : decode cX9_distance 27 = .ok (.getfield 59, 3) := by decide +kernel
theorem dX9_distance_30 : decode cX9_distance 30 = .ok (.iload_n 1, 1) := by decide +kernel
theorem dX9_distance_31 : decode cX9_distance 31 = .ok (.invokevirtual 203, 3) := by decide +kernel
theorem dX9_distance_34 : decode cX9_distance 34 = .ok (.ireturn, 1) := by decide +kernel
theorem dX9_nearestClass_0 : decode cX9_nearestClass 0 = .ok (.aload_n 0, 1) := by decide +kernel
theorem dX9_nearestClass_1 : decode cX9_nearestClass 1 = .ok (.getfield 91, 3) := by decide +kernel
theorem dX9_nearestClass_4 : decode cX9_nearestClass 4 = .ok (.ifCond .ne 6, 3) := by decide +kernel
theorem dX9_nearestClass_7 : decode cX9_nearestClass 7 = .ok (.bipush (-5), 2) := by decide +kernel
theorem dX9_nearestClass_9 : decode cX9_nearestClass 9 = .ok (.ireturn, 1) := by decide +kernel
theorem dX9_nearestClass_10 : decode cX9_nearestClass 10 = .ok (.aload_n 0, 1) := by decide +kernel
theorem dX9_nearestClass_11 : decode cX9_nearestClass 11 = .ok (.invokevirtual 200, 3) := by decide +kernel
theorem dX9_nearestClass_14 : decode cX9_nearestClass 14 = .ok (.aload_n 0, 1) := by decide +kernel
theorem dX9_nearestClass_15 : decode cX9_nearestClass 15 = .ok (.aload_n 0, 1) := by decide +kernel
theorem dX9_nearestClass_16 : decode cX9_nearestClass 16 = .ok (.getfield 59, 3) := by decide +kernel
theorem dX9_nearestClass_19 : decode cX9_nearestClass 19 = .ok (.iconst (-1), 1) := by decide +kernel
theorem dX9_nearestClass_20 : decode cX9_nearestClass 20 = .ok (.invokevirtual 207, 3) := by decide +kernel
theorem dX9_nearestClass_23 : decode cX9_nearestClass 23 = .ok (.ireturn, 1) := by decide +kernel
theorem dX9_runnerUp_0 : decode cX9_runnerUp 0 = .ok (.aload_n 0, 1) := by decide +kernel
theorem dX9_runnerUp_1 : decode cX9_runnerUp 1 = .ok (.getfield 91, 3) := by decide +kernel
theorem dX9_runnerUp_4 : decode cX9_runnerUp 4 = .ok (.ifCond .ne 6, 3) := by decide +kernel
theorem dX9_runnerUp_7 : decode cX9_runnerUp 7 = .ok (.bipush (-5), 2) := by decide +kernel
theorem dX9_runnerUp_9 : decode cX9_runnerUp 9 = .ok (.ireturn, 1) := by decide +kernel
theorem dX9_runnerUp_10 : decode cX9_runnerUp 10 = .ok (.aload_n 0, 1) := by decide +kernel
theorem dX9_runnerUp_11 : decode cX9_runnerUp 11 = .ok (.invokevirtual 200, 3) := by decide +kernel
theorem dX9_runnerUp_14 : decode cX9_runnerUp 14 = .ok (.aload_n 0, 1) := by decide +kernel
theorem dX9_runnerUp_15 : decode cX9_runnerUp 15 = .ok (.aload_n 0, 1) := by decide +kernel
theorem dX9_runnerUp_16 : decode cX9_runnerUp 16 = .ok (.getfield 59, 3) := by decide +kernel
theorem dX9_runnerUp_19 : decode cX9_runnerUp 19 = .ok (.aload_n 0, 1) := by decide +kernel
theorem dX9_runnerUp_20 : decode cX9_runnerUp 20 = .ok (.aload_n 0, 1) := by decide +kernel
theorem dX9_runnerUp_21 : decode cX9_runnerUp 21 = .ok (.getfield 59, 3) := by decide +kernel
theorem dX9_runnerUp_24 : decode cX9_runnerUp 24 = .ok (.iconst (-1), 1) := by decide +kernel
theorem dX9_runnerUp_25 : decode cX9_runnerUp 25 = .ok (.invokevirtual 207, 3) := by decide +kernel
theorem dX9_runnerUp_28 : decode cX9_runnerUp 28 = .ok (.invokevirtual 207, 3) := by decide +kernel
theorem dX9_runnerUp_31 : decode cX9_runnerUp 31 = .ok (.ireturn, 1) := by decide +kernel
theorem dX9_radius_0 : decode cX9_radius 0 = .ok (.aload_n 0, 1) := by decide +kernel
theorem dX9_radius_1 : decode cX9_radius 1 = .ok (.iload_n 1, 1) := by decide +kernel
theorem dX9_radius_2 : decode cX9_radius 2 = .ok (.invokevirtual 181, 3) := by decide +kernel
theorem dX9_radius_5 : decode cX9_radius 5 = .ok (.ifCond .ne 6, 3) := by decide +kernel
theorem dX9_radius_8 : decode cX9_radius 8 = .ok (.bipush (-2), 2) := by decide +kernel
theorem dX9_radius_10 : decode cX9_radius 10 = .ok (.ireturn, 1) := by decide +kernel
theorem dX9_radius_11 : decode cX9_radius 11 = .ok (.aload_n 0, 1) := by decide +kernel
theorem dX9_radius_12 : decode cX9_radius 12 = .ok (.invokevirtual 200, 3) := by decide +kernel
theorem dX9_radius_15 : decode cX9_radius 15 = .ok (.aload_n 0, 1) := by decide +kernel
theorem dX9_radius_16 : decode cX9_radius 16 = .ok (.iload_n 1, 1) := by decide +kernel
theorem dX9_radius_17 : decode cX9_radius 17 = .ok (.invokevirtual 210, 3) := by decide +kernel
theorem dX9_radius_20 : decode cX9_radius 20 = .ok (.ireturn, 1) := by decide +kernel
theorem dX9_setMargin_0 : decode cX9_setMargin 0 = .ok (.iload_n 1, 1) := by decide +kernel
theorem dX9_setMargin_1 : decode cX9_setMargin 1 = .ok (.iconst 0, 1) := by decide +kernel
theorem dX9_setMargin_2 : decode cX9_setMargin 2 = .ok (.sipush 400, 3) := by decide +kernel
theorem dX9_setMargin_5 : decode cX9_setMargin 5 = .ok (.invokestatic 71, 3) := by decide +kernel
theorem dX9_setMargin_8 : decode cX9_setMargin 8 = .ok (.ifCond .ne 6, 3) := by decide +kernel
theorem dX9_setMargin_11 : decode cX9_setMargin 11 = .ok (.bipush (-3), 2) := by decide +kernel
theorem dX9_setMargin_13 : decode cX9_setMargin 13 = .ok (.ireturn, 1) := by decide +kernel
theorem dX9_setMargin_14 : decode cX9_setMargin 14 = .ok (.aload_n 0, 1) := by decide +kernel
theorem dX9_setMargin_15 : decode cX9_setMargin 15 = .ok (.getfield 214, 3) := by decide +kernel
theorem dX9_setMargin_18 : decode cX9_setMargin 18 = .ok (.istore_n 2, 1) := by decide +kernel
theorem dX9_setMargin_19 : decode cX9_setMargin 19 = .ok (.aload_n 0, 1) := by decide +kernel
theorem dX9_setMargin_20 : decode cX9_setMargin 20 = .ok (.iload_n 1, 1) := by decide +kernel
theorem dX9_setMargin_21 : decode cX9_setMargin 21 = .ok (.putfield 214, 3) := by decide +kernel
theorem dX9_setMargin_24 : decode cX9_setMargin 24 = .ok (.iload_n 2, 1) := by decide +kernel
theorem dX9_setMargin_25 : decode cX9_setMargin 25 = .ok (.ireturn, 1) := by decide +kernel
theorem dX9_setSlack_0 : decode cX9_setSlack 0 = .ok (.iload_n 1, 1) := by decide +kernel
theorem dX9_setSlack_1 : decode cX9_setSlack 1 = .ok (.iconst 0, 1) := by decide +kernel
theorem dX9_setSlack_2 : decode cX9_setSlack 2 = .ok (.ldc 171, 2) := by decide +kernel
theorem dX9_setSlack_4 : decode cX9_setSlack 4 = .ok (.invokestatic 71, 3) := by decide +kernel
theorem dX9_setSlack_7 : decode cX9_setSlack 7 = .ok (.ifCond .ne 6, 3) := by decide +kernel
theorem dX9_setSlack_10 : decode cX9_setSlack 10 = .ok (.bipush (-3), 2) := by decide +kernel
theorem dX9_setSlack_12 : decode cX9_setSlack 12 = .ok (.ireturn, 1) := by decide +kernel
theorem dX9_setSlack_13 : decode cX9_setSlack 13 = .ok (.aload_n 0, 1) := by decide +kernel
theorem dX9_setSlack_14 : decode cX9_setSlack 14 = .ok (.getfield 217, 3) := by decide +kernel
theorem dX9_setSlack_17 : decode cX9_setSlack 17 = .ok (.istore_n 2, 1) := by decide +kernel
theorem dX9_setSlack_18 : decode cX9_setSlack 18 = .ok (.aload_n 0, 1) := by decide +kernel
theorem dX9_setSlack_19 : decode cX9_setSlack 19 = .ok (.iload_n 1, 1) := by decide +kernel
theorem dX9_setSlack_20 : decode cX9_setSlack 20 = .ok (.putfield 217, 3) := by decide +kernel
theorem dX9_setSlack_23 : decode cX9_setSlack 23 = .ok (.iload_n 2, 1) := by decide +kernel
theorem dX9_setSlack_24 : decode cX9_setSlack 24 = .ok (.ireturn, 1) := by decide +kernel
theorem dX9_classify_0 : decode cX9_classify 0 = .ok (.aload_n 0, 1) := by decide +kernel
theorem dX9_classify_1 : decode cX9_classify 1 = .ok (.getfield 91, 3) := by decide +kernel
theorem dX9_classify_4 : decode cX9_classify 4 = .ok (.ifCond .ne 6, 3) := by decide +kernel
theorem dX9_classify_7 : decode cX9_classify 7 = .ok (.bipush (-5), 2) := by decide +kernel
theorem dX9_classify_9 : decode cX9_classify 9 = .ok (.ireturn, 1) := by decide +kernel
theorem dX9_classify_10 : decode cX9_classify 10 = .ok (.aload_n 0, 1) := by decide +kernel
theorem dX9_classify_11 : decode cX9_classify 11 = .ok (.invokevirtual 200, 3) := by decide +kernel
theorem dX9_classify_14 : decode cX9_classify 14 = .ok (.aload_n 0, 1) := by decide +kernel
theorem dX9_classify_15 : decode cX9_classify 15 = .ok (.aload_n 0, 1) := by decide +kernel
theorem dX9_classify_16 : decode cX9_classify 16 = .ok (.getfield 59, 3) := by decide +kernel
theorem dX9_classify_19 : decode cX9_classify 19 = .ok (.iconst (-1), 1) := by decide +kernel
theorem dX9_classify_20 : decode cX9_classify 20 = .ok (.invokevirtual 207, 3) := by decide +kernel
theorem dX9_classify_23 : decode cX9_classify 23 = .ok (.istore_n 1, 1) := by decide +kernel
theorem dX9_classify_24 : decode cX9_classify 24 = .ok (.iload_n 1, 1) := by decide +kernel
theorem dX9_classify_25 : decode cX9_classify 25 = .ok (.iconst (-1), 1) := by decide +kernel
theorem dX9_classify_26 : decode cX9_classify 26 = .ok (.if_icmp .ne 5, 3) := by decide +kernel
theorem dX9_classify_29 : decode cX9_classify 29 = .ok (.iconst (-1), 1) := by decide +kernel
theorem dX9_classify_30 : decode cX9_classify 30 = .ok (.ireturn, 1) := by decide +kernel
theorem dX9_classify_31 : decode cX9_classify 31 = .ok (.aload_n 0, 1) := by decide +kernel
theorem dX9_classify_32 : decode cX9_classify 32 = .ok (.aload_n 0, 1) := by decide +kernel
theorem dX9_classify_33 : decode cX9_classify 33 = .ok (.getfield 59, 3) := by decide +kernel
theorem dX9_classify_36 : decode cX9_classify 36 = .ok (.iload_n 1, 1) := by decide +kernel
theorem dX9_classify_37 : decode cX9_classify 37 = .ok (.invokevirtual 203, 3) := by decide +kernel
theorem dX9_classify_40 : decode cX9_classify 40 = .ok (.aload_n 0, 1) := by decide +kernel
theorem dX9_classify_41 : decode cX9_classify 41 = .ok (.iload_n 1, 1) := by decide +kernel
theorem dX9_classify_42 : decode cX9_classify 42 = .ok (.invokevirtual 210, 3) := by decide +kernel
theorem dX9_classify_45 : decode cX9_classify 45 = .ok (.if_icmp .gt 7, 3) := by decide +kernel
theorem dX9_classify_48 : decode cX9_classify 48 = .ok (.iload_n 1, 1) := by decide +kernel
theorem dX9_classify_49 : decode cX9_classify 49 = .ok (.goto 5, 3) := by decide +kernel
theorem dX9_classify_52 : decode cX9_classify 52 = .ok (.bipush (-6), 2) := by decide +kernel
theorem dX9_classify_54 : decode cX9_classify 54 = .ok (.ireturn, 1) := by decide +kernel
theorem dX9_classDistance_0 : decode cX9_classDistance 0 = .ok (.aload_n 0, 1) := by decide +kernel
theorem dX9_classDistance_1 : decode cX9_classDistance 1 = .ok (.iload_n 1, 1) := by decide +kernel
theorem dX9_classDistance_2 : decode cX9_classDistance 2 = .ok (.invokevirtual 181, 3) := by decide +kernel
theorem dX9_classDistance_5 : decode cX9_classDistance 5 = .ok (.ifCond .eq 11, 3) := by decide +kernel
theorem dX9_classDistance_8 : decode cX9_classDistance 8 = .ok (.aload_n 0, 1) := by decide +kernel
theorem dX9_classDistance_9 : decode cX9_classDistance 9 = .ok (.iload_n 2, 1) := by decide +kernel
theorem dX9_classDistance_10 : decode cX9_classDistance 10 = .ok (.invokevirtual 181, 3) := by decide +kernel
theorem dX9_classDistance_13 : decode cX9_classDistance 13 = .ok (.ifCond .ne 6, 3) := by decide +kernel
theorem dX9_classDistance_16 : decode cX9_classDistance 16 = .ok (.bipush (-2), 2) := by decide +kernel
theorem dX9_classDistance_18 : decode cX9_classDistance 18 = .ok (.ireturn, 1) := by decide +kernel
theorem dX9_classDistance_19 : decode cX9_classDistance 19 = .ok (.aload_n 0, 1) := by decide +kernel
theorem dX9_classDistance_20 : decode cX9_classDistance 20 = .ok (.invokevirtual 200, 3) := by decide +kernel
theorem dX9_classDistance_23 : decode cX9_classDistance 23 = .ok (.aload_n 0, 1) := by decide +kernel
theorem dX9_classDistance_24 : decode cX9_classDistance 24 = .ok (.iload_n 1, 1) := by decide +kernel
theorem dX9_classDistance_25 : decode cX9_classDistance 25 = .ok (.iload_n 2, 1) := by decide +kernel
theorem dX9_classDistance_26 : decode cX9_classDistance 26 = .ok (.invokevirtual 220, 3) := by decide +kernel
theorem dX9_classDistance_29 : decode cX9_classDistance 29 = .ok (.ireturn, 1) := by decide +kernel
theorem dX9_closestClasses_0 : decode cX9_closestClasses 0 = .ok (.aload_n 0, 1) := by decide +kernel
theorem dX9_closestClasses_1 : decode cX9_closestClasses 1 = .ok (.invokevirtual 200, 3) := by decide +kernel
theorem dX9_closestClasses_4 : decode cX9_closestClasses 4 = .ok (.aload_n 0, 1) := by decide +kernel
theorem dX9_closestClasses_5 : decode cX9_closestClasses 5 = .ok (.iconst 0, 1) := by decide +kernel
theorem dX9_closestClasses_6 : decode cX9_closestClasses 6 = .ok (.invokevirtual 223, 3) := by decide +kernel
theorem dX9_closestClasses_9 : decode cX9_closestClasses 9 = .ok (.ifCond .eq 13, 3) := by decide +kernel
theorem dX9_closestClasses_12 : decode cX9_closestClasses 12 = .ok (.aload_n 0, 1) := by decide +kernel
theorem dX9_closestClasses_13 : decode cX9_closestClasses 13 = .ok (.getfield 46, 3) := by decide +kernel
theorem dX9_closestClasses_16 : decode cX9_closestClasses 16 = .ok (.invokevirtual 226, 3) := by decide +kernel
theorem dX9_closestClasses_19 : decode cX9_closestClasses 19 = .ok (.goto 4, 3) := by decide +kernel
theorem dX9_closestClasses_22 : decode cX9_closestClasses 22 = .ok (.iconst (-1), 1) := by decide +kernel
theorem dX9_closestClasses_23 : decode cX9_closestClasses 23 = .ok (.ireturn, 1) := by decide +kernel
theorem dX9_suspectSensor_0 : decode cX9_suspectSensor 0 = .ok (.aload_n 0, 1) := by decide +kernel
theorem dX9_suspectSensor_1 : decode cX9_suspectSensor 1 = .ok (.getfield 91, 3) := by decide +kernel
theorem dX9_suspectSensor_4 : decode cX9_suspectSensor 4 = .ok (.ifCond .ne 6, 3) := by decide +kernel
theorem dX9_suspectSensor_7 : decode cX9_suspectSensor 7 = .ok (.bipush (-5), 2) := by decide +kernel
theorem dX9_suspectSensor_9 : decode cX9_suspectSensor 9 = .ok (.ireturn, 1) := by decide +kernel
theorem dX9_suspectSensor_10 : decode cX9_suspectSensor 10 = .ok (.aload_n 0, 1) := by decide +kernel
theorem dX9_suspectSensor_11 : decode cX9_suspectSensor 11 = .ok (.invokevirtual 200, 3) := by decide +kernel
theorem dX9_suspectSensor_14 : decode cX9_suspectSensor 14 = .ok (.iconst (-1), 1) := by decide +kernel
theorem dX9_suspectSensor_15 : decode cX9_suspectSensor 15 = .ok (.istore_n 1, 1) := by decide +kernel
theorem dX9_suspectSensor_16 : decode cX9_suspectSensor 16 = .ok (.iconst 0, 1) := by decide +kernel
theorem dX9_suspectSensor_17 : decode cX9_suspectSensor 17 = .ok (.istore_n 2, 1) := by decide +kernel
theorem dX9_suspectSensor_18 : decode cX9_suspectSensor 18 = .ok (.iconst 0, 1) := by decide +kernel
theorem dX9_suspectSensor_19 : decode cX9_suspectSensor 19 = .ok (.istore_n 3, 1) := by decide +kernel
theorem dX9_suspectSensor_20 : decode cX9_suspectSensor 20 = .ok (.iload_n 3, 1) := by decide +kernel
theorem dX9_suspectSensor_21 : decode cX9_suspectSensor 21 = .ok (.aload_n 0, 1) := by decide +kernel
theorem dX9_suspectSensor_22 : decode cX9_suspectSensor 22 = .ok (.getfield 12, 3) := by decide +kernel
theorem dX9_suspectSensor_25 : decode cX9_suspectSensor 25 = .ok (.getfield 75, 3) := by decide +kernel
theorem dX9_suspectSensor_28 : decode cX9_suspectSensor 28 = .ok (.if_icmp .ge 71, 3) := by decide +kernel
theorem dX9_suspectSensor_31 : decode cX9_suspectSensor 31 = .ok (.aload_n 0, 1) := by decide +kernel
theorem dX9_suspectSensor_32 : decode cX9_suspectSensor 32 = .ok (.getfield 26, 3) := by decide +kernel
theorem dX9_suspectSensor_35 : decode cX9_suspectSensor 35 = .ok (.aload_n 0, 1) := by decide +kernel
theorem dX9_suspectSensor_36 : decode cX9_suspectSensor 36 = .ok (.getfield 19, 3) := by decide +kernel
theorem dX9_suspectSensor_39 : decode cX9_suspectSensor 39 = .ok (.iload_n 3, 1) := by decide +kernel
theorem dX9_suspectSensor_40 : decode cX9_suspectSensor 40 = .ok (.invokestatic 229, 3) := by decide +kernel
theorem dX9_suspectSensor_43 : decode cX9_suspectSensor 43 = .ok (.invokevirtual 232, 3) := by decide +kernel
theorem dX9_suspectSensor_46 : decode cX9_suspectSensor 46 = .ok (.aload_n 0, 1) := by decide +kernel
theorem dX9_suspectSensor_47 : decode cX9_suspectSensor 47 = .ok (.aload_n 0, 1) := by decide +kernel
theorem dX9_suspectSensor_48 : decode cX9_suspectSensor 48 = .ok (.getfield 59, 3) := by decide +kernel
theorem dX9_suspectSensor_51 : decode cX9_suspectSensor 51 = .ok (.iconst (-1), 1) := by decide +kernel
theorem dX9_suspectSensor_52 : decode cX9_suspectSensor 52 = .ok (.invokevirtual 207, 3) := by decide +kernel
theorem dX9_suspectSensor_55 : decode cX9_suspectSensor 55 = .ok (.istore 4, 2) := by decide +kernel
theorem dX9_suspectSensor_57 : decode cX9_suspectSensor 57 = .ok (.iload 4, 2) := by decide +kernel
theorem dX9_suspectSensor_59 : decode cX9_suspectSensor 59 = .ok (.iconst (-1), 1) := by decide +kernel
theorem dX9_suspectSensor_60 : decode cX9_suspectSensor 60 = .ok (.if_icmp .ne 5, 3) := by decide +kernel
theorem dX9_suspectSensor_63 : decode cX9_suspectSensor 63 = .ok (.iconst (-1), 1) := by decide +kernel
theorem dX9_suspectSensor_64 : decode cX9_suspectSensor 64 = .ok (.ireturn, 1) := by decide +kernel
theorem dX9_suspectSensor_65 : decode cX9_suspectSensor 65 = .ok (.aload_n 0, 1) := by decide +kernel
theorem dX9_suspectSensor_66 : decode cX9_suspectSensor 66 = .ok (.aload_n 0, 1) := by decide +kernel
theorem dX9_suspectSensor_67 : decode cX9_suspectSensor 67 = .ok (.getfield 59, 3) := by decide +kernel
theorem dX9_suspectSensor_70 : decode cX9_suspectSensor 70 = .ok (.iload 4, 2) := by decide +kernel
theorem dX9_suspectSensor_72 : decode cX9_suspectSensor 72 = .ok (.invokevirtual 203, 3) := by decide +kernel
theorem dX9_suspectSensor_75 : decode cX9_suspectSensor 75 = .ok (.istore 5, 2) := by decide +kernel
theorem dX9_suspectSensor_77 : decode cX9_suspectSensor 77 = .ok (.iload_n 1, 1) := by decide +kernel
theorem dX9_suspectSensor_78 : decode cX9_suspectSensor 78 = .ok (.iconst (-1), 1) := by decide +kernel
theorem dX9_suspectSensor_79 : decode cX9_suspectSensor 79 = .ok (.if_icmp .eq 9, 3) := by decide +kernel
theorem dX9_suspectSensor_82 : decode cX9_suspectSensor 82 = .ok (.iload 5, 2) := by decide +kernel
theorem dX9_suspectSensor_84 : decode cX9_suspectSensor 84 = .ok (.iload_n 2, 1) := by decide +kernel
theorem dX9_suspectSensor_85 : decode cX9_suspectSensor 85 = .ok (.if_icmp .ge 8, 3) := by decide +kernel
theorem dX9_suspectSensor_88 : decode cX9_suspectSensor 88 = .ok (.iload_n 3, 1) := by decide +kernel
theorem dX9_suspectSensor_89 : decode cX9_suspectSensor 89 = .ok (.istore_n 1, 1) := by decide +kernel
theorem dX9_suspectSensor_90 : decode cX9_suspectSensor 90 = .ok (.iload 5, 2) := by decide +kernel
theorem dX9_suspectSensor_92 : decode cX9_suspectSensor 92 = .ok (.istore_n 2, 1) := by decide +kernel
theorem dX9_suspectSensor_93 : decode cX9_suspectSensor 93 = .ok (.iinc 3 1, 3) := by decide +kernel
theorem dX9_suspectSensor_96 : decode cX9_suspectSensor 96 = .ok (.goto (-76), 3) := by decide +kernel
theorem dX9_suspectSensor_99 : decode cX9_suspectSensor 99 = .ok (.iload_n 1, 1) := by decide +kernel
theorem dX9_suspectSensor_100 : decode cX9_suspectSensor 100 = .ok (.ireturn, 1) := by decide +kernel
theorem dX9_joinedGroups_0 : decode cX9_joinedGroups 0 = .ok (.iload_n 1, 1) := by decide +kernel
theorem dX9_joinedGroups_1 : decode cX9_joinedGroups 1 = .ok (.ifCond .ge 6, 3) := by decide +kernel
theorem dX9_joinedGroups_4 : decode cX9_joinedGroups 4 = .ok (.bipush (-3), 2) := by decide +kernel
theorem dX9_joinedGroups_6 : decode cX9_joinedGroups 6 = .ok (.ireturn, 1) := by decide +kernel
theorem dX9_joinedGroups_7 : decode cX9_joinedGroups 7 = .ok (.aload_n 0, 1) := by decide +kernel
theorem dX9_joinedGroups_8 : decode cX9_joinedGroups 8 = .ok (.invokevirtual 200, 3) := by decide +kernel
theorem dX9_joinedGroups_11 : decode cX9_joinedGroups 11 = .ok (.aload_n 0, 1) := by decide +kernel
theorem dX9_joinedGroups_12 : decode cX9_joinedGroups 12 = .ok (.iload_n 1, 1) := by decide +kernel
theorem dX9_joinedGroups_13 : decode cX9_joinedGroups 13 = .ok (.invokevirtual 223, 3) := by decide +kernel
theorem dX9_joinedGroups_16 : decode cX9_joinedGroups 16 = .ok (.ifCond .eq 13, 3) := by decide +kernel
theorem dX9_joinedGroups_19 : decode cX9_joinedGroups 19 = .ok (.aload_n 0, 1) := by decide +kernel
theorem dX9_joinedGroups_20 : decode cX9_joinedGroups 20 = .ok (.getfield 46, 3) := by decide +kernel
theorem dX9_joinedGroups_23 : decode cX9_joinedGroups 23 = .ok (.invokevirtual 226, 3) := by decide +kernel
theorem dX9_joinedGroups_26 : decode cX9_joinedGroups 26 = .ok (.goto 4, 3) := by decide +kernel
theorem dX9_joinedGroups_29 : decode cX9_joinedGroups 29 = .ok (.iconst (-1), 1) := by decide +kernel
theorem dX9_joinedGroups_30 : decode cX9_joinedGroups 30 = .ok (.ireturn, 1) := by decide +kernel
theorem dX9_joinDistance_0 : decode cX9_joinDistance 0 = .ok (.iload_n 1, 1) := by decide +kernel
theorem dX9_joinDistance_1 : decode cX9_joinDistance 1 = .ok (.ifCond .ge 6, 3) := by decide +kernel
theorem dX9_joinDistance_4 : decode cX9_joinDistance 4 = .ok (.bipush (-3), 2) := by decide +kernel
theorem dX9_joinDistance_6 : decode cX9_joinDistance 6 = .ok (.ireturn, 1) := by decide +kernel
theorem dX9_joinDistance_7 : decode cX9_joinDistance 7 = .ok (.aload_n 0, 1) := by decide +kernel
theorem dX9_joinDistance_8 : decode cX9_joinDistance 8 = .ok (.invokevirtual 200, 3) := by decide +kernel
theorem dX9_joinDistance_11 : decode cX9_joinDistance 11 = .ok (.aload_n 0, 1) := by decide +kernel
theorem dX9_joinDistance_12 : decode cX9_joinDistance 12 = .ok (.iload_n 1, 1) := by decide +kernel
theorem dX9_joinDistance_13 : decode cX9_joinDistance 13 = .ok (.invokevirtual 223, 3) := by decide +kernel
theorem dX9_joinDistance_16 : decode cX9_joinDistance 16 = .ok (.ifCond .eq 13, 3) := by decide +kernel
theorem dX9_joinDistance_19 : decode cX9_joinDistance 19 = .ok (.aload_n 0, 1) := by decide +kernel
theorem dX9_joinDistance_20 : decode cX9_joinDistance 20 = .ok (.getfield 46, 3) := by decide +kernel
theorem dX9_joinDistance_23 : decode cX9_joinDistance 23 = .ok (.getfield 236, 3) := by decide +kernel
theorem dX9_joinDistance_26 : decode cX9_joinDistance 26 = .ok (.goto 4, 3) := by decide +kernel
theorem dX9_joinDistance_29 : decode cX9_joinDistance 29 = .ok (.iconst (-1), 1) := by decide +kernel
theorem dX9_joinDistance_30 : decode cX9_joinDistance 30 = .ok (.ireturn, 1) := by decide +kernel
theorem dX9_nearestSample_0 : decode cX9_nearestSample 0 = .ok (.iload_n 1, 1) := by decide +kernel
theorem dX9_nearestSample_1 : decode cX9_nearestSample 1 = .ok (.ifCond .ge 6, 3) := by decide +kernel
theorem dX9_nearestSample_4 : decode cX9_nearestSample 4 = .ok (.bipush (-3), 2) := by decide +kernel
theorem dX9_nearestSample_6 : decode cX9_nearestSample 6 = .ok (.ireturn, 1) := by decide +kernel
theorem dX9_nearestSample_7 : decode cX9_nearestSample 7 = .ok (.aload_n 0, 1) := by decide +kernel
theorem dX9_nearestSample_8 : decode cX9_nearestSample 8 = .ok (.getfield 91, 3) := by decide +kernel
theorem dX9_nearestSample_11 : decode cX9_nearestSample 11 = .ok (.ifCond .ne 6, 3) := by decide +kernel
theorem dX9_nearestSample_14 : decode cX9_nearestSample 14 = .ok (.bipush (-5), 2) := by decide +kernel
theorem dX9_nearestSample_16 : decode cX9_nearestSample 16 = .ok (.ireturn, 1) := by decide +kernel
theorem dX9_nearestSample_17 : decode cX9_nearestSample 17 = .ok (.aload_n 0, 1) := by decide +kernel
theorem dX9_nearestSample_18 : decode cX9_nearestSample 18 = .ok (.invokevirtual 200, 3) := by decide +kernel
theorem dX9_nearestSample_21 : decode cX9_nearestSample 21 = .ok (.aload_n 0, 1) := by decide +kernel
theorem dX9_nearestSample_22 : decode cX9_nearestSample 22 = .ok (.invokevirtual 239, 3) := by decide +kernel
theorem dX9_nearestSample_25 : decode cX9_nearestSample 25 = .ok (.iload_n 1, 1) := by decide +kernel
theorem dX9_nearestSample_26 : decode cX9_nearestSample 26 = .ok (.aload_n 0, 1) := by decide +kernel
theorem dX9_nearestSample_27 : decode cX9_nearestSample 27 = .ok (.getfield 39, 3) := by decide +kernel
theorem dX9_nearestSample_30 : decode cX9_nearestSample 30 = .ok (.getfield 242, 3) := by decide +kernel
theorem dX9_nearestSample_33 : decode cX9_nearestSample 33 = .ok (.if_icmp .ge 15, 3) := by decide +kernel
theorem dX9_nearestSample_36 : decode cX9_nearestSample 36 = .ok (.aload_n 0, 1) := by decide +kernel
theorem dX9_nearestSample_37 : decode cX9_nearestSample 37 = .ok (.getfield 39, 3) := by decide +kernel
theorem dX9_nearestSample_40 : decode cX9_nearestSample 40 = .ok (.getfield 245, 3) := by decide +kernel
theorem dX9_nearestSample_43 : decode cX9_nearestSample 43 = .ok (.iload_n 1, 1) := by decide +kernel
theorem dX9_nearestSample_44 : decode cX9_nearestSample 44 = .ok (.iaload, 1) := by decide +kernel
theorem dX9_nearestSample_45 : decode cX9_nearestSample 45 = .ok (.goto 4, 3) := by decide +kernel
theorem dX9_nearestSample_48 : decode cX9_nearestSample 48 = .ok (.iconst (-1), 1) := by decide +kernel
theorem dX9_nearestSample_49 : decode cX9_nearestSample 49 = .ok (.ireturn, 1) := by decide +kernel
theorem dX9_vote_0 : decode cX9_vote 0 = .ok (.iload_n 1, 1) := by decide +kernel
theorem dX9_vote_1 : decode cX9_vote 1 = .ok (.iconst 1, 1) := by decide +kernel
theorem dX9_vote_2 : decode cX9_vote 2 = .ok (.bipush 64, 2) := by decide +kernel
theorem dX9_vote_4 : decode cX9_vote 4 = .ok (.invokestatic 71, 3) := by decide +kernel
theorem dX9_vote_7 : decode cX9_vote 7 = .ok (.ifCond .ne 6, 3) := by decide +kernel
theorem dX9_vote_10 : decode cX9_vote 10 = .ok (.bipush (-3), 2) := by decide +kernel
theorem dX9_vote_12 : decode cX9_vote 12 = .ok (.ireturn, 1) := by decide +kernel
theorem dX9_vote_13 : decode cX9_vote 13 = .ok (.aload_n 0, 1) := by decide +kernel
theorem dX9_vote_14 : decode cX9_vote 14 = .ok (.getfield 91, 3) := by decide +kernel
theorem dX9_vote_17 : decode cX9_vote 17 = .ok (.ifCond .ne 6, 3) := by decide +kernel
theorem dX9_vote_20 : decode cX9_vote 20 = .ok (.bipush (-5), 2) := by decide +kernel
theorem dX9_vote_22 : decode cX9_vote 22 = .ok (.ireturn, 1) := by decide +kernel
theorem dX9_vote_23 : decode cX9_vote 23 = .ok (.aload_n 0, 1) := by decide +kernel
theorem dX9_vote_24 : decode cX9_vote 24 = .ok (.invokevirtual 200, 3) := by decide +kernel
theorem dX9_vote_27 : decode cX9_vote 27 = .ok (.aload_n 0, 1) := by decide +kernel
theorem dX9_vote_28 : decode cX9_vote 28 = .ok (.invokevirtual 239, 3) := by decide +kernel
theorem dX9_vote_31 : decode cX9_vote 31 = .ok (.aload_n 0, 1) := by decide +kernel
theorem dX9_vote_32 : decode cX9_vote 32 = .ok (.getfield 39, 3) := by decide +kernel
theorem dX9_vote_35 : decode cX9_vote 35 = .ok (.iload_n 1, 1) := by decide +kernel
theorem dX9_vote_36 : decode cX9_vote 36 = .ok (.invokevirtual 248, 3) := by decide +kernel
theorem dX9_vote_39 : decode cX9_vote 39 = .ok (.ireturn, 1) := by decide +kernel
theorem dX9_leaveOneOut_0 : decode cX9_leaveOneOut 0 = .ok (.aload_n 0, 1) := by decide +kernel
theorem dX9_leaveOneOut_1 : decode cX9_leaveOneOut 1 = .ok (.iload_n 1, 1) := by decide +kernel
theorem dX9_leaveOneOut_2 : decode cX9_leaveOneOut 2 = .ok (.iload_n 2, 1) := by decide +kernel
theorem dX9_leaveOneOut_3 : decode cX9_leaveOneOut 3 = .ok (.invokevirtual 190, 3) := by decide +kernel
theorem dX9_leaveOneOut_6 : decode cX9_leaveOneOut 6 = .ok (.ifCond .ne 6, 3) := by decide +kernel
theorem dX9_leaveOneOut_9 : decode cX9_leaveOneOut 9 = .ok (.bipush (-2), 2) := by decide +kernel
theorem dX9_leaveOneOut_11 : decode cX9_leaveOneOut 11 = .ok (.ireturn, 1) := by decide +kernel
theorem dX9_leaveOneOut_12 : decode cX9_leaveOneOut 12 = .ok (.aload_n 0, 1) := by decide +kernel
theorem dX9_leaveOneOut_13 : decode cX9_leaveOneOut 13 = .ok (.invokevirtual 200, 3) := by decide +kernel
theorem dX9_leaveOneOut_16 : decode cX9_leaveOneOut 16 = .ok (.aload_n 0, 1) := by decide +kernel
theorem dX9_leaveOneOut_17 : decode cX9_leaveOneOut 17 = .ok (.iload_n 1, 1) := by decide +kernel
theorem dX9_leaveOneOut_18 : decode cX9_leaveOneOut 18 = .ok (.iload_n 2, 1) := by decide +kernel
theorem dX9_leaveOneOut_19 : decode cX9_leaveOneOut 19 = .ok (.invokevirtual 251, 3) := by decide +kernel
theorem dX9_leaveOneOut_22 : decode cX9_leaveOneOut 22 = .ok (.ireturn, 1) := by decide +kernel
theorem dX9_confusion_0 : decode cX9_confusion 0 = .ok (.aload_n 0, 1) := by decide +kernel
theorem dX9_confusion_1 : decode cX9_confusion 1 = .ok (.iload_n 1, 1) := by decide +kernel
theorem dX9_confusion_2 : decode cX9_confusion 2 = .ok (.invokevirtual 181, 3) := by decide +kernel
theorem dX9_confusion_5 : decode cX9_confusion 5 = .ok (.ifCond .eq 11, 3) := by decide +kernel
theorem dX9_confusion_8 : decode cX9_confusion 8 = .ok (.aload_n 0, 1) := by decide +kernel
theorem dX9_confusion_9 : decode cX9_confusion 9 = .ok (.iload_n 2, 1) := by decide +kernel
theorem dX9_confusion_10 : decode cX9_confusion 10 = .ok (.invokevirtual 181, 3) := by decide +kernel
theorem dX9_confusion_13 : decode cX9_confusion 13 = .ok (.ifCond .ne 6, 3) := by decide +kernel
theorem dX9_confusion_16 : decode cX9_confusion 16 = .ok (.bipush (-2), 2) := by decide +kernel
theorem dX9_confusion_18 : decode cX9_confusion 18 = .ok (.ireturn, 1) := by decide +kernel
theorem dX9_confusion_19 : decode cX9_confusion 19 = .ok (.aload_n 0, 1) := by decide +kernel
theorem dX9_confusion_20 : decode cX9_confusion 20 = .ok (.invokevirtual 200, 3) := by decide +kernel
theorem dX9_confusion_23 : decode cX9_confusion 23 = .ok (.aload_n 0, 1) := by decide +kernel
theorem dX9_confusion_24 : decode cX9_confusion 24 = .ok (.iload_n 1, 1) := by decide +kernel
theorem dX9_confusion_25 : decode cX9_confusion 25 = .ok (.iload_n 2, 1) := by decide +kernel
theorem dX9_confusion_26 : decode cX9_confusion 26 = .ok (.invokevirtual 254, 3) := by decide +kernel
theorem dX9_confusion_29 : decode cX9_confusion 29 = .ok (.ireturn, 1) := by decide +kernel
theorem dX9_correctCount_0 : decode cX9_correctCount 0 = .ok (.aload_n 0, 1) := by decide +kernel
theorem dX9_correctCount_1 : decode cX9_correctCount 1 = .ok (.invokevirtual 200, 3) := by decide +kernel
theorem dX9_correctCount_4 : decode cX9_correctCount 4 = .ok (.aload_n 0, 1) := by decide +kernel
theorem dX9_correctCount_5 : decode cX9_correctCount 5 = .ok (.bipush 31, 2) := by decide +kernel
theorem dX9_correctCount_7 : decode cX9_correctCount 7 = .ok (.invokevirtual 257, 3) := by decide +kernel
theorem dX9_correctCount_10 : decode cX9_correctCount 10 = .ok (.ireturn, 1) := by decide +kernel
theorem dX9_correctWithout_0 : decode cX9_correctWithout 0 = .ok (.aload_n 0, 1) := by decide +kernel
theorem dX9_correctWithout_1 : decode cX9_correctWithout 1 = .ok (.iload_n 1, 1) := by decide +kernel
theorem dX9_correctWithout_2 : decode cX9_correctWithout 2 = .ok (.invokevirtual 79, 3) := by decide +kernel
theorem dX9_correctWithout_5 : decode cX9_correctWithout 5 = .ok (.ifCond .ne 6, 3) := by decide +kernel
theorem dX9_correctWithout_8 : decode cX9_correctWithout 8 = .ok (.bipush (-2), 2) := by decide +kernel
theorem dX9_correctWithout_10 : decode cX9_correctWithout 10 = .ok (.ireturn, 1) := by decide +kernel
theorem dX9_correctWithout_11 : decode cX9_correctWithout 11 = .ok (.aload_n 0, 1) := by decide +kernel
theorem dX9_correctWithout_12 : decode cX9_correctWithout 12 = .ok (.invokevirtual 200, 3) := by decide +kernel
theorem dX9_correctWithout_15 : decode cX9_correctWithout 15 = .ok (.aload_n 0, 1) := by decide +kernel
theorem dX9_correctWithout_16 : decode cX9_correctWithout 16 = .ok (.iload_n 1, 1) := by decide +kernel
theorem dX9_correctWithout_17 : decode cX9_correctWithout 17 = .ok (.invokestatic 229, 3) := by decide +kernel
theorem dX9_correctWithout_20 : decode cX9_correctWithout 20 = .ok (.invokevirtual 257, 3) := by decide +kernel
theorem dX9_correctWithout_23 : decode cX9_correctWithout 23 = .ok (.ireturn, 1) := by decide +kernel
theorem dX9_correctWith_0 : decode cX9_correctWith 0 = .ok (.iload_n 1, 1) := by decide +kernel
theorem dX9_correctWith_1 : decode cX9_correctWith 1 = .ok (.iconst 1, 1) := by decide +kernel
theorem dX9_correctWith_2 : decode cX9_correctWith 2 = .ok (.iconst 1, 1) := by decide +kernel
theorem dX9_correctWith_3 : decode cX9_correctWith 3 = .ok (.aload_n 0, 1) := by decide +kernel
theorem dX9_correctWith_4 : decode cX9_correctWith 4 = .ok (.getfield 12, 3) := by decide +kernel
theorem dX9_correctWith_7 : decode cX9_correctWith 7 = .ok (.getfield 75, 3) := by decide +kernel
theorem dX9_correctWith_10 : decode cX9_correctWith 10 = .ok (.ishl, 1) := by decide +kernel
theorem dX9_correctWith_11 : decode cX9_correctWith 11 = .ok (.iconst 1, 1) := by decide +kernel
theorem dX9_correctWith_12 : decode cX9_correctWith 12 = .ok (.isub, 1) := by decide +kernel
theorem dX9_correctWith_13 : decode cX9_correctWith 13 = .ok (.invokestatic 71, 3) := by decide +kernel
theorem dX9_correctWith_16 : decode cX9_correctWith 16 = .ok (.ifCond .ne 6, 3) := by decide +kernel
theorem dX9_correctWith_19 : decode cX9_correctWith 19 = .ok (.bipush (-3), 2) := by decide +kernel
theorem dX9_correctWith_21 : decode cX9_correctWith 21 = .ok (.ireturn, 1) := by decide +kernel
theorem dX9_correctWith_22 : decode cX9_correctWith 22 = .ok (.aload_n 0, 1) := by decide +kernel
theorem dX9_correctWith_23 : decode cX9_correctWith 23 = .ok (.invokevirtual 200, 3) := by decide +kernel
theorem dX9_correctWith_26 : decode cX9_correctWith 26 = .ok (.aload_n 0, 1) := by decide +kernel
theorem dX9_correctWith_27 : decode cX9_correctWith 27 = .ok (.iload_n 1, 1) := by decide +kernel
theorem dX9_correctWith_28 : decode cX9_correctWith 28 = .ok (.invokevirtual 257, 3) := by decide +kernel
theorem dX9_correctWith_31 : decode cX9_correctWith 31 = .ok (.ireturn, 1) := by decide +kernel
theorem dX9_bestSubset_0 : decode cX9_bestSubset 0 = .ok (.iload_n 1, 1) := by decide +kernel
theorem dX9_bestSubset_1 : decode cX9_bestSubset 1 = .ok (.iconst 1, 1) := by decide +kernel
theorem dX9_bestSubset_2 : decode cX9_bestSubset 2 = .ok (.aload_n 0, 1) := by decide +kernel
theorem dX9_bestSubset_3 : decode cX9_bestSubset 3 = .ok (.getfield 12, 3) := by decide +kernel
theorem dX9_bestSubset_6 : decode cX9_bestSubset 6 = .ok (.getfield 75, 3) := by decide +kernel
theorem dX9_bestSubset_9 : decode cX9_bestSubset 9 = .ok (.invokestatic 71, 3) := by decide +kernel
theorem dX9_bestSubset_12 : decode cX9_bestSubset 12 = .ok (.ifCond .ne 6, 3) := by decide +kernel
theorem dX9_bestSubset_15 : decode cX9_bestSubset 15 = .ok (.bipush (-3), 2) := by decide +kernel
theorem dX9_bestSubset_17 : decode cX9_bestSubset 17 = .ok (.ireturn, 1) := by decide +kernel
theorem dX9_bestSubset_18 : decode cX9_bestSubset 18 = .ok (.aload_n 0, 1) := by decide +kernel
theorem dX9_bestSubset_19 : decode cX9_bestSubset 19 = .ok (.invokevirtual 200, 3) := by decide +kernel
theorem dX9_bestSubset_22 : decode cX9_bestSubset 22 = .ok (.iconst (-1), 1) := by decide +kernel
theorem dX9_bestSubset_23 : decode cX9_bestSubset 23 = .ok (.istore_n 2, 1) := by decide +kernel
theorem dX9_bestSubset_24 : decode cX9_bestSubset 24 = .ok (.iconst (-1), 1) := by decide +kernel
theorem dX9_bestSubset_25 : decode cX9_bestSubset 25 = .ok (.istore_n 3, 1) := by decide +kernel
theorem dX9_bestSubset_26 : decode cX9_bestSubset 26 = .ok (.iconst 1, 1) := by decide +kernel
theorem dX9_bestSubset_27 : decode cX9_bestSubset 27 = .ok (.istore 4, 2) := by decide +kernel
theorem dX9_bestSubset_29 : decode cX9_bestSubset 29 = .ok (.iload 4, 2) := by decide +kernel
theorem dX9_bestSubset_31 : decode cX9_bestSubset 31 = .ok (.iconst 1, 1) := by decide +kernel
theorem dX9_bestSubset_32 : decode cX9_bestSubset 32 = .ok (.aload_n 0, 1) := by decide +kernel
theorem dX9_bestSubset_33 : decode cX9_bestSubset 33 = .ok (.getfield 12, 3) := by decide +kernel
theorem dX9_bestSubset_36 : decode cX9_bestSubset 36 = .ok (.getfield 75, 3) := by decide +kernel
theorem dX9_bestSubset_39 : decode cX9_bestSubset 39 = .ok (.ishl, 1) := by decide +kernel
theorem dX9_bestSubset_40 : decode cX9_bestSubset 40 = .ok (.if_icmp .ge 38, 3) := by decide +kernel
theorem dX9_bestSubset_43 : decode cX9_bestSubset 43 = .ok (.iload 4, 2) := by decide +kernel
theorem dX9_bestSubset_45 : decode cX9_bestSubset 45 = .ok (.invokestatic 260, 3) := by decide +kernel
theorem dX9_bestSubset_48 : decode cX9_bestSubset 48 = .ok (.iload_n 1, 1) := by decide +kernel
theorem dX9_bestSubset_49 : decode cX9_bestSubset 49 = .ok (.if_icmp .ne 23, 3) := by decide +kernel
theorem dX9_bestSubset_52 : decode cX9_bestSubset 52 = .ok (.aload_n 0, 1) := by decide +kernel
theorem dX9_bestSubset_53 : decode cX9_bestSubset 53 = .ok (.iload 4, 2) := by decide +kernel
theorem dX9_bestSubset_55 : decode cX9_bestSubset 55 = .ok (.invokevirtual 257, 3) := by decide +kernel
theorem dX9_bestSubset_58 : decode cX9_bestSubset 58 = .ok (.istore 5, 2) := by decide +kernel
theorem dX9_bestSubset_60 : decode cX9_bestSubset 60 = .ok (.iload 5, 2) := by decide +kernel
theorem dX9_bestSubset_62 : decode cX9_bestSubset 62 = .ok (.iload_n 3, 1) := by decide +kernel
theorem dX9_bestSubset_63 : decode cX9_bestSubset 63 = .ok (.if_icmp .le 9, 3) := by decide +kernel
theorem dX9_bestSubset_66 : decode cX9_bestSubset 66 = .ok (.iload 4, 2) := by decide +kernel
theorem dX9_bestSubset_68 : decode cX9_bestSubset 68 = .ok (.istore_n 2, 1) := by decide +kernel
theorem dX9_bestSubset_69 : decode cX9_bestSubset 69 = .ok (.iload 5, 2) := by decide +kernel
theorem dX9_bestSubset_71 : decode cX9_bestSubset 71 = .ok (.istore_n 3, 1) := by decide +kernel
theorem dX9_bestSubset_72 : decode cX9_bestSubset 72 = .ok (.iinc 4 1, 3) := by decide +kernel
theorem dX9_bestSubset_75 : decode cX9_bestSubset 75 = .ok (.goto (-46), 3) := by decide +kernel
theorem dX9_bestSubset_78 : decode cX9_bestSubset 78 = .ok (.iload_n 2, 1) := by decide +kernel
theorem dX9_bestSubset_79 : decode cX9_bestSubset 79 = .ok (.ireturn, 1) := by decide +kernel
theorem dX9_leastUsefulSensor_0 : decode cX9_leastUsefulSensor 0 = .ok (.aload_n 0, 1) := by decide +kernel
theorem dX9_leastUsefulSensor_1 : decode cX9_leastUsefulSensor 1 = .ok (.invokevirtual 200, 3) := by decide +kernel
theorem dX9_leastUsefulSensor_4 : decode cX9_leastUsefulSensor 4 = .ok (.iconst (-1), 1) := by decide +kernel
theorem dX9_leastUsefulSensor_5 : decode cX9_leastUsefulSensor 5 = .ok (.istore_n 1, 1) := by decide +kernel
theorem dX9_leastUsefulSensor_6 : decode cX9_leastUsefulSensor 6 = .ok (.iconst (-1), 1) := by decide +kernel
theorem dX9_leastUsefulSensor_7 : decode cX9_leastUsefulSensor 7 = .ok (.istore_n 2, 1) := by decide +kernel
theorem dX9_leastUsefulSensor_8 : decode cX9_leastUsefulSensor 8 = .ok (.iconst 0, 1) := by decide +kernel
theorem dX9_leastUsefulSensor_9 : decode cX9_leastUsefulSensor 9 = .ok (.istore_n 3, 1) := by decide +kernel
theorem dX9_leastUsefulSensor_10 : decode cX9_leastUsefulSensor 10 = .ok (.iload_n 3, 1) := by decide +kernel
theorem dX9_leastUsefulSensor_11 : decode cX9_leastUsefulSensor 11 = .ok (.aload_n 0, 1) := by decide +kernel
theorem dX9_leastUsefulSensor_12 : decode cX9_leastUsefulSensor 12 = .ok (.getfield 12, 3) := by decide +kernel
theorem dX9_leastUsefulSensor_15 : decode cX9_leastUsefulSensor 15 = .ok (.getfield 75, 3) := by decide +kernel
theorem dX9_leastUsefulSensor_18 : decode cX9_leastUsefulSensor 18 = .ok (.if_icmp .ge 30, 3) := by decide +kernel
theorem dX9_leastUsefulSensor_21 : decode cX9_leastUsefulSensor 21 = .ok (.aload_n 0, 1) := by decide +kernel
theorem dX9_leastUsefulSensor_22 : decode cX9_leastUsefulSensor 22 = .ok (.iload_n 3, 1) := by decide +kernel
theorem dX9_leastUsefulSensor_23 : decode cX9_leastUsefulSensor 23 = .ok (.invokestatic 229, 3) := by decide +kernel
theorem dX9_leastUsefulSensor_26 : decode cX9_leastUsefulSensor 26 = .ok (.invokevirtual 257, 3) := by decide +kernel
theorem dX9_leastUsefulSensor_29 : decode cX9_leastUsefulSensor 29 = .ok (.istore 4, 2) := by decide +kernel
theorem dX9_leastUsefulSensor_31 : decode cX9_leastUsefulSensor 31 = .ok (.iload 4, 2) := by decide +kernel
theorem dX9_leastUsefulSensor_33 : decode cX9_leastUsefulSensor 33 = .ok (.iload_n 2, 1) := by decide +kernel
theorem dX9_leastUsefulSensor_34 : decode cX9_leastUsefulSensor 34 = .ok (.if_icmp .le 8, 3) := by decide +kernel
theorem dX9_leastUsefulSensor_37 : decode cX9_leastUsefulSensor 37 = .ok (.iload_n 3, 1) := by decide +kernel
theorem dX9_leastUsefulSensor_38 : decode cX9_leastUsefulSensor 38 = .ok (.istore_n 1, 1) := by decide +kernel
theorem dX9_leastUsefulSensor_39 : decode cX9_leastUsefulSensor 39 = .ok (.iload 4, 2) := by decide +kernel
theorem dX9_leastUsefulSensor_41 : decode cX9_leastUsefulSensor 41 = .ok (.istore_n 2, 1) := by decide +kernel
theorem dX9_leastUsefulSensor_42 : decode cX9_leastUsefulSensor 42 = .ok (.iinc 3 1, 3) := by decide +kernel
theorem dX9_leastUsefulSensor_45 : decode cX9_leastUsefulSensor 45 = .ok (.goto (-35), 3) := by decide +kernel
theorem dX9_leastUsefulSensor_48 : decode cX9_leastUsefulSensor 48 = .ok (.iload_n 1, 1) := by decide +kernel
theorem dX9_leastUsefulSensor_49 : decode cX9_leastUsefulSensor 49 = .ok (.ireturn, 1) := by decide +kernel
theorem dX9_sensorScore_0 : decode cX9_sensorScore 0 = .ok (.aload_n 0, 1) := by decide +kernel
theorem dX9_sensorScore_1 : decode cX9_sensorScore 1 = .ok (.iload_n 1, 1) := by decide +kernel
theorem dX9_sensorScore_2 : decode cX9_sensorScore 2 = .ok (.invokevirtual 79, 3) := by decide +kernel
theorem dX9_sensorScore_5 : decode cX9_sensorScore 5 = .ok (.ifCond .ne 6, 3) := by decide +kernel
theorem dX9_sensorScore_8 : decode cX9_sensorScore 8 = .ok (.bipush (-2), 2) := by decide +kernel
theorem dX9_sensorScore_10 : decode cX9_sensorScore 10 = .ok (.ireturn, 1) := by decide +kernel
theorem dX9_sensorScore_11 : decode cX9_sensorScore 11 = .ok (.aload_n 0, 1) := by decide +kernel
theorem dX9_sensorScore_12 : decode cX9_sensorScore 12 = .ok (.invokevirtual 200, 3) := by decide +kernel
theorem dX9_sensorScore_15 : decode cX9_sensorScore 15 = .ok (.aload_n 0, 1) := by decide +kernel
theorem dX9_sensorScore_16 : decode cX9_sensorScore 16 = .ok (.iload_n 1, 1) := by decide +kernel
theorem dX9_sensorScore_17 : decode cX9_sensorScore 17 = .ok (.invokevirtual 265, 3) := by decide +kernel
theorem dX9_sensorScore_20 : decode cX9_sensorScore 20 = .ok (.ireturn, 1) := by decide +kernel
theorem dX9_outlier_0 : decode cX9_outlier 0 = .ok (.aload_n 0, 1) := by decide +kernel
theorem dX9_outlier_1 : decode cX9_outlier 1 = .ok (.iload_n 1, 1) := by decide +kernel
theorem dX9_outlier_2 : decode cX9_outlier 2 = .ok (.invokevirtual 181, 3) := by decide +kernel
theorem dX9_outlier_5 : decode cX9_outlier 5 = .ok (.ifCond .ne 6, 3) := by decide +kernel
theorem dX9_outlier_8 : decode cX9_outlier 8 = .ok (.bipush (-2), 2) := by decide +kernel
theorem dX9_outlier_10 : decode cX9_outlier 10 = .ok (.ireturn, 1) := by decide +kernel
theorem dX9_outlier_11 : decode cX9_outlier 11 = .ok (.aload_n 0, 1) := by decide +kernel
theorem dX9_outlier_12 : decode cX9_outlier 12 = .ok (.invokevirtual 200, 3) := by decide +kernel
theorem dX9_outlier_15 : decode cX9_outlier 15 = .ok (.aload_n 0, 1) := by decide +kernel
theorem dX9_outlier_16 : decode cX9_outlier 16 = .ok (.iload_n 1, 1) := by decide +kernel
theorem dX9_outlier_17 : decode cX9_outlier 17 = .ok (.invokevirtual 268, 3) := by decide +kernel
theorem dX9_outlier_20 : decode cX9_outlier 20 = .ok (.ireturn, 1) := by decide +kernel
theorem dX9_restart_0 : decode cX9_restart 0 = .ok (.aload_n 0, 1) := by decide +kernel
theorem dX9_restart_1 : decode cX9_restart 1 = .ok (.getfield 12, 3) := by decide +kernel
theorem dX9_restart_4 : decode cX9_restart 4 = .ok (.iload_n 1, 1) := by decide +kernel
theorem dX9_restart_5 : decode cX9_restart 5 = .ok (.invokevirtual 271, 3) := by decide +kernel
theorem dX9_restart_8 : decode cX9_restart 8 = .ok (.aload_n 0, 1) := by decide +kernel
theorem dX9_restart_9 : decode cX9_restart 9 = .ok (.getfield 19, 3) := by decide +kernel
theorem dX9_restart_12 : decode cX9_restart 12 = .ok (.invokevirtual 272, 3) := by decide +kernel
theorem dX9_restart_15 : decode cX9_restart 15 = .ok (.iconst 0, 1) := by decide +kernel
theorem dX9_restart_16 : decode cX9_restart 16 = .ok (.istore_n 2, 1) := by decide +kernel
theorem dX9_restart_17 : decode cX9_restart 17 = .ok (.iload_n 2, 1) := by decide +kernel
theorem dX9_restart_18 : decode cX9_restart 18 = .ok (.aload_n 0, 1) := by decide +kernel
theorem dX9_restart_19 : decode cX9_restart 19 = .ok (.getfield 32, 3) := by decide +kernel
theorem dX9_restart_22 : decode cX9_restart 22 = .ok (.arraylength, 1) := by decide +kernel
theorem dX9_restart_23 : decode cX9_restart 23 = .ok (.if_icmp .ge 21, 3) := by decide +kernel
theorem dX9_restart_26 : decode cX9_restart 26 = .ok (.aload_n 0, 1) := by decide +kernel
theorem dX9_restart_27 : decode cX9_restart 27 = .ok (.getfield 32, 3) := by decide +kernel
theorem dX9_restart_30 : decode cX9_restart 30 = .ok (.iload_n 2, 1) := by decide +kernel
theorem dX9_restart_31 : decode cX9_restart 31 = .ok (.aaload, 1) := by decide +kernel
theorem dX9_restart_32 : decode cX9_restart 32 = .ok (.getfield 184, 3) := by decide +kernel
theorem dX9_restart_35 : decode cX9_restart 35 = .ok (.invokevirtual 274, 3) := by decide +kernel
theorem dX9_restart_38 : decode cX9_restart 38 = .ok (.iinc 2 1, 3) := by decide +kernel
theorem dX9_restart_41 : decode cX9_restart 41 = .ok (.goto (-24), 3) := by decide +kernel
theorem dX9_restart_44 : decode cX9_restart 44 = .ok (.aload_n 0, 1) := by decide +kernel
theorem dX9_restart_45 : decode cX9_restart 45 = .ok (.iconst 0, 1) := by decide +kernel
theorem dX9_restart_46 : decode cX9_restart 46 = .ok (.putfield 178, 3) := by decide +kernel
theorem dX9_restart_49 : decode cX9_restart 49 = .ok (.aload_n 0, 1) := by decide +kernel
theorem dX9_restart_50 : decode cX9_restart 50 = .ok (.aload_n 0, 1) := by decide +kernel
theorem dX9_restart_51 : decode cX9_restart 51 = .ok (.getfield 55, 3) := by decide +kernel
theorem dX9_restart_54 : decode cX9_restart 54 = .ok (.putfield 63, 3) := by decide +kernel
theorem dX9_restart_57 : decode cX9_restart 57 = .ok (.aload_n 0, 1) := by decide +kernel
theorem dX9_restart_58 : decode cX9_restart 58 = .ok (.iconst 0, 1) := by decide +kernel
theorem dX9_restart_59 : decode cX9_restart 59 = .ok (.putfield 91, 3) := by decide +kernel
theorem dX9_restart_62 : decode cX9_restart 62 = .ok (.aload_n 0, 1) := by decide +kernel
theorem dX9_restart_63 : decode cX9_restart 63 = .ok (.bipush 50, 2) := by decide +kernel
theorem dX9_restart_65 : decode cX9_restart 65 = .ok (.putfield 214, 3) := by decide +kernel
theorem dX9_restart_68 : decode cX9_restart 68 = .ok (.aload_n 0, 1) := by decide +kernel
theorem dX9_restart_69 : decode cX9_restart 69 = .ok (.iconst 0, 1) := by decide +kernel
theorem dX9_restart_70 : decode cX9_restart 70 = .ok (.putfield 217, 3) := by decide +kernel
theorem dX9_restart_73 : decode cX9_restart 73 = .ok (.return_, 1) := by decide +kernel
theorem dX9_prepare_0 : decode cX9_prepare 0 = .ok (.aload_n 0, 1) := by decide +kernel
theorem dX9_prepare_1 : decode cX9_prepare 1 = .ok (.getfield 12, 3) := by decide +kernel
theorem dX9_prepare_4 : decode cX9_prepare 4 = .ok (.aload_n 0, 1) := by decide +kernel
theorem dX9_prepare_5 : decode cX9_prepare 5 = .ok (.getfield 63, 3) := by decide +kernel
theorem dX9_prepare_8 : decode cX9_prepare 8 = .ok (.aload_n 0, 1) := by decide +kernel
theorem dX9_prepare_9 : decode cX9_prepare 9 = .ok (.getfield 59, 3) := by decide +kernel
theorem dX9_prepare_12 : decode cX9_prepare 12 = .ok (.invokevirtual 163, 3) := by decide +kernel
theorem dX9_prepare_15 : decode cX9_prepare 15 = .ok (.aload_n 0, 1) := by decide +kernel
theorem dX9_prepare_16 : decode cX9_prepare 16 = .ok (.getfield 19, 3) := by decide +kernel
theorem dX9_prepare_19 : decode cX9_prepare 19 = .ok (.aload_n 0, 1) := by decide +kernel
theorem dX9_prepare_20 : decode cX9_prepare 20 = .ok (.getfield 12, 3) := by decide +kernel
theorem dX9_prepare_23 : decode cX9_prepare 23 = .ok (.invokevirtual 153, 3) := by decide +kernel
theorem dX9_prepare_26 : decode cX9_prepare 26 = .ok (.aload_n 0, 1) := by decide +kernel
theorem dX9_prepare_27 : decode cX9_prepare 27 = .ok (.getfield 26, 3) := by decide +kernel
theorem dX9_prepare_30 : decode cX9_prepare 30 = .ok (.aload_n 0, 1) := by decide +kernel
theorem dX9_prepare_31 : decode cX9_prepare 31 = .ok (.getfield 19, 3) := by decide +kernel
theorem dX9_prepare_34 : decode cX9_prepare 34 = .ok (.bipush 31, 2) := by decide +kernel
theorem dX9_prepare_36 : decode cX9_prepare 36 = .ok (.invokevirtual 232, 3) := by decide +kernel
theorem dX9_prepare_39 : decode cX9_prepare 39 = .ok (.iconst 0, 1) := by decide +kernel
theorem dX9_prepare_40 : decode cX9_prepare 40 = .ok (.istore_n 1, 1) := by decide +kernel
theorem dX9_prepare_41 : decode cX9_prepare 41 = .ok (.iload_n 1, 1) := by decide +kernel
theorem dX9_prepare_42 : decode cX9_prepare 42 = .ok (.aload_n 0, 1) := by decide +kernel
theorem dX9_prepare_43 : decode cX9_prepare 43 = .ok (.getfield 178, 3) := by decide +kernel
theorem dX9_prepare_46 : decode cX9_prepare 46 = .ok (.if_icmp .ge 22, 3) := by decide +kernel
theorem dX9_prepare_49 : decode cX9_prepare 49 = .ok (.aload_n 0, 1) := by decide +kernel
theorem dX9_prepare_50 : decode cX9_prepare 50 = .ok (.getfield 32, 3) := by decide +kernel
theorem dX9_prepare_53 : decode cX9_prepare 53 = .ok (.iload_n 1, 1) := by decide +kernel
theorem dX9_prepare_54 : decode cX9_prepare 54 = .ok (.aaload, 1) := by decide +kernel
theorem dX9_prepare_55 : decode cX9_prepare 55 = .ok (.aload_n 0, 1) := by decide +kernel
theorem dX9_prepare_56 : decode cX9_prepare 56 = .ok (.getfield 12, 3) := by decide +kernel
theorem dX9_prepare_59 : decode cX9_prepare 59 = .ok (.invokevirtual 277, 3) := by decide +kernel
theorem dX9_prepare_62 : decode cX9_prepare 62 = .ok (.iinc 1 1, 3) := by decide +kernel
theorem dX9_prepare_65 : decode cX9_prepare 65 = .ok (.goto (-24), 3) := by decide +kernel
theorem dX9_prepare_68 : decode cX9_prepare 68 = .ok (.return_, 1) := by decide +kernel
theorem dX9_hasSensor_0 : decode cX9_hasSensor 0 = .ok (.iload_n 1, 1) := by decide +kernel
theorem dX9_hasSensor_1 : decode cX9_hasSensor 1 = .ok (.ifCond .lt 18, 3) := by decide +kernel
theorem dX9_hasSensor_4 : decode cX9_hasSensor 4 = .ok (.iload_n 1, 1) := by decide +kernel
theorem dX9_hasSensor_5 : decode cX9_hasSensor 5 = .ok (.aload_n 0, 1) := by decide +kernel
theorem dX9_hasSensor_6 : decode cX9_hasSensor 6 = .ok (.getfield 12, 3) := by decide +kernel
theorem dX9_hasSensor_9 : decode cX9_hasSensor 9 = .ok (.getfield 75, 3) := by decide +kernel
theorem dX9_hasSensor_12 : decode cX9_hasSensor 12 = .ok (.if_icmp .ge 7, 3) := by decide +kernel
theorem dX9_hasSensor_15 : decode cX9_hasSensor 15 = .ok (.iconst 1, 1) := by decide +kernel
theorem dX9_hasSensor_16 : decode cX9_hasSensor 16 = .ok (.goto 4, 3) := by decide +kernel
theorem dX9_hasSensor_19 : decode cX9_hasSensor 19 = .ok (.iconst 0, 1) := by decide +kernel
theorem dX9_hasSensor_20 : decode cX9_hasSensor 20 = .ok (.ireturn, 1) := by decide +kernel
theorem dX9_hasClass_0 : decode cX9_hasClass 0 = .ok (.iload_n 1, 1) := by decide +kernel
theorem dX9_hasClass_1 : decode cX9_hasClass 1 = .ok (.ifCond .lt 15, 3) := by decide +kernel
theorem dX9_hasClass_4 : decode cX9_hasClass 4 = .ok (.iload_n 1, 1) := by decide +kernel
theorem dX9_hasClass_5 : decode cX9_hasClass 5 = .ok (.aload_n 0, 1) := by decide +kernel
theorem dX9_hasClass_6 : decode cX9_hasClass 6 = .ok (.getfield 178, 3) := by decide +kernel
theorem dX9_hasClass_9 : decode cX9_hasClass 9 = .ok (.if_icmp .ge 7, 3) := by decide +kernel
theorem dX9_hasClass_12 : decode cX9_hasClass 12 = .ok (.iconst 1, 1) := by decide +kernel
theorem dX9_hasClass_13 : decode cX9_hasClass 13 = .ok (.goto 4, 3) := by decide +kernel
theorem dX9_hasClass_16 : decode cX9_hasClass 16 = .ok (.iconst 0, 1) := by decide +kernel
theorem dX9_hasClass_17 : decode cX9_hasClass 17 = .ok (.ireturn, 1) := by decide +kernel
theorem dX9_hasSample_0 : decode cX9_hasSample 0 = .ok (.aload_n 0, 1) := by decide +kernel
theorem dX9_hasSample_1 : decode cX9_hasSample 1 = .ok (.iload_n 1, 1) := by decide +kernel
theorem dX9_hasSample_2 : decode cX9_hasSample 2 = .ok (.invokevirtual 181, 3) := by decide +kernel
theorem dX9_hasSample_5 : decode cX9_hasSample 5 = .ok (.ifCond .eq 27, 3) := by decide +kernel
theorem dX9_hasSample_8 : decode cX9_hasSample 8 = .ok (.iload_n 2, 1) := by decide +kernel
theorem dX9_hasSample_9 : decode cX9_hasSample 9 = .ok (.ifCond .lt 23, 3) := by decide +kernel
theorem dX9_hasSample_12 : decode cX9_hasSample 12 = .ok (.iload_n 2, 1) := by decide +kernel
theorem dX9_hasSample_13 : decode cX9_hasSample 13 = .ok (.aload_n 0, 1) := by decide +kernel
theorem dX9_hasSample_14 : decode cX9_hasSample 14 = .ok (.getfield 32, 3) := by decide +kernel
theorem dX9_hasSample_17 : decode cX9_hasSample 17 = .ok (.iload_n 1, 1) := by decide +kernel
theorem dX9_hasSample_18 : decode cX9_hasSample 18 = .ok (.aaload, 1) := by decide +kernel
theorem dX9_hasSample_19 : decode cX9_hasSample 19 = .ok (.getfield 184, 3) := by decide +kernel
theorem dX9_hasSample_22 : decode cX9_hasSample 22 = .ok (.getfield 116, 3) := by decide +kernel
theorem dX9_hasSample_25 : decode cX9_hasSample 25 = .ok (.if_icmp .ge 7, 3) := by decide +kernel
theorem dX9_hasSample_28 : decode cX9_hasSample 28 = .ok (.iconst 1, 1) := by decide +kernel
theorem dX9_hasSample_29 : decode cX9_hasSample 29 = .ok (.goto 4, 3) := by decide +kernel
theorem dX9_hasSample_32 : decode cX9_hasSample 32 = .ok (.iconst 0, 1) := by decide +kernel
theorem dX9_hasSample_33 : decode cX9_hasSample 33 = .ok (.ireturn, 1) := by decide +kernel
theorem dX9_isReading_0 : decode cX9_isReading 0 = .ok (.iload_n 2, 1) := by decide +kernel
theorem dX9_isReading_1 : decode cX9_isReading 1 = .ok (.iconst 0, 1) := by decide +kernel
theorem dX9_isReading_2 : decode cX9_isReading 2 = .ok (.aload_n 0, 1) := by decide +kernel
theorem dX9_isReading_3 : decode cX9_isReading 3 = .ok (.iload_n 1, 1) := by decide +kernel
theorem dX9_isReading_4 : decode cX9_isReading 4 = .ok (.invokevirtual 79, 3) := by decide +kernel
theorem dX9_isReading_7 : decode cX9_isReading 7 = .ok (.ifCond .eq 9, 3) := by decide +kernel
theorem dX9_isReading_10 : decode cX9_isReading 10 = .ok (.sipush 9999, 3) := by decide +kernel
theorem dX9_isReading_13 : decode cX9_isReading 13 = .ok (.goto 4, 3) := by decide +kernel
theorem dX9_isReading_16 : decode cX9_isReading 16 = .ok (.iconst 0, 1) := by decide +kernel
theorem dX9_isReading_17 : decode cX9_isReading 17 = .ok (.invokestatic 71, 3) := by decide +kernel
theorem dX9_isReading_20 : decode cX9_isReading 20 = .ok (.ireturn, 1) := by decide +kernel
theorem dX9_gapToClass_0 : decode cX9_gapToClass 0 = .ok (.aload_n 0, 1) := by decide +kernel
theorem dX9_gapToClass_1 : decode cX9_gapToClass 1 = .ok (.getfield 26, 3) := by decide +kernel
theorem dX9_gapToClass_4 : decode cX9_gapToClass 4 = .ok (.aload_n 1, 1) := by decide +kernel
theorem dX9_gapToClass_5 : decode cX9_gapToClass 5 = .ok (.iconst 1, 1) := by decide +kernel
theorem dX9_gapToClass_6 : decode cX9_gapToClass 6 = .ok (.aload_n 0, 1) := by decide +kernel
theorem dX9_gapToClass_7 : decode cX9_gapToClass 7 = .ok (.getfield 32, 3) := by decide +kernel
theorem dX9_gapToClass_10 : decode cX9_gapToClass 10 = .ok (.iload_n 2, 1) := by decide +kernel
theorem dX9_gapToClass_11 : decode cX9_gapToClass 11 = .ok (.aaload, 1) := by decide +kernel
theorem dX9_gapToClass_12 : decode cX9_gapToClass 12 = .ok (.getfield 278, 3) := by decide +kernel
theorem dX9_gapToClass_15 : decode cX9_gapToClass 15 = .ok (.aload_n 0, 1) := by decide +kernel
theorem dX9_gapToClass_16 : decode cX9_gapToClass 16 = .ok (.getfield 32, 3) := by decide +kernel
theorem dX9_gapToClass_19 : decode cX9_gapToClass 19 = .ok (.iload_n 2, 1) := by decide +kernel
theorem dX9_gapToClass_20 : decode cX9_gapToClass 20 = .ok (.aaload, 1) := by decide +kernel
theorem dX9_gapToClass_21 : decode cX9_gapToClass 21 = .ok (.getfield 281, 3) := by decide +kernel
theorem dX9_gapToClass_24 : decode cX9_gapToClass 24 = .ok (.invokevirtual 284, 3) := by decide +kernel
theorem dX9_gapToClass_27 : decode cX9_gapToClass 27 = .ok (.ireturn, 1) := by decide +kernel
theorem dX9_gapToSample_0 : decode cX9_gapToSample 0 = .ok (.aload_n 0, 1) := by decide +kernel
theorem dX9_gapToSample_1 : decode cX9_gapToSample 1 = .ok (.getfield 26, 3) := by decide +kernel
theorem dX9_gapToSample_4 : decode cX9_gapToSample 4 = .ok (.aload_n 1, 1) := by decide +kernel
theorem dX9_gapToSample_5 : decode cX9_gapToSample 5 = .ok (.iconst 1, 1) := by decide +kernel
theorem dX9_gapToSample_6 : decode cX9_gapToSample 6 = .ok (.aload_n 0, 1) := by decide +kernel
theorem dX9_gapToSample_7 : decode cX9_gapToSample 7 = .ok (.getfield 32, 3) := by decide +kernel
theorem dX9_gapToSample_10 : decode cX9_gapToSample 10 = .ok (.iload_n 2, 1) := by decide +kernel
theorem dX9_gapToSample_11 : decode cX9_gapToSample 11 = .ok (.aaload, 1) := by decide +kernel
theorem dX9_gapToSample_12 : decode cX9_gapToSample 12 = .ok (.getfield 287, 3) := by decide +kernel
theorem dX9_gapToSample_15 : decode cX9_gapToSample 15 = .ok (.iload_n 3, 1) := by decide +kernel
theorem dX9_gapToSample_16 : decode cX9_gapToSample 16 = .ok (.aaload, 1) := by decide +kernel
theorem dX9_gapToSample_17 : decode cX9_gapToSample 17 = .ok (.iconst 1, 1) := by decide +kernel
theorem dX9_gapToSample_18 : decode cX9_gapToSample 18 = .ok (.invokevirtual 284, 3) := by decide +kernel
theorem dX9_gapToSample_21 : decode cX9_gapToSample 21 = .ok (.ireturn, 1) := by decide +kernel
theorem dX9_gapOfClasses_0 : decode cX9_gapOfClasses 0 = .ok (.aload_n 0, 1) := by decide +kernel
theorem dX9_gapOfClasses_1 : decode cX9_gapOfClasses 1 = .ok (.getfield 32, 3) := by decide +kernel
theorem dX9_gapOfClasses_4 : decode cX9_gapOfClasses 4 = .ok (.iload_n 1, 1) := by decide +kernel
theorem dX9_gapOfClasses_5 : decode cX9_gapOfClasses 5 = .ok (.aaload, 1) := by decide +kernel
theorem dX9_gapOfClasses_6 : decode cX9_gapOfClasses 6 = .ok (.astore_n 3, 1) := by decide +kernel
theorem dX9_gapOfClasses_7 : decode cX9_gapOfClasses 7 = .ok (.aload_n 0, 1) := by decide +kernel
theorem dX9_gapOfClasses_8 : decode cX9_gapOfClasses 8 = .ok (.getfield 32, 3) := by decide +kernel
theorem dX9_gapOfClasses_11 : decode cX9_gapOfClasses 11 = .ok (.iload_n 2, 1) := by decide +kernel
theorem dX9_gapOfClasses_12 : decode cX9_gapOfClasses 12 = .ok (.aaload, 1) := by decide +kernel
theorem dX9_gapOfClasses_13 : decode cX9_gapOfClasses 13 = .ok (.astore 4, 2) := by decide +kernel
theorem dX9_gapOfClasses_15 : decode cX9_gapOfClasses 15 = .ok (.aload_n 0, 1) := by decide +kernel
theorem dX9_gapOfClasses_16 : decode cX9_gapOfClasses 16 = .ok (.getfield 26, 3) := by decide +kernel
theorem dX9_gapOfClasses_19 : decode cX9_gapOfClasses 19 = .ok (.aload_n 3, 1) := by decide +kernel
theorem dX9_gapOfClasses_20 : decode cX9_gapOfClasses 20 = .ok (.getfield 278, 3) := by decide +kernel
theorem dX9_gapOfClasses_23 : decode cX9_gapOfClasses 23 = .ok (.aload_n 3, 1) := by decide +kernel
theorem dX9_gapOfClasses_24 : decode cX9_gapOfClasses 24 = .ok (.getfield 281, 3) := by decide +kernel
theorem dX9_gapOfClasses_27 : decode cX9_gapOfClasses 27 = .ok (.aload 4, 2) := by decide +kernel
theorem dX9_gapOfClasses_29 : decode cX9_gapOfClasses 29 = .ok (.getfield 278, 3) := by decide +kernel
theorem dX9_gapOfClasses_32 : decode cX9_gapOfClasses 32 = .ok (.aload 4, 2) := by decide +kernel
theorem dX9_gapOfClasses_34 : decode cX9_gapOfClasses 34 = .ok (.getfield 281, 3) := by decide +kernel
theorem dX9_gapOfClasses_37 : decode cX9_gapOfClasses 37 = .ok (.invokevirtual 284, 3) := by decide +kernel
theorem dX9_gapOfClasses_40 : decode cX9_gapOfClasses 40 = .ok (.ireturn, 1) := by decide +kernel
theorem dX9_nearestTo_0 : decode cX9_nearestTo 0 = .ok (.iconst (-1), 1) := by decide +kernel
theorem dX9_nearestTo_1 : decode cX9_nearestTo 1 = .ok (.istore_n 3, 1) := by decide +kernel
theorem dX9_nearestTo_2 : decode cX9_nearestTo 2 = .ok (.iconst 0, 1) := by decide +kernel
theorem dX9_nearestTo_3 : decode cX9_nearestTo 3 = .ok (.istore 4, 2) := by decide +kernel
theorem dX9_nearestTo_5 : decode cX9_nearestTo 5 = .ok (.iconst 0, 1) := by decide +kernel
theorem dX9_nearestTo_6 : decode cX9_nearestTo 6 = .ok (.istore 5, 2) := by decide +kernel
theorem dX9_nearestTo_8 : decode cX9_nearestTo 8 = .ok (.iload 5, 2) := by decide +kernel
theorem dX9_nearestTo_10 : decode cX9_nearestTo 10 = .ok (.aload_n 0, 1) := by decide +kernel
theorem dX9_nearestTo_11 : decode cX9_nearestTo 11 = .ok (.getfield 178, 3) := by decide +kernel
theorem dX9_nearestTo_14 : decode cX9_nearestTo 14 = .ok (.if_icmp .ge 53, 3) := by decide +kernel
theorem dX9_nearestTo_17 : decode cX9_nearestTo 17 = .ok (.iload 5, 2) := by decide +kernel
theorem dX9_nearestTo_19 : decode cX9_nearestTo 19 = .ok (.iload_n 2, 1) := by decide +kernel
theorem dX9_nearestTo_20 : decode cX9_nearestTo 20 = .ok (.if_icmp .ne 7, 3) := by decide +kernel
theorem dX9_nearestTo_23 : decode cX9_nearestTo 23 = .ok (.iconst (-1), 1) := by decide +kernel
theorem dX9_nearestTo_24 : decode cX9_nearestTo 24 = .ok (.goto 10, 3) := by decide +kernel
theorem dX9_nearestTo_27 : decode cX9_nearestTo 27 = .ok (.aload_n 0, 1) := by decide +kernel
theorem dX9_nearestTo_28 : decode cX9_nearestTo 28 = .ok (.aload_n 1, 1) := by decide +kernel
theorem dX9_nearestTo_29 : decode cX9_nearestTo 29 = .ok (.iload 5, 2) := by decide +kernel
theorem dX9_nearestTo_31 : decode cX9_nearestTo 31 = .ok (.invokevirtual 203, 3) := by decide +kernel
theorem dX9_nearestTo_34 : decode cX9_nearestTo 34 = .ok (.istore 6, 2) := by decide +kernel
theorem dX9_nearestTo_36 : decode cX9_nearestTo 36 = .ok (.iload 6, 2) := by decide +kernel
theorem dX9_nearestTo_38 : decode cX9_nearestTo 38 = .ok (.iconst (-1), 1) := by decide +kernel
theorem dX9_nearestTo_39 : decode cX9_nearestTo 39 = .ok (.if_icmp .eq 22, 3) := by decide +kernel
theorem dX9_nearestTo_42 : decode cX9_nearestTo 42 = .ok (.iload_n 3, 1) := by decide +kernel
theorem dX9_nearestTo_43 : decode cX9_nearestTo 43 = .ok (.iconst (-1), 1) := by decide +kernel
theorem dX9_nearestTo_44 : decode cX9_nearestTo 44 = .ok (.if_icmp .eq 10, 3) := by decide +kernel
theorem dX9_nearestTo_47 : decode cX9_nearestTo 47 = .ok (.iload 6, 2) := by decide +kernel
theorem dX9_nearestTo_49 : decode cX9_nearestTo 49 = .ok (.iload 4, 2) := by decide +kernel
theorem dX9_nearestTo_51 : decode cX9_nearestTo 51 = .ok (.if_icmp .ge 10, 3) := by decide +kernel
theorem dX9_nearestTo_54 : decode cX9_nearestTo 54 = .ok (.iload 5, 2) := by decide +kernel
theorem dX9_nearestTo_56 : decode cX9_nearestTo 56 = .ok (.istore_n 3, 1) := by decide +kernel
theorem dX9_nearestTo_57 : decode cX9_nearestTo 57 = .ok (.iload 6, 2) := by decide +kernel
theorem dX9_nearestTo_59 : decode cX9_nearestTo 59 = .ok (.istore 4, 2) := by decide +kernel
theorem dX9_nearestTo_61 : decode cX9_nearestTo 61 = .ok (.iinc 5 1, 3) := by decide +kernel
theorem dX9_nearestTo_64 : decode cX9_nearestTo 64 = .ok (.goto (-56), 3) := by decide +kernel
theorem dX9_nearestTo_67 : decode cX9_nearestTo 67 = .ok (.iload_n 3, 1) := by decide +kernel
theorem dX9_nearestTo_68 : decode cX9_nearestTo 68 = .ok (.ireturn, 1) := by decide +kernel
theorem dX9_farthestSample_0 : decode cX9_farthestSample 0 = .ok (.aload_n 0, 1) := by decide +kernel
theorem dX9_farthestSample_1 : decode cX9_farthestSample 1 = .ok (.getfield 32, 3) := by decide +kernel
theorem dX9_farthestSample_4 : decode cX9_farthestSample 4 = .ok (.iload_n 1, 1) := by decide +kernel
theorem dX9_farthestSample_5 : decode cX9_farthestSample 5 = .ok (.aaload, 1) := by decide +kernel
theorem dX9_farthestSample_6 : decode cX9_farthestSample 6 = .ok (.astore_n 2, 1) := by decide +kernel
theorem dX9_farthestSample_7 : decode cX9_farthestSample 7 = .ok (.iconst (-1), 1) := by decide +kernel
theorem dX9_farthestSample_8 : decode cX9_farthestSample 8 = .ok (.istore_n 3, 1) := by decide +kernel
theorem dX9_farthestSample_9 : decode cX9_farthestSample 9 = .ok (.iconst (-1), 1) := by decide +kernel
theorem dX9_farthestSample_10 : decode cX9_farthestSample 10 = .ok (.istore 4, 2) := by decide +kernel
theorem dX9_farthestSample_12 : decode cX9_farthestSample 12 = .ok (.iconst 0, 1) := by decide +kernel
theorem dX9_farthestSample_13 : decode cX9_farthestSample 13 = .ok (.istore 5, 2) := by decide +kernel
theorem dX9_farthestSample_15 : decode cX9_farthestSample 15 = .ok (.iload 5, 2) := by decide +kernel
theorem dX9_farthestSample_17 : decode cX9_farthestSample 17 = .ok (.aload_n 2, 1) := by decide +kernel
theorem dX9_farthestSample_18 : decode cX9_farthestSample 18 = .ok (.getfield 184, 3) := by decide +kernel
theorem dX9_farthestSample_21 : decode cX9_farthestSample 21 = .ok (.getfield 116, 3) := by decide +kernel
theorem dX9_farthestSample_24 : decode cX9_farthestSample 24 = .ok (.if_icmp .ge 37, 3) := by decide +kernel
theorem dX9_farthestSample_27 : decode cX9_farthestSample 27 = .ok (.aload_n 0, 1) := by decide +kernel
theorem dX9_farthestSample_28 : decode cX9_farthestSample 28 = .ok (.aload_n 2, 1) := by decide +kernel
theorem dX9_farthestSample_29 : decode cX9_farthestSample 29 = .ok (.getfield 287, 3) := by decide +kernel
theorem dX9_farthestSample_32 : decode cX9_farthestSample 32 = .ok (.iload 5, 2) := by decide +kernel
theorem dX9_farthestSample_34 : decode cX9_farthestSample 34 = .ok (.aaload, 1) := by decide +kernel
theorem dX9_farthestSample_35 : decode cX9_farthestSample 35 = .ok (.iload_n 1, 1) := by decide +kernel
theorem dX9_farthestSample_36 : decode cX9_farthestSample 36 = .ok (.invokevirtual 203, 3) := by decide +kernel
theorem dX9_farthestSample_39 : decode cX9_farthestSample 39 = .ok (.istore 6, 2) := by decide +kernel
theorem dX9_farthestSample_41 : decode cX9_farthestSample 41 = .ok (.iload 6, 2) := by decide +kernel
theorem dX9_farthestSample_43 : decode cX9_farthestSample 43 = .ok (.iload 4, 2) := by decide +kernel
theorem dX9_farthestSample_45 : decode cX9_farthestSample 45 = .ok (.if_icmp .le 10, 3) := by decide +kernel
theorem dX9_farthestSample_48 : decode cX9_farthestSample 48 = .ok (.iload 5, 2) := by decide +kernel
theorem dX9_farthestSample_50 : decode cX9_farthestSample 50 = .ok (.istore_n 3, 1) := by decide +kernel
theorem dX9_farthestSample_51 : decode cX9_farthestSample 51 = .ok (.iload 6, 2) := by decide +kernel
theorem dX9_farthestSample_53 : decode cX9_farthestSample 53 = .ok (.istore 4, 2) := by decide +kernel
theorem dX9_farthestSample_55 : decode cX9_farthestSample 55 = .ok (.iinc 5 1, 3) := by decide +kernel
theorem dX9_farthestSample_58 : decode cX9_farthestSample 58 = .ok (.goto (-43), 3) := by decide +kernel
theorem dX9_farthestSample_61 : decode cX9_farthestSample 61 = .ok (.iload_n 3, 1) := by decide +kernel
theorem dX9_farthestSample_62 : decode cX9_farthestSample 62 = .ok (.ireturn, 1) := by decide +kernel
theorem dX9_reachOf_0 : decode cX9_reachOf 0 = .ok (.aload_n 0, 1) := by decide +kernel
theorem dX9_reachOf_1 : decode cX9_reachOf 1 = .ok (.iload_n 1, 1) := by decide +kernel
theorem dX9_reachOf_2 : decode cX9_reachOf 2 = .ok (.invokevirtual 268, 3) := by decide +kernel
theorem dX9_reachOf_5 : decode cX9_reachOf 5 = .ok (.istore_n 2, 1) := by decide +kernel
theorem dX9_reachOf_6 : decode cX9_reachOf 6 = .ok (.iload_n 2, 1) := by decide +kernel
theorem dX9_reachOf_7 : decode cX9_reachOf 7 = .ok (.iconst (-1), 1) := by decide +kernel
theorem dX9_reachOf_8 : decode cX9_reachOf 8 = .ok (.if_icmp .ne 5, 3) := by decide +kernel
theorem dX9_reachOf_11 : decode cX9_reachOf 11 = .ok (.iconst (-1), 1) := by decide +kernel
theorem dX9_reachOf_12 : decode cX9_reachOf 12 = .ok (.ireturn, 1) := by decide +kernel
theorem dX9_reachOf_13 : decode cX9_reachOf 13 = .ok (.aload_n 0, 1) := by decide +kernel
theorem dX9_reachOf_14 : decode cX9_reachOf 14 = .ok (.aload_n 0, 1) := by decide +kernel
theorem dX9_reachOf_15 : decode cX9_reachOf 15 = .ok (.getfield 32, 3) := by decide +kernel
theorem dX9_reachOf_18 : decode cX9_reachOf 18 = .ok (.iload_n 1, 1) := by decide +kernel
theorem dX9_reachOf_19 : decode cX9_reachOf 19 = .ok (.aaload, 1) := by decide +kernel
theorem dX9_reachOf_20 : decode cX9_reachOf 20 = .ok (.getfield 287, 3) := by decide +kernel
theorem dX9_reachOf_23 : decode cX9_reachOf 23 = .ok (.iload_n 2, 1) := by decide +kernel
theorem dX9_reachOf_24 : decode cX9_reachOf 24 = .ok (.aaload, 1) := by decide +kernel
theorem dX9_reachOf_25 : decode cX9_reachOf 25 = .ok (.iload_n 1, 1) := by decide +kernel
theorem dX9_reachOf_26 : decode cX9_reachOf 26 = .ok (.invokevirtual 203, 3) := by decide +kernel
theorem dX9_reachOf_29 : decode cX9_reachOf 29 = .ok (.i2l, 1) := by decide +kernel
theorem dX9_reachOf_30 : decode cX9_reachOf 30 = .ok (.lstore_n 3, 1) := by decide +kernel
theorem dX9_reachOf_31 : decode cX9_reachOf 31 = .ok (.bipush 100, 2) := by decide +kernel
theorem dX9_reachOf_33 : decode cX9_reachOf 33 = .ok (.aload_n 0, 1) := by decide +kernel
theorem dX9_reachOf_34 : decode cX9_reachOf 34 = .ok (.getfield 214, 3) := by decide +kernel
theorem dX9_reachOf_37 : decode cX9_reachOf 37 = .ok (.iadd, 1) := by decide +kernel
theorem dX9_reachOf_38 : decode cX9_reachOf 38 = .ok (.i2l, 1) := by decide +kernel
theorem dX9_reachOf_39 : decode cX9_reachOf 39 = .ok (.lload_n 3, 1) := by decide +kernel
theorem dX9_reachOf_40 : decode cX9_reachOf 40 = .ok (.lmul, 1) := by decide +kernel
theorem dX9_reachOf_41 : decode cX9_reachOf 41 = .ok (.ldc2_w 291, 3) := by decide +kernel
theorem dX9_reachOf_44 : decode cX9_reachOf 44 = .ok (.invokestatic 133, 3) := by decide +kernel
theorem dX9_reachOf_47 : decode cX9_reachOf 47 = .ok (.aload_n 0, 1) := by decide +kernel
theorem dX9_reachOf_48 : decode cX9_reachOf 48 = .ok (.getfield 217, 3) := by decide +kernel
theorem dX9_reachOf_51 : decode cX9_reachOf 51 = .ok (.i2l, 1) := by decide +kernel
theorem dX9_reachOf_52 : decode cX9_reachOf 52 = .ok (.ladd, 1) := by decide +kernel
theorem dX9_reachOf_53 : decode cX9_reachOf 53 = .ok (.l2i, 1) := by decide +kernel
theorem dX9_reachOf_54 : decode cX9_reachOf 54 = .ok (.ireturn, 1) := by decide +kernel
theorem dX9_runClustering_0 : decode cX9_runClustering 0 = .ok (.aload_n 0, 1) := by decide +kernel
theorem dX9_runClustering_1 : decode cX9_runClustering 1 = .ok (.getfield 46, 3) := by decide +kernel
theorem dX9_runClustering_4 : decode cX9_runClustering 4 = .ok (.invokevirtual 293, 3) := by decide +kernel
theorem dX9_runClustering_7 : decode cX9_runClustering 7 = .ok (.iconst 0, 1) := by decide +kernel
theorem dX9_runClustering_8 : decode cX9_runClustering 8 = .ok (.istore_n 2, 1) := by decide +kernel
theorem dX9_runClustering_9 : decode cX9_runClustering 9 = .ok (.iload_n 2, 1) := by decide +kernel
theorem dX9_runClustering_10 : decode cX9_runClustering 10 = .ok (.aload_n 0, 1) := by decide +kernel
theorem dX9_runClustering_11 : decode cX9_runClustering 11 = .ok (.getfield 178, 3) := by decide +kernel
theorem dX9_runClustering_14 : decode cX9_runClustering 14 = .ok (.if_icmp .ge 57, 3) := by decide +kernel
theorem dX9_runClustering_17 : decode cX9_runClustering 17 = .ok (.aload_n 0, 1) := by decide +kernel
theorem dX9_runClustering_18 : decode cX9_runClustering 18 = .ok (.getfield 32, 3) := by decide +kernel
theorem dX9_runClustering_21 : decode cX9_runClustering 21 = .ok (.iload_n 2, 1) := by decide +kernel
theorem dX9_runClustering_22 : decode cX9_runClustering 22 = .ok (.aaload, 1) := by decide +kernel
theorem dX9_runClustering_23 : decode cX9_runClustering 23 = .ok (.getfield 281, 3) := by decide +kernel
theorem dX9_runClustering_26 : decode cX9_runClustering 26 = .ok (.ifCond .eq 39, 3) := by decide +kernel
theorem dX9_runClustering_29 : decode cX9_runClustering 29 = .ok (.iconst 0, 1) := by decide +kernel
theorem dX9_runClustering_30 : decode cX9_runClustering 30 = .ok (.istore_n 3, 1) := by decide +kernel
theorem dX9_runClustering_31 : decode cX9_runClustering 31 = .ok (.iload_n 3, 1) := by decide +kernel
theorem dX9_runClustering_32 : decode cX9_runClustering 32 = .ok (.iload_n 2, 1) := by decide +kernel
theorem dX9_runClustering_33 : decode cX9_runClustering 33 = .ok (.if_icmp .ge 24, 3) := by decide +kernel
theorem dX9_runClustering_36 : decode cX9_runClustering 36 = .ok (.aload_n 0, 1) := by decide +kernel
theorem dX9_runClustering_37 : decode cX9_runClustering 37 = .ok (.getfield 46, 3) := by decide +kernel
theorem dX9_runClustering_40 : decode cX9_runClustering 40 = .ok (.iload_n 3, 1) := by decide +kernel
theorem dX9_runClustering_41 : decode cX9_runClustering 41 = .ok (.iload_n 2, 1) := by decide +kernel
theorem dX9_runClustering_42 : decode cX9_runClustering 42 = .ok (.aload_n 0, 1) := by decide +kernel
theorem dX9_runClustering_43 : decode cX9_runClustering 43 = .ok (.iload_n 3, 1) := by decide +kernel
theorem dX9_runClustering_44 : decode cX9_runClustering 44 = .ok (.iload_n 2, 1) := by decide +kernel
theorem dX9_runClustering_45 : decode cX9_runClustering 45 = .ok (.invokevirtual 220, 3) := by decide +kernel
theorem dX9_runClustering_48 : decode cX9_runClustering 48 = .ok (.invokevirtual 294, 3) := by decide +kernel
theorem dX9_runClustering_51 : decode cX9_runClustering 51 = .ok (.iinc 3 1, 3) := by decide +kernel
theorem dX9_runClustering_54 : decode cX9_runClustering 54 = .ok (.goto (-23), 3) := by decide +kernel
theorem dX9_runClustering_57 : decode cX9_runClustering 57 = .ok (.aload_n 0, 1) := by decide +kernel
theorem dX9_runClustering_58 : decode cX9_runClustering 58 = .ok (.getfield 46, 3) := by decide +kernel
theorem dX9_runClustering_61 : decode cX9_runClustering 61 = .ok (.iload_n 2, 1) := by decide +kernel
theorem dX9_runClustering_62 : decode cX9_runClustering 62 = .ok (.invokevirtual 298, 3) := by decide +kernel
theorem dX9_runClustering_65 : decode cX9_runClustering 65 = .ok (.iinc 2 1, 3) := by decide +kernel
theorem dX9_runClustering_68 : decode cX9_runClustering 68 = .ok (.goto (-59), 3) := by decide +kernel
theorem dX9_runClustering_71 : decode cX9_runClustering 71 = .ok (.aload_n 0, 1) := by decide +kernel
theorem dX9_runClustering_72 : decode cX9_runClustering 72 = .ok (.getfield 46, 3) := by decide +kernel
theorem dX9_runClustering_75 : decode cX9_runClustering 75 = .ok (.iload_n 1, 1) := by decide +kernel
theorem dX9_runClustering_76 : decode cX9_runClustering 76 = .ok (.invokevirtual 301, 3) := by decide +kernel
theorem dX9_runClustering_79 : decode cX9_runClustering 79 = .ok (.ireturn, 1) := by decide +kernel
theorem dX9_rankSamples_0 : decode cX9_rankSamples 0 = .ok (.aload_n 0, 1) := by decide +kernel
theorem dX9_rankSamples_1 : decode cX9_rankSamples 1 = .ok (.getfield 39, 3) := by decide +kernel
theorem dX9_rankSamples_4 : decode cX9_rankSamples 4 = .ok (.invokevirtual 304, 3) := by decide +kernel
theorem dX9_rankSamples_7 : decode cX9_rankSamples 7 = .ok (.iconst 0, 1) := by decide +kernel
theorem dX9_rankSamples_8 : decode cX9_rankSamples 8 = .ok (.istore_n 1, 1) := by decide +kernel
theorem dX9_rankSamples_9 : decode cX9_rankSamples 9 = .ok (.iload_n 1, 1) := by decide +kernel
theorem dX9_rankSamples_10 : decode cX9_rankSamples 10 = .ok (.aload_n 0, 1) := by decide +kernel
theorem dX9_rankSamples_11 : decode cX9_rankSamples 11 = .ok (.getfield 178, 3) := by decide +kernel
theorem dX9_rankSamples_14 : decode cX9_rankSamples 14 = .ok (.if_icmp .ge 56, 3) := by decide +kernel
theorem dX9_rankSamples_17 : decode cX9_rankSamples 17 = .ok (.iconst 0, 1) := by decide +kernel
theorem dX9_rankSamples_18 : decode cX9_rankSamples 18 = .ok (.istore_n 2, 1) := by decide +kernel
theorem dX9_rankSamples_19 : decode cX9_rankSamples 19 = .ok (.iload_n 2, 1) := by decide +kernel
theorem dX9_rankSamples_20 : decode cX9_rankSamples 20 = .ok (.aload_n 0, 1) := by decide +kernel
theorem dX9_rankSamples_21 : decode cX9_rankSamples 21 = .ok (.getfield 32, 3) := by decide +kernel
theorem dX9_rankSamples_24 : decode cX9_rankSamples 24 = .ok (.iload_n 1, 1) := by decide +kernel
theorem dX9_rankSamples_25 : decode cX9_rankSamples 25 = .ok (.aaload, 1) := by decide +kernel
theorem dX9_rankSamples_26 : decode cX9_rankSamples 26 = .ok (.getfield 184, 3) := by decide +kernel
theorem dX9_rankSamples_29 : decode cX9_rankSamples 29 = .ok (.getfield 116, 3) := by decide +kernel
theorem dX9_rankSamples_32 : decode cX9_rankSamples 32 = .ok (.if_icmp .ge 32, 3) := by decide +kernel
theorem dX9_rankSamples_35 : decode cX9_rankSamples 35 = .ok (.aload_n 0, 1) := by decide +kernel
theorem dX9_rankSamples_36 : decode cX9_rankSamples 36 = .ok (.getfield 39, 3) := by decide +kernel
theorem dX9_rankSamples_39 : decode cX9_rankSamples 39 = .ok (.bipush 10, 2) := by decide +kernel
theorem dX9_rankSamples_41 : decode cX9_rankSamples 41 = .ok (.iload_n 1, 1) := by decide +kernel
theorem dX9_rankSamples_42 : decode cX9_rankSamples 42 = .ok (.imul, 1) := by decide +kernel
theorem dX9_rankSamples_43 : decode cX9_rankSamples 43 = .ok (.iload_n 2, 1) := by decide +kernel
theorem dX9_rankSamples_44 : decode cX9_rankSamples 44 = .ok (.iadd, 1) := by decide +kernel
theorem dX9_rankSamples_45 : decode cX9_rankSamples 45 = .ok (.aload_n 0, 1) := by decide +kernel
theorem dX9_rankSamples_46 : decode cX9_rankSamples 46 = .ok (.aload_n 0, 1) := by decide +kernel
theorem dX9_rankSamples_47 : decode cX9_rankSamples 47 = .ok (.getfield 59, 3) := by decide +kernel
theorem dX9_rankSamples_50 : decode cX9_rankSamples 50 = .ok (.iload_n 1, 1) := by decide +kernel
theorem dX9_rankSamples_51 : decode cX9_rankSamples 51 = .ok (.iload_n 2, 1) := by decide +kernel
theorem dX9_rankSamples_52 : decode cX9_rankSamples 52 = .ok (.invokevirtual 305, 3) := by decide +kernel
theorem dX9_rankSamples_55 : decode cX9_rankSamples 55 = .ok (.invokevirtual 309, 3) := by decide +kernel
theorem dX9_rankSamples_58 : decode cX9_rankSamples 58 = .ok (.iinc 2 1, 3) := by decide +kernel
theorem dX9_rankSamples_61 : decode cX9_rankSamples 61 = .ok (.goto (-42), 3) := by decide +kernel
theorem dX9_rankSamples_64 : decode cX9_rankSamples 64 = .ok (.iinc 1 1, 3) := by decide +kernel
theorem dX9_rankSamples_67 : decode cX9_rankSamples 67 = .ok (.goto (-58), 3) := by decide +kernel
theorem dX9_rankSamples_70 : decode cX9_rankSamples 70 = .ok (.return_, 1) := by decide +kernel
theorem dX9_resultOfTest_0 : decode cX9_resultOfTest 0 = .ok (.aload_n 0, 1) := by decide +kernel
theorem dX9_resultOfTest_1 : decode cX9_resultOfTest 1 = .ok (.getfield 32, 3) := by decide +kernel
theorem dX9_resultOfTest_4 : decode cX9_resultOfTest 4 = .ok (.iload_n 1, 1) := by decide +kernel
theorem dX9_resultOfTest_5 : decode cX9_resultOfTest 5 = .ok (.aaload, 1) := by decide +kernel
theorem dX9_resultOfTest_6 : decode cX9_resultOfTest 6 = .ok (.astore_n 3, 1) := by decide +kernel
theorem dX9_resultOfTest_7 : decode cX9_resultOfTest 7 = .ok (.aload_n 3, 1) := by decide +kernel
theorem dX9_resultOfTest_8 : decode cX9_resultOfTest 8 = .ok (.iload_n 2, 1) := by decide +kernel
theorem dX9_resultOfTest_9 : decode cX9_resultOfTest 9 = .ok (.iconst (-1), 1) := by decide +kernel
theorem dX9_resultOfTest_10 : decode cX9_resultOfTest 10 = .ok (.invokevirtual 313, 3) := by decide +kernel
theorem dX9_resultOfTest_13 : decode cX9_resultOfTest 13 = .ok (.aload_n 0, 1) := by decide +kernel
theorem dX9_resultOfTest_14 : decode cX9_resultOfTest 14 = .ok (.aload_n 3, 1) := by decide +kernel
theorem dX9_resultOfTest_15 : decode cX9_resultOfTest 15 = .ok (.getfield 287, 3) := by decide +kernel
theorem dX9_resultOfTest_18 : decode cX9_resultOfTest 18 = .ok (.iload_n 2, 1) := by decide +kernel
theorem dX9_resultOfTest_19 : decode cX9_resultOfTest 19 = .ok (.aaload, 1) := by decide +kernel
theorem dX9_resultOfTest_20 : decode cX9_resultOfTest 20 = .ok (.iconst (-1), 1) := by decide +kernel
theorem dX9_resultOfTest_21 : decode cX9_resultOfTest 21 = .ok (.invokevirtual 207, 3) := by decide +kernel
theorem dX9_resultOfTest_24 : decode cX9_resultOfTest 24 = .ok (.istore 4, 2) := by decide +kernel
theorem dX9_resultOfTest_26 : decode cX9_resultOfTest 26 = .ok (.aload_n 3, 1) := by decide +kernel
theorem dX9_resultOfTest_27 : decode cX9_resultOfTest 27 = .ok (.iload_n 2, 1) := by decide +kernel
theorem dX9_resultOfTest_28 : decode cX9_resultOfTest 28 = .ok (.iconst 1, 1) := by decide +kernel
theorem dX9_resultOfTest_29 : decode cX9_resultOfTest 29 = .ok (.invokevirtual 313, 3) := by decide +kernel
theorem dX9_resultOfTest_32 : decode cX9_resultOfTest 32 = .ok (.iload 4, 2) := by decide +kernel
theorem dX9_resultOfTest_34 : decode cX9_resultOfTest 34 = .ok (.ireturn, 1) := by decide +kernel
theorem dX9_countResults_0 : decode cX9_countResults 0 = .ok (.iconst 0, 1) := by decide +kernel
theorem dX9_countResults_1 : decode cX9_countResults 1 = .ok (.istore_n 3, 1) := by decide +kernel
theorem dX9_countResults_2 : decode cX9_countResults 2 = .ok (.iconst 0, 1) := by decide +kernel
theorem dX9_countResults_3 : decode cX9_countResults 3 = .ok (.istore 4, 2) := by decide +kernel
theorem dX9_countResults_5 : decode cX9_countResults 5 = .ok (.iload 4, 2) := by decide +kernel
theorem dX9_countResults_7 : decode cX9_countResults 7 = .ok (.aload_n 0, 1) := by decide +kernel
theorem dX9_countResults_8 : decode cX9_countResults 8 = .ok (.getfield 32, 3) := by decide +kernel
theorem dX9_countResults_11 : decode cX9_countResults 11 = .ok (.iload_n 1, 1) := by decide +kernel
theorem dX9_countResults_12 : decode cX9_countResults 12 = .ok (.aaload, 1) := by decide +kernel
theorem dX9_countResults_13 : decode cX9_countResults 13 = .ok (.getfield 184, 3) := by decide +kernel
theorem dX9_countResults_16 : decode cX9_countResults 16 = .ok (.getfield 116, 3) := by decide +kernel
theorem dX9_countResults_19 : decode cX9_countResults 19 = .ok (.if_icmp .ge 23, 3) := by decide +kernel
theorem dX9_countResults_22 : decode cX9_countResults 22 = .ok (.aload_n 0, 1) := by decide +kernel
theorem dX9_countResults_23 : decode cX9_countResults 23 = .ok (.iload_n 1, 1) := by decide +kernel
theorem dX9_countResults_24 : decode cX9_countResults 24 = .ok (.iload 4, 2) := by decide +kernel
theorem dX9_countResults_26 : decode cX9_countResults 26 = .ok (.invokevirtual 251, 3) := by decide +kernel
theorem dX9_countResults_29 : decode cX9_countResults 29 = .ok (.iload_n 2, 1) := by decide +kernel
theorem dX9_countResults_30 : decode cX9_countResults 30 = .ok (.if_icmp .ne 6, 3) := by decide +kernel
theorem dX9_countResults_33 : decode cX9_countResults 33 = .ok (.iinc 3 1, 3) := by decide +kernel
theorem dX9_countResults_36 : decode cX9_countResults 36 = .ok (.iinc 4 1, 3) := by decide +kernel
theorem dX9_countResults_39 : decode cX9_countResults 39 = .ok (.goto (-34), 3) := by decide +kernel
theorem dX9_countResults_42 : decode cX9_countResults 42 = .ok (.iload_n 3, 1) := by decide +kernel
theorem dX9_countResults_43 : decode cX9_countResults 43 = .ok (.ireturn, 1) := by decide +kernel
theorem dX9_countCorrect_0 : decode cX9_countCorrect 0 = .ok (.aload_n 0, 1) := by decide +kernel
theorem dX9_countCorrect_1 : decode cX9_countCorrect 1 = .ok (.getfield 26, 3) := by decide +kernel
theorem dX9_countCorrect_4 : decode cX9_countCorrect 4 = .ok (.aload_n 0, 1) := by decide +kernel
theorem dX9_countCorrect_5 : decode cX9_countCorrect 5 = .ok (.getfield 19, 3) := by decide +kernel
theorem dX9_countCorrect_8 : decode cX9_countCorrect 8 = .ok (.iload_n 1, 1) := by decide +kernel
theorem dX9_countCorrect_9 : decode cX9_countCorrect 9 = .ok (.invokevirtual 232, 3) := by decide +kernel
theorem dX9_countCorrect_12 : decode cX9_countCorrect 12 = .ok (.iconst 0, 1) := by decide +kernel
theorem dX9_countCorrect_13 : decode cX9_countCorrect 13 = .ok (.istore_n 2, 1) := by decide +kernel
theorem dX9_countCorrect_14 : decode cX9_countCorrect 14 = .ok (.iconst 0, 1) := by decide +kernel
theorem dX9_countCorrect_15 : decode cX9_countCorrect 15 = .ok (.istore_n 3, 1) := by decide +kernel
theorem dX9_countCorrect_16 : decode cX9_countCorrect 16 = .ok (.iload_n 3, 1) := by decide +kernel
theorem dX9_countCorrect_17 : decode cX9_countCorrect 17 = .ok (.aload_n 0, 1) := by decide +kernel
theorem dX9_countCorrect_18 : decode cX9_countCorrect 18 = .ok (.getfield 178, 3) := by decide +kernel
theorem dX9_countCorrect_21 : decode cX9_countCorrect 21 = .ok (.if_icmp .ge 18, 3) := by decide +kernel
theorem dX9_countCorrect_24 : decode cX9_countCorrect 24 = .ok (.iload_n 2, 1) := by decide +kernel
theorem dX9_countCorrect_25 : decode cX9_countCorrect 25 = .ok (.aload_n 0, 1) := by decide +kernel
theorem dX9_countCorrect_26 : decode cX9_countCorrect 26 = .ok (.iload_n 3, 1) := by decide +kernel
theorem dX9_countCorrect_27 : decode cX9_countCorrect 27 = .ok (.iload_n 3, 1) := by decide +kernel
theorem dX9_countCorrect_28 : decode cX9_countCorrect 28 = .ok (.invokevirtual 254, 3) := by decide +kernel
theorem dX9_countCorrect_31 : decode cX9_countCorrect 31 = .ok (.iadd, 1) := by decide +kernel
theorem dX9_countCorrect_32 : decode cX9_countCorrect 32 = .ok (.istore_n 2, 1) := by decide +kernel
theorem dX9_countCorrect_33 : decode cX9_countCorrect 33 = .ok (.iinc 3 1, 3) := by decide +kernel
theorem dX9_countCorrect_36 : decode cX9_countCorrect 36 = .ok (.goto (-20), 3) := by decide +kernel
theorem dX9_countCorrect_39 : decode cX9_countCorrect 39 = .ok (.iload_n 2, 1) := by decide +kernel
theorem dX9_countCorrect_40 : decode cX9_countCorrect 40 = .ok (.ireturn, 1) := by decide +kernel
theorem dX9_scoreOf_0 : decode cX9_scoreOf 0 = .ok (.lconst 0, 1) := by decide +kernel
theorem dX9_scoreOf_1 : decode cX9_scoreOf 1 = .ok (.lstore_n 2, 1) := by decide +kernel
theorem dX9_scoreOf_2 : decode cX9_scoreOf 2 = .ok (.lconst 0, 1) := by decide +kernel
theorem dX9_scoreOf_3 : decode cX9_scoreOf 3 = .ok (.lstore 4, 2) := by decide +kernel
theorem dX9_scoreOf_5 : decode cX9_scoreOf 5 = .ok (.lconst 0, 1) := by decide +kernel
theorem dX9_scoreOf_6 : decode cX9_scoreOf 6 = .ok (.lstore 6, 2) := by decide +kernel
theorem dX9_scoreOf_8 : decode cX9_scoreOf 8 = .ok (.lconst 0, 1) := by decide +kernel
theorem dX9_scoreOf_9 : decode cX9_scoreOf 9 = .ok (.lstore 8, 2) := by decide +kernel
theorem dX9_scoreOf_11 : decode cX9_scoreOf 11 = .ok (.iconst 0, 1) := by decide +kernel
theorem dX9_scoreOf_12 : decode cX9_scoreOf 12 = .ok (.istore 10, 2) := by decide +kernel
theorem dX9_scoreOf_14 : decode cX9_scoreOf 14 = .ok (.iload 10, 2) := by decide +kernel
theorem dX9_scoreOf_16 : decode cX9_scoreOf 16 = .ok (.aload_n 0, 1) := by decide +kernel
theorem dX9_scoreOf_17 : decode cX9_scoreOf 17 = .ok (.getfield 178, 3) := by decide +kernel
theorem dX9_scoreOf_20 : decode cX9_scoreOf 20 = .ok (.if_icmp .ge 85, 3) := by decide +kernel
theorem dX9_scoreOf_23 : decode cX9_scoreOf 23 = .ok (.aload_n 0, 1) := by decide +kernel
theorem dX9_scoreOf_24 : decode cX9_scoreOf 24 = .ok (.getfield 32, 3) := by decide +kernel
theorem dX9_scoreOf_27 : decode cX9_scoreOf 27 = .ok (.iload 10, 2) := by decide +kernel
theorem dX9_scoreOf_29 : decode cX9_scoreOf 29 = .ok (.aaload, 1) := by decide +kernel
theorem dX9_scoreOf_30 : decode cX9_scoreOf 30 = .ok (.astore 11, 2) := by decide +kernel
theorem dX9_scoreOf_32 : decode cX9_scoreOf 32 = .ok (.aload 11, 2) := by decide +kernel
theorem dX9_scoreOf_34 : decode cX9_scoreOf 34 = .ok (.getfield 281, 3) := by decide +kernel
theorem dX9_scoreOf_37 : decode cX9_scoreOf 37 = .ok (.ifCond .eq 62, 3) := by decide +kernel
theorem dX9_scoreOf_40 : decode cX9_scoreOf 40 = .ok (.aload 11, 2) := by decide +kernel
theorem dX9_scoreOf_42 : decode cX9_scoreOf 42 = .ok (.getfield 278, 3) := by decide +kernel
theorem dX9_scoreOf_45 : decode cX9_scoreOf 45 = .ok (.iload_n 1, 1) := by decide +kernel
theorem dX9_scoreOf_46 : decode cX9_scoreOf 46 = .ok (.iaload, 1) := by decide +kernel
theorem dX9_scoreOf_47 : decode cX9_scoreOf 47 = .ok (.i2l, 1) := by decide +kernel
theorem dX9_scoreOf_48 : decode cX9_scoreOf 48 = .ok (.lstore 12, 2) := by decide +kernel
theorem dX9_scoreOf_50 : decode cX9_scoreOf 50 = .ok (.aload 11, 2) := by decide +kernel
theorem dX9_scoreOf_52 : decode cX9_scoreOf 52 = .ok (.iload_n 1, 1) := by decide +kernel
theorem dX9_scoreOf_53 : decode cX9_scoreOf 53 = .ok (.invokevirtual 316, 3) := by decide +kernel
theorem dX9_scoreOf_56 : decode cX9_scoreOf 56 = .ok (.lstore 14, 2) := by decide +kernel
theorem dX9_scoreOf_58 : decode cX9_scoreOf 58 = .ok (.lload_n 2, 1) := by decide +kernel
theorem dX9_scoreOf_59 : decode cX9_scoreOf 59 = .ok (.aload 11, 2) := by decide +kernel
theorem dX9_scoreOf_61 : decode cX9_scoreOf 61 = .ok (.getfield 281, 3) := by decide +kernel
theorem dX9_scoreOf_64 : decode cX9_scoreOf 64 = .ok (.i2l, 1) := by decide +kernel
theorem dX9_scoreOf_65 : decode cX9_scoreOf 65 = .ok (.lload 12, 2) := by decide +kernel
theorem dX9_scoreOf_67 : decode cX9_scoreOf 67 = .ok (.lload 14, 2) := by decide +kernel
theorem dX9_scoreOf_69 : decode cX9_scoreOf 69 = .ok (.invokestatic 320, 3) := by decide +kernel
theorem dX9_scoreOf_72 : decode cX9_scoreOf 72 = .ok (.ladd, 1) := by decide +kernel
theorem dX9_scoreOf_73 : decode cX9_scoreOf 73 = .ok (.lstore_n 2, 1) := by decide +kernel
theorem dX9_scoreOf_74 : decode cX9_scoreOf 74 = .ok (.lload 4, 2) := by decide +kernel
theorem dX9_scoreOf_76 : decode cX9_scoreOf 76 = .ok (.aload 11, 2) := by decide +kernel
theorem dX9_scoreOf_78 : decode cX9_scoreOf 78 = .ok (.getfield 281, 3) := by decide +kernel
theorem dX9_scoreOf_81 : decode cX9_scoreOf 81 = .ok (.i2l, 1) := by decide +kernel
theorem dX9_scoreOf_82 : decode cX9_scoreOf 82 = .ok (.ladd, 1) := by decide +kernel
theorem dX9_scoreOf_83 : decode cX9_scoreOf 83 = .ok (.lstore 4, 2) := by decide +kernel
theorem dX9_scoreOf_85 : decode cX9_scoreOf 85 = .ok (.lload 6, 2) := by decide +kernel
theorem dX9_scoreOf_87 : decode cX9_scoreOf 87 = .ok (.lload 12, 2) := by decide +kernel
theorem dX9_scoreOf_89 : decode cX9_scoreOf 89 = .ok (.ladd, 1) := by decide +kernel
theorem dX9_scoreOf_90 : decode cX9_scoreOf 90 = .ok (.lstore 6, 2) := by decide +kernel
theorem dX9_scoreOf_92 : decode cX9_scoreOf 92 = .ok (.lload 8, 2) := by decide +kernel
theorem dX9_scoreOf_94 : decode cX9_scoreOf 94 = .ok (.lload 14, 2) := by decide +kernel
theorem dX9_scoreOf_96 : decode cX9_scoreOf 96 = .ok (.ladd, 1) := by decide +kernel
theorem dX9_scoreOf_97 : decode cX9_scoreOf 97 = .ok (.lstore 8, 2) := by decide +kernel
theorem dX9_scoreOf_99 : decode cX9_scoreOf 99 = .ok (.iinc 10 1, 3) := by decide +kernel
theorem dX9_scoreOf_102 : decode cX9_scoreOf 102 = .ok (.goto (-88), 3) := by decide +kernel
theorem dX9_scoreOf_105 : decode cX9_scoreOf 105 = .ok (.lload 4, 2) := by decide +kernel
theorem dX9_scoreOf_107 : decode cX9_scoreOf 107 = .ok (.lconst 0, 1) := by decide +kernel
theorem dX9_scoreOf_108 : decode cX9_scoreOf 108 = .ok (.lcmp, 1) := by decide +kernel
theorem dX9_scoreOf_109 : decode cX9_scoreOf 109 = .ok (.ifCond .ne 5, 3) := by decide +kernel
theorem dX9_scoreOf_112 : decode cX9_scoreOf 112 = .ok (.iconst (-1), 1) := by decide +kernel
theorem dX9_scoreOf_113 : decode cX9_scoreOf 113 = .ok (.ireturn, 1) := by decide +kernel
theorem dX9_scoreOf_114 : decode cX9_scoreOf 114 = .ok (.lload 4, 2) := by decide +kernel
theorem dX9_scoreOf_116 : decode cX9_scoreOf 116 = .ok (.lload 6, 2) := by decide +kernel
theorem dX9_scoreOf_118 : decode cX9_scoreOf 118 = .ok (.lload 8, 2) := by decide +kernel
theorem dX9_scoreOf_120 : decode cX9_scoreOf 120 = .ok (.invokestatic 320, 3) := by decide +kernel
theorem dX9_scoreOf_123 : decode cX9_scoreOf 123 = .ok (.lload_n 2, 1) := by decide +kernel
theorem dX9_scoreOf_124 : decode cX9_scoreOf 124 = .ok (.lsub, 1) := by decide +kernel
theorem dX9_scoreOf_125 : decode cX9_scoreOf 125 = .ok (.lstore 10, 2) := by decide +kernel
theorem dX9_scoreOf_127 : decode cX9_scoreOf 127 = .ok (.lload_n 2, 1) := by decide +kernel
theorem dX9_scoreOf_128 : decode cX9_scoreOf 128 = .ok (.lconst 0, 1) := by decide +kernel
theorem dX9_scoreOf_129 : decode cX9_scoreOf 129 = .ok (.lcmp, 1) := by decide +kernel
theorem dX9_scoreOf_130 : decode cX9_scoreOf 130 = .ok (.ifCond .ne 19, 3) := by decide +kernel
theorem dX9_scoreOf_133 : decode cX9_scoreOf 133 = .ok (.lload 10, 2) := by decide +kernel
theorem dX9_scoreOf_135 : decode cX9_scoreOf 135 = .ok (.lconst 0, 1) := by decide +kernel
theorem dX9_scoreOf_136 : decode cX9_scoreOf 136 = .ok (.lcmp, 1) := by decide +kernel
theorem dX9_scoreOf_137 : decode cX9_scoreOf 137 = .ok (.ifCond .le 9, 3) := by decide +kernel
theorem dX9_scoreOf_140 : decode cX9_scoreOf 140 = .ok (.ldc2_w 324, 3) := by decide +kernel
theorem dX9_scoreOf_143 : decode cX9_scoreOf 143 = .ok (.goto 4, 3) := by decide +kernel
theorem dX9_scoreOf_146 : decode cX9_scoreOf 146 = .ok (.lconst 0, 1) := by decide +kernel
theorem dX9_scoreOf_147 : decode cX9_scoreOf 147 = .ok (.l2i, 1) := by decide +kernel
theorem dX9_scoreOf_148 : decode cX9_scoreOf 148 = .ok (.ireturn, 1) := by decide +kernel
theorem dX9_scoreOf_149 : decode cX9_scoreOf 149 = .ok (.ldc2_w 127, 3) := by decide +kernel
theorem dX9_scoreOf_152 : decode cX9_scoreOf 152 = .ok (.lload 10, 2) := by decide +kernel
theorem dX9_scoreOf_154 : decode cX9_scoreOf 154 = .ok (.lmul, 1) := by decide +kernel
theorem dX9_scoreOf_155 : decode cX9_scoreOf 155 = .ok (.lload_n 2, 1) := by decide +kernel
theorem dX9_scoreOf_156 : decode cX9_scoreOf 156 = .ok (.invokestatic 133, 3) := by decide +kernel
theorem dX9_scoreOf_159 : decode cX9_scoreOf 159 = .ok (.ldc2_w 326, 3) := by decide +kernel
theorem dX9_scoreOf_162 : decode cX9_scoreOf 162 = .ok (.invokestatic 328, 3) := by decide +kernel
theorem dX9_scoreOf_165 : decode cX9_scoreOf 165 = .ok (.l2i, 1) := by decide +kernel
theorem dX9_scoreOf_166 : decode cX9_scoreOf 166 = .ok (.ireturn, 1) := by decide +kernel
theorem dX9_scatter_0 : decode cX9_scatter 0 = .ok (.lload_n 0, 1) := by decide +kernel
theorem dX9_scatter_1 : decode cX9_scatter 1 = .ok (.lload 4, 2) := by decide +kernel
theorem dX9_scatter_3 : decode cX9_scatter 3 = .ok (.lmul, 1) := by decide +kernel
theorem dX9_scatter_4 : decode cX9_scatter 4 = .ok (.lload_n 2, 1) := by decide +kernel
theorem dX9_scatter_5 : decode cX9_scatter 5 = .ok (.lload_n 2, 1) := by decide +kernel
theorem dX9_scatter_6 : decode cX9_scatter 6 = .ok (.lmul, 1) := by decide +kernel
theorem dX9_scatter_7 : decode cX9_scatter 7 = .ok (.lsub, 1) := by decide +kernel
theorem dX9_scatter_8 : decode cX9_scatter 8 = .ok (.lload_n 0, 1) := by decide +kernel
theorem dX9_scatter_9 : decode cX9_scatter 9 = .ok (.invokestatic 133, 3) := by decide +kernel
theorem dX9_scatter_12 : decode cX9_scatter 12 = .ok (.lreturn, 1) := by decide +kernel
theorem dX9_allBut_0 : decode cX9_allBut 0 = .ok (.bipush 31, 2) := by decide +kernel
theorem dX9_allBut_2 : decode cX9_allBut 2 = .ok (.iconst 1, 1) := by decide +kernel
theorem dX9_allBut_3 : decode cX9_allBut 3 = .ok (.iload_n 0, 1) := by decide +kernel
theorem dX9_allBut_4 : decode cX9_allBut 4 = .ok (.ishl, 1) := by decide +kernel
theorem dX9_allBut_5 : decode cX9_allBut 5 = .ok (.iconst (-1), 1) := by decide +kernel
theorem dX9_allBut_6 : decode cX9_allBut 6 = .ok (.ixor, 1) := by decide +kernel
theorem dX9_allBut_7 : decode cX9_allBut 7 = .ok (.iand, 1) := by decide +kernel
theorem dX9_allBut_8 : decode cX9_allBut 8 = .ok (.ireturn, 1) := by decide +kernel
theorem dX9_isWithin_0 : decode cX9_isWithin 0 = .ok (.iload_n 0, 1) := by decide +kernel
theorem dX9_isWithin_1 : decode cX9_isWithin 1 = .ok (.iload_n 1, 1) := by decide +kernel
theorem dX9_isWithin_2 : decode cX9_isWithin 2 = .ok (.if_icmp .lt 12, 3) := by decide +kernel
theorem dX9_isWithin_5 : decode cX9_isWithin 5 = .ok (.iload_n 0, 1) := by decide +kernel
theorem dX9_isWithin_6 : decode cX9_isWithin 6 = .ok (.iload_n 2, 1) := by decide +kernel
theorem dX9_isWithin_7 : decode cX9_isWithin 7 = .ok (.if_icmp .gt 7, 3) := by decide +kernel
theorem dX9_isWithin_10 : decode cX9_isWithin 10 = .ok (.iconst 1, 1) := by decide +kernel
theorem dX9_isWithin_11 : decode cX9_isWithin 11 = .ok (.goto 4, 3) := by decide +kernel
theorem dX9_isWithin_14 : decode cX9_isWithin 14 = .ok (.iconst 0, 1) := by decide +kernel
theorem dX9_isWithin_15 : decode cX9_isWithin 15 = .ok (.ireturn, 1) := by decide +kernel
theorem dX9_quotient_0 : decode cX9_quotient 0 = .ok (.lload_n 2, 1) := by decide +kernel
theorem dX9_quotient_1 : decode cX9_quotient 1 = .ok (.lconst 0, 1) := by decide +kernel
theorem dX9_quotient_2 : decode cX9_quotient 2 = .ok (.lcmp, 1) := by decide +kernel
theorem dX9_quotient_3 : decode cX9_quotient 3 = .ok (.ifCond .gt 5, 3) := by decide +kernel
theorem dX9_quotient_6 : decode cX9_quotient 6 = .ok (.lconst 0, 1) := by decide +kernel
theorem dX9_quotient_7 : decode cX9_quotient 7 = .ok (.lreturn, 1) := by decide +kernel
theorem dX9_quotient_8 : decode cX9_quotient 8 = .ok (.lload_n 0, 1) := by decide +kernel
theorem dX9_quotient_9 : decode cX9_quotient 9 = .ok (.lload_n 2, 1) := by decide +kernel
theorem dX9_quotient_10 : decode cX9_quotient 10 = .ok (.ldiv, 1) := by decide +kernel
theorem dX9_quotient_11 : decode cX9_quotient 11 = .ok (.lstore 4, 2) := by decide +kernel
theorem dX9_quotient_13 : decode cX9_quotient 13 = .ok (.lload_n 0, 1) := by decide +kernel
theorem dX9_quotient_14 : decode cX9_quotient 14 = .ok (.lload_n 2, 1) := by decide +kernel
theorem dX9_quotient_15 : decode cX9_quotient 15 = .ok (.lrem, 1) := by decide +kernel
theorem dX9_quotient_16 : decode cX9_quotient 16 = .ok (.lconst 0, 1) := by decide +kernel
theorem dX9_quotient_17 : decode cX9_quotient 17 = .ok (.lcmp, 1) := by decide +kernel
theorem dX9_quotient_18 : decode cX9_quotient 18 = .ok (.ifCond .ge 10, 3) := by decide +kernel
theorem dX9_quotient_21 : decode cX9_quotient 21 = .ok (.lload 4, 2) := by decide +kernel
theorem dX9_quotient_23 : decode cX9_quotient 23 = .ok (.lconst 1, 1) := by decide +kernel
theorem dX9_quotient_24 : decode cX9_quotient 24 = .ok (.lsub, 1) := by decide +kernel
theorem dX9_quotient_25 : decode cX9_quotient 25 = .ok (.goto 5, 3) := by decide +kernel
theorem dX9_quotient_28 : decode cX9_quotient 28 = .ok (.lload 4, 2) := by decide +kernel
theorem dX9_quotient_30 : decode cX9_quotient 30 = .ok (.lreturn, 1) := by decide +kernel
theorem dX10_isIn_0 : decode cX10_isIn 0 = .ok (.lload_n 0, 1) := by decide +kernel
theorem dX10_isIn_1 : decode cX10_isIn 1 = .ok (.lload_n 2, 1) := by decide +kernel
theorem dX10_isIn_2 : decode cX10_isIn 2 = .ok (.lcmp, 1) := by decide +kernel
theorem dX10_isIn_3 : decode cX10_isIn 3 = .ok (.ifCond .lt 14, 3) := by decide +kernel
theorem dX10_isIn_6 : decode cX10_isIn 6 = .ok (.lload_n 0, 1) := by decide +kernel
theorem dX10_isIn_7 : decode cX10_isIn 7 = .ok (.lload 4, 2) := by decide +kernel
theorem dX10_isIn_9 : decode cX10_isIn 9 = .ok (.lcmp, 1) := by decide +kernel
theorem dX10_isIn_10 : decode cX10_isIn 10 = .ok (.ifCond .gt 7, 3) := by decide +kernel
theorem dX10_isIn_13 : decode cX10_isIn 13 = .ok (.iconst 1, 1) := by decide +kernel
theorem dX10_isIn_14 : decode cX10_isIn 14 = .ok (.goto 4, 3) := by decide +kernel
theorem dX10_isIn_17 : decode cX10_isIn 17 = .ok (.iconst 0, 1) := by decide +kernel
theorem dX10_isIn_18 : decode cX10_isIn 18 = .ok (.ireturn, 1) := by decide +kernel
theorem dX10_down_0 : decode cX10_down 0 = .ok (.lload_n 0, 1) := by decide +kernel
theorem dX10_down_1 : decode cX10_down 1 = .ok (.lload_n 2, 1) := by decide +kernel
theorem dX10_down_2 : decode cX10_down 2 = .ok (.ldiv, 1) := by decide +kernel
theorem dX10_down_3 : decode cX10_down 3 = .ok (.lstore 4, 2) := by decide +kernel
theorem dX10_down_5 : decode cX10_down 5 = .ok (.lload 4, 2) := by decide +kernel
theorem dX10_down_7 : decode cX10_down 7 = .ok (.lload_n 2, 1) := by decide +kernel
theorem dX10_down_8 : decode cX10_down 8 = .ok (.lmul, 1) := by decide +kernel
theorem dX10_down_9 : decode cX10_down 9 = .ok (.lload_n 0, 1) := by decide +kernel
theorem dX10_down_10 : decode cX10_down 10 = .ok (.lcmp, 1) := by decide +kernel
theorem dX10_down_11 : decode cX10_down 11 = .ok (.ifCond .le 10, 3) := by decide +kernel
theorem dX10_down_14 : decode cX10_down 14 = .ok (.lload 4, 2) := by decide +kernel
theorem dX10_down_16 : decode cX10_down 16 = .ok (.lconst 1, 1) := by decide +kernel
theorem dX10_down_17 : decode cX10_down 17 = .ok (.lsub, 1) := by decide +kernel
theorem dX10_down_18 : decode cX10_down 18 = .ok (.goto 5, 3) := by decide +kernel
theorem dX10_down_21 : decode cX10_down 21 = .ok (.lload 4, 2) := by decide +kernel
theorem dX10_down_23 : decode cX10_down 23 = .ok (.lreturn, 1) := by decide +kernel
theorem dX10_init_0 : decode cX10_init 0 = .ok (.aload_n 0, 1) := by decide +kernel
theorem dX10_init_1 : decode cX10_init 1 = .ok (.invokespecial 7, 3) := by decide +kernel
theorem dX10_init_4 : decode cX10_init 4 = .ok (.aload_n 0, 1) := by decide +kernel
theorem dX10_init_5 : decode cX10_init 5 = .ok (.iconst 5, 1) := by decide +kernel
theorem dX10_init_6 : decode cX10_init 6 = .ok (.newarray .int, 2) := by decide +kernel
theorem dX10_init_8 : decode cX10_init 8 = .ok (.putfield 13, 3) := by decide +kernel
theorem dX10_init_11 : decode cX10_init 11 = .ok (.aload_n 0, 1) := by decide +kernel
theorem dX10_init_12 : decode cX10_init 12 = .ok (.sipush 522, 3) := by decide +kernel
theorem dX10_init_15 : decode cX10_init 15 = .ok (.newarray .int, 2) := by decide +kernel
theorem dX10_init_17 : decode cX10_init 17 = .ok (.putfield 17, 3) := by decide +kernel
theorem dX10_init_20 : decode cX10_init 20 = .ok (.aload_n 0, 1) := by decide +kernel
theorem dX10_init_21 : decode cX10_init 21 = .ok (.bipush 10, 2) := by decide +kernel
theorem dX10_init_23 : decode cX10_init 23 = .ok (.newarray .int, 2) := by decide +kernel
theorem dX10_init_25 : decode cX10_init 25 = .ok (.putfield 20, 3) := by decide +kernel
theorem dX10_init_28 : decode cX10_init 28 = .ok (.aload_n 0, 1) := by decide +kernel
theorem dX10_init_29 : decode cX10_init 29 = .ok (.bipush 8, 2) := by decide +kernel
theorem dX10_init_31 : decode cX10_init 31 = .ok (.newarray .int, 2) := by decide +kernel
theorem dX10_init_33 : decode cX10_init 33 = .ok (.putfield 23, 3) := by decide +kernel
theorem dX10_init_36 : decode cX10_init 36 = .ok (.aload_n 0, 1) := by decide +kernel
theorem dX10_init_37 : decode cX10_init 37 = .ok (.sipush 435, 3) := by decide +kernel
theorem dX10_init_40 : decode cX10_init 40 = .ok (.newarray .int, 2) := by decide +kernel
theorem dX10_init_42 : decode cX10_init 42 = .ok (.putfield 26, 3) := by decide +kernel
theorem dX10_init_45 : decode cX10_init 45 = .ok (.aload_n 0, 1) := by decide +kernel
theorem dX10_init_46 : decode cX10_init 46 = .ok (.iconst 5, 1) := by decide +kernel
theorem dX10_init_47 : decode cX10_init 47 = .ok (.newarray .int, 2) := by decide +kernel
theorem dX10_init_49 : decode cX10_init 49 = .ok (.putfield 29, 3) := by decide +kernel
theorem dX10_init_52 : decode cX10_init 52 = .ok (.aload_n 0, 1) := by decide +kernel
theorem dX10_init_53 : decode cX10_init 53 = .ok (.iconst 5, 1) := by decide +kernel
theorem dX10_init_54 : decode cX10_init 54 = .ok (.newarray .long, 2) := by decide +kernel
theorem dX10_init_56 : decode cX10_init 56 = .ok (.putfield 32, 3) := by decide +kernel
theorem dX10_init_59 : decode cX10_init 59 = .ok (.aload_n 0, 1) := by decide +kernel
theorem dX10_init_60 : decode cX10_init 60 = .ok (.iconst 5, 1) := by decide +kernel
theorem dX10_init_61 : decode cX10_init 61 = .ok (.newarray .long, 2) := by decide +kernel
theorem dX10_init_63 : decode cX10_init 63 = .ok (.putfield 36, 3) := by decide +kernel
theorem dX10_init_66 : decode cX10_init 66 = .ok (.aload_n 0, 1) := by decide +kernel
theorem dX10_init_67 : decode cX10_init 67 = .ok (.bipush 64, 2) := by decide +kernel
theorem dX10_init_69 : decode cX10_init 69 = .ok (.newarray .int, 2) := by decide +kernel
theorem dX10_init_71 : decode cX10_init 71 = .ok (.putfield 39, 3) := by decide +kernel
theorem dX10_init_74 : decode cX10_init 74 = .ok (.aload_n 0, 1) := by decide +kernel
theorem dX10_init_75 : decode cX10_init 75 = .ok (.bipush 64, 2) := by decide +kernel
theorem dX10_init_77 : decode cX10_init 77 = .ok (.newarray .long, 2) := by decide +kernel
theorem dX10_init_79 : decode cX10_init 79 = .ok (.putfield 42, 3) := by decide +kernel
theorem dX10_init_82 : decode cX10_init 82 = .ok (.aload_n 0, 1) := by decide +kernel
theorem dX10_init_83 : decode cX10_init 83 = .ok (.bipush 8, 2) := by decide +kernel
theorem dX10_init_85 : decode cX10_init 85 = .ok (.newarray .int, 2) := by decide +kernel
theorem dX10_init_87 : decode cX10_init 87 = .ok (.putfield 45, 3) := by decide +kernel
theorem dX10_init_90 : decode cX10_init 90 = .ok (.aload_n 0, 1) := by decide +kernel
theorem dX10_init_91 : decode cX10_init 91 = .ok (.iconst 2, 1) := by decide +kernel
theorem dX10_init_92 : decode cX10_init 92 = .ok (.invokevirtual 48, 3) := by decide +kernel
theorem dX10_init_95 : decode cX10_init 95 = .ok (.return_, 1) := by decide +kernel
theorem dX10_starts_0 : decode cX10_starts 0 = .ok (.aload_n 0, 1) := by decide +kernel
theorem dX10_starts_1 : decode cX10_starts 1 = .ok (.iload_n 1, 1) := by decide +kernel
theorem dX10_starts_2 : decode cX10_starts 2 = .ok (.putfield 52, 3) := by decide +kernel
theorem dX10_starts_5 : decode cX10_starts 5 = .ok (.aload_n 0, 1) := by decide +kernel
theorem dX10_starts_6 : decode cX10_starts 6 = .ok (.iconst 0, 1) := by decide +kernel
theorem dX10_starts_7 : decode cX10_starts 7 = .ok (.putfield 55, 3) := by decide +kernel
theorem dX10_starts_10 : decode cX10_starts 10 = .ok (.aload_n 0, 1) := by decide +kernel
theorem dX10_starts_11 : decode cX10_starts 11 = .ok (.iconst 0, 1) := by decide +kernel
theorem dX10_starts_12 : decode cX10_starts 12 = .ok (.putfield 58, 3) := by decide +kernel
theorem dX10_starts_15 : decode cX10_starts 15 = .ok (.aload_n 0, 1) := by decide +kernel
theorem dX10_starts_16 : decode cX10_starts 16 = .ok (.iconst 0, 1) := by decide +kernel
theorem dX10_starts_17 : decode cX10_starts 17 = .ok (.putfield 61, 3) := by decide +kernel
theorem dX10_starts_20 : decode cX10_starts 20 = .ok (.aload_n 0, 1) := by decide +kernel
theorem dX10_starts_21 : decode cX10_starts 21 = .ok (.bipush 50, 2) := by decide +kernel
theorem dX10_starts_23 : decode cX10_starts 23 = .ok (.putfield 64, 3) := by decide +kernel
theorem dX10_starts_26 : decode cX10_starts 26 = .ok (.aload_n 0, 1) := by decide +kernel
theorem dX10_starts_27 : decode cX10_starts 27 = .ok (.iconst 0, 1) := by decide +kernel
theorem dX10_starts_28 : decode cX10_starts 28 = .ok (.putfield 67, 3) := by decide +kernel
theorem dX10_starts_31 : decode cX10_starts 31 = .ok (.aload_n 0, 1) := by decide +kernel
theorem dX10_starts_32 : decode cX10_starts 32 = .ok (.iconst 0, 1) := by decide +kernel
theorem dX10_starts_33 : decode cX10_starts 33 = .ok (.putfield 70, 3) := by decide +kernel
theorem dX10_starts_36 : decode cX10_starts 36 = .ok (.aload_n 0, 1) := by decide +kernel
theorem dX10_starts_37 : decode cX10_starts 37 = .ok (.iconst 1, 1) := by decide +kernel
theorem dX10_starts_38 : decode cX10_starts 38 = .ok (.putfield 74, 3) := by decide +kernel
theorem dX10_starts_41 : decode cX10_starts 41 = .ok (.aload_n 0, 1) := by decide +kernel
theorem dX10_starts_42 : decode cX10_starts 42 = .ok (.iconst 1, 1) := by decide +kernel
theorem dX10_starts_43 : decode cX10_starts 43 = .ok (.putfield 77, 3) := by decide +kernel
theorem dX10_starts_46 : decode cX10_starts 46 = .ok (.iconst 0, 1) := by decide +kernel
theorem dX10_starts_47 : decode cX10_starts 47 = .ok (.istore_n 2, 1) := by decide +kernel
theorem dX10_starts_48 : decode cX10_starts 48 = .ok (.iload_n 2, 1) := by decide +kernel
theorem dX10_starts_49 : decode cX10_starts 49 = .ok (.iconst 5, 1) := by decide +kernel
theorem dX10_starts_50 : decode cX10_starts 50 = .ok (.if_icmp .ge 18, 3) := by decide +kernel
theorem dX10_starts_53 : decode cX10_starts 53 = .ok (.aload_n 0, 1) := by decide +kernel
theorem dX10_starts_54 : decode cX10_starts 54 = .ok (.getfield 13, 3) := by decide +kernel
theorem dX10_starts_57 : decode cX10_starts 57 = .ok (.iload_n 2, 1) := by decide +kernel
theorem dX10_starts_58 : decode cX10_starts 58 = .ok (.sipush 1000, 3) := by decide +kernel
theorem dX10_starts_61 : decode cX10_starts 61 = .ok (.iastore, 1) := by decide +kernel
theorem dX10_starts_62 : decode cX10_starts 62 = .ok (.iinc 2 1, 3) := by decide +kernel
theorem dX10_starts_65 : decode cX10_starts 65 = .ok (.goto (-17), 3) := by decide +kernel
theorem dX10_starts_68 : decode cX10_starts 68 = .ok (.return_, 1) := by decide +kernel
theorem dX10_reset_0 : decode cX10_reset 0 = .ok (.aload_n 0, 1) := by decide +kernel
theorem dX10_reset_1 : decode cX10_reset 1 = .ok (.iconst 0, 1) := by decide +kernel
theorem dX10_reset_2 : decode cX10_reset 2 = .ok (.putfield 1, 3) := by decide +kernel
theorem dX10_reset_5 : decode cX10_reset 5 = .ok (.iload_n 1, 1) := by decide +kernel
theorem dX10_reset_6 : decode cX10_reset 6 = .ok (.i2l, 1) := by decide +kernel
theorem dX10_reset_7 : decode cX10_reset 7 = .ok (.ldc2_w 80, 3) := by decide +kernel
theorem dX10_reset_10 : decode cX10_reset 10 = .ok (.ldc2_w 82, 3) := by decide +kernel
theorem dX10_reset_13 : decode cX10_reset 13 = .ok (.invokestatic 84, 3) := by decide +kernel
theorem dX10_reset_16 : decode cX10_reset 16 = .ok (.ifCond .ne 6, 3) := by decide +kernel
theorem dX10_reset_19 : decode cX10_reset 19 = .ok (.bipush (-3), 2) := by decide +kernel
theorem dX10_reset_21 : decode cX10_reset 21 = .ok (.ireturn, 1) := by decide +kernel
theorem dX10_reset_22 : decode cX10_reset 22 = .ok (.aload_n 0, 1) := by decide +kernel
theorem dX10_reset_23 : decode cX10_reset 23 = .ok (.iload_n 1, 1) := by decide +kernel
theorem dX10_reset_24 : decode cX10_reset 24 = .ok (.invokevirtual 48, 3) := by decide +kernel
theorem dX10_reset_27 : decode cX10_reset 27 = .ok (.iload_n 1, 1) := by decide +kernel
theorem dX10_reset_28 : decode cX10_reset 28 = .ok (.ireturn, 1) := by decide +kernel
theorem dX10_sensorCount_0 : decode cX10_sensorCount 0 = .ok (.aload_n 0, 1) := by decide +kernel
theorem dX10_sensorCount_1 : decode cX10_sensorCount 1 = .ok (.iconst 0, 1) := by decide +kernel
theorem dX10_sensorCount_2 : decode cX10_sensorCount 2 = .ok (.putfield 1, 3) := by decide +kernel
theorem dX10_sensorCount_5 : decode cX10_sensorCount 5 = .ok (.aload_n 0, 1) := by decide +kernel
theorem dX10_sensorCount_6 : decode cX10_sensorCount 6 = .ok (.getfield 52, 3) := by decide +kernel
theorem dX10_sensorCount_9 : decode cX10_sensorCount 9 = .ok (.ireturn, 1) := by decide +kernel
theorem dX10_isSensor_0 : decode cX10_isSensor 0 = .ok (.iload_n 1, 1) := by decide +kernel
theorem dX10_isSensor_1 : decode cX10_isSensor 1 = .ok (.i2l, 1) := by decide +kernel
theorem dX10_isSensor_2 : decode cX10_isSensor 2 = .ok (.lconst 0, 1) := by decide +kernel
theorem dX10_isSensor_3 : decode cX10_isSensor 3 = .ok (.aload_n 0, 1) := by decide +kernel
theorem dX10_isSensor_4 : decode cX10_isSensor 4 = .ok (.getfield 52, 3) := by decide +kernel
theorem dX10_isSensor_7 : decode cX10_isSensor 7 = .ok (.iconst 1, 1) := by decide +kernel
theorem dX10_isSensor_8 : decode cX10_isSensor 8 = .ok (.isub, 1) := by decide +kernel
theorem dX10_isSensor_9 : decode cX10_isSensor 9 = .ok (.i2l, 1) := by decide +kernel
theorem dX10_isSensor_10 : decode cX10_isSensor 10 = .ok (.invokestatic 84, 3) := by decide +kernel
theorem dX10_isSensor_13 : decode cX10_isSensor 13 = .ok (.ireturn, 1) := by decide +kernel
theorem dX10_setBaseline_0 : decode cX10_setBaseline 0 = .ok (.aload_n 0, 1) := by decide +kernel
theorem dX10_setBaseline_1 : decode cX10_setBaseline 1 = .ok (.iconst 0, 1) := by decide +kernel
theorem dX10_setBaseline_2 : decode cX10_setBaseline 2 = .ok (.putfield 1, 3) := by decide +kernel
theorem dX10_setBaseline_5 : decode cX10_setBaseline 5 = .ok (.aload_n 0, 1) := by decide +kernel
theorem dX10_setBaseline_6 : decode cX10_setBaseline 6 = .ok (.iload_n 1, 1) := by decide +kernel
theorem dX10_setBaseline_7 : decode cX10_setBaseline 7 = .ok (.invokevirtual 88, 3) := by decide +kernel
theorem dX10_setBaseline_10 : decode cX10_setBaseline 10 = .ok (.ifCond .ne 6, 3) := by decide +kernel
theorem dX10_setBaseline_13 : decode cX10_setBaseline 13 = .ok (.bipush (-2), 2) := by decide +kernel
theorem dX10_setBaseline_15 : decode cX10_setBaseline 15 = .ok (.ireturn, 1) := by decide +kernel
theorem dX10_setBaseline_16 : decode cX10_setBaseline 16 = .ok (.iload_n 2, 1) := by decide +kernel
theorem dX10_setBaseline_17 : decode cX10_setBaseline 17 = .ok (.i2l, 1) := by decide +kernel
theorem dX10_setBaseline_18 : decode cX10_setBaseline 18 = .ok (.ldc2_w 92, 3) := by decide +kernel
theorem dX10_setBaseline_21 : decode cX10_setBaseline 21 = .ok (.ldc2_w 94, 3) := by decide +kernel
theorem dX10_setBaseline_24 : decode cX10_setBaseline 24 = .ok (.invokestatic 84, 3) := by decide +kernel
theorem dX10_setBaseline_27 : decode cX10_setBaseline 27 = .ok (.ifCond .ne 6, 3) := by decide +kernel
theorem dX10_setBaseline_30 : decode cX10_setBaseline 30 = .ok (.bipush (-3), 2) := by decide +kernel
theorem dX10_setBaseline_32 : decode cX10_setBaseline 32 = .ok (.ireturn, 1) := by decide +kernel
theorem dX10_setBaseline_33 : decode cX10_setBaseline 33 = .ok (.aload_n 0, 1) := by decide +kernel
theorem dX10_setBaseline_34 : decode cX10_setBaseline 34 = .ok (.getfield 13, 3) := by decide +kernel
theorem dX10_setBaseline_37 : decode cX10_setBaseline 37 = .ok (.iload_n 1, 1) := by decide +kernel
theorem dX10_setBaseline_38 : decode cX10_setBaseline 38 = .ok (.iaload, 1) := by decide +kernel
theorem dX10_setBaseline_39 : decode cX10_setBaseline 39 = .ok (.istore_n 3, 1) := by decide +kernel
theorem dX10_setBaseline_40 : decode cX10_setBaseline 40 = .ok (.aload_n 0, 1) := by decide +kernel
theorem dX10_setBaseline_41 : decode cX10_setBaseline 41 = .ok (.getfield 13, 3) := by decide +kernel
theorem dX10_setBaseline_44 : decode cX10_setBaseline 44 = .ok (.iload_n 1, 1) := by decide +kernel
theorem dX10_setBaseline_45 : decode cX10_setBaseline 45 = .ok (.iload_n 2, 1) := by decide +kernel
theorem dX10_setBaseline_46 : decode cX10_setBaseline 46 = .ok (.iastore, 1) := by decide +kernel
theorem dX10_setBaseline_47 : decode cX10_setBaseline 47 = .ok (.iload_n 3, 1) := by decide +kernel
theorem dX10_setBaseline_48 : decode cX10_setBaseline 48 = .ok (.ireturn, 1) := by decide +kernel
theorem dX10_measure_0 : decode cX10_measure 0 = .ok (.aload_n 0, 1) := by decide +kernel
theorem dX10_measure_1 : decode cX10_measure 1 = .ok (.iconst 0, 1) := by decide +kernel
theorem dX10_measure_2 : decode cX10_measure 2 = .ok (.putfield 1, 3) := by decide +kernel
theorem dX10_measure_5 : decode cX10_measure 5 = .ok (.iload_n 1, 1) := by decide +kernel
theorem dX10_measure_6 : decode cX10_measure 6 = .ok (.i2l, 1) := by decide +kernel
theorem dX10_measure_7 : decode cX10_measure 7 = .ok (.lconst 0, 1) := by decide +kernel
theorem dX10_measure_8 : decode cX10_measure 8 = .ok (.ldc2_w 92, 3) := by decide +kernel
theorem dX10_measure_11 : decode cX10_measure 11 = .ok (.invokestatic 84, 3) := by decide +kernel
theorem dX10_measure_14 : decode cX10_measure 14 = .ok (.istore 7, 2) := by decide +kernel
theorem dX10_measure_16 : decode cX10_measure 16 = .ok (.iconst 0, 1) := by decide +kernel
theorem dX10_measure_17 : decode cX10_measure 17 = .ok (.istore 8, 2) := by decide +kernel
theorem dX10_measure_19 : decode cX10_measure 19 = .ok (.iload 8, 2) := by decide +kernel
theorem dX10_measure_21 : decode cX10_measure 21 = .ok (.iconst 5, 1) := by decide +kernel
theorem dX10_measure_22 : decode cX10_measure 22 = .ok (.if_icmp .ge 92, 3) := by decide +kernel
theorem dX10_measure_25 : decode cX10_measure 25 = .ok (.iload 8, 2) := by decide +kernel
theorem dX10_measure_27 : decode cX10_measure 27 = .ok (.ifCond .ne 7, 3) := by decide +kernel
theorem dX10_measure_30 : decode cX10_measure 30 = .ok (.iload_n 2, 1) := by decide +kernel
theorem dX10_measure_31 : decode cX10_measure 31 = .ok (.goto 37, 3) := by decide +kernel
theorem dX10_measure_34 : decode cX10_measure 34 = .ok (.iload 8, 2) := by decide +kernel
theorem dX10_measure_36 : decode cX10_measure 36 = .ok (.iconst 1, 1) := by decide +kernel
theorem dX10_measure_37 : decode cX10_measure 37 = .ok (.if_icmp .ne 7, 3) := by decide +kernel
theorem dX10_measure_40 : decode cX10_measure 40 = .ok (.iload_n 3, 1) := by decide +kernel
theorem dX10_measure_41 : decode cX10_measure 41 = .ok (.goto 27, 3) := by decide +kernel
theorem dX10_measure_44 : decode cX10_measure 44 = .ok (.iload 8, 2) := by decide +kernel
theorem dX10_measure_46 : decode cX10_measure 46 = .ok (.iconst 2, 1) := by decide +kernel
theorem dX10_measure_47 : decode cX10_measure 47 = .ok (.if_icmp .ne 8, 3) := by decide +kernel
theorem dX10_measure_50 : decode cX10_measure 50 = .ok (.iload 4, 2) := by decide +kernel
theorem dX10_measure_52 : decode cX10_measure 52 = .ok (.goto 16, 3) := by decide +kernel
theorem dX10_measure_55 : decode cX10_measure 55 = .ok (.iload 8, 2) := by decide +kernel
theorem dX10_measure_57 : decode cX10_measure 57 = .ok (.iconst 3, 1) := by decide +kernel
theorem dX10_measure_58 : decode cX10_measure 58 = .ok (.if_icmp .ne 8, 3) := by decide +kernel
theorem dX10_measure_61 : decode cX10_measure 61 = .ok (.iload 5, 2) := by decide +kernel
theorem dX10_measure_63 : decode cX10_measure 63 = .ok (.goto 5, 3) := by decide +kernel
theorem dX10_measure_66 : decode cX10_measure 66 = .ok (.iload 6, 2) := by decide +kernel
theorem dX10_measure_68 : decode cX10_measure 68 = .ok (.istore 9, 2) := by decide +kernel
theorem dX10_measure_70 : decode cX10_measure 70 = .ok (.iload 7, 2) := by decide +kernel
theorem dX10_measure_72 : decode cX10_measure 72 = .ok (.ifCond .eq 33, 3) := by decide +kernel
theorem dX10_measure_75 : decode cX10_measure 75 = .ok (.iload 9, 2) := by decide +kernel
theorem dX10_measure_77 : decode cX10_measure 77 = .ok (.i2l, 1) := by decide +kernel
theorem dX10_measure_78 : decode cX10_measure 78 = .ok (.lconst 0, 1) := by decide +kernel
theorem dX10_measure_79 : decode cX10_measure 79 = .ok (.aload_n 0, 1) := by decide +kernel
theorem dX10_measure_80 : decode cX10_measure 80 = .ok (.iload 8, 2) := by decide +kernel
theorem dX10_measure_82 : decode cX10_measure 82 = .ok (.invokevirtual 88, 3) := by decide +kernel
theorem dX10_measure_85 : decode cX10_measure 85 = .ok (.ifCond .eq 9, 3) := by decide +kernel
theorem dX10_measure_88 : decode cX10_measure 88 = .ok (.ldc2_w 94, 3) := by decide +kernel
theorem dX10_measure_91 : decode cX10_measure 91 = .ok (.goto 4, 3) := by decide +kernel
theorem dX10_measure_94 : decode cX10_measure 94 = .ok (.lconst 0, 1) := by decide +kernel
theorem dX10_measure_95 : decode cX10_measure 95 = .ok (.invokestatic 84, 3) := by decide +kernel
theorem dX10_measure_98 : decode cX10_measure 98 = .ok (.ifCond .eq 7, 3) := by decide +kernel
theorem dX10_measure_101 : decode cX10_measure 101 = .ok (.iconst 1, 1) := by decide +kernel
theorem dX10_measure_102 : decode cX10_measure 102 = .ok (.goto 4, 3) := by decide +kernel
theorem dX10_measure_105 : decode cX10_measure 105 = .ok (.iconst 0, 1) := by decide +kernel
theorem dX10_measure_106 : decode cX10_measure 106 = .ok (.istore 7, 2) := by decide +kernel
theorem dX10_measure_108 : decode cX10_measure 108 = .ok (.iinc 8 1, 3) := by decide +kernel
theorem dX10_measure_111 : decode cX10_measure 111 = .ok (.goto (-92), 3) := by decide +kernel
theorem dX10_measure_114 : decode cX10_measure 114 = .ok (.iload 7, 2) := by decide +kernel
theorem dX10_measure_116 : decode cX10_measure 116 = .ok (.ifCond .ne 6, 3) := by decide +kernel
theorem dX10_measure_119 : decode cX10_measure 119 = .ok (.bipush (-3), 2) := by decide +kernel
theorem dX10_measure_121 : decode cX10_measure 121 = .ok (.ireturn, 1) := by decide +kernel
theorem dX10_measure_122 : decode cX10_measure 122 = .ok (.aload_n 0, 1) := by decide +kernel
theorem dX10_measure_123 : decode cX10_measure 123 = .ok (.iconst 1, 1) := by decide +kernel
theorem dX10_measure_124 : decode cX10_measure 124 = .ok (.putfield 70, 3) := by decide +kernel
theorem dX10_measure_127 : decode cX10_measure 127 = .ok (.aload_n 0, 1) := by decide +kernel
theorem dX10_measure_128 : decode cX10_measure 128 = .ok (.getfield 17, 3) := by decide +kernel
theorem dX10_measure_131 : decode cX10_measure 131 = .ok (.iconst 0, 1) := by decide +kernel
theorem dX10_measure_132 : decode cX10_measure 132 = .ok (.iload_n 1, 1) := by decide +kernel
theorem dX10_measure_133 : decode cX10_measure 133 = .ok (.iastore, 1) := by decide +kernel
theorem dX10_measure_134 : decode cX10_measure 134 = .ok (.aload_n 0, 1) := by decide +kernel
theorem dX10_measure_135 : decode cX10_measure 135 = .ok (.getfield 17, 3) := by decide +kernel
theorem dX10_measure_138 : decode cX10_measure 138 = .ok (.iconst 1, 1) := by decide +kernel
theorem dX10_measure_139 : decode cX10_measure 139 = .ok (.iload_n 2, 1) := by decide +kernel
theorem dX10_measure_140 : decode cX10_measure 140 = .ok (.iastore, 1) := by decide +kernel
theorem dX10_measure_141 : decode cX10_measure 141 = .ok (.aload_n 0, 1) := by decide +kernel
theorem dX10_measure_142 : decode cX10_measure 142 = .ok (.getfield 17, 3) := by decide +kernel
theorem dX10_measure_145 : decode cX10_measure 145 = .ok (.iconst 2, 1) := by decide +kernel
theorem dX10_measure_146 : decode cX10_measure 146 = .ok (.iload_n 3, 1) := by decide +kernel
theorem dX10_measure_147 : decode cX10_measure 147 = .ok (.iastore, 1) := by decide +kernel
theorem dX10_measure_148 : decode cX10_measure 148 = .ok (.aload_n 0, 1) := by decide +kernel
theorem dX10_measure_149 : decode cX10_measure 149 = .ok (.getfield 17, 3) := by decide +kernel
theorem dX10_measure_152 : decode cX10_measure 152 = .ok (.iconst 3, 1) := by decide +kernel
theorem dX10_measure_153 : decode cX10_measure 153 = .ok (.iload 4, 2) := by decide +kernel
theorem dX10_measure_155 : decode cX10_measure 155 = .ok (.iastore, 1) := by decide +kernel
theorem dX10_measure_156 : decode cX10_measure 156 = .ok (.aload_n 0, 1) := by decide +kernel
theorem dX10_measure_157 : decode cX10_measure 157 = .ok (.getfield 17, 3) := by decide +kernel
theorem dX10_measure_160 : decode cX10_measure 160 = .ok (.iconst 4, 1) := by decide +kernel
theorem dX10_measure_161 : decode cX10_measure 161 = .ok (.iload 5, 2) := by decide +kernel
theorem dX10_measure_163 : decode cX10_measure 163 = .ok (.iastore, 1) := by decide +kernel
theorem dX10_measure_164 : decode cX10_measure 164 = .ok (.aload_n 0, 1) := by decide +kernel
theorem dX10_measure_165 : decode cX10_measure 165 = .ok (.getfield 17, 3) := by decide +kernel
theorem dX10_measure_168 : decode cX10_measure 168 = .ok (.iconst 5, 1) := by decide +kernel
theorem dX10_measure_169 : decode cX10_measure 169 = .ok (.iload 6, 2) := by decide +kernel
theorem dX10_measure_171 : decode cX10_measure 171 = .ok (.iastore, 1) := by decide +kernel
theorem dX10_measure_172 : decode cX10_measure 172 = .ok (.iload_n 2, 1) := by decide +kernel
theorem dX10_measure_173 : decode cX10_measure 173 = .ok (.iload_n 3, 1) := by decide +kernel
theorem dX10_measure_174 : decode cX10_measure 174 = .ok (.iadd, 1) := by decide +kernel
theorem dX10_measure_175 : decode cX10_measure 175 = .ok (.iload 4, 2) := by decide +kernel
theorem dX10_measure_177 : decode cX10_measure 177 = .ok (.iadd, 1) := by decide +kernel
theorem dX10_measure_178 : decode cX10_measure 178 = .ok (.iload 5, 2) := by decide +kernel
theorem dX10_measure_180 : decode cX10_measure 180 = .ok (.iadd, 1) := by decide +kernel
theorem dX10_measure_181 : decode cX10_measure 181 = .ok (.iload 6, 2) := by decide +kernel
theorem dX10_measure_183 : decode cX10_measure 183 = .ok (.iadd, 1) := by decide +kernel
theorem dX10_measure_184 : decode cX10_measure 184 = .ok (.ireturn, 1) := by decide +kernel
theorem dX10_copies_0 : decode cX10_copies 0 = .ok (.iconst 0, 1) := by decide +kernel
theorem dX10_copies_1 : decode cX10_copies 1 = .ok (.istore_n 3, 1) := by decide +kernel
theorem dX10_copies_2 : decode cX10_copies 2 = .ok (.iload_n 3, 1) := by decide +kernel
theorem dX10_copies_3 : decode cX10_copies 3 = .ok (.bipush 6, 2) := by decide +kernel
theorem dX10_copies_5 : decode cX10_copies 5 = .ok (.if_icmp .ge 31, 3) := by decide +kernel
theorem dX10_copies_8 : decode cX10_copies 8 = .ok (.aload_n 0, 1) := by decide +kernel
theorem dX10_copies_9 : decode cX10_copies 9 = .ok (.getfield 17, 3) := by decide +kernel
theorem dX10_copies_12 : decode cX10_copies 12 = .ok (.bipush 6, 2) := by decide +kernel
theorem dX10_copies_14 : decode cX10_copies 14 = .ok (.iload_n 2, 1) := by decide +kernel
theorem dX10_copies_15 : decode cX10_copies 15 = .ok (.imul, 1) := by decide +kernel
theorem dX10_copies_16 : decode cX10_copies 16 = .ok (.iload_n 3, 1) := by decide +kernel
theorem dX10_copies_17 : decode cX10_copies 17 = .ok (.iadd, 1) := by decide +kernel
theorem dX10_copies_18 : decode cX10_copies 18 = .ok (.aload_n 0, 1) := by decide +kernel
theorem dX10_copies_19 : decode cX10_copies 19 = .ok (.getfield 17, 3) := by decide +kernel
theorem dX10_copies_22 : decode cX10_copies 22 = .ok (.bipush 6, 2) := by decide +kernel
theorem dX10_copies_24 : decode cX10_copies 24 = .ok (.iload_n 1, 1) := by decide +kernel
theorem dX10_copies_25 : decode cX10_copies 25 = .ok (.imul, 1) := by decide +kernel
theorem dX10_copies_26 : decode cX10_copies 26 = .ok (.iload_n 3, 1) := by decide +kernel
theorem dX10_copies_27 : decode cX10_copies 27 = .ok (.iadd, 1) := by decide +kernel
theorem dX10_copies_28 : decode cX10_copies 28 = .ok (.iaload, 1) := by decide +kernel
theorem dX10_copies_29 : decode cX10_copies 29 = .ok (.iastore, 1) := by decide +kernel
theorem dX10_copies_30 : decode cX10_copies 30 = .ok (.iinc 3 1, 3) := by decide +kernel
theorem dX10_copies_33 : decode cX10_copies 33 = .ok (.goto (-31), 3) := by decide +kernel
theorem dX10_copies_36 : decode cX10_copies 36 = .ok (.return_, 1) := by decide +kernel
theorem dX10_ratioOf_0 : decode cX10_ratioOf 0 = .ok (.sipush 1000, 3) := by decide +kernel
theorem dX10_ratioOf_3 : decode cX10_ratioOf 3 = .ok (.aload_n 0, 1) := by decide +kernel
theorem dX10_ratioOf_4 : decode cX10_ratioOf 4 = .ok (.getfield 17, 3) := by decide +kernel
theorem dX10_ratioOf_7 : decode cX10_ratioOf 7 = .ok (.bipush 6, 2) := by decide +kernel
theorem dX10_ratioOf_9 : decode cX10_ratioOf 9 = .ok (.iload_n 1, 1) := by decide +kernel
theorem dX10_ratioOf_10 : decode cX10_ratioOf 10 = .ok (.imul, 1) := by decide +kernel
theorem dX10_ratioOf_11 : decode cX10_ratioOf 11 = .ok (.iconst 1, 1) := by decide +kernel
theorem dX10_ratioOf_12 : decode cX10_ratioOf 12 = .ok (.iadd, 1) := by decide +kernel
theorem dX10_ratioOf_13 : decode cX10_ratioOf 13 = .ok (.iload_n 2, 1) := by decide +kernel
theorem dX10_ratioOf_14 : decode cX10_ratioOf 14 = .ok (.iadd, 1) := by decide +kernel
theorem dX10_ratioOf_15 : decode cX10_ratioOf 15 = .ok (.iaload, 1) := by decide +kernel
theorem dX10_ratioOf_16 : decode cX10_ratioOf 16 = .ok (.imul, 1) := by decide +kernel
theorem dX10_ratioOf_17 : decode cX10_ratioOf 17 = .ok (.aload_n 0, 1) := by decide +kernel
theorem dX10_ratioOf_18 : decode cX10_ratioOf 18 = .ok (.getfield 13, 3) := by decide +kernel
theorem dX10_ratioOf_21 : decode cX10_ratioOf 21 = .ok (.iload_n 2, 1) := by decide +kernel
theorem dX10_ratioOf_22 : decode cX10_ratioOf 22 = .ok (.iaload, 1) := by decide +kernel
theorem dX10_ratioOf_23 : decode cX10_ratioOf 23 = .ok (.idiv, 1) := by decide +kernel
theorem dX10_ratioOf_24 : decode cX10_ratioOf 24 = .ok (.istore_n 3, 1) := by decide +kernel
theorem dX10_ratioOf_25 : decode cX10_ratioOf 25 = .ok (.iload_n 3, 1) := by decide +kernel
theorem dX10_ratioOf_26 : decode cX10_ratioOf 26 = .ok (.sipush 2000, 3) := by decide +kernel
theorem dX10_ratioOf_29 : decode cX10_ratioOf 29 = .ok (.if_icmp .le 9, 3) := by decide +kernel
theorem dX10_ratioOf_32 : decode cX10_ratioOf 32 = .ok (.sipush 2000, 3) := by decide +kernel
theorem dX10_ratioOf_35 : decode cX10_ratioOf 35 = .ok (.goto 4, 3) := by decide +kernel
theorem dX10_ratioOf_38 : decode cX10_ratioOf 38 = .ok (.iload_n 3, 1) := by decide +kernel
theorem dX10_ratioOf_39 : decode cX10_ratioOf 39 = .ok (.ireturn, 1) := by decide +kernel
theorem dX10_fits_0 : decode cX10_fits 0 = .ok (.lconst 0, 1) := by decide +kernel
theorem dX10_fits_1 : decode cX10_fits 1 = .ok (.lstore_n 2, 1) := by decide +kernel
theorem dX10_fits_2 : decode cX10_fits 2 = .ok (.lconst 0, 1) := by decide +kernel
theorem dX10_fits_3 : decode cX10_fits 3 = .ok (.lstore 4, 2) := by decide +kernel
theorem dX10_fits_5 : decode cX10_fits 5 = .ok (.lconst 0, 1) := by decide +kernel
theorem dX10_fits_6 : decode cX10_fits 6 = .ok (.lstore 6, 2) := by decide +kernel
theorem dX10_fits_8 : decode cX10_fits 8 = .ok (.lconst 0, 1) := by decide +kernel
theorem dX10_fits_9 : decode cX10_fits 9 = .ok (.lstore 8, 2) := by decide +kernel
theorem dX10_fits_11 : decode cX10_fits 11 = .ok (.iconst 0, 1) := by decide +kernel
theorem dX10_fits_12 : decode cX10_fits 12 = .ok (.istore 10, 2) := by decide +kernel
theorem dX10_fits_14 : decode cX10_fits 14 = .ok (.iload 10, 2) := by decide +kernel
theorem dX10_fits_16 : decode cX10_fits 16 = .ok (.aload_n 0, 1) := by decide +kernel
theorem dX10_fits_17 : decode cX10_fits 17 = .ok (.getfield 55, 3) := by decide +kernel
theorem dX10_fits_20 : decode cX10_fits 20 = .ok (.if_icmp .ge 68, 3) := by decide +kernel
theorem dX10_fits_23 : decode cX10_fits 23 = .ok (.aload_n 0, 1) := by decide +kernel
theorem dX10_fits_24 : decode cX10_fits 24 = .ok (.getfield 17, 3) := by decide +kernel
theorem dX10_fits_27 : decode cX10_fits 27 = .ok (.bipush 6, 2) := by decide +kernel
theorem dX10_fits_29 : decode cX10_fits 29 = .ok (.iconst 1, 1) := by decide +kernel
theorem dX10_fits_30 : decode cX10_fits 30 = .ok (.iload 10, 2) := by decide +kernel
theorem dX10_fits_32 : decode cX10_fits 32 = .ok (.iadd, 1) := by decide +kernel
theorem dX10_fits_33 : decode cX10_fits 33 = .ok (.imul, 1) := by decide +kernel
theorem dX10_fits_34 : decode cX10_fits 34 = .ok (.iaload, 1) := by decide +kernel
theorem dX10_fits_35 : decode cX10_fits 35 = .ok (.i2l, 1) := by decide +kernel
theorem dX10_fits_36 : decode cX10_fits 36 = .ok (.lstore 11, 2) := by decide +kernel
theorem dX10_fits_38 : decode cX10_fits 38 = .ok (.aload_n 0, 1) := by decide +kernel
theorem dX10_fits_39 : decode cX10_fits 39 = .ok (.iconst 1, 1) := by decide +kernel
theorem dX10_fits_40 : decode cX10_fits 40 = .ok (.iload 10, 2) := by decide +kernel
theorem dX10_fits_42 : decode cX10_fits 42 = .ok (.iadd, 1) := by decide +kernel
theorem dX10_fits_43 : decode cX10_fits 43 = .ok (.iload_n 1, 1) := by decide +kernel
theorem dX10_fits_44 : decode cX10_fits 44 = .ok (.invokevirtual 96, 3) := by decide +kernel
theorem dX10_fits_47 : decode cX10_fits 47 = .ok (.i2l, 1) := by decide +kernel
theorem dX10_fits_48 : decode cX10_fits 48 = .ok (.lstore 13, 2) := by decide +kernel
theorem dX10_fits_50 : decode cX10_fits 50 = .ok (.lload_n 2, 1) := by decide +kernel
theorem dX10_fits_51 : decode cX10_fits 51 = .ok (.lload 11, 2) := by decide +kernel
theorem dX10_fits_53 : decode cX10_fits 53 = .ok (.ladd, 1) := by decide +kernel
theorem dX10_fits_54 : decode cX10_fits 54 = .ok (.lstore_n 2, 1) := by decide +kernel
theorem dX10_fits_55 : decode cX10_fits 55 = .ok (.lload 4, 2) := by decide +kernel
theorem dX10_fits_57 : decode cX10_fits 57 = .ok (.lload 13, 2) := by decide +kernel
theorem dX10_fits_59 : decode cX10_fits 59 = .ok (.ladd, 1) := by decide +kernel
theorem dX10_fits_60 : decode cX10_fits 60 = .ok (.lstore 4, 2) := by decide +kernel
theorem dX10_fits_62 : decode cX10_fits 62 = .ok (.lload 6, 2) := by decide +kernel
theorem dX10_fits_64 : decode cX10_fits 64 = .ok (.lload 11, 2) := by decide +kernel
theorem dX10_fits_66 : decode cX10_fits 66 = .ok (.lload 13, 2) := by decide +kernel
theorem dX10_fits_68 : decode cX10_fits 68 = .ok (.lmul, 1) := by decide +kernel
theorem dX10_fits_69 : decode cX10_fits 69 = .ok (.ladd, 1) := by decide +kernel
theorem dX10_fits_70 : decode cX10_fits 70 = .ok (.lstore 6, 2) := by decide +kernel
theorem dX10_fits_72 : decode cX10_fits 72 = .ok (.lload 8, 2) := by decide +kernel
theorem dX10_fits_74 : decode cX10_fits 74 = .ok (.lload 11, 2) := by decide +kernel
theorem dX10_fits_76 : decode cX10_fits 76 = .ok (.lload 11, 2) := by decide +kernel
theorem dX10_fits_78 : decode cX10_fits 78 = .ok (.lmul, 1) := by decide +kernel
theorem dX10_fits_79 : decode cX10_fits 79 = .ok (.ladd, 1) := by decide +kernel
theorem dX10_fits_80 : decode cX10_fits 80 = .ok (.lstore 8, 2) := by decide +kernel
theorem dX10_fits_82 : decode cX10_fits 82 = .ok (.iinc 10 1, 3) := by decide +kernel
theorem dX10_fits_85 : decode cX10_fits 85 = .ok (.goto (-71), 3) := by decide +kernel
theorem dX10_fits_88 : decode cX10_fits 88 = .ok (.aload_n 0, 1) := by decide +kernel
theorem dX10_fits_89 : decode cX10_fits 89 = .ok (.aload_n 0, 1) := by decide +kernel
theorem dX10_fits_90 : decode cX10_fits 90 = .ok (.getfield 55, 3) := by decide +kernel
theorem dX10_fits_93 : decode cX10_fits 93 = .ok (.i2l, 1) := by decide +kernel
theorem dX10_fits_94 : decode cX10_fits 94 = .ok (.lload 6, 2) := by decide +kernel
theorem dX10_fits_96 : decode cX10_fits 96 = .ok (.lmul, 1) := by decide +kernel
theorem dX10_fits_97 : decode cX10_fits 97 = .ok (.lload_n 2, 1) := by decide +kernel
theorem dX10_fits_98 : decode cX10_fits 98 = .ok (.lload 4, 2) := by decide +kernel
theorem dX10_fits_100 : decode cX10_fits 100 = .ok (.lmul, 1) := by decide +kernel
theorem dX10_fits_101 : decode cX10_fits 101 = .ok (.lsub, 1) := by decide +kernel
theorem dX10_fits_102 : decode cX10_fits 102 = .ok (.putfield 100, 3) := by decide +kernel
theorem dX10_fits_105 : decode cX10_fits 105 = .ok (.aload_n 0, 1) := by decide +kernel
theorem dX10_fits_106 : decode cX10_fits 106 = .ok (.aload_n 0, 1) := by decide +kernel
theorem dX10_fits_107 : decode cX10_fits 107 = .ok (.getfield 55, 3) := by decide +kernel
theorem dX10_fits_110 : decode cX10_fits 110 = .ok (.i2l, 1) := by decide +kernel
theorem dX10_fits_111 : decode cX10_fits 111 = .ok (.lload 8, 2) := by decide +kernel
theorem dX10_fits_113 : decode cX10_fits 113 = .ok (.lmul, 1) := by decide +kernel
theorem dX10_fits_114 : decode cX10_fits 114 = .ok (.lload_n 2, 1) := by decide +kernel
theorem dX10_fits_115 : decode cX10_fits 115 = .ok (.lload_n 2, 1) := by decide +kernel
theorem dX10_fits_116 : decode cX10_fits 116 = .ok (.lmul, 1) := by decide +kernel
theorem dX10_fits_117 : decode cX10_fits 117 = .ok (.lsub, 1) := by decide +kernel
theorem dX10_fits_118 : decode cX10_fits 118 = .ok (.putfield 104, 3) := by decide +kernel
theorem dX10_fits_121 : decode cX10_fits 121 = .ok (.return_, 1) := by decide +kernel
theorem dX10_featureOf_0 : decode cX10_featureOf 0 = .ok (.aload_n 0, 1) := by decide +kernel
theorem dX10_featureOf_1 : decode cX10_featureOf 1 = .ok (.iload_n 1, 1) := by decide +kernel
theorem dX10_featureOf_2 : decode cX10_featureOf 2 = .ok (.iload_n 2, 1) := by decide +kernel
theorem dX10_featureOf_3 : decode cX10_featureOf 3 = .ok (.invokevirtual 96, 3) := by decide +kernel
theorem dX10_featureOf_6 : decode cX10_featureOf 6 = .ok (.i2l, 1) := by decide +kernel
theorem dX10_featureOf_7 : decode cX10_featureOf 7 = .ok (.lstore_n 3, 1) := by decide +kernel
theorem dX10_featureOf_8 : decode cX10_featureOf 8 = .ok (.aload_n 0, 1) := by decide +kernel
theorem dX10_featureOf_9 : decode cX10_featureOf 9 = .ok (.getfield 74, 3) := by decide +kernel
theorem dX10_featureOf_12 : decode cX10_featureOf 12 = .ok (.ifCond .eq 45, 3) := by decide +kernel
theorem dX10_featureOf_15 : decode cX10_featureOf 15 = .ok (.aload_n 0, 1) := by decide +kernel
theorem dX10_featureOf_16 : decode cX10_featureOf 16 = .ok (.iload_n 2, 1) := by decide +kernel
theorem dX10_featureOf_17 : decode cX10_featureOf 17 = .ok (.invokevirtual 107, 3) := by decide +kernel
theorem dX10_featureOf_20 : decode cX10_featureOf 20 = .ok (.aload_n 0, 1) := by decide +kernel
theorem dX10_featureOf_21 : decode cX10_featureOf 21 = .ok (.getfield 104, 3) := by decide +kernel
theorem dX10_featureOf_24 : decode cX10_featureOf 24 = .ok (.lconst 0, 1) := by decide +kernel
theorem dX10_featureOf_25 : decode cX10_featureOf 25 = .ok (.lcmp, 1) := by decide +kernel
theorem dX10_featureOf_26 : decode cX10_featureOf 26 = .ok (.ifCond .eq 31, 3) := by decide +kernel
theorem dX10_featureOf_29 : decode cX10_featureOf 29 = .ok (.lload_n 3, 1) := by decide +kernel
theorem dX10_featureOf_30 : decode cX10_featureOf 30 = .ok (.aload_n 0, 1) := by decide +kernel
theorem dX10_featureOf_31 : decode cX10_featureOf 31 = .ok (.getfield 100, 3) := by decide +kernel
theorem dX10_featureOf_34 : decode cX10_featureOf 34 = .ok (.aload_n 0, 1) := by decide +kernel
theorem dX10_featureOf_35 : decode cX10_featureOf 35 = .ok (.getfield 17, 3) := by decide +kernel
theorem dX10_featureOf_38 : decode cX10_featureOf 38 = .ok (.bipush 6, 2) := by decide +kernel
theorem dX10_featureOf_40 : decode cX10_featureOf 40 = .ok (.iload_n 1, 1) := by decide +kernel
theorem dX10_featureOf_41 : decode cX10_featureOf 41 = .ok (.imul, 1) := by decide +kernel
theorem dX10_featureOf_42 : decode cX10_featureOf 42 = .ok (.iaload, 1) := by decide +kernel
theorem dX10_featureOf_43 : decode cX10_featureOf 43 = .ok (.bipush 50, 2) := by decide +kernel
theorem dX10_featureOf_45 : decode cX10_featureOf 45 = .ok (.isub, 1) := by decide +kernel
theorem dX10_featureOf_46 : decode cX10_featureOf 46 = .ok (.i2l, 1) := by decide +kernel
theorem dX10_featureOf_47 : decode cX10_featureOf 47 = .ok (.lmul, 1) := by decide +kernel
theorem dX10_featureOf_48 : decode cX10_featureOf 48 = .ok (.aload_n 0, 1) := by decide +kernel
theorem dX10_featureOf_49 : decode cX10_featureOf 49 = .ok (.getfield 104, 3) := by decide +kernel
theorem dX10_featureOf_52 : decode cX10_featureOf 52 = .ok (.invokestatic 110, 3) := by decide +kernel
theorem dX10_featureOf_55 : decode cX10_featureOf 55 = .ok (.lsub, 1) := by decide +kernel
theorem dX10_featureOf_56 : decode cX10_featureOf 56 = .ok (.lstore_n 3, 1) := by decide +kernel
theorem dX10_featureOf_57 : decode cX10_featureOf 57 = .ok (.lload_n 3, 1) := by decide +kernel
theorem dX10_featureOf_58 : decode cX10_featureOf 58 = .ok (.ldc2_w 114, 3) := by decide +kernel
theorem dX10_featureOf_61 : decode cX10_featureOf 61 = .ok (.lcmp, 1) := by decide +kernel
theorem dX10_featureOf_62 : decode cX10_featureOf 62 = .ok (.ifCond .le 9, 3) := by decide +kernel
theorem dX10_featureOf_65 : decode cX10_featureOf 65 = .ok (.sipush 4000, 3) := by decide +kernel
theorem dX10_featureOf_68 : decode cX10_featureOf 68 = .ok (.goto 19, 3) := by decide +kernel
theorem dX10_featureOf_71 : decode cX10_featureOf 71 = .ok (.lload_n 3, 1) := by decide +kernel
theorem dX10_featureOf_72 : decode cX10_featureOf 72 = .ok (.ldc2_w 116, 3) := by decide +kernel
theorem dX10_featureOf_75 : decode cX10_featureOf 75 = .ok (.lcmp, 1) := by decide +kernel
theorem dX10_featureOf_76 : decode cX10_featureOf 76 = .ok (.ifCond .ge 9, 3) := by decide +kernel
theorem dX10_featureOf_79 : decode cX10_featureOf 79 = .ok (.sipush (-4000), 3) := by decide +kernel
theorem dX10_featureOf_82 : decode cX10_featureOf 82 = .ok (.goto 5, 3) := by decide +kernel
theorem dX10_featureOf_85 : decode cX10_featureOf 85 = .ok (.lload_n 3, 1) := by decide +kernel
theorem dX10_featureOf_86 : decode cX10_featureOf 86 = .ok (.l2i, 1) := by decide +kernel
theorem dX10_featureOf_87 : decode cX10_featureOf 87 = .ok (.ireturn, 1) := by decide +kernel
theorem dX10_ratio_0 : decode cX10_ratio 0 = .ok (.aload_n 0, 1) := by decide +kernel
theorem dX10_ratio_1 : decode cX10_ratio 1 = .ok (.iconst 0, 1) := by decide +kernel
theorem dX10_ratio_2 : decode cX10_ratio 2 = .ok (.putfield 1, 3) := by decide +kernel
theorem dX10_ratio_5 : decode cX10_ratio 5 = .ok (.aload_n 0, 1) := by decide +kernel
theorem dX10_ratio_6 : decode cX10_ratio 6 = .ok (.iload_n 1, 1) := by decide +kernel
theorem dX10_ratio_7 : decode cX10_ratio 7 = .ok (.invokevirtual 88, 3) := by decide +kernel
theorem dX10_ratio_10 : decode cX10_ratio 10 = .ok (.ifCond .ne 6, 3) := by decide +kernel
theorem dX10_ratio_13 : decode cX10_ratio 13 = .ok (.bipush (-2), 2) := by decide +kernel
theorem dX10_ratio_15 : decode cX10_ratio 15 = .ok (.ireturn, 1) := by decide +kernel
theorem dX10_ratio_16 : decode cX10_ratio 16 = .ok (.aload_n 0, 1) := by decide +kernel
theorem dX10_ratio_17 : decode cX10_ratio 17 = .ok (.getfield 70, 3) := by decide +kernel
theorem dX10_ratio_20 : decode cX10_ratio 20 = .ok (.ifCond .eq 12, 3) := by decide +kernel
theorem dX10_ratio_23 : decode cX10_ratio 23 = .ok (.aload_n 0, 1) := by decide +kernel
theorem dX10_ratio_24 : decode cX10_ratio 24 = .ok (.iconst 0, 1) := by decide +kernel
theorem dX10_ratio_25 : decode cX10_ratio 25 = .ok (.iload_n 1, 1) := by decide +kernel
theorem dX10_ratio_26 : decode cX10_ratio 26 = .ok (.invokevirtual 96, 3) := by decide +kernel
theorem dX10_ratio_29 : decode cX10_ratio 29 = .ok (.goto 5, 3) := by decide +kernel
theorem dX10_ratio_32 : decode cX10_ratio 32 = .ok (.bipush (-5), 2) := by decide +kernel
theorem dX10_ratio_34 : decode cX10_ratio 34 = .ok (.ireturn, 1) := by decide +kernel
theorem dX10_feature_0 : decode cX10_feature 0 = .ok (.aload_n 0, 1) := by decide +kernel
theorem dX10_feature_1 : decode cX10_feature 1 = .ok (.iconst 0, 1) := by decide +kernel
theorem dX10_feature_2 : decode cX10_feature 2 = .ok (.putfield 1, 3) := by decide +kernel
theorem dX10_feature_5 : decode cX10_feature 5 = .ok (.aload_n 0, 1) := by decide +kernel
theorem dX10_feature_6 : decode cX10_feature 6 = .ok (.iload_n 1, 1) := by decide +kernel
theorem dX10_feature_7 : decode cX10_feature 7 = .ok (.invokevirtual 88, 3) := by decide +kernel
theorem dX10_feature_10 : decode cX10_feature 10 = .ok (.ifCond .ne 6, 3) := by decide +kernel
theorem dX10_feature_13 : decode cX10_feature 13 = .ok (.bipush (-2), 2) := by decide +kernel
theorem dX10_feature_15 : decode cX10_feature 15 = .ok (.ireturn, 1) := by decide +kernel
theorem dX10_feature_16 : decode cX10_feature 16 = .ok (.aload_n 0, 1) := by decide +kernel
theorem dX10_feature_17 : decode cX10_feature 17 = .ok (.getfield 70, 3) := by decide +kernel
theorem dX10_feature_20 : decode cX10_feature 20 = .ok (.ifCond .eq 16, 3) := by decide +kernel
theorem dX10_feature_23 : decode cX10_feature 23 = .ok (.aload_n 0, 1) := by decide +kernel
theorem dX10_feature_24 : decode cX10_feature 24 = .ok (.iconst 0, 1) := by decide +kernel
theorem dX10_feature_25 : decode cX10_feature 25 = .ok (.iload_n 1, 1) := by decide +kernel
theorem dX10_feature_26 : decode cX10_feature 26 = .ok (.invokevirtual 118, 3) := by decide +kernel
theorem dX10_feature_29 : decode cX10_feature 29 = .ok (.sipush 10000, 3) := by decide +kernel
theorem dX10_feature_32 : decode cX10_feature 32 = .ok (.iadd, 1) := by decide +kernel
theorem dX10_feature_33 : decode cX10_feature 33 = .ok (.goto 5, 3) := by decide +kernel
theorem dX10_feature_36 : decode cX10_feature 36 = .ok (.bipush (-5), 2) := by decide +kernel
theorem dX10_feature_38 : decode cX10_feature 38 = .ok (.ireturn, 1) := by decide +kernel
theorem dX10_addCalibration_0 : decode cX10_addCalibration 0 = .ok (.aload_n 0, 1) := by decide +kernel
theorem dX10_addCalibration_1 : decode cX10_addCalibration 1 = .ok (.iconst 0, 1) := by decide +kernel
theorem dX10_addCalibration_2 : decode cX10_addCalibration 2 = .ok (.putfield 1, 3) := by decide +kernel
theorem dX10_addCalibration_5 : decode cX10_addCalibration 5 = .ok (.aload_n 0, 1) := by decide +kernel
theorem dX10_addCalibration_6 : decode cX10_addCalibration 6 = .ok (.getfield 70, 3) := by decide +kernel
theorem dX10_addCalibration_9 : decode cX10_addCalibration 9 = .ok (.ifCond .ne 6, 3) := by decide +kernel
theorem dX10_addCalibration_12 : decode cX10_addCalibration 12 = .ok (.bipush (-5), 2) := by decide +kernel
theorem dX10_addCalibration_14 : decode cX10_addCalibration 14 = .ok (.ireturn, 1) := by decide +kernel
theorem dX10_addCalibration_15 : decode cX10_addCalibration 15 = .ok (.aload_n 0, 1) := by decide +kernel
theorem dX10_addCalibration_16 : decode cX10_addCalibration 16 = .ok (.getfield 55, 3) := by decide +kernel
theorem dX10_addCalibration_19 : decode cX10_addCalibration 19 = .ok (.bipush 12, 2) := by decide +kernel
theorem dX10_addCalibration_21 : decode cX10_addCalibration 21 = .ok (.if_icmp .ne 6, 3) := by decide +kernel
theorem dX10_addCalibration_24 : decode cX10_addCalibration 24 = .ok (.bipush (-4), 2) := by decide +kernel
theorem dX10_addCalibration_26 : decode cX10_addCalibration 26 = .ok (.ireturn, 1) := by decide +kernel
theorem dX10_addCalibration_27 : decode cX10_addCalibration 27 = .ok (.aload_n 0, 1) := by decide +kernel
theorem dX10_addCalibration_28 : decode cX10_addCalibration 28 = .ok (.iconst 0, 1) := by decide +kernel
theorem dX10_addCalibration_29 : decode cX10_addCalibration 29 = .ok (.iconst 1, 1) := by decide +kernel
theorem dX10_addCalibration_30 : decode cX10_addCalibration 30 = .ok (.aload_n 0, 1) := by decide +kernel
theorem dX10_addCalibration_31 : decode cX10_addCalibration 31 = .ok (.getfield 55, 3) := by decide +kernel
theorem dX10_addCalibration_34 : decode cX10_addCalibration 34 = .ok (.iadd, 1) := by decide +kernel
theorem dX10_addCalibration_35 : decode cX10_addCalibration 35 = .ok (.invokevirtual 121, 3) := by decide +kernel
theorem dX10_addCalibration_38 : decode cX10_addCalibration 38 = .ok (.aload_n 0, 1) := by decide +kernel
theorem dX10_addCalibration_39 : decode cX10_addCalibration 39 = .ok (.dup, 1) := by decide +kernel
theorem dX10_addCalibration_40 : decode cX10_addCalibration 40 = .ok (.getfield 55, 3) := by decide +kernel
theorem dX10_addCalibration_43 : decode cX10_addCalibration 43 = .ok (.iconst 1, 1) := by decide +kernel
theorem dX10_addCalibration_44 : decode cX10_addCalibration 44 = .ok (.iadd, 1) := by decide +kernel
theorem dX10_addCalibration_45 : decode cX10_addCalibration 45 = .ok (.putfield 55, 3) := by decide +kernel
theorem dX10_addCalibration_48 : decode cX10_addCalibration 48 = .ok (.aload_n 0, 1) := by decide +kernel
theorem dX10_addCalibration_49 : decode cX10_addCalibration 49 = .ok (.getfield 55, 3) := by decide +kernel
theorem dX10_addCalibration_52 : decode cX10_addCalibration 52 = .ok (.ireturn, 1) := by decide +kernel
theorem dX10_removeCalibration_0 : decode cX10_removeCalibration 0 = .ok (.aload_n 0, 1) := by decide +kernel
theorem dX10_removeCalibration_1 : decode cX10_removeCalibration 1 = .ok (.iconst 0, 1) := by decide +kernel
theorem dX10_removeCalibration_2 : decode cX10_removeCalibration 2 = .ok (.putfield 1, 3) := by decide +kernel
theorem dX10_removeCalibration_5 : decode cX10_removeCalibration 5 = .ok (.aload_n 0, 1) := by decide +kernel
theorem dX10_removeCalibration_6 : decode cX10_removeCalibration 6 = .ok (.getfield 55, 3) := by decide +kernel
theorem dX10_removeCalibration_9 : decode cX10_removeCalibration 9 = .ok (.ifCond .ne 6, 3) := by decide +kernel
theorem dX10_removeCalibration_12 : decode cX10_removeCalibration 12 = .ok (.bipush (-2), 2) := by decide +kernel
theorem dX10_removeCalibration_14 : decode cX10_removeCalibration 14 = .ok (.ireturn, 1) := by decide +kernel
theorem dX10_removeCalibration_15 : decode cX10_removeCalibration 15 = .ok (.aload_n 0, 1) := by decide +kernel
theorem dX10_removeCalibration_16 : decode cX10_removeCalibration 16 = .ok (.dup, 1) := by decide +kernel
theorem dX10_removeCalibration_17 : decode cX10_removeCalibration 17 = .ok (.getfield 55, 3) := by decide +kernel
theorem dX10_removeCalibration_20 : decode cX10_removeCalibration 20 = .ok (.iconst 1, 1) := by decide +kernel
theorem dX10_removeCalibration_21 : decode cX10_removeCalibration 21 = .ok (.isub, 1) := by decide +kernel
theorem dX10_removeCalibration_22 : decode cX10_removeCalibration 22 = .ok (.putfield 55, 3) := by decide +kernel
theorem dX10_removeCalibration_25 : decode cX10_removeCalibration 25 = .ok (.aload_n 0, 1) := by decide +kernel
theorem dX10_removeCalibration_26 : decode cX10_removeCalibration 26 = .ok (.getfield 55, 3) := by decide +kernel
theorem dX10_removeCalibration_29 : decode cX10_removeCalibration 29 = .ok (.ireturn, 1) := by decide +kernel
theorem dX10_humiditySlope_0 : decode cX10_humiditySlope 0 = .ok (.aload_n 0, 1) := by decide +kernel
theorem dX10_humiditySlope_1 : decode cX10_humiditySlope 1 = .ok (.iconst 0, 1) := by decide +kernel
theorem dX10_humiditySlope_2 : decode cX10_humiditySlope 2 = .ok (.putfield 1, 3) := by decide +kernel
theorem dX10_humiditySlope_5 : decode cX10_humiditySlope 5 = .ok (.aload_n 0, 1) := by decide +kernel
theorem dX10_humiditySlope_6 : decode cX10_humiditySlope 6 = .ok (.iload_n 1, 1) := by decide +kernel
theorem dX10_humiditySlope_7 : decode cX10_humiditySlope 7 = .ok (.invokevirtual 88, 3) := by decide +kernel
theorem dX10_humiditySlope_10 : decode cX10_humiditySlope 10 = .ok (.ifCond .ne 6, 3) := by decide +kernel
theorem dX10_humiditySlope_13 : decode cX10_humiditySlope 13 = .ok (.bipush (-2), 2) := by decide +kernel
theorem dX10_humiditySlope_15 : decode cX10_humiditySlope 15 = .ok (.ireturn, 1) := by decide +kernel
theorem dX10_humiditySlope_16 : decode cX10_humiditySlope 16 = .ok (.aload_n 0, 1) := by decide +kernel
theorem dX10_humiditySlope_17 : decode cX10_humiditySlope 17 = .ok (.iload_n 1, 1) := by decide +kernel
theorem dX10_humiditySlope_18 : decode cX10_humiditySlope 18 = .ok (.invokevirtual 107, 3) := by decide +kernel
theorem dX10_humiditySlope_21 : decode cX10_humiditySlope 21 = .ok (.aload_n 0, 1) := by decide +kernel
theorem dX10_humiditySlope_22 : decode cX10_humiditySlope 22 = .ok (.getfield 104, 3) := by decide +kernel
theorem dX10_humiditySlope_25 : decode cX10_humiditySlope 25 = .ok (.lconst 0, 1) := by decide +kernel
theorem dX10_humiditySlope_26 : decode cX10_humiditySlope 26 = .ok (.lcmp, 1) := by decide +kernel
theorem dX10_humiditySlope_27 : decode cX10_humiditySlope 27 = .ok (.ifCond .ne 7, 3) := by decide +kernel
theorem dX10_humiditySlope_30 : decode cX10_humiditySlope 30 = .ok (.iconst (-1), 1) := by decide +kernel
theorem dX10_humiditySlope_31 : decode cX10_humiditySlope 31 = .ok (.goto 23, 3) := by decide +kernel
theorem dX10_humiditySlope_34 : decode cX10_humiditySlope 34 = .ok (.ldc2_w 125, 3) := by decide +kernel
theorem dX10_humiditySlope_37 : decode cX10_humiditySlope 37 = .ok (.aload_n 0, 1) := by decide +kernel
theorem dX10_humiditySlope_38 : decode cX10_humiditySlope 38 = .ok (.getfield 100, 3) := by decide +kernel
theorem dX10_humiditySlope_41 : decode cX10_humiditySlope 41 = .ok (.lmul, 1) := by decide +kernel
theorem dX10_humiditySlope_42 : decode cX10_humiditySlope 42 = .ok (.aload_n 0, 1) := by decide +kernel
theorem dX10_humiditySlope_43 : decode cX10_humiditySlope 43 = .ok (.getfield 104, 3) := by decide +kernel
theorem dX10_humiditySlope_46 : decode cX10_humiditySlope 46 = .ok (.invokestatic 110, 3) := by decide +kernel
theorem dX10_humiditySlope_49 : decode cX10_humiditySlope 49 = .ok (.ldc2_w 127, 3) := by decide +kernel
theorem dX10_humiditySlope_52 : decode cX10_humiditySlope 52 = .ok (.ladd, 1) := by decide +kernel
theorem dX10_humiditySlope_53 : decode cX10_humiditySlope 53 = .ok (.l2i, 1) := by decide +kernel
theorem dX10_humiditySlope_54 : decode cX10_humiditySlope 54 = .ok (.ireturn, 1) := by decide +kernel
theorem dX10_useHumidity_0 : decode cX10_useHumidity 0 = .ok (.aload_n 0, 1) := by decide +kernel
theorem dX10_useHumidity_1 : decode cX10_useHumidity 1 = .ok (.iconst 0, 1) := by decide +kernel
theorem dX10_useHumidity_2 : decode cX10_useHumidity 2 = .ok (.putfield 1, 3) := by decide +kernel
theorem dX10_useHumidity_5 : decode cX10_useHumidity 5 = .ok (.aload_n 0, 1) := by decide +kernel
theorem dX10_useHumidity_6 : decode cX10_useHumidity 6 = .ok (.getfield 74, 3) := by decide +kernel
theorem dX10_useHumidity_9 : decode cX10_useHumidity 9 = .ok (.ifCond .eq 7, 3) := by decide +kernel
theorem dX10_useHumidity_12 : decode cX10_useHumidity 12 = .ok (.iconst 1, 1) := by decide +kernel
theorem dX10_useHumidity_13 : decode cX10_useHumidity 13 = .ok (.goto 4, 3) := by decide +kernel
theorem dX10_useHumidity_16 : decode cX10_useHumidity 16 = .ok (.iconst 0, 1) := by decide +kernel
theorem dX10_useHumidity_17 : decode cX10_useHumidity 17 = .ok (.istore_n 2, 1) := by decide +kernel
theorem dX10_useHumidity_18 : decode cX10_useHumidity 18 = .ok (.aload_n 0, 1) := by decide +kernel
theorem dX10_useHumidity_19 : decode cX10_useHumidity 19 = .ok (.iload_n 1, 1) := by decide +kernel
theorem dX10_useHumidity_20 : decode cX10_useHumidity 20 = .ok (.putfield 74, 3) := by decide +kernel
theorem dX10_useHumidity_23 : decode cX10_useHumidity 23 = .ok (.iload_n 2, 1) := by decide +kernel
theorem dX10_useHumidity_24 : decode cX10_useHumidity 24 = .ok (.ireturn, 1) := by decide +kernel
theorem dX10_lays_0 : decode cX10_lays 0 = .ok (.iconst 0, 1) := by decide +kernel
theorem dX10_lays_1 : decode cX10_lays 1 = .ok (.istore_n 2, 1) := by decide +kernel
theorem dX10_lays_2 : decode cX10_lays 2 = .ok (.iload_n 2, 1) := by decide +kernel
theorem dX10_lays_3 : decode cX10_lays 3 = .ok (.bipush 87, 2) := by decide +kernel
theorem dX10_lays_5 : decode cX10_lays 5 = .ok (.if_icmp .ge 61, 3) := by decide +kernel
theorem dX10_lays_8 : decode cX10_lays 8 = .ok (.aload_n 0, 1) := by decide +kernel
theorem dX10_lays_9 : decode cX10_lays 9 = .ok (.iload_n 2, 1) := by decide +kernel
theorem dX10_lays_10 : decode cX10_lays 10 = .ok (.invokevirtual 129, 3) := by decide +kernel
theorem dX10_lays_13 : decode cX10_lays 13 = .ok (.ifCond .ne 6, 3) := by decide +kernel
theorem dX10_lays_16 : decode cX10_lays 16 = .ok (.goto 44, 3) := by decide +kernel
theorem dX10_lays_19 : decode cX10_lays 19 = .ok (.iconst 0, 1) := by decide +kernel
theorem dX10_lays_20 : decode cX10_lays 20 = .ok (.istore_n 3, 1) := by decide +kernel
theorem dX10_lays_21 : decode cX10_lays 21 = .ok (.iload_n 3, 1) := by decide +kernel
theorem dX10_lays_22 : decode cX10_lays 22 = .ok (.iconst 5, 1) := by decide +kernel
theorem dX10_lays_23 : decode cX10_lays 23 = .ok (.if_icmp .ge 37, 3) := by decide +kernel
theorem dX10_lays_26 : decode cX10_lays 26 = .ok (.aload_n 0, 1) := by decide +kernel
theorem dX10_lays_27 : decode cX10_lays 27 = .ok (.getfield 26, 3) := by decide +kernel
theorem dX10_lays_30 : decode cX10_lays 30 = .ok (.iconst 5, 1) := by decide +kernel
theorem dX10_lays_31 : decode cX10_lays 31 = .ok (.iload_n 2, 1) := by decide +kernel
theorem dX10_lays_32 : decode cX10_lays 32 = .ok (.imul, 1) := by decide +kernel
theorem dX10_lays_33 : decode cX10_lays 33 = .ok (.iload_n 3, 1) := by decide +kernel
theorem dX10_lays_34 : decode cX10_lays 34 = .ok (.iadd, 1) := by decide +kernel
theorem dX10_lays_35 : decode cX10_lays 35 = .ok (.iload_n 3, 1) := by decide +kernel
theorem dX10_lays_36 : decode cX10_lays 36 = .ok (.aload_n 0, 1) := by decide +kernel
theorem dX10_lays_37 : decode cX10_lays 37 = .ok (.getfield 52, 3) := by decide +kernel
theorem dX10_lays_40 : decode cX10_lays 40 = .ok (.if_icmp .ge 12, 3) := by decide +kernel
theorem dX10_lays_43 : decode cX10_lays 43 = .ok (.aload_n 0, 1) := by decide +kernel
theorem dX10_lays_44 : decode cX10_lays 44 = .ok (.iload_n 2, 1) := by decide +kernel
theorem dX10_lays_45 : decode cX10_lays 45 = .ok (.iload_n 3, 1) := by decide +kernel
theorem dX10_lays_46 : decode cX10_lays 46 = .ok (.invokevirtual 118, 3) := by decide +kernel
theorem dX10_lays_49 : decode cX10_lays 49 = .ok (.goto 4, 3) := by decide +kernel
theorem dX10_lays_52 : decode cX10_lays 52 = .ok (.iconst 0, 1) := by decide +kernel
theorem dX10_lays_53 : decode cX10_lays 53 = .ok (.iastore, 1) := by decide +kernel
theorem dX10_lays_54 : decode cX10_lays 54 = .ok (.iinc 3 1, 3) := by decide +kernel
theorem dX10_lays_57 : decode cX10_lays 57 = .ok (.goto (-36), 3) := by decide +kernel
theorem dX10_lays_60 : decode cX10_lays 60 = .ok (.iinc 2 1, 3) := by decide +kernel
theorem dX10_lays_63 : decode cX10_lays 63 = .ok (.goto (-61), 3) := by decide +kernel
theorem dX10_lays_66 : decode cX10_lays 66 = .ok (.aload_n 0, 1) := by decide +kernel
theorem dX10_lays_67 : decode cX10_lays 67 = .ok (.invokevirtual 132, 3) := by decide +kernel
theorem dX10_lays_70 : decode cX10_lays 70 = .ok (.iconst 0, 1) := by decide +kernel
theorem dX10_lays_71 : decode cX10_lays 71 = .ok (.istore_n 2, 1) := by decide +kernel
theorem dX10_lays_72 : decode cX10_lays 72 = .ok (.iload_n 2, 1) := by decide +kernel
theorem dX10_lays_73 : decode cX10_lays 73 = .ok (.aload_n 0, 1) := by decide +kernel
theorem dX10_lays_74 : decode cX10_lays 74 = .ok (.getfield 52, 3) := by decide +kernel
theorem dX10_lays_77 : decode cX10_lays 77 = .ok (.if_icmp .ge 52, 3) := by decide +kernel
theorem dX10_lays_80 : decode cX10_lays 80 = .ok (.iload_n 1, 1) := by decide +kernel
theorem dX10_lays_81 : decode cX10_lays 81 = .ok (.iload_n 2, 1) := by decide +kernel
theorem dX10_lays_82 : decode cX10_lays 82 = .ok (.ishr, 1) := by decide +kernel
theorem dX10_lays_83 : decode cX10_lays 83 = .ok (.iconst 1, 1) := by decide +kernel
theorem dX10_lays_84 : decode cX10_lays 84 = .ok (.iand, 1) := by decide +kernel
theorem dX10_lays_85 : decode cX10_lays 85 = .ok (.ifCond .ne 6, 3) := by decide +kernel
theorem dX10_lays_88 : decode cX10_lays 88 = .ok (.goto 35, 3) := by decide +kernel
theorem dX10_lays_91 : decode cX10_lays 91 = .ok (.iconst 0, 1) := by decide +kernel
theorem dX10_lays_92 : decode cX10_lays 92 = .ok (.istore_n 3, 1) := by decide +kernel
theorem dX10_lays_93 : decode cX10_lays 93 = .ok (.iload_n 3, 1) := by decide +kernel
theorem dX10_lays_94 : decode cX10_lays 94 = .ok (.bipush 87, 2) := by decide +kernel
theorem dX10_lays_96 : decode cX10_lays 96 = .ok (.if_icmp .ge 20, 3) := by decide +kernel
theorem dX10_lays_99 : decode cX10_lays 99 = .ok (.aload_n 0, 1) := by decide +kernel
theorem dX10_lays_100 : decode cX10_lays 100 = .ok (.getfield 26, 3) := by decide +kernel
theorem dX10_lays_103 : decode cX10_lays 103 = .ok (.iconst 5, 1) := by decide +kernel
theorem dX10_lays_104 : decode cX10_lays 104 = .ok (.iload_n 3, 1) := by decide +kernel
theorem dX10_lays_105 : decode cX10_lays 105 = .ok (.imul, 1) := by decide +kernel
theorem dX10_lays_106 : decode cX10_lays 106 = .ok (.iload_n 2, 1) := by decide +kernel
theorem dX10_lays_107 : decode cX10_lays 107 = .ok (.iadd, 1) := by decide +kernel
theorem dX10_lays_108 : decode cX10_lays 108 = .ok (.iconst 0, 1) := by decide +kernel
theorem dX10_lays_109 : decode cX10_lays 109 = .ok (.iastore, 1) := by decide +kernel
theorem dX10_lays_110 : decode cX10_lays 110 = .ok (.iinc 3 1, 3) := by decide +kernel
theorem dX10_lays_113 : decode cX10_lays 113 = .ok (.goto (-20), 3) := by decide +kernel
theorem dX10_lays_116 : decode cX10_lays 116 = .ok (.aload_n 0, 1) := by decide +kernel
theorem dX10_lays_117 : decode cX10_lays 117 = .ok (.getfield 29, 3) := by decide +kernel
theorem dX10_lays_120 : decode cX10_lays 120 = .ok (.iload_n 2, 1) := by decide +kernel
theorem dX10_lays_121 : decode cX10_lays 121 = .ok (.iconst 0, 1) := by decide +kernel
theorem dX10_lays_122 : decode cX10_lays 122 = .ok (.iastore, 1) := by decide +kernel
theorem dX10_lays_123 : decode cX10_lays 123 = .ok (.iinc 2 1, 3) := by decide +kernel
theorem dX10_lays_126 : decode cX10_lays 126 = .ok (.goto (-54), 3) := by decide +kernel
theorem dX10_lays_129 : decode cX10_lays 129 = .ok (.lconst 0, 1) := by decide +kernel
theorem dX10_lays_130 : decode cX10_lays 130 = .ok (.lstore_n 2, 1) := by decide +kernel
theorem dX10_lays_131 : decode cX10_lays 131 = .ok (.iconst 0, 1) := by decide +kernel
theorem dX10_lays_132 : decode cX10_lays 132 = .ok (.istore 4, 2) := by decide +kernel
theorem dX10_lays_134 : decode cX10_lays 134 = .ok (.iload 4, 2) := by decide +kernel
theorem dX10_lays_136 : decode cX10_lays 136 = .ok (.aload_n 0, 1) := by decide +kernel
theorem dX10_lays_137 : decode cX10_lays 137 = .ok (.getfield 52, 3) := by decide +kernel
theorem dX10_lays_140 : decode cX10_lays 140 = .ok (.if_icmp .ge 28, 3) := by decide +kernel
theorem dX10_lays_143 : decode cX10_lays 143 = .ok (.lload_n 2, 1) := by decide +kernel
theorem dX10_lays_144 : decode cX10_lays 144 = .ok (.aload_n 0, 1) := by decide +kernel
theorem dX10_lays_145 : decode cX10_lays 145 = .ok (.getfield 29, 3) := by decide +kernel
theorem dX10_lays_148 : decode cX10_lays 148 = .ok (.iload 4, 2) := by decide +kernel
theorem dX10_lays_150 : decode cX10_lays 150 = .ok (.iaload, 1) := by decide +kernel
theorem dX10_lays_151 : decode cX10_lays 151 = .ok (.aload_n 0, 1) := by decide +kernel
theorem dX10_lays_152 : decode cX10_lays 152 = .ok (.getfield 29, 3) := by decide +kernel
theorem dX10_lays_155 : decode cX10_lays 155 = .ok (.iload 4, 2) := by decide +kernel
theorem dX10_lays_157 : decode cX10_lays 157 = .ok (.iaload, 1) := by decide +kernel
theorem dX10_lays_158 : decode cX10_lays 158 = .ok (.imul, 1) := by decide +kernel
theorem dX10_lays_159 : decode cX10_lays 159 = .ok (.i2l, 1) := by decide +kernel
theorem dX10_lays_160 : decode cX10_lays 160 = .ok (.ladd, 1) := by decide +kernel
theorem dX10_lays_161 : decode cX10_lays 161 = .ok (.lstore_n 2, 1) := by decide +kernel
theorem dX10_lays_162 : decode cX10_lays 162 = .ok (.iinc 4 1, 3) := by decide +kernel
theorem dX10_lays_165 : decode cX10_lays 165 = .ok (.goto (-31), 3) := by decide +kernel
theorem dX10_lays_168 : decode cX10_lays 168 = .ok (.aload_n 0, 1) := by decide +kernel
theorem dX10_lays_169 : decode cX10_lays 169 = .ok (.aload_n 0, 1) := by decide +kernel
theorem dX10_lays_170 : decode cX10_lays 170 = .ok (.getfield 77, 3) := by decide +kernel
theorem dX10_lays_173 : decode cX10_lays 173 = .ok (.ifCond .eq 13, 3) := by decide +kernel
theorem dX10_lays_176 : decode cX10_lays 176 = .ok (.lload_n 2, 1) := by decide +kernel
theorem dX10_lays_177 : decode cX10_lays 177 = .ok (.lconst 0, 1) := by decide +kernel
theorem dX10_lays_178 : decode cX10_lays 178 = .ok (.lcmp, 1) := by decide +kernel
theorem dX10_lays_179 : decode cX10_lays 179 = .ok (.ifCond .le 7, 3) := by decide +kernel
theorem dX10_lays_182 : decode cX10_lays 182 = .ok (.iconst 1, 1) := by decide +kernel
theorem dX10_lays_183 : decode cX10_lays 183 = .ok (.goto 4, 3) := by decide +kernel
theorem dX10_lays_186 : decode cX10_lays 186 = .ok (.iconst 0, 1) := by decide +kernel
theorem dX10_lays_187 : decode cX10_lays 187 = .ok (.putfield 135, 3) := by decide +kernel
theorem dX10_lays_190 : decode cX10_lays 190 = .ok (.return_, 1) := by decide +kernel
theorem dX10_isPlace_0 : decode cX10_isPlace 0 = .ok (.iload_n 1, 1) := by decide +kernel
theorem dX10_isPlace_1 : decode cX10_isPlace 1 = .ok (.iconst 1, 1) := by decide +kernel
theorem dX10_isPlace_2 : decode cX10_isPlace 2 = .ok (.if_icmp .ge 8, 3) := by decide +kernel
theorem dX10_isPlace_5 : decode cX10_isPlace 5 = .ok (.aload_n 0, 1) := by decide +kernel
theorem dX10_isPlace_6 : decode cX10_isPlace 6 = .ok (.getfield 70, 3) := by decide +kernel
theorem dX10_isPlace_9 : decode cX10_isPlace 9 = .ok (.ireturn, 1) := by decide +kernel
theorem dX10_isPlace_10 : decode cX10_isPlace 10 = .ok (.iload_n 1, 1) := by decide +kernel
theorem dX10_isPlace_11 : decode cX10_isPlace 11 = .ok (.bipush 13, 2) := by decide +kernel
theorem dX10_isPlace_13 : decode cX10_isPlace 13 = .ok (.if_icmp .ge 5, 3) := by decide +kernel
theorem dX10_isPlace_16 : decode cX10_isPlace 16 = .ok (.iconst 0, 1) := by decide +kernel
theorem dX10_isPlace_17 : decode cX10_isPlace 17 = .ok (.ireturn, 1) := by decide +kernel
theorem dX10_isPlace_18 : decode cX10_isPlace 18 = .ok (.iload_n 1, 1) := by decide +kernel
theorem dX10_isPlace_19 : decode cX10_isPlace 19 = .ok (.bipush 23, 2) := by decide +kernel
theorem dX10_isPlace_21 : decode cX10_isPlace 21 = .ok (.if_icmp .ge 20, 3) := by decide +kernel
theorem dX10_isPlace_24 : decode cX10_isPlace 24 = .ok (.iload_n 1, 1) := by decide +kernel
theorem dX10_isPlace_25 : decode cX10_isPlace 25 = .ok (.bipush 13, 2) := by decide +kernel
theorem dX10_isPlace_27 : decode cX10_isPlace 27 = .ok (.isub, 1) := by decide +kernel
theorem dX10_isPlace_28 : decode cX10_isPlace 28 = .ok (.aload_n 0, 1) := by decide +kernel
theorem dX10_isPlace_29 : decode cX10_isPlace 29 = .ok (.getfield 58, 3) := by decide +kernel
theorem dX10_isPlace_32 : decode cX10_isPlace 32 = .ok (.if_icmp .ge 7, 3) := by decide +kernel
theorem dX10_isPlace_35 : decode cX10_isPlace 35 = .ok (.iconst 1, 1) := by decide +kernel
theorem dX10_isPlace_36 : decode cX10_isPlace 36 = .ok (.goto 4, 3) := by decide +kernel
theorem dX10_isPlace_39 : decode cX10_isPlace 39 = .ok (.iconst 0, 1) := by decide +kernel
theorem dX10_isPlace_40 : decode cX10_isPlace 40 = .ok (.ireturn, 1) := by decide +kernel
theorem dX10_isPlace_41 : decode cX10_isPlace 41 = .ok (.iload_n 1, 1) := by decide +kernel
theorem dX10_isPlace_42 : decode cX10_isPlace 42 = .ok (.bipush 23, 2) := by decide +kernel
theorem dX10_isPlace_44 : decode cX10_isPlace 44 = .ok (.isub, 1) := by decide +kernel
theorem dX10_isPlace_45 : decode cX10_isPlace 45 = .ok (.istore_n 2, 1) := by decide +kernel
theorem dX10_isPlace_46 : decode cX10_isPlace 46 = .ok (.iload_n 2, 1) := by decide +kernel
theorem dX10_isPlace_47 : decode cX10_isPlace 47 = .ok (.bipush 8, 2) := by decide +kernel
theorem dX10_isPlace_49 : decode cX10_isPlace 49 = .ok (.idiv, 1) := by decide +kernel
theorem dX10_isPlace_50 : decode cX10_isPlace 50 = .ok (.aload_n 0, 1) := by decide +kernel
theorem dX10_isPlace_51 : decode cX10_isPlace 51 = .ok (.getfield 61, 3) := by decide +kernel
theorem dX10_isPlace_54 : decode cX10_isPlace 54 = .ok (.if_icmp .ge 23, 3) := by decide +kernel
theorem dX10_isPlace_57 : decode cX10_isPlace 57 = .ok (.iload_n 2, 1) := by decide +kernel
theorem dX10_isPlace_58 : decode cX10_isPlace 58 = .ok (.bipush 8, 2) := by decide +kernel
theorem dX10_isPlace_60 : decode cX10_isPlace 60 = .ok (.irem, 1) := by decide +kernel
theorem dX10_isPlace_61 : decode cX10_isPlace 61 = .ok (.aload_n 0, 1) := by decide +kernel
theorem dX10_isPlace_62 : decode cX10_isPlace 62 = .ok (.getfield 23, 3) := by decide +kernel
theorem dX10_isPlace_65 : decode cX10_isPlace 65 = .ok (.iload_n 2, 1) := by decide +kernel
theorem dX10_isPlace_66 : decode cX10_isPlace 66 = .ok (.bipush 8, 2) := by decide +kernel
theorem dX10_isPlace_68 : decode cX10_isPlace 68 = .ok (.idiv, 1) := by decide +kernel
theorem dX10_isPlace_69 : decode cX10_isPlace 69 = .ok (.iaload, 1) := by decide +kernel
theorem dX10_isPlace_70 : decode cX10_isPlace 70 = .ok (.if_icmp .ge 7, 3) := by decide +kernel
theorem dX10_isPlace_73 : decode cX10_isPlace 73 = .ok (.iconst 1, 1) := by decide +kernel
theorem dX10_isPlace_74 : decode cX10_isPlace 74 = .ok (.goto 4, 3) := by decide +kernel
theorem dX10_isPlace_77 : decode cX10_isPlace 77 = .ok (.iconst 0, 1) := by decide +kernel
theorem dX10_isPlace_78 : decode cX10_isPlace 78 = .ok (.ireturn, 1) := by decide +kernel
theorem dX10_laysDrift_0 : decode cX10_laysDrift 0 = .ok (.lconst 0, 1) := by decide +kernel
theorem dX10_laysDrift_1 : decode cX10_laysDrift 1 = .ok (.lstore_n 1, 1) := by decide +kernel
theorem dX10_laysDrift_2 : decode cX10_laysDrift 2 = .ok (.iconst 0, 1) := by decide +kernel
theorem dX10_laysDrift_3 : decode cX10_laysDrift 3 = .ok (.istore_n 3, 1) := by decide +kernel
theorem dX10_laysDrift_4 : decode cX10_laysDrift 4 = .ok (.iload_n 3, 1) := by decide +kernel
theorem dX10_laysDrift_5 : decode cX10_laysDrift 5 = .ok (.iconst 5, 1) := by decide +kernel
theorem dX10_laysDrift_6 : decode cX10_laysDrift 6 = .ok (.if_icmp .ge 169, 3) := by decide +kernel
theorem dX10_laysDrift_9 : decode cX10_laysDrift 9 = .ok (.lconst 0, 1) := by decide +kernel
theorem dX10_laysDrift_10 : decode cX10_laysDrift 10 = .ok (.lstore 4, 2) := by decide +kernel
theorem dX10_laysDrift_12 : decode cX10_laysDrift 12 = .ok (.lconst 0, 1) := by decide +kernel
theorem dX10_laysDrift_13 : decode cX10_laysDrift 13 = .ok (.lstore 6, 2) := by decide +kernel
theorem dX10_laysDrift_15 : decode cX10_laysDrift 15 = .ok (.lconst 0, 1) := by decide +kernel
theorem dX10_laysDrift_16 : decode cX10_laysDrift 16 = .ok (.lstore 8, 2) := by decide +kernel
theorem dX10_laysDrift_18 : decode cX10_laysDrift 18 = .ok (.iconst 0, 1) := by decide +kernel
theorem dX10_laysDrift_19 : decode cX10_laysDrift 19 = .ok (.istore 10, 2) := by decide +kernel
theorem dX10_laysDrift_21 : decode cX10_laysDrift 21 = .ok (.iload 10, 2) := by decide +kernel
theorem dX10_laysDrift_23 : decode cX10_laysDrift 23 = .ok (.aload_n 0, 1) := by decide +kernel
theorem dX10_laysDrift_24 : decode cX10_laysDrift 24 = .ok (.getfield 58, 3) := by decide +kernel
theorem dX10_laysDrift_27 : decode cX10_laysDrift 27 = .ok (.if_icmp .ge 79, 3) := by decide +kernel
theorem dX10_laysDrift_30 : decode cX10_laysDrift 30 = .ok (.iload_n 3, 1) := by decide +kernel
theorem dX10_laysDrift_31 : decode cX10_laysDrift 31 = .ok (.aload_n 0, 1) := by decide +kernel
theorem dX10_laysDrift_32 : decode cX10_laysDrift 32 = .ok (.getfield 52, 3) := by decide +kernel
theorem dX10_laysDrift_35 : decode cX10_laysDrift 35 = .ok (.if_icmp .ge 71, 3) := by decide +kernel
theorem dX10_laysDrift_38 : decode cX10_laysDrift 38 = .ok (.lload 4, 2) := by decide +kernel
theorem dX10_laysDrift_40 : decode cX10_laysDrift 40 = .ok (.aload_n 0, 1) := by decide +kernel
theorem dX10_laysDrift_41 : decode cX10_laysDrift 41 = .ok (.getfield 20, 3) := by decide +kernel
theorem dX10_laysDrift_44 : decode cX10_laysDrift 44 = .ok (.iload 10, 2) := by decide +kernel
theorem dX10_laysDrift_46 : decode cX10_laysDrift 46 = .ok (.iaload, 1) := by decide +kernel
theorem dX10_laysDrift_47 : decode cX10_laysDrift 47 = .ok (.i2l, 1) := by decide +kernel
theorem dX10_laysDrift_48 : decode cX10_laysDrift 48 = .ok (.ladd, 1) := by decide +kernel
theorem dX10_laysDrift_49 : decode cX10_laysDrift 49 = .ok (.lstore 4, 2) := by decide +kernel
theorem dX10_laysDrift_51 : decode cX10_laysDrift 51 = .ok (.lload 6, 2) := by decide +kernel
theorem dX10_laysDrift_53 : decode cX10_laysDrift 53 = .ok (.aload_n 0, 1) := by decide +kernel
theorem dX10_laysDrift_54 : decode cX10_laysDrift 54 = .ok (.getfield 26, 3) := by decide +kernel
theorem dX10_laysDrift_57 : decode cX10_laysDrift 57 = .ok (.iconst 5, 1) := by decide +kernel
theorem dX10_laysDrift_58 : decode cX10_laysDrift 58 = .ok (.bipush 13, 2) := by decide +kernel
theorem dX10_laysDrift_60 : decode cX10_laysDrift 60 = .ok (.iload 10, 2) := by decide +kernel
theorem dX10_laysDrift_62 : decode cX10_laysDrift 62 = .ok (.iadd, 1) := by decide +kernel
theorem dX10_laysDrift_63 : decode cX10_laysDrift 63 = .ok (.imul, 1) := by decide +kernel
theorem dX10_laysDrift_64 : decode cX10_laysDrift 64 = .ok (.iload_n 3, 1) := by decide +kernel
theorem dX10_laysDrift_65 : decode cX10_laysDrift 65 = .ok (.iadd, 1) := by decide +kernel
theorem dX10_laysDrift_66 : decode cX10_laysDrift 66 = .ok (.iaload, 1) := by decide +kernel
theorem dX10_laysDrift_67 : decode cX10_laysDrift 67 = .ok (.i2l, 1) := by decide +kernel
theorem dX10_laysDrift_68 : decode cX10_laysDrift 68 = .ok (.ladd, 1) := by decide +kernel
theorem dX10_laysDrift_69 : decode cX10_laysDrift 69 = .ok (.lstore 6, 2) := by decide +kernel
theorem dX10_laysDrift_71 : decode cX10_laysDrift 71 = .ok (.lload 8, 2) := by decide +kernel
theorem dX10_laysDrift_73 : decode cX10_laysDrift 73 = .ok (.aload_n 0, 1) := by decide +kernel
theorem dX10_laysDrift_74 : decode cX10_laysDrift 74 = .ok (.getfield 20, 3) := by decide +kernel
theorem dX10_laysDrift_77 : decode cX10_laysDrift 77 = .ok (.iload 10, 2) := by decide +kernel
theorem dX10_laysDrift_79 : decode cX10_laysDrift 79 = .ok (.iaload, 1) := by decide +kernel
theorem dX10_laysDrift_80 : decode cX10_laysDrift 80 = .ok (.i2l, 1) := by decide +kernel
theorem dX10_laysDrift_81 : decode cX10_laysDrift 81 = .ok (.aload_n 0, 1) := by decide +kernel
theorem dX10_laysDrift_82 : decode cX10_laysDrift 82 = .ok (.getfield 26, 3) := by decide +kernel
theorem dX10_laysDrift_85 : decode cX10_laysDrift 85 = .ok (.iconst 5, 1) := by decide +kernel
theorem dX10_laysDrift_86 : decode cX10_laysDrift 86 = .ok (.bipush 13, 2) := by decide +kernel
theorem dX10_laysDrift_88 : decode cX10_laysDrift 88 = .ok (.iload 10, 2) := by decide +kernel
theorem dX10_laysDrift_90 : decode cX10_laysDrift 90 = .ok (.iadd, 1) := by decide +kernel
theorem dX10_laysDrift_91 : decode cX10_laysDrift 91 = .ok (.imul, 1) := by decide +kernel
theorem dX10_laysDrift_92 : decode cX10_laysDrift 92 = .ok (.iload_n 3, 1) := by decide +kernel
theorem dX10_laysDrift_93 : decode cX10_laysDrift 93 = .ok (.iadd, 1) := by decide +kernel
theorem dX10_laysDrift_94 : decode cX10_laysDrift 94 = .ok (.iaload, 1) := by decide +kernel
theorem dX10_laysDrift_95 : decode cX10_laysDrift 95 = .ok (.i2l, 1) := by decide +kernel
theorem dX10_laysDrift_96 : decode cX10_laysDrift 96 = .ok (.lmul, 1) := by decide +kernel
theorem dX10_laysDrift_97 : decode cX10_laysDrift 97 = .ok (.ladd, 1) := by decide +kernel
theorem dX10_laysDrift_98 : decode cX10_laysDrift 98 = .ok (.lstore 8, 2) := by decide +kernel
theorem dX10_laysDrift_100 : decode cX10_laysDrift 100 = .ok (.iinc 10 1, 3) := by decide +kernel
theorem dX10_laysDrift_103 : decode cX10_laysDrift 103 = .ok (.goto (-82), 3) := by decide +kernel
theorem dX10_laysDrift_106 : decode cX10_laysDrift 106 = .ok (.aload_n 0, 1) := by decide +kernel
theorem dX10_laysDrift_107 : decode cX10_laysDrift 107 = .ok (.getfield 32, 3) := by decide +kernel
theorem dX10_laysDrift_110 : decode cX10_laysDrift 110 = .ok (.iload_n 3, 1) := by decide +kernel
theorem dX10_laysDrift_111 : decode cX10_laysDrift 111 = .ok (.aload_n 0, 1) := by decide +kernel
theorem dX10_laysDrift_112 : decode cX10_laysDrift 112 = .ok (.getfield 58, 3) := by decide +kernel
theorem dX10_laysDrift_115 : decode cX10_laysDrift 115 = .ok (.i2l, 1) := by decide +kernel
theorem dX10_laysDrift_116 : decode cX10_laysDrift 116 = .ok (.lload 8, 2) := by decide +kernel
theorem dX10_laysDrift_118 : decode cX10_laysDrift 118 = .ok (.lmul, 1) := by decide +kernel
theorem dX10_laysDrift_119 : decode cX10_laysDrift 119 = .ok (.lload 4, 2) := by decide +kernel
theorem dX10_laysDrift_121 : decode cX10_laysDrift 121 = .ok (.lload 6, 2) := by decide +kernel
theorem dX10_laysDrift_123 : decode cX10_laysDrift 123 = .ok (.lmul, 1) := by decide +kernel
theorem dX10_laysDrift_124 : decode cX10_laysDrift 124 = .ok (.lsub, 1) := by decide +kernel
theorem dX10_laysDrift_125 : decode cX10_laysDrift 125 = .ok (.lastore, 1) := by decide +kernel
theorem dX10_laysDrift_126 : decode cX10_laysDrift 126 = .ok (.aload_n 0, 1) := by decide +kernel
theorem dX10_laysDrift_127 : decode cX10_laysDrift 127 = .ok (.getfield 32, 3) := by decide +kernel
theorem dX10_laysDrift_130 : decode cX10_laysDrift 130 = .ok (.iload_n 3, 1) := by decide +kernel
theorem dX10_laysDrift_131 : decode cX10_laysDrift 131 = .ok (.laload, 1) := by decide +kernel
theorem dX10_laysDrift_132 : decode cX10_laysDrift 132 = .ok (.lconst 0, 1) := by decide +kernel
theorem dX10_laysDrift_133 : decode cX10_laysDrift 133 = .ok (.lcmp, 1) := by decide +kernel
theorem dX10_laysDrift_134 : decode cX10_laysDrift 134 = .ok (.ifCond .ge 13, 3) := by decide +kernel
theorem dX10_laysDrift_137 : decode cX10_laysDrift 137 = .ok (.aload_n 0, 1) := by decide +kernel
theorem dX10_laysDrift_138 : decode cX10_laysDrift 138 = .ok (.getfield 32, 3) := by decide +kernel
theorem dX10_laysDrift_141 : decode cX10_laysDrift 141 = .ok (.iload_n 3, 1) := by decide +kernel
theorem dX10_laysDrift_142 : decode cX10_laysDrift 142 = .ok (.laload, 1) := by decide +kernel
theorem dX10_laysDrift_143 : decode cX10_laysDrift 143 = .ok (.lneg, 1) := by decide +kernel
theorem dX10_laysDrift_144 : decode cX10_laysDrift 144 = .ok (.goto 9, 3) := by decide +kernel
theorem dX10_laysDrift_147 : decode cX10_laysDrift 147 = .ok (.aload_n 0, 1) := by decide +kernel
theorem dX10_laysDrift_148 : decode cX10_laysDrift 148 = .ok (.getfield 32, 3) := by decide +kernel
theorem dX10_laysDrift_151 : decode cX10_laysDrift 151 = .ok (.iload_n 3, 1) := by decide +kernel
theorem dX10_laysDrift_152 : decode cX10_laysDrift 152 = .ok (.laload, 1) := by decide +kernel
theorem dX10_laysDrift_153 : decode cX10_laysDrift 153 = .ok (.lstore 10, 2) := by decide +kernel
theorem dX10_laysDrift_155 : decode cX10_laysDrift 155 = .ok (.lload 10, 2) := by decide +kernel
theorem dX10_laysDrift_157 : decode cX10_laysDrift 157 = .ok (.lload_n 1, 1) := by decide +kernel
theorem dX10_laysDrift_158 : decode cX10_laysDrift 158 = .ok (.lcmp, 1) := by decide +kernel
theorem dX10_laysDrift_159 : decode cX10_laysDrift 159 = .ok (.ifCond .le 8, 3) := by decide +kernel
theorem dX10_laysDrift_162 : decode cX10_laysDrift 162 = .ok (.lload 10, 2) := by decide +kernel
theorem dX10_laysDrift_164 : decode cX10_laysDrift 164 = .ok (.goto 4, 3) := by decide +kernel
theorem dX10_laysDrift_167 : decode cX10_laysDrift 167 = .ok (.lload_n 1, 1) := by decide +kernel
theorem dX10_laysDrift_168 : decode cX10_laysDrift 168 = .ok (.lstore_n 1, 1) := by decide +kernel
theorem dX10_laysDrift_169 : decode cX10_laysDrift 169 = .ok (.iinc 3 1, 3) := by decide +kernel
theorem dX10_laysDrift_172 : decode cX10_laysDrift 172 = .ok (.goto (-168), 3) := by decide +kernel
theorem dX10_laysDrift_175 : decode cX10_laysDrift 175 = .ok (.aload_n 0, 1) := by decide +kernel
theorem dX10_laysDrift_176 : decode cX10_laysDrift 176 = .ok (.lload_n 1, 1) := by decide +kernel
theorem dX10_laysDrift_177 : decode cX10_laysDrift 177 = .ok (.lconst 0, 1) := by decide +kernel
theorem dX10_laysDrift_178 : decode cX10_laysDrift 178 = .ok (.lcmp, 1) := by decide +kernel
theorem dX10_laysDrift_179 : decode cX10_laysDrift 179 = .ok (.ifCond .le 7, 3) := by decide +kernel
theorem dX10_laysDrift_182 : decode cX10_laysDrift 182 = .ok (.iconst 1, 1) := by decide +kernel
theorem dX10_laysDrift_183 : decode cX10_laysDrift 183 = .ok (.goto 4, 3) := by decide +kernel
theorem dX10_laysDrift_186 : decode cX10_laysDrift 186 = .ok (.iconst 0, 1) := by decide +kernel
theorem dX10_laysDrift_187 : decode cX10_laysDrift 187 = .ok (.putfield 138, 3) := by decide +kernel
theorem dX10_laysDrift_190 : decode cX10_laysDrift 190 = .ok (.iconst 0, 1) := by decide +kernel
theorem dX10_laysDrift_191 : decode cX10_laysDrift 191 = .ok (.istore_n 3, 1) := by decide +kernel
theorem dX10_laysDrift_192 : decode cX10_laysDrift 192 = .ok (.iload_n 3, 1) := by decide +kernel
theorem dX10_laysDrift_193 : decode cX10_laysDrift 193 = .ok (.iconst 5, 1) := by decide +kernel
theorem dX10_laysDrift_194 : decode cX10_laysDrift 194 = .ok (.if_icmp .ge 39, 3) := by decide +kernel
theorem dX10_laysDrift_197 : decode cX10_laysDrift 197 = .ok (.aload_n 0, 1) := by decide +kernel
theorem dX10_laysDrift_198 : decode cX10_laysDrift 198 = .ok (.getfield 29, 3) := by decide +kernel
theorem dX10_laysDrift_201 : decode cX10_laysDrift 201 = .ok (.iload_n 3, 1) := by decide +kernel
theorem dX10_laysDrift_202 : decode cX10_laysDrift 202 = .ok (.aload_n 0, 1) := by decide +kernel
theorem dX10_laysDrift_203 : decode cX10_laysDrift 203 = .ok (.getfield 138, 3) := by decide +kernel
theorem dX10_laysDrift_206 : decode cX10_laysDrift 206 = .ok (.ifCond .eq 19, 3) := by decide +kernel
theorem dX10_laysDrift_209 : decode cX10_laysDrift 209 = .ok (.aload_n 0, 1) := by decide +kernel
theorem dX10_laysDrift_210 : decode cX10_laysDrift 210 = .ok (.getfield 32, 3) := by decide +kernel
theorem dX10_laysDrift_213 : decode cX10_laysDrift 213 = .ok (.iload_n 3, 1) := by decide +kernel
theorem dX10_laysDrift_214 : decode cX10_laysDrift 214 = .ok (.laload, 1) := by decide +kernel
theorem dX10_laysDrift_215 : decode cX10_laysDrift 215 = .ok (.ldc2_w 125, 3) := by decide +kernel
theorem dX10_laysDrift_218 : decode cX10_laysDrift 218 = .ok (.lmul, 1) := by decide +kernel
theorem dX10_laysDrift_219 : decode cX10_laysDrift 219 = .ok (.lload_n 1, 1) := by decide +kernel
theorem dX10_laysDrift_220 : decode cX10_laysDrift 220 = .ok (.ldiv, 1) := by decide +kernel
theorem dX10_laysDrift_221 : decode cX10_laysDrift 221 = .ok (.l2i, 1) := by decide +kernel
theorem dX10_laysDrift_222 : decode cX10_laysDrift 222 = .ok (.goto 4, 3) := by decide +kernel
theorem dX10_laysDrift_225 : decode cX10_laysDrift 225 = .ok (.iconst 0, 1) := by decide +kernel
theorem dX10_laysDrift_226 : decode cX10_laysDrift 226 = .ok (.iastore, 1) := by decide +kernel
theorem dX10_laysDrift_227 : decode cX10_laysDrift 227 = .ok (.iinc 3 1, 3) := by decide +kernel
theorem dX10_laysDrift_230 : decode cX10_laysDrift 230 = .ok (.goto (-38), 3) := by decide +kernel
theorem dX10_laysDrift_233 : decode cX10_laysDrift 233 = .ok (.return_, 1) := by decide +kernel
theorem dX10_addReference_0 : decode cX10_addReference 0 = .ok (.aload_n 0, 1) := by decide +kernel
theorem dX10_addReference_1 : decode cX10_addReference 1 = .ok (.iconst 0, 1) := by decide +kernel
theorem dX10_addReference_2 : decode cX10_addReference 2 = .ok (.putfield 1, 3) := by decide +kernel
theorem dX10_addReference_5 : decode cX10_addReference 5 = .ok (.aload_n 0, 1) := by decide +kernel
theorem dX10_addReference_6 : decode cX10_addReference 6 = .ok (.getfield 70, 3) := by decide +kernel
theorem dX10_addReference_9 : decode cX10_addReference 9 = .ok (.ifCond .ne 6, 3) := by decide +kernel
theorem dX10_addReference_12 : decode cX10_addReference 12 = .ok (.bipush (-5), 2) := by decide +kernel
theorem dX10_addReference_14 : decode cX10_addReference 14 = .ok (.ireturn, 1) := by decide +kernel
theorem dX10_addReference_15 : decode cX10_addReference 15 = .ok (.iload_n 1, 1) := by decide +kernel
theorem dX10_addReference_16 : decode cX10_addReference 16 = .ok (.i2l, 1) := by decide +kernel
theorem dX10_addReference_17 : decode cX10_addReference 17 = .ok (.lconst 0, 1) := by decide +kernel
theorem dX10_addReference_18 : decode cX10_addReference 18 = .ok (.ldc2_w 141, 3) := by decide +kernel
theorem dX10_addReference_21 : decode cX10_addReference 21 = .ok (.invokestatic 84, 3) := by decide +kernel
theorem dX10_addReference_24 : decode cX10_addReference 24 = .ok (.ifCond .eq 25, 3) := by decide +kernel
theorem dX10_addReference_27 : decode cX10_addReference 27 = .ok (.aload_n 0, 1) := by decide +kernel
theorem dX10_addReference_28 : decode cX10_addReference 28 = .ok (.getfield 58, 3) := by decide +kernel
theorem dX10_addReference_31 : decode cX10_addReference 31 = .ok (.ifCond .le 21, 3) := by decide +kernel
theorem dX10_addReference_34 : decode cX10_addReference 34 = .ok (.iload_n 1, 1) := by decide +kernel
theorem dX10_addReference_35 : decode cX10_addReference 35 = .ok (.aload_n 0, 1) := by decide +kernel
theorem dX10_addReference_36 : decode cX10_addReference 36 = .ok (.getfield 20, 3) := by decide +kernel
theorem dX10_addReference_39 : decode cX10_addReference 39 = .ok (.aload_n 0, 1) := by decide +kernel
theorem dX10_addReference_40 : decode cX10_addReference 40 = .ok (.getfield 58, 3) := by decide +kernel
theorem dX10_addReference_43 : decode cX10_addReference 43 = .ok (.iconst 1, 1) := by decide +kernel
theorem dX10_addReference_44 : decode cX10_addReference 44 = .ok (.isub, 1) := by decide +kernel
theorem dX10_addReference_45 : decode cX10_addReference 45 = .ok (.iaload, 1) := by decide +kernel
theorem dX10_addReference_46 : decode cX10_addReference 46 = .ok (.if_icmp .gt 6, 3) := by decide +kernel
theorem dX10_addReference_49 : decode cX10_addReference 49 = .ok (.bipush (-3), 2) := by decide +kernel
theorem dX10_addReference_51 : decode cX10_addReference 51 = .ok (.ireturn, 1) := by decide +kernel
theorem dX10_addReference_52 : decode cX10_addReference 52 = .ok (.aload_n 0, 1) := by decide +kernel
theorem dX10_addReference_53 : decode cX10_addReference 53 = .ok (.getfield 58, 3) := by decide +kernel
theorem dX10_addReference_56 : decode cX10_addReference 56 = .ok (.bipush 10, 2) := by decide +kernel
theorem dX10_addReference_58 : decode cX10_addReference 58 = .ok (.if_icmp .ne 6, 3) := by decide +kernel
theorem dX10_addReference_61 : decode cX10_addReference 61 = .ok (.bipush (-4), 2) := by decide +kernel
theorem dX10_addReference_63 : decode cX10_addReference 63 = .ok (.ireturn, 1) := by decide +kernel
theorem dX10_addReference_64 : decode cX10_addReference 64 = .ok (.aload_n 0, 1) := by decide +kernel
theorem dX10_addReference_65 : decode cX10_addReference 65 = .ok (.iconst 0, 1) := by decide +kernel
theorem dX10_addReference_66 : decode cX10_addReference 66 = .ok (.bipush 13, 2) := by decide +kernel
theorem dX10_addReference_68 : decode cX10_addReference 68 = .ok (.aload_n 0, 1) := by decide +kernel
theorem dX10_addReference_69 : decode cX10_addReference 69 = .ok (.getfield 58, 3) := by decide +kernel
theorem dX10_addReference_72 : decode cX10_addReference 72 = .ok (.iadd, 1) := by decide +kernel
theorem dX10_addReference_73 : decode cX10_addReference 73 = .ok (.invokevirtual 121, 3) := by decide +kernel
theorem dX10_addReference_76 : decode cX10_addReference 76 = .ok (.aload_n 0, 1) := by decide +kernel
theorem dX10_addReference_77 : decode cX10_addReference 77 = .ok (.getfield 20, 3) := by decide +kernel
theorem dX10_addReference_80 : decode cX10_addReference 80 = .ok (.aload_n 0, 1) := by decide +kernel
theorem dX10_addReference_81 : decode cX10_addReference 81 = .ok (.getfield 58, 3) := by decide +kernel
theorem dX10_addReference_84 : decode cX10_addReference 84 = .ok (.iload_n 1, 1) := by decide +kernel
theorem dX10_addReference_85 : decode cX10_addReference 85 = .ok (.iastore, 1) := by decide +kernel
theorem dX10_addReference_86 : decode cX10_addReference 86 = .ok (.aload_n 0, 1) := by decide +kernel
theorem dX10_addReference_87 : decode cX10_addReference 87 = .ok (.dup, 1) := by decide +kernel
theorem dX10_addReference_88 : decode cX10_addReference 88 = .ok (.getfield 58, 3) := by decide +kernel
theorem dX10_addReference_91 : decode cX10_addReference 91 = .ok (.iconst 1, 1) := by decide +kernel
theorem dX10_addReference_92 : decode cX10_addReference 92 = .ok (.iadd, 1) := by decide +kernel
theorem dX10_addReference_93 : decode cX10_addReference 93 = .ok (.putfield 58, 3) := by decide +kernel
theorem dX10_addReference_96 : decode cX10_addReference 96 = .ok (.aload_n 0, 1) := by decide +kernel
theorem dX10_addReference_97 : decode cX10_addReference 97 = .ok (.getfield 58, 3) := by decide +kernel
theorem dX10_addReference_100 : decode cX10_addReference 100 = .ok (.ireturn, 1) := by decide +kernel
theorem dX10_removeReference_0 : decode cX10_removeReference 0 = .ok (.aload_n 0, 1) := by decide +kernel
theorem dX10_removeReference_1 : decode cX10_removeReference 1 = .ok (.iconst 0, 1) := by decide +kernel
theorem dX10_removeReference_2 : decode cX10_removeReference 2 = .ok (.putfield 1, 3) := by decide +kernel
theorem dX10_removeReference_5 : decode cX10_removeReference 5 = .ok (.aload_n 0, 1) := by decide +kernel
theorem dX10_removeReference_6 : decode cX10_removeReference 6 = .ok (.getfield 58, 3) := by decide +kernel
theorem dX10_removeReference_9 : decode cX10_removeReference 9 = .ok (.ifCond .ne 6, 3) := by decide +kernel
theorem dX10_removeReference_12 : decode cX10_removeReference 12 = .ok (.bipush (-2), 2) := by decide +kernel
theorem dX10_removeReference_14 : decode cX10_removeReference 14 = .ok (.ireturn, 1) := by decide +kernel
theorem dX10_removeReference_15 : decode cX10_removeReference 15 = .ok (.aload_n 0, 1) := by decide +kernel
theorem dX10_removeReference_16 : decode cX10_removeReference 16 = .ok (.dup, 1) := by decide +kernel
theorem dX10_removeReference_17 : decode cX10_removeReference 17 = .ok (.getfield 58, 3) := by decide +kernel
theorem dX10_removeReference_20 : decode cX10_removeReference 20 = .ok (.iconst 1, 1) := by decide +kernel
theorem dX10_removeReference_21 : decode cX10_removeReference 21 = .ok (.isub, 1) := by decide +kernel
theorem dX10_removeReference_22 : decode cX10_removeReference 22 = .ok (.putfield 58, 3) := by decide +kernel
theorem dX10_removeReference_25 : decode cX10_removeReference 25 = .ok (.aload_n 0, 1) := by decide +kernel
theorem dX10_removeReference_26 : decode cX10_removeReference 26 = .ok (.getfield 58, 3) := by decide +kernel
theorem dX10_removeReference_29 : decode cX10_removeReference 29 = .ok (.ireturn, 1) := by decide +kernel
theorem dX10_driftComponent_0 : decode cX10_driftComponent 0 = .ok (.aload_n 0, 1) := by decide +kernel
theorem dX10_driftComponent_1 : decode cX10_driftComponent 1 = .ok (.iconst 0, 1) := by decide +kernel
theorem dX10_driftComponent_2 : decode cX10_driftComponent 2 = .ok (.putfield 1, 3) := by decide +kernel
theorem dX10_driftComponent_5 : decode cX10_driftComponent 5 = .ok (.aload_n 0, 1) := by decide +kernel
theorem dX10_driftComponent_6 : decode cX10_driftComponent 6 = .ok (.iload_n 1, 1) := by decide +kernel
theorem dX10_driftComponent_7 : decode cX10_driftComponent 7 = .ok (.invokevirtual 88, 3) := by decide +kernel
theorem dX10_driftComponent_10 : decode cX10_driftComponent 10 = .ok (.ifCond .ne 6, 3) := by decide +kernel
theorem dX10_driftComponent_13 : decode cX10_driftComponent 13 = .ok (.bipush (-2), 2) := by decide +kernel
theorem dX10_driftComponent_15 : decode cX10_driftComponent 15 = .ok (.ireturn, 1) := by decide +kernel
theorem dX10_driftComponent_16 : decode cX10_driftComponent 16 = .ok (.aload_n 0, 1) := by decide +kernel
theorem dX10_driftComponent_17 : decode cX10_driftComponent 17 = .ok (.iconst 0, 1) := by decide +kernel
theorem dX10_driftComponent_18 : decode cX10_driftComponent 18 = .ok (.invokevirtual 143, 3) := by decide +kernel
theorem dX10_driftComponent_21 : decode cX10_driftComponent 21 = .ok (.aload_n 0, 1) := by decide +kernel
theorem dX10_driftComponent_22 : decode cX10_driftComponent 22 = .ok (.getfield 29, 3) := by decide +kernel
theorem dX10_driftComponent_25 : decode cX10_driftComponent 25 = .ok (.iload_n 1, 1) := by decide +kernel
theorem dX10_driftComponent_26 : decode cX10_driftComponent 26 = .ok (.iaload, 1) := by decide +kernel
theorem dX10_driftComponent_27 : decode cX10_driftComponent 27 = .ok (.sipush 1000, 3) := by decide +kernel
theorem dX10_driftComponent_30 : decode cX10_driftComponent 30 = .ok (.iadd, 1) := by decide +kernel
theorem dX10_driftComponent_31 : decode cX10_driftComponent 31 = .ok (.ireturn, 1) := by decide +kernel
theorem dX10_driftPosition_0 : decode cX10_driftPosition 0 = .ok (.aload_n 0, 1) := by decide +kernel
theorem dX10_driftPosition_1 : decode cX10_driftPosition 1 = .ok (.iconst 0, 1) := by decide +kernel
theorem dX10_driftPosition_2 : decode cX10_driftPosition 2 = .ok (.putfield 1, 3) := by decide +kernel
theorem dX10_driftPosition_5 : decode cX10_driftPosition 5 = .ok (.aload_n 0, 1) := by decide +kernel
theorem dX10_driftPosition_6 : decode cX10_driftPosition 6 = .ok (.getfield 70, 3) := by decide +kernel
theorem dX10_driftPosition_9 : decode cX10_driftPosition 9 = .ok (.ifCond .ne 6, 3) := by decide +kernel
theorem dX10_driftPosition_12 : decode cX10_driftPosition 12 = .ok (.bipush (-5), 2) := by decide +kernel
theorem dX10_driftPosition_14 : decode cX10_driftPosition 14 = .ok (.ireturn, 1) := by decide +kernel
theorem dX10_driftPosition_15 : decode cX10_driftPosition 15 = .ok (.aload_n 0, 1) := by decide +kernel
theorem dX10_driftPosition_16 : decode cX10_driftPosition 16 = .ok (.iconst 0, 1) := by decide +kernel
theorem dX10_driftPosition_17 : decode cX10_driftPosition 17 = .ok (.invokevirtual 143, 3) := by decide +kernel
theorem dX10_driftPosition_20 : decode cX10_driftPosition 20 = .ok (.aload_n 0, 1) := by decide +kernel
theorem dX10_driftPosition_21 : decode cX10_driftPosition 21 = .ok (.getfield 138, 3) := by decide +kernel
theorem dX10_driftPosition_24 : decode cX10_driftPosition 24 = .ok (.ifCond .ne 5, 3) := by decide +kernel
theorem dX10_driftPosition_27 : decode cX10_driftPosition 27 = .ok (.iconst (-1), 1) := by decide +kernel
theorem dX10_driftPosition_28 : decode cX10_driftPosition 28 = .ok (.ireturn, 1) := by decide +kernel
theorem dX10_driftPosition_29 : decode cX10_driftPosition 29 = .ok (.lconst 0, 1) := by decide +kernel
theorem dX10_driftPosition_30 : decode cX10_driftPosition 30 = .ok (.lstore_n 1, 1) := by decide +kernel
theorem dX10_driftPosition_31 : decode cX10_driftPosition 31 = .ok (.lconst 0, 1) := by decide +kernel
theorem dX10_driftPosition_32 : decode cX10_driftPosition 32 = .ok (.lstore_n 3, 1) := by decide +kernel
theorem dX10_driftPosition_33 : decode cX10_driftPosition 33 = .ok (.iconst 0, 1) := by decide +kernel
theorem dX10_driftPosition_34 : decode cX10_driftPosition 34 = .ok (.istore 5, 2) := by decide +kernel
theorem dX10_driftPosition_36 : decode cX10_driftPosition 36 = .ok (.iload 5, 2) := by decide +kernel
theorem dX10_driftPosition_38 : decode cX10_driftPosition 38 = .ok (.aload_n 0, 1) := by decide +kernel
theorem dX10_driftPosition_39 : decode cX10_driftPosition 39 = .ok (.getfield 52, 3) := by decide +kernel
theorem dX10_driftPosition_42 : decode cX10_driftPosition 42 = .ok (.if_icmp .ge 59, 3) := by decide +kernel
theorem dX10_driftPosition_45 : decode cX10_driftPosition 45 = .ok (.lload_n 1, 1) := by decide +kernel
theorem dX10_driftPosition_46 : decode cX10_driftPosition 46 = .ok (.aload_n 0, 1) := by decide +kernel
theorem dX10_driftPosition_47 : decode cX10_driftPosition 47 = .ok (.getfield 26, 3) := by decide +kernel
theorem dX10_driftPosition_50 : decode cX10_driftPosition 50 = .ok (.iload 5, 2) := by decide +kernel
theorem dX10_driftPosition_52 : decode cX10_driftPosition 52 = .ok (.iaload, 1) := by decide +kernel
theorem dX10_driftPosition_53 : decode cX10_driftPosition 53 = .ok (.aload_n 0, 1) := by decide +kernel
theorem dX10_driftPosition_54 : decode cX10_driftPosition 54 = .ok (.getfield 26, 3) := by decide +kernel
theorem dX10_driftPosition_57 : decode cX10_driftPosition 57 = .ok (.bipush 65, 2) := by decide +kernel
theorem dX10_driftPosition_59 : decode cX10_driftPosition 59 = .ok (.iload 5, 2) := by decide +kernel
theorem dX10_driftPosition_61 : decode cX10_driftPosition 61 = .ok (.iadd, 1) := by decide +kernel
theorem dX10_driftPosition_62 : decode cX10_driftPosition 62 = .ok (.iaload, 1) := by decide +kernel
theorem dX10_driftPosition_63 : decode cX10_driftPosition 63 = .ok (.isub, 1) := by decide +kernel
theorem dX10_driftPosition_64 : decode cX10_driftPosition 64 = .ok (.i2l, 1) := by decide +kernel
theorem dX10_driftPosition_65 : decode cX10_driftPosition 65 = .ok (.aload_n 0, 1) := by decide +kernel
theorem dX10_driftPosition_66 : decode cX10_driftPosition 66 = .ok (.getfield 29, 3) := by decide +kernel
theorem dX10_driftPosition_69 : decode cX10_driftPosition 69 = .ok (.iload 5, 2) := by decide +kernel
theorem dX10_driftPosition_71 : decode cX10_driftPosition 71 = .ok (.iaload, 1) := by decide +kernel
theorem dX10_driftPosition_72 : decode cX10_driftPosition 72 = .ok (.i2l, 1) := by decide +kernel
theorem dX10_driftPosition_73 : decode cX10_driftPosition 73 = .ok (.lmul, 1) := by decide +kernel
theorem dX10_driftPosition_74 : decode cX10_driftPosition 74 = .ok (.ladd, 1) := by decide +kernel
theorem dX10_driftPosition_75 : decode cX10_driftPosition 75 = .ok (.lstore_n 1, 1) := by decide +kernel
theorem dX10_driftPosition_76 : decode cX10_driftPosition 76 = .ok (.lload_n 3, 1) := by decide +kernel
theorem dX10_driftPosition_77 : decode cX10_driftPosition 77 = .ok (.aload_n 0, 1) := by decide +kernel
theorem dX10_driftPosition_78 : decode cX10_driftPosition 78 = .ok (.getfield 29, 3) := by decide +kernel
theorem dX10_driftPosition_81 : decode cX10_driftPosition 81 = .ok (.iload 5, 2) := by decide +kernel
theorem dX10_driftPosition_83 : decode cX10_driftPosition 83 = .ok (.iaload, 1) := by decide +kernel
theorem dX10_driftPosition_84 : decode cX10_driftPosition 84 = .ok (.aload_n 0, 1) := by decide +kernel
theorem dX10_driftPosition_85 : decode cX10_driftPosition 85 = .ok (.getfield 29, 3) := by decide +kernel
theorem dX10_driftPosition_88 : decode cX10_driftPosition 88 = .ok (.iload 5, 2) := by decide +kernel
theorem dX10_driftPosition_90 : decode cX10_driftPosition 90 = .ok (.iaload, 1) := by decide +kernel
theorem dX10_driftPosition_91 : decode cX10_driftPosition 91 = .ok (.imul, 1) := by decide +kernel
theorem dX10_driftPosition_92 : decode cX10_driftPosition 92 = .ok (.i2l, 1) := by decide +kernel
theorem dX10_driftPosition_93 : decode cX10_driftPosition 93 = .ok (.ladd, 1) := by decide +kernel
theorem dX10_driftPosition_94 : decode cX10_driftPosition 94 = .ok (.lstore_n 3, 1) := by decide +kernel
theorem dX10_driftPosition_95 : decode cX10_driftPosition 95 = .ok (.iinc 5 1, 3) := by decide +kernel
theorem dX10_driftPosition_98 : decode cX10_driftPosition 98 = .ok (.goto (-62), 3) := by decide +kernel
theorem dX10_driftPosition_101 : decode cX10_driftPosition 101 = .ok (.ldc2_w 125, 3) := by decide +kernel
theorem dX10_driftPosition_104 : decode cX10_driftPosition 104 = .ok (.lload_n 1, 1) := by decide +kernel
theorem dX10_driftPosition_105 : decode cX10_driftPosition 105 = .ok (.lmul, 1) := by decide +kernel
theorem dX10_driftPosition_106 : decode cX10_driftPosition 106 = .ok (.lload_n 3, 1) := by decide +kernel
theorem dX10_driftPosition_107 : decode cX10_driftPosition 107 = .ok (.invokestatic 110, 3) := by decide +kernel
theorem dX10_driftPosition_110 : decode cX10_driftPosition 110 = .ok (.ldc2_w 146, 3) := by decide +kernel
theorem dX10_driftPosition_113 : decode cX10_driftPosition 113 = .ok (.ladd, 1) := by decide +kernel
theorem dX10_driftPosition_114 : decode cX10_driftPosition 114 = .ok (.l2i, 1) := by decide +kernel
theorem dX10_driftPosition_115 : decode cX10_driftPosition 115 = .ok (.ireturn, 1) := by decide +kernel
theorem dX10_predictedReference_0 : decode cX10_predictedReference 0 = .ok (.aload_n 0, 1) := by decide +kernel
theorem dX10_predictedReference_1 : decode cX10_predictedReference 1 = .ok (.iconst 0, 1) := by decide +kernel
theorem dX10_predictedReference_2 : decode cX10_predictedReference 2 = .ok (.putfield 1, 3) := by decide +kernel
theorem dX10_predictedReference_5 : decode cX10_predictedReference 5 = .ok (.aload_n 0, 1) := by decide +kernel
theorem dX10_predictedReference_6 : decode cX10_predictedReference 6 = .ok (.iload_n 1, 1) := by decide +kernel
theorem dX10_predictedReference_7 : decode cX10_predictedReference 7 = .ok (.invokevirtual 88, 3) := by decide +kernel
theorem dX10_predictedReference_10 : decode cX10_predictedReference 10 = .ok (.ifCond .ne 6, 3) := by decide +kernel
theorem dX10_predictedReference_13 : decode cX10_predictedReference 13 = .ok (.bipush (-2), 2) := by decide +kernel
theorem dX10_predictedReference_15 : decode cX10_predictedReference 15 = .ok (.ireturn, 1) := by decide +kernel
theorem dX10_predictedReference_16 : decode cX10_predictedReference 16 = .ok (.iload_n 2, 1) := by decide +kernel
theorem dX10_predictedReference_17 : decode cX10_predictedReference 17 = .ok (.i2l, 1) := by decide +kernel
theorem dX10_predictedReference_18 : decode cX10_predictedReference 18 = .ok (.lconst 0, 1) := by decide +kernel
theorem dX10_predictedReference_19 : decode cX10_predictedReference 19 = .ok (.ldc2_w 141, 3) := by decide +kernel
theorem dX10_predictedReference_22 : decode cX10_predictedReference 22 = .ok (.invokestatic 84, 3) := by decide +kernel
theorem dX10_predictedReference_25 : decode cX10_predictedReference 25 = .ok (.ifCond .ne 6, 3) := by decide +kernel
theorem dX10_predictedReference_28 : decode cX10_predictedReference 28 = .ok (.bipush (-3), 2) := by decide +kernel
theorem dX10_predictedReference_30 : decode cX10_predictedReference 30 = .ok (.ireturn, 1) := by decide +kernel
theorem dX10_predictedReference_31 : decode cX10_predictedReference 31 = .ok (.aload_n 0, 1) := by decide +kernel
theorem dX10_predictedReference_32 : decode cX10_predictedReference 32 = .ok (.getfield 58, 3) := by decide +kernel
theorem dX10_predictedReference_35 : decode cX10_predictedReference 35 = .ok (.iconst 2, 1) := by decide +kernel
theorem dX10_predictedReference_36 : decode cX10_predictedReference 36 = .ok (.if_icmp .ge 5, 3) := by decide +kernel
theorem dX10_predictedReference_39 : decode cX10_predictedReference 39 = .ok (.iconst (-1), 1) := by decide +kernel
theorem dX10_predictedReference_40 : decode cX10_predictedReference 40 = .ok (.ireturn, 1) := by decide +kernel
theorem dX10_predictedReference_41 : decode cX10_predictedReference 41 = .ok (.aload_n 0, 1) := by decide +kernel
theorem dX10_predictedReference_42 : decode cX10_predictedReference 42 = .ok (.iconst 0, 1) := by decide +kernel
theorem dX10_predictedReference_43 : decode cX10_predictedReference 43 = .ok (.invokevirtual 143, 3) := by decide +kernel
theorem dX10_predictedReference_46 : decode cX10_predictedReference 46 = .ok (.lconst 0, 1) := by decide +kernel
theorem dX10_predictedReference_47 : decode cX10_predictedReference 47 = .ok (.lstore_n 3, 1) := by decide +kernel
theorem dX10_predictedReference_48 : decode cX10_predictedReference 48 = .ok (.lconst 0, 1) := by decide +kernel
theorem dX10_predictedReference_49 : decode cX10_predictedReference 49 = .ok (.lstore 5, 2) := by decide +kernel
theorem dX10_predictedReference_51 : decode cX10_predictedReference 51 = .ok (.lconst 0, 1) := by decide +kernel
theorem dX10_predictedReference_52 : decode cX10_predictedReference 52 = .ok (.lstore 7, 2) := by decide +kernel
theorem dX10_predictedReference_54 : decode cX10_predictedReference 54 = .ok (.lconst 0, 1) := by decide +kernel
theorem dX10_predictedReference_55 : decode cX10_predictedReference 55 = .ok (.lstore 9, 2) := by decide +kernel
theorem dX10_predictedReference_57 : decode cX10_predictedReference 57 = .ok (.iconst 0, 1) := by decide +kernel
theorem dX10_predictedReference_58 : decode cX10_predictedReference 58 = .ok (.istore 11, 2) := by decide +kernel
theorem dX10_predictedReference_60 : decode cX10_predictedReference 60 = .ok (.iload 11, 2) := by decide +kernel
theorem dX10_predictedReference_62 : decode cX10_predictedReference 62 = .ok (.aload_n 0, 1) := by decide +kernel
theorem dX10_predictedReference_63 : decode cX10_predictedReference 63 = .ok (.getfield 58, 3) := by decide +kernel
theorem dX10_predictedReference_66 : decode cX10_predictedReference 66 = .ok (.if_icmp .ge 68, 3) := by decide +kernel
theorem dX10_predictedReference_69 : decode cX10_predictedReference 69 = .ok (.aload_n 0, 1) := by decide +kernel
theorem dX10_predictedReference_70 : decode cX10_predictedReference 70 = .ok (.getfield 20, 3) := by decide +kernel
theorem dX10_predictedReference_73 : decode cX10_predictedReference 73 = .ok (.iload 11, 2) := by decide +kernel
theorem dX10_predictedReference_75 : decode cX10_predictedReference 75 = .ok (.iaload, 1) := by decide +kernel
theorem dX10_predictedReference_76 : decode cX10_predictedReference 76 = .ok (.i2l, 1) := by decide +kernel
theorem dX10_predictedReference_77 : decode cX10_predictedReference 77 = .ok (.lstore 12, 2) := by decide +kernel
theorem dX10_predictedReference_79 : decode cX10_predictedReference 79 = .ok (.aload_n 0, 1) := by decide +kernel
theorem dX10_predictedReference_80 : decode cX10_predictedReference 80 = .ok (.getfield 26, 3) := by decide +kernel
theorem dX10_predictedReference_83 : decode cX10_predictedReference 83 = .ok (.iconst 5, 1) := by decide +kernel
theorem dX10_predictedReference_84 : decode cX10_predictedReference 84 = .ok (.bipush 13, 2) := by decide +kernel
theorem dX10_predictedReference_86 : decode cX10_predictedReference 86 = .ok (.iload 11, 2) := by decide +kernel
theorem dX10_predictedReference_88 : decode cX10_predictedReference 88 = .ok (.iadd, 1) := by decide +kernel
theorem dX10_predictedReference_89 : decode cX10_predictedReference 89 = .ok (.imul, 1) := by decide +kernel
theorem dX10_predictedReference_90 : decode cX10_predictedReference 90 = .ok (.iload_n 1, 1) := by decide +kernel
theorem dX10_predictedReference_91 : decode cX10_predictedReference 91 = .ok (.iadd, 1) := by decide +kernel
theorem dX10_predictedReference_92 : decode cX10_predictedReference 92 = .ok (.iaload, 1) := by decide +kernel
theorem dX10_predictedReference_93 : decode cX10_predictedReference 93 = .ok (.i2l, 1) := by decide +kernel
theorem dX10_predictedReference_94 : decode cX10_predictedReference 94 = .ok (.lstore 14, 2) := by decide +kernel
theorem dX10_predictedReference_96 : decode cX10_predictedReference 96 = .ok (.lload_n 3, 1) := by decide +kernel
theorem dX10_predictedReference_97 : decode cX10_predictedReference 97 = .ok (.lload 12, 2) := by decide +kernel
theorem dX10_predictedReference_99 : decode cX10_predictedReference 99 = .ok (.ladd, 1) := by decide +kernel
theorem dX10_predictedReference_100 : decode cX10_predictedReference 100 = .ok (.lstore_n 3, 1) := by decide +kernel
theorem dX10_predictedReference_101 : decode cX10_predictedReference 101 = .ok (.lload 5, 2) := by decide +kernel
theorem dX10_predictedReference_103 : decode cX10_predictedReference 103 = .ok (.lload 14, 2) := by decide +kernel
theorem dX10_predictedReference_105 : decode cX10_predictedReference 105 = .ok (.ladd, 1) := by decide +kernel
theorem dX10_predictedReference_106 : decode cX10_predictedReference 106 = .ok (.lstore 5, 2) := by decide +kernel
theorem dX10_predictedReference_108 : decode cX10_predictedReference 108 = .ok (.lload 7, 2) := by decide +kernel
theorem dX10_predictedReference_110 : decode cX10_predictedReference 110 = .ok (.lload 12, 2) := by decide +kernel
theorem dX10_predictedReference_112 : decode cX10_predictedReference 112 = .ok (.lload 14, 2) := by decide +kernel
theorem dX10_predictedReference_114 : decode cX10_predictedReference 114 = .ok (.lmul, 1) := by decide +kernel
theorem dX10_predictedReference_115 : decode cX10_predictedReference 115 = .ok (.ladd, 1) := by decide +kernel
theorem dX10_predictedReference_116 : decode cX10_predictedReference 116 = .ok (.lstore 7, 2) := by decide +kernel
theorem dX10_predictedReference_118 : decode cX10_predictedReference 118 = .ok (.lload 9, 2) := by decide +kernel
theorem dX10_predictedReference_120 : decode cX10_predictedReference 120 = .ok (.lload 12, 2) := by decide +kernel
theorem dX10_predictedReference_122 : decode cX10_predictedReference 122 = .ok (.lload 12, 2) := by decide +kernel
theorem dX10_predictedReference_124 : decode cX10_predictedReference 124 = .ok (.lmul, 1) := by decide +kernel
theorem dX10_predictedReference_125 : decode cX10_predictedReference 125 = .ok (.ladd, 1) := by decide +kernel
theorem dX10_predictedReference_126 : decode cX10_predictedReference 126 = .ok (.lstore 9, 2) := by decide +kernel
theorem dX10_predictedReference_128 : decode cX10_predictedReference 128 = .ok (.iinc 11 1, 3) := by decide +kernel
theorem dX10_predictedReference_131 : decode cX10_predictedReference 131 = .ok (.goto (-71), 3) := by decide +kernel
theorem dX10_predictedReference_134 : decode cX10_predictedReference 134 = .ok (.aload_n 0, 1) := by decide +kernel
theorem dX10_predictedReference_135 : decode cX10_predictedReference 135 = .ok (.getfield 58, 3) := by decide +kernel
theorem dX10_predictedReference_138 : decode cX10_predictedReference 138 = .ok (.i2l, 1) := by decide +kernel
theorem dX10_predictedReference_139 : decode cX10_predictedReference 139 = .ok (.lload 7, 2) := by decide +kernel
theorem dX10_predictedReference_141 : decode cX10_predictedReference 141 = .ok (.lmul, 1) := by decide +kernel
theorem dX10_predictedReference_142 : decode cX10_predictedReference 142 = .ok (.lload_n 3, 1) := by decide +kernel
theorem dX10_predictedReference_143 : decode cX10_predictedReference 143 = .ok (.lload 5, 2) := by decide +kernel
theorem dX10_predictedReference_145 : decode cX10_predictedReference 145 = .ok (.lmul, 1) := by decide +kernel
theorem dX10_predictedReference_146 : decode cX10_predictedReference 146 = .ok (.lsub, 1) := by decide +kernel
theorem dX10_predictedReference_147 : decode cX10_predictedReference 147 = .ok (.lstore 11, 2) := by decide +kernel
theorem dX10_predictedReference_149 : decode cX10_predictedReference 149 = .ok (.aload_n 0, 1) := by decide +kernel
theorem dX10_predictedReference_150 : decode cX10_predictedReference 150 = .ok (.getfield 58, 3) := by decide +kernel
theorem dX10_predictedReference_153 : decode cX10_predictedReference 153 = .ok (.i2l, 1) := by decide +kernel
theorem dX10_predictedReference_154 : decode cX10_predictedReference 154 = .ok (.lload 9, 2) := by decide +kernel
theorem dX10_predictedReference_156 : decode cX10_predictedReference 156 = .ok (.lmul, 1) := by decide +kernel
theorem dX10_predictedReference_157 : decode cX10_predictedReference 157 = .ok (.lload_n 3, 1) := by decide +kernel
theorem dX10_predictedReference_158 : decode cX10_predictedReference 158 = .ok (.lload_n 3, 1) := by decide +kernel
theorem dX10_predictedReference_159 : decode cX10_predictedReference 159 = .ok (.lmul, 1) := by decide +kernel
theorem dX10_predictedReference_160 : decode cX10_predictedReference 160 = .ok (.lsub, 1) := by decide +kernel
theorem dX10_predictedReference_161 : decode cX10_predictedReference 161 = .ok (.lstore 13, 2) := by decide +kernel
theorem dX10_predictedReference_163 : decode cX10_predictedReference 163 = .ok (.lload 13, 2) := by decide +kernel
theorem dX10_predictedReference_165 : decode cX10_predictedReference 165 = .ok (.lload 5, 2) := by decide +kernel
theorem dX10_predictedReference_167 : decode cX10_predictedReference 167 = .ok (.lmul, 1) := by decide +kernel
theorem dX10_predictedReference_168 : decode cX10_predictedReference 168 = .ok (.lload 11, 2) := by decide +kernel
theorem dX10_predictedReference_170 : decode cX10_predictedReference 170 = .ok (.aload_n 0, 1) := by decide +kernel
theorem dX10_predictedReference_171 : decode cX10_predictedReference 171 = .ok (.getfield 58, 3) := by decide +kernel
theorem dX10_predictedReference_174 : decode cX10_predictedReference 174 = .ok (.i2l, 1) := by decide +kernel
theorem dX10_predictedReference_175 : decode cX10_predictedReference 175 = .ok (.iload_n 2, 1) := by decide +kernel
theorem dX10_predictedReference_176 : decode cX10_predictedReference 176 = .ok (.i2l, 1) := by decide +kernel
theorem dX10_predictedReference_177 : decode cX10_predictedReference 177 = .ok (.lmul, 1) := by decide +kernel
theorem dX10_predictedReference_178 : decode cX10_predictedReference 178 = .ok (.lload_n 3, 1) := by decide +kernel
theorem dX10_predictedReference_179 : decode cX10_predictedReference 179 = .ok (.lsub, 1) := by decide +kernel
theorem dX10_predictedReference_180 : decode cX10_predictedReference 180 = .ok (.lmul, 1) := by decide +kernel
theorem dX10_predictedReference_181 : decode cX10_predictedReference 181 = .ok (.ladd, 1) := by decide +kernel
theorem dX10_predictedReference_182 : decode cX10_predictedReference 182 = .ok (.aload_n 0, 1) := by decide +kernel
theorem dX10_predictedReference_183 : decode cX10_predictedReference 183 = .ok (.getfield 58, 3) := by decide +kernel
theorem dX10_predictedReference_186 : decode cX10_predictedReference 186 = .ok (.i2l, 1) := by decide +kernel
theorem dX10_predictedReference_187 : decode cX10_predictedReference 187 = .ok (.lload 13, 2) := by decide +kernel
theorem dX10_predictedReference_189 : decode cX10_predictedReference 189 = .ok (.lmul, 1) := by decide +kernel
theorem dX10_predictedReference_190 : decode cX10_predictedReference 190 = .ok (.invokestatic 110, 3) := by decide +kernel
theorem dX10_predictedReference_193 : decode cX10_predictedReference 193 = .ok (.ldc2_w 127, 3) := by decide +kernel
theorem dX10_predictedReference_196 : decode cX10_predictedReference 196 = .ok (.ladd, 1) := by decide +kernel
theorem dX10_predictedReference_197 : decode cX10_predictedReference 197 = .ok (.l2i, 1) := by decide +kernel
theorem dX10_predictedReference_198 : decode cX10_predictedReference 198 = .ok (.ireturn, 1) := by decide +kernel
theorem dX10_useDrift_0 : decode cX10_useDrift 0 = .ok (.aload_n 0, 1) := by decide +kernel
theorem dX10_useDrift_1 : decode cX10_useDrift 1 = .ok (.iconst 0, 1) := by decide +kernel
theorem dX10_useDrift_2 : decode cX10_useDrift 2 = .ok (.putfield 1, 3) := by decide +kernel
theorem dX10_useDrift_5 : decode cX10_useDrift 5 = .ok (.aload_n 0, 1) := by decide +kernel
theorem dX10_useDrift_6 : decode cX10_useDrift 6 = .ok (.getfield 77, 3) := by decide +kernel
theorem dX10_useDrift_9 : decode cX10_useDrift 9 = .ok (.ifCond .eq 7, 3) := by decide +kernel
theorem dX10_useDrift_12 : decode cX10_useDrift 12 = .ok (.iconst 1, 1) := by decide +kernel
theorem dX10_useDrift_13 : decode cX10_useDrift 13 = .ok (.goto 4, 3) := by decide +kernel
theorem dX10_useDrift_16 : decode cX10_useDrift 16 = .ok (.iconst 0, 1) := by decide +kernel
theorem dX10_useDrift_17 : decode cX10_useDrift 17 = .ok (.istore_n 2, 1) := by decide +kernel
theorem dX10_useDrift_18 : decode cX10_useDrift 18 = .ok (.aload_n 0, 1) := by decide +kernel
theorem dX10_useDrift_19 : decode cX10_useDrift 19 = .ok (.iload_n 1, 1) := by decide +kernel
theorem dX10_useDrift_20 : decode cX10_useDrift 20 = .ok (.putfield 77, 3) := by decide +kernel
theorem dX10_useDrift_23 : decode cX10_useDrift 23 = .ok (.iload_n 2, 1) := by decide +kernel
theorem dX10_useDrift_24 : decode cX10_useDrift 24 = .ok (.ireturn, 1) := by decide +kernel
theorem dX10_isClass_0 : decode cX10_isClass 0 = .ok (.iload_n 1, 1) := by decide +kernel
theorem dX10_isClass_1 : decode cX10_isClass 1 = .ok (.i2l, 1) := by decide +kernel
theorem dX10_isClass_2 : decode cX10_isClass 2 = .ok (.lconst 0, 1) := by decide +kernel
theorem dX10_isClass_3 : decode cX10_isClass 3 = .ok (.aload_n 0, 1) := by decide +kernel
theorem dX10_isClass_4 : decode cX10_isClass 4 = .ok (.getfield 61, 3) := by decide +kernel
theorem dX10_isClass_7 : decode cX10_isClass 7 = .ok (.iconst 1, 1) := by decide +kernel
theorem dX10_isClass_8 : decode cX10_isClass 8 = .ok (.isub, 1) := by decide +kernel
theorem dX10_isClass_9 : decode cX10_isClass 9 = .ok (.i2l, 1) := by decide +kernel
theorem dX10_isClass_10 : decode cX10_isClass 10 = .ok (.invokestatic 84, 3) := by decide +kernel
theorem dX10_isClass_13 : decode cX10_isClass 13 = .ok (.ireturn, 1) := by decide +kernel
theorem dX10_isSample_0 : decode cX10_isSample 0 = .ok (.aload_n 0, 1) := by decide +kernel
theorem dX10_isSample_1 : decode cX10_isSample 1 = .ok (.iload_n 1, 1) := by decide +kernel
theorem dX10_isSample_2 : decode cX10_isSample 2 = .ok (.invokevirtual 148, 3) := by decide +kernel
theorem dX10_isSample_5 : decode cX10_isSample 5 = .ok (.ifCond .eq 25, 3) := by decide +kernel
theorem dX10_isSample_8 : decode cX10_isSample 8 = .ok (.iload_n 2, 1) := by decide +kernel
theorem dX10_isSample_9 : decode cX10_isSample 9 = .ok (.i2l, 1) := by decide +kernel
theorem dX10_isSample_10 : decode cX10_isSample 10 = .ok (.lconst 0, 1) := by decide +kernel
theorem dX10_isSample_11 : decode cX10_isSample 11 = .ok (.aload_n 0, 1) := by decide +kernel
theorem dX10_isSample_12 : decode cX10_isSample 12 = .ok (.getfield 23, 3) := by decide +kernel
theorem dX10_isSample_15 : decode cX10_isSample 15 = .ok (.iload_n 1, 1) := by decide +kernel
theorem dX10_isSample_16 : decode cX10_isSample 16 = .ok (.iaload, 1) := by decide +kernel
theorem dX10_isSample_17 : decode cX10_isSample 17 = .ok (.iconst 1, 1) := by decide +kernel
theorem dX10_isSample_18 : decode cX10_isSample 18 = .ok (.isub, 1) := by decide +kernel
theorem dX10_isSample_19 : decode cX10_isSample 19 = .ok (.i2l, 1) := by decide +kernel
theorem dX10_isSample_20 : decode cX10_isSample 20 = .ok (.invokestatic 84, 3) := by decide +kernel
theorem dX10_isSample_23 : decode cX10_isSample 23 = .ok (.ifCond .eq 7, 3) := by decide +kernel
theorem dX10_isSample_26 : decode cX10_isSample 26 = .ok (.iconst 1, 1) := by decide +kernel
theorem dX10_isSample_27 : decode cX10_isSample 27 = .ok (.goto 4, 3) := by decide +kernel
theorem dX10_isSample_30 : decode cX10_isSample 30 = .ok (.iconst 0, 1) := by decide +kernel
theorem dX10_isSample_31 : decode cX10_isSample 31 = .ok (.ireturn, 1) := by decide +kernel
theorem dX10_placeOf_0 : decode cX10_placeOf 0 = .ok (.bipush 23, 2) := by decide +kernel
theorem dX10_placeOf_2 : decode cX10_placeOf 2 = .ok (.bipush 8, 2) := by decide +kernel
theorem dX10_placeOf_4 : decode cX10_placeOf 4 = .ok (.iload_n 0, 1) := by decide +kernel
theorem dX10_placeOf_5 : decode cX10_placeOf 5 = .ok (.imul, 1) := by decide +kernel
theorem dX10_placeOf_6 : decode cX10_placeOf 6 = .ok (.iadd, 1) := by decide +kernel
theorem dX10_placeOf_7 : decode cX10_placeOf 7 = .ok (.iload_n 1, 1) := by decide +kernel
theorem dX10_placeOf_8 : decode cX10_placeOf 8 = .ok (.iadd, 1) := by decide +kernel
theorem dX10_placeOf_9 : decode cX10_placeOf 9 = .ok (.ireturn, 1) := by decide +kernel
theorem dX10_addClass_0 : decode cX10_addClass 0 = .ok (.aload_n 0, 1) := by decide +kernel
theorem dX10_addClass_1 : decode cX10_addClass 1 = .ok (.iconst 0, 1) := by decide +kernel
theorem dX10_addClass_2 : decode cX10_addClass 2 = .ok (.putfield 1, 3) := by decide +kernel
theorem dX10_addClass_5 : decode cX10_addClass 5 = .ok (.aload_n 0, 1) := by decide +kernel
theorem dX10_addClass_6 : decode cX10_addClass 6 = .ok (.getfield 61, 3) := by decide +kernel
theorem dX10_addClass_9 : decode cX10_addClass 9 = .ok (.bipush 8, 2) := by decide +kernel
theorem dX10_addClass_11 : decode cX10_addClass 11 = .ok (.if_icmp .ne 6, 3) := by decide +kernel
theorem dX10_addClass_14 : decode cX10_addClass 14 = .ok (.bipush (-4), 2) := by decide +kernel
theorem dX10_addClass_16 : decode cX10_addClass 16 = .ok (.ireturn, 1) := by decide +kernel
theorem dX10_addClass_17 : decode cX10_addClass 17 = .ok (.aload_n 0, 1) := by decide +kernel
theorem dX10_addClass_18 : decode cX10_addClass 18 = .ok (.getfield 23, 3) := by decide +kernel
theorem dX10_addClass_21 : decode cX10_addClass 21 = .ok (.aload_n 0, 1) := by decide +kernel
theorem dX10_addClass_22 : decode cX10_addClass 22 = .ok (.getfield 61, 3) := by decide +kernel
theorem dX10_addClass_25 : decode cX10_addClass 25 = .ok (.iconst 0, 1) := by decide +kernel
theorem dX10_addClass_26 : decode cX10_addClass 26 = .ok (.iastore, 1) := by decide +kernel
theorem dX10_addClass_27 : decode cX10_addClass 27 = .ok (.aload_n 0, 1) := by decide +kernel
theorem dX10_addClass_28 : decode cX10_addClass 28 = .ok (.dup, 1) := by decide +kernel
theorem dX10_addClass_29 : decode cX10_addClass 29 = .ok (.getfield 61, 3) := by decide +kernel
theorem dX10_addClass_32 : decode cX10_addClass 32 = .ok (.iconst 1, 1) := by decide +kernel
theorem dX10_addClass_33 : decode cX10_addClass 33 = .ok (.iadd, 1) := by decide +kernel
theorem dX10_addClass_34 : decode cX10_addClass 34 = .ok (.putfield 61, 3) := by decide +kernel
theorem dX10_addClass_37 : decode cX10_addClass 37 = .ok (.aload_n 0, 1) := by decide +kernel
theorem dX10_addClass_38 : decode cX10_addClass 38 = .ok (.getfield 61, 3) := by decide +kernel
theorem dX10_addClass_41 : decode cX10_addClass 41 = .ok (.iconst 1, 1) := by decide +kernel
theorem dX10_addClass_42 : decode cX10_addClass 42 = .ok (.isub, 1) := by decide +kernel
theorem dX10_addClass_43 : decode cX10_addClass 43 = .ok (.ireturn, 1) := by decide +kernel
theorem dX10_classCount_0 : decode cX10_classCount 0 = .ok (.aload_n 0, 1) := by decide +kernel
theorem dX10_classCount_1 : decode cX10_classCount 1 = .ok (.iconst 0, 1) := by decide +kernel
theorem dX10_classCount_2 : decode cX10_classCount 2 = .ok (.putfield 1, 3) := by decide +kernel
theorem dX10_classCount_5 : decode cX10_classCount 5 = .ok (.aload_n 0, 1) := by decide +kernel
theorem dX10_classCount_6 : decode cX10_classCount 6 = .ok (.getfield 61, 3) := by decide +kernel
theorem dX10_classCount_9 : decode cX10_classCount 9 = .ok (.ireturn, 1) := by decide +kernel
theorem dX10_addSample_0 : decode cX10_addSample 0 = .ok (.aload_n 0, 1) := by decide +kernel
theorem dX10_addSample_1 : decode cX10_addSample 1 = .ok (.iconst 0, 1) := by decide +kernel
theorem dX10_addSample_2 : decode cX10_addSample 2 = .ok (.putfield 1, 3) := by decide +kernel
theorem dX10_addSample_5 : decode cX10_addSample 5 = .ok (.aload_n 0, 1) := by decide +kernel
theorem dX10_addSample_6 : decode cX10_addSample 6 = .ok (.iload_n 1, 1) := by decide +kernel
theorem dX10_addSample_7 : decode cX10_addSample 7 = .ok (.invokevirtual 148, 3) := by decide +kernel
theorem dX10_addSample_10 : decode cX10_addSample 10 = .ok (.ifCond .ne 6, 3) := by decide +kernel
theorem dX10_addSample_13 : decode cX10_addSample 13 = .ok (.bipush (-2), 2) := by decide +kernel
theorem dX10_addSample_15 : decode cX10_addSample 15 = .ok (.ireturn, 1) := by decide +kernel
theorem dX10_addSample_16 : decode cX10_addSample 16 = .ok (.aload_n 0, 1) := by decide +kernel
theorem dX10_addSample_17 : decode cX10_addSample 17 = .ok (.getfield 70, 3) := by decide +kernel
theorem dX10_addSample_20 : decode cX10_addSample 20 = .ok (.ifCond .ne 6, 3) := by decide +kernel
theorem dX10_addSample_23 : decode cX10_addSample 23 = .ok (.bipush (-5), 2) := by decide +kernel
theorem dX10_addSample_25 : decode cX10_addSample 25 = .ok (.ireturn, 1) := by decide +kernel
theorem dX10_addSample_26 : decode cX10_addSample 26 = .ok (.aload_n 0, 1) := by decide +kernel
theorem dX10_addSample_27 : decode cX10_addSample 27 = .ok (.getfield 23, 3) := by decide +kernel
theorem dX10_addSample_30 : decode cX10_addSample 30 = .ok (.iload_n 1, 1) := by decide +kernel
theorem dX10_addSample_31 : decode cX10_addSample 31 = .ok (.iaload, 1) := by decide +kernel
theorem dX10_addSample_32 : decode cX10_addSample 32 = .ok (.bipush 8, 2) := by decide +kernel
theorem dX10_addSample_34 : decode cX10_addSample 34 = .ok (.if_icmp .ne 6, 3) := by decide +kernel
theorem dX10_addSample_37 : decode cX10_addSample 37 = .ok (.bipush (-4), 2) := by decide +kernel
theorem dX10_addSample_39 : decode cX10_addSample 39 = .ok (.ireturn, 1) := by decide +kernel
theorem dX10_addSample_40 : decode cX10_addSample 40 = .ok (.aload_n 0, 1) := by decide +kernel
theorem dX10_addSample_41 : decode cX10_addSample 41 = .ok (.iconst 0, 1) := by decide +kernel
theorem dX10_addSample_42 : decode cX10_addSample 42 = .ok (.iload_n 1, 1) := by decide +kernel
theorem dX10_addSample_43 : decode cX10_addSample 43 = .ok (.aload_n 0, 1) := by decide +kernel
theorem dX10_addSample_44 : decode cX10_addSample 44 = .ok (.getfield 23, 3) := by decide +kernel
theorem dX10_addSample_47 : decode cX10_addSample 47 = .ok (.iload_n 1, 1) := by decide +kernel
theorem dX10_addSample_48 : decode cX10_addSample 48 = .ok (.iaload, 1) := by decide +kernel
theorem dX10_addSample_49 : decode cX10_addSample 49 = .ok (.invokestatic 151, 3) := by decide +kernel
theorem dX10_addSample_52 : decode cX10_addSample 52 = .ok (.invokevirtual 121, 3) := by decide +kernel
theorem dX10_addSample_55 : decode cX10_addSample 55 = .ok (.aload_n 0, 1) := by decide +kernel
theorem dX10_addSample_56 : decode cX10_addSample 56 = .ok (.getfield 23, 3) := by decide +kernel
theorem dX10_addSample_59 : decode cX10_addSample 59 = .ok (.iload_n 1, 1) := by decide +kernel
theorem dX10_addSample_60 : decode cX10_addSample 60 = .ok (.dup2, 1) := by decide +kernel
theorem dX10_addSample_61 : decode cX10_addSample 61 = .ok (.iaload, 1) := by decide +kernel
theorem dX10_addSample_62 : decode cX10_addSample 62 = .ok (.iconst 1, 1) := by decide +kernel
theorem dX10_addSample_63 : decode cX10_addSample 63 = .ok (.iadd, 1) := by decide +kernel
theorem dX10_addSample_64 : decode cX10_addSample 64 = .ok (.iastore, 1) := by decide +kernel
theorem dX10_addSample_65 : decode cX10_addSample 65 = .ok (.aload_n 0, 1) := by decide +kernel
theorem dX10_addSample_66 : decode cX10_addSample 66 = .ok (.getfield 23, 3) := by decide +kernel
theorem dX10_addSample_69 : decode cX10_addSample 69 = .ok (.iload_n 1, 1) := by decide +kernel
theorem dX10_addSample_70 : decode cX10_addSample 70 = .ok (.iaload, 1) := by decide +kernel
theorem dX10_addSample_71 : decode cX10_addSample 71 = .ok (.iconst 1, 1) := by decide +kernel
theorem dX10_addSample_72 : decode cX10_addSample 72 = .ok (.isub, 1) := by decide +kernel
theorem dX10_addSample_73 : decode cX10_addSample 73 = .ok (.ireturn, 1) := by decide +kernel
theorem dX10_removeSample_0 : decode cX10_removeSample 0 = .ok (.aload_n 0, 1) := by decide +kernel
theorem dX10_removeSample_1 : decode cX10_removeSample 1 = .ok (.iconst 0, 1) := by decide +kernel
theorem dX10_removeSample_2 : decode cX10_removeSample 2 = .ok (.putfield 1, 3) := by decide +kernel
theorem dX10_removeSample_5 : decode cX10_removeSample 5 = .ok (.aload_n 0, 1) := by decide +kernel
theorem dX10_removeSample_6 : decode cX10_removeSample 6 = .ok (.iload_n 1, 1) := by decide +kernel
theorem dX10_removeSample_7 : decode cX10_removeSample 7 = .ok (.iload_n 2, 1) := by decide +kernel
theorem dX10_removeSample_8 : decode cX10_removeSample 8 = .ok (.invokevirtual 154, 3) := by decide +kernel
theorem dX10_removeSample_11 : decode cX10_removeSample 11 = .ok (.ifCond .ne 6, 3) := by decide +kernel
theorem dX10_removeSample_14 : decode cX10_removeSample 14 = .ok (.bipush (-2), 2) := by decide +kernel
theorem dX10_removeSample_16 : decode cX10_removeSample 16 = .ok (.ireturn, 1) := by decide +kernel
theorem dX10_removeSample_17 : decode cX10_removeSample 17 = .ok (.aload_n 0, 1) := by decide +kernel
theorem dX10_removeSample_18 : decode cX10_removeSample 18 = .ok (.getfield 23, 3) := by decide +kernel
theorem dX10_removeSample_21 : decode cX10_removeSample 21 = .ok (.iload_n 1, 1) := by decide +kernel
theorem dX10_removeSample_22 : decode cX10_removeSample 22 = .ok (.dup2, 1) := by decide +kernel
theorem dX10_removeSample_23 : decode cX10_removeSample 23 = .ok (.iaload, 1) := by decide +kernel
theorem dX10_removeSample_24 : decode cX10_removeSample 24 = .ok (.iconst 1, 1) := by decide +kernel
theorem dX10_removeSample_25 : decode cX10_removeSample 25 = .ok (.isub, 1) := by decide +kernel
theorem dX10_removeSample_26 : decode cX10_removeSample 26 = .ok (.iastore, 1) := by decide +kernel
theorem dX10_removeSample_27 : decode cX10_removeSample 27 = .ok (.iload_n 2, 1) := by decide +kernel
theorem dX10_removeSample_28 : decode cX10_removeSample 28 = .ok (.istore_n 3, 1) := by decide +kernel
theorem dX10_removeSample_29 : decode cX10_removeSample 29 = .ok (.iload_n 3, 1) := by decide +kernel
theorem dX10_removeSample_30 : decode cX10_removeSample 30 = .ok (.aload_n 0, 1) := by decide +kernel
theorem dX10_removeSample_31 : decode cX10_removeSample 31 = .ok (.getfield 23, 3) := by decide +kernel
theorem dX10_removeSample_34 : decode cX10_removeSample 34 = .ok (.iload_n 1, 1) := by decide +kernel
theorem dX10_removeSample_35 : decode cX10_removeSample 35 = .ok (.iaload, 1) := by decide +kernel
theorem dX10_removeSample_36 : decode cX10_removeSample 36 = .ok (.if_icmp .ge 25, 3) := by decide +kernel
theorem dX10_removeSample_39 : decode cX10_removeSample 39 = .ok (.aload_n 0, 1) := by decide +kernel
theorem dX10_removeSample_40 : decode cX10_removeSample 40 = .ok (.iload_n 1, 1) := by decide +kernel
theorem dX10_removeSample_41 : decode cX10_removeSample 41 = .ok (.iload_n 3, 1) := by decide +kernel
theorem dX10_removeSample_42 : decode cX10_removeSample 42 = .ok (.iconst 1, 1) := by decide +kernel
theorem dX10_removeSample_43 : decode cX10_removeSample 43 = .ok (.iadd, 1) := by decide +kernel
theorem dX10_removeSample_44 : decode cX10_removeSample 44 = .ok (.invokestatic 151, 3) := by decide +kernel
theorem dX10_removeSample_47 : decode cX10_removeSample 47 = .ok (.iload_n 1, 1) := by decide +kernel
theorem dX10_removeSample_48 : decode cX10_removeSample 48 = .ok (.iload_n 3, 1) := by decide +kernel
theorem dX10_removeSample_49 : decode cX10_removeSample 49 = .ok (.invokestatic 151, 3) := by decide +kernel
theorem dX10_removeSample_52 : decode cX10_removeSample 52 = .ok (.invokevirtual 121, 3) := by decide +kernel
theorem dX10_removeSample_55 : decode cX10_removeSample 55 = .ok (.iinc 3 1, 3) := by decide +kernel
theorem dX10_removeSample_58 : decode cX10_removeSample 58 = .ok (.goto (-29), 3) := by decide +kernel
theorem dX10_removeSample_61 : decode cX10_removeSample 61 = .ok (.aload_n 0, 1) := by decide +kernel
theorem dX10_removeSample_62 : decode cX10_removeSample 62 = .ok (.getfield 23, 3) := by decide +kernel
theorem dX10_removeSample_65 : decode cX10_removeSample 65 = .ok (.iload_n 1, 1) := by decide +kernel
theorem dX10_removeSample_66 : decode cX10_removeSample 66 = .ok (.iaload, 1) := by decide +kernel
theorem dX10_removeSample_67 : decode cX10_removeSample 67 = .ok (.ireturn, 1) := by decide +kernel
theorem dX10_recall_0 : decode cX10_recall 0 = .ok (.aload_n 0, 1) := by decide +kernel
theorem dX10_recall_1 : decode cX10_recall 1 = .ok (.iconst 0, 1) := by decide +kernel
theorem dX10_recall_2 : decode cX10_recall 2 = .ok (.putfield 1, 3) := by decide +kernel
theorem dX10_recall_5 : decode cX10_recall 5 = .ok (.aload_n 0, 1) := by decide +kernel
theorem dX10_recall_6 : decode cX10_recall 6 = .ok (.iload_n 1, 1) := by decide +kernel
theorem dX10_recall_7 : decode cX10_recall 7 = .ok (.iload_n 2, 1) := by decide +kernel
theorem dX10_recall_8 : decode cX10_recall 8 = .ok (.invokevirtual 154, 3) := by decide +kernel
theorem dX10_recall_11 : decode cX10_recall 11 = .ok (.ifCond .ne 6, 3) := by decide +kernel
theorem dX10_recall_14 : decode cX10_recall 14 = .ok (.bipush (-2), 2) := by decide +kernel
theorem dX10_recall_16 : decode cX10_recall 16 = .ok (.ireturn, 1) := by decide +kernel
theorem dX10_recall_17 : decode cX10_recall 17 = .ok (.aload_n 0, 1) := by decide +kernel
theorem dX10_recall_18 : decode cX10_recall 18 = .ok (.iconst 1, 1) := by decide +kernel
theorem dX10_recall_19 : decode cX10_recall 19 = .ok (.putfield 70, 3) := by decide +kernel
theorem dX10_recall_22 : decode cX10_recall 22 = .ok (.aload_n 0, 1) := by decide +kernel
theorem dX10_recall_23 : decode cX10_recall 23 = .ok (.iload_n 1, 1) := by decide +kernel
theorem dX10_recall_24 : decode cX10_recall 24 = .ok (.iload_n 2, 1) := by decide +kernel
theorem dX10_recall_25 : decode cX10_recall 25 = .ok (.invokestatic 151, 3) := by decide +kernel
theorem dX10_recall_28 : decode cX10_recall 28 = .ok (.iconst 0, 1) := by decide +kernel
theorem dX10_recall_29 : decode cX10_recall 29 = .ok (.invokevirtual 121, 3) := by decide +kernel
theorem dX10_recall_32 : decode cX10_recall 32 = .ok (.aload_n 0, 1) := by decide +kernel
theorem dX10_recall_33 : decode cX10_recall 33 = .ok (.getfield 17, 3) := by decide +kernel
theorem dX10_recall_36 : decode cX10_recall 36 = .ok (.iconst 0, 1) := by decide +kernel
theorem dX10_recall_37 : decode cX10_recall 37 = .ok (.iaload, 1) := by decide +kernel
theorem dX10_recall_38 : decode cX10_recall 38 = .ok (.ireturn, 1) := by decide +kernel
theorem dX10_sampleCount_0 : decode cX10_sampleCount 0 = .ok (.aload_n 0, 1) := by decide +kernel
theorem dX10_sampleCount_1 : decode cX10_sampleCount 1 = .ok (.iconst 0, 1) := by decide +kernel
theorem dX10_sampleCount_2 : decode cX10_sampleCount 2 = .ok (.putfield 1, 3) := by decide +kernel
theorem dX10_sampleCount_5 : decode cX10_sampleCount 5 = .ok (.aload_n 0, 1) := by decide +kernel
theorem dX10_sampleCount_6 : decode cX10_sampleCount 6 = .ok (.iload_n 1, 1) := by decide +kernel
theorem dX10_sampleCount_7 : decode cX10_sampleCount 7 = .ok (.invokevirtual 148, 3) := by decide +kernel
theorem dX10_sampleCount_10 : decode cX10_sampleCount 10 = .ok (.ifCond .eq 12, 3) := by decide +kernel
theorem dX10_sampleCount_13 : decode cX10_sampleCount 13 = .ok (.aload_n 0, 1) := by decide +kernel
theorem dX10_sampleCount_14 : decode cX10_sampleCount 14 = .ok (.getfield 23, 3) := by decide +kernel
theorem dX10_sampleCount_17 : decode cX10_sampleCount 17 = .ok (.iload_n 1, 1) := by decide +kernel
theorem dX10_sampleCount_18 : decode cX10_sampleCount 18 = .ok (.iaload, 1) := by decide +kernel
theorem dX10_sampleCount_19 : decode cX10_sampleCount 19 = .ok (.goto 5, 3) := by decide +kernel
theorem dX10_sampleCount_22 : decode cX10_sampleCount 22 = .ok (.bipush (-2), 2) := by decide +kernel
theorem dX10_sampleCount_24 : decode cX10_sampleCount 24 = .ok (.ireturn, 1) := by decide +kernel
theorem dX10_far_0 : decode cX10_far 0 = .ok (.lconst 0, 1) := by decide +kernel
theorem dX10_far_1 : decode cX10_far 1 = .ok (.lstore_n 3, 1) := by decide +kernel
theorem dX10_far_2 : decode cX10_far 2 = .ok (.lconst 0, 1) := by decide +kernel
theorem dX10_far_3 : decode cX10_far 3 = .ok (.lstore 5, 2) := by decide +kernel
theorem dX10_far_5 : decode cX10_far 5 = .ok (.lconst 0, 1) := by decide +kernel
theorem dX10_far_6 : decode cX10_far 6 = .ok (.lstore 7, 2) := by decide +kernel
theorem dX10_far_8 : decode cX10_far 8 = .ok (.iconst 0, 1) := by decide +kernel
theorem dX10_far_9 : decode cX10_far 9 = .ok (.istore 9, 2) := by decide +kernel
theorem dX10_far_11 : decode cX10_far 11 = .ok (.iload 9, 2) := by decide +kernel
theorem dX10_far_13 : decode cX10_far 13 = .ok (.aload_n 0, 1) := by decide +kernel
theorem dX10_far_14 : decode cX10_far 14 = .ok (.getfield 52, 3) := by decide +kernel
theorem dX10_far_17 : decode cX10_far 17 = .ok (.if_icmp .ge 69, 3) := by decide +kernel
theorem dX10_far_20 : decode cX10_far 20 = .ok (.lload_n 3, 1) := by decide +kernel
theorem dX10_far_21 : decode cX10_far 21 = .ok (.aload_n 0, 1) := by decide +kernel
theorem dX10_far_22 : decode cX10_far 22 = .ok (.getfield 36, 3) := by decide +kernel
theorem dX10_far_25 : decode cX10_far 25 = .ok (.iload 9, 2) := by decide +kernel
theorem dX10_far_27 : decode cX10_far 27 = .ok (.laload, 1) := by decide +kernel
theorem dX10_far_28 : decode cX10_far 28 = .ok (.aload_n 0, 1) := by decide +kernel
theorem dX10_far_29 : decode cX10_far 29 = .ok (.getfield 36, 3) := by decide +kernel
theorem dX10_far_32 : decode cX10_far 32 = .ok (.iload 9, 2) := by decide +kernel
theorem dX10_far_34 : decode cX10_far 34 = .ok (.laload, 1) := by decide +kernel
theorem dX10_far_35 : decode cX10_far 35 = .ok (.lmul, 1) := by decide +kernel
theorem dX10_far_36 : decode cX10_far 36 = .ok (.ladd, 1) := by decide +kernel
theorem dX10_far_37 : decode cX10_far 37 = .ok (.lstore_n 3, 1) := by decide +kernel
theorem dX10_far_38 : decode cX10_far 38 = .ok (.lload 5, 2) := by decide +kernel
theorem dX10_far_40 : decode cX10_far 40 = .ok (.aload_n 0, 1) := by decide +kernel
theorem dX10_far_41 : decode cX10_far 41 = .ok (.getfield 36, 3) := by decide +kernel
theorem dX10_far_44 : decode cX10_far 44 = .ok (.iload 9, 2) := by decide +kernel
theorem dX10_far_46 : decode cX10_far 46 = .ok (.laload, 1) := by decide +kernel
theorem dX10_far_47 : decode cX10_far 47 = .ok (.aload_n 0, 1) := by decide +kernel
theorem dX10_far_48 : decode cX10_far 48 = .ok (.getfield 29, 3) := by decide +kernel
theorem dX10_far_51 : decode cX10_far 51 = .ok (.iload 9, 2) := by decide +kernel
theorem dX10_far_53 : decode cX10_far 53 = .ok (.iaload, 1) := by decide +kernel
theorem dX10_far_54 : decode cX10_far 54 = .ok (.i2l, 1) := by decide +kernel
theorem dX10_far_55 : decode cX10_far 55 = .ok (.lmul, 1) := by decide +kernel
theorem dX10_far_56 : decode cX10_far 56 = .ok (.ladd, 1) := by decide +kernel
theorem dX10_far_57 : decode cX10_far 57 = .ok (.lstore 5, 2) := by decide +kernel
theorem dX10_far_59 : decode cX10_far 59 = .ok (.lload 7, 2) := by decide +kernel
theorem dX10_far_61 : decode cX10_far 61 = .ok (.aload_n 0, 1) := by decide +kernel
theorem dX10_far_62 : decode cX10_far 62 = .ok (.getfield 29, 3) := by decide +kernel
theorem dX10_far_65 : decode cX10_far 65 = .ok (.iload 9, 2) := by decide +kernel
theorem dX10_far_67 : decode cX10_far 67 = .ok (.iaload, 1) := by decide +kernel
theorem dX10_far_68 : decode cX10_far 68 = .ok (.aload_n 0, 1) := by decide +kernel
theorem dX10_far_69 : decode cX10_far 69 = .ok (.getfield 29, 3) := by decide +kernel
theorem dX10_far_72 : decode cX10_far 72 = .ok (.iload 9, 2) := by decide +kernel
theorem dX10_far_74 : decode cX10_far 74 = .ok (.iaload, 1) := by decide +kernel
theorem dX10_far_75 : decode cX10_far 75 = .ok (.imul, 1) := by decide +kernel
theorem dX10_far_76 : decode cX10_far 76 = .ok (.i2l, 1) := by decide +kernel
theorem dX10_far_77 : decode cX10_far 77 = .ok (.ladd, 1) := by decide +kernel
theorem dX10_far_78 : decode cX10_far 78 = .ok (.lstore 7, 2) := by decide +kernel
theorem dX10_far_80 : decode cX10_far 80 = .ok (.iinc 9 1, 3) := by decide +kernel
theorem dX10_far_83 : decode cX10_far 83 = .ok (.goto (-72), 3) := by decide +kernel
theorem dX10_far_86 : decode cX10_far 86 = .ok (.aload_n 0, 1) := by decide +kernel
theorem dX10_far_87 : decode cX10_far 87 = .ok (.getfield 135, 3) := by decide +kernel
theorem dX10_far_90 : decode cX10_far 90 = .ok (.ifCond .eq 23, 3) := by decide +kernel
theorem dX10_far_93 : decode cX10_far 93 = .ok (.lload_n 3, 1) := by decide +kernel
theorem dX10_far_94 : decode cX10_far 94 = .ok (.lload 7, 2) := by decide +kernel
theorem dX10_far_96 : decode cX10_far 96 = .ok (.lmul, 1) := by decide +kernel
theorem dX10_far_97 : decode cX10_far 97 = .ok (.lload 5, 2) := by decide +kernel
theorem dX10_far_99 : decode cX10_far 99 = .ok (.lload 5, 2) := by decide +kernel
theorem dX10_far_101 : decode cX10_far 101 = .ok (.lmul, 1) := by decide +kernel
theorem dX10_far_102 : decode cX10_far 102 = .ok (.lsub, 1) := by decide +kernel
theorem dX10_far_103 : decode cX10_far 103 = .ok (.lload_n 1, 1) := by decide +kernel
theorem dX10_far_104 : decode cX10_far 104 = .ok (.lload_n 1, 1) := by decide +kernel
theorem dX10_far_105 : decode cX10_far 105 = .ok (.lmul, 1) := by decide +kernel
theorem dX10_far_106 : decode cX10_far 106 = .ok (.lload 7, 2) := by decide +kernel
theorem dX10_far_108 : decode cX10_far 108 = .ok (.lmul, 1) := by decide +kernel
theorem dX10_far_109 : decode cX10_far 109 = .ok (.ldiv, 1) := by decide +kernel
theorem dX10_far_110 : decode cX10_far 110 = .ok (.goto 8, 3) := by decide +kernel
theorem dX10_far_113 : decode cX10_far 113 = .ok (.lload_n 3, 1) := by decide +kernel
theorem dX10_far_114 : decode cX10_far 114 = .ok (.lload_n 1, 1) := by decide +kernel
theorem dX10_far_115 : decode cX10_far 115 = .ok (.lload_n 1, 1) := by decide +kernel
theorem dX10_far_116 : decode cX10_far 116 = .ok (.lmul, 1) := by decide +kernel
theorem dX10_far_117 : decode cX10_far 117 = .ok (.ldiv, 1) := by decide +kernel
theorem dX10_far_118 : decode cX10_far 118 = .ok (.lreturn, 1) := by decide +kernel
theorem dX10_sumOf_0 : decode cX10_sumOf 0 = .ok (.lconst 0, 1) := by decide +kernel
theorem dX10_sumOf_1 : decode cX10_sumOf 1 = .ok (.lstore 4, 2) := by decide +kernel
theorem dX10_sumOf_3 : decode cX10_sumOf 3 = .ok (.iconst 0, 1) := by decide +kernel
theorem dX10_sumOf_4 : decode cX10_sumOf 4 = .ok (.istore 6, 2) := by decide +kernel
theorem dX10_sumOf_6 : decode cX10_sumOf 6 = .ok (.iload 6, 2) := by decide +kernel
theorem dX10_sumOf_8 : decode cX10_sumOf 8 = .ok (.aload_n 0, 1) := by decide +kernel
theorem dX10_sumOf_9 : decode cX10_sumOf 9 = .ok (.getfield 23, 3) := by decide +kernel
theorem dX10_sumOf_12 : decode cX10_sumOf 12 = .ok (.iload_n 1, 1) := by decide +kernel
theorem dX10_sumOf_13 : decode cX10_sumOf 13 = .ok (.iaload, 1) := by decide +kernel
theorem dX10_sumOf_14 : decode cX10_sumOf 14 = .ok (.if_icmp .ge 40, 3) := by decide +kernel
theorem dX10_sumOf_17 : decode cX10_sumOf 17 = .ok (.lload 4, 2) := by decide +kernel
theorem dX10_sumOf_19 : decode cX10_sumOf 19 = .ok (.iload 6, 2) := by decide +kernel
theorem dX10_sumOf_21 : decode cX10_sumOf 21 = .ok (.iload_n 3, 1) := by decide +kernel
theorem dX10_sumOf_22 : decode cX10_sumOf 22 = .ok (.if_icmp .ne 7, 3) := by decide +kernel
theorem dX10_sumOf_25 : decode cX10_sumOf 25 = .ok (.lconst 0, 1) := by decide +kernel
theorem dX10_sumOf_26 : decode cX10_sumOf 26 = .ok (.goto 19, 3) := by decide +kernel
theorem dX10_sumOf_29 : decode cX10_sumOf 29 = .ok (.aload_n 0, 1) := by decide +kernel
theorem dX10_sumOf_30 : decode cX10_sumOf 30 = .ok (.getfield 26, 3) := by decide +kernel
theorem dX10_sumOf_33 : decode cX10_sumOf 33 = .ok (.iconst 5, 1) := by decide +kernel
theorem dX10_sumOf_34 : decode cX10_sumOf 34 = .ok (.iload_n 1, 1) := by decide +kernel
theorem dX10_sumOf_35 : decode cX10_sumOf 35 = .ok (.iload 6, 2) := by decide +kernel
theorem dX10_sumOf_37 : decode cX10_sumOf 37 = .ok (.invokestatic 151, 3) := by decide +kernel
theorem dX10_sumOf_40 : decode cX10_sumOf 40 = .ok (.imul, 1) := by decide +kernel
theorem dX10_sumOf_41 : decode cX10_sumOf 41 = .ok (.iload_n 2, 1) := by decide +kernel
theorem dX10_sumOf_42 : decode cX10_sumOf 42 = .ok (.iadd, 1) := by decide +kernel
theorem dX10_sumOf_43 : decode cX10_sumOf 43 = .ok (.iaload, 1) := by decide +kernel
theorem dX10_sumOf_44 : decode cX10_sumOf 44 = .ok (.i2l, 1) := by decide +kernel
theorem dX10_sumOf_45 : decode cX10_sumOf 45 = .ok (.ladd, 1) := by decide +kernel
theorem dX10_sumOf_46 : decode cX10_sumOf 46 = .ok (.lstore 4, 2) := by decide +kernel
theorem dX10_sumOf_48 : decode cX10_sumOf 48 = .ok (.iinc 6 1, 3) := by decide +kernel
theorem dX10_sumOf_51 : decode cX10_sumOf 51 = .ok (.goto (-45), 3) := by decide +kernel
theorem dX10_sumOf_54 : decode cX10_sumOf 54 = .ok (.lload 4, 2) := by decide +kernel
theorem dX10_sumOf_56 : decode cX10_sumOf 56 = .ok (.lreturn, 1) := by decide +kernel
theorem dX10_farFrom_0 : decode cX10_farFrom 0 = .ok (.iload_n 3, 1) := by decide +kernel
theorem dX10_farFrom_1 : decode cX10_farFrom 1 = .ok (.iconst (-1), 1) := by decide +kernel
theorem dX10_farFrom_2 : decode cX10_farFrom 2 = .ok (.if_icmp .ne 13, 3) := by decide +kernel
theorem dX10_farFrom_5 : decode cX10_farFrom 5 = .ok (.aload_n 0, 1) := by decide +kernel
theorem dX10_farFrom_6 : decode cX10_farFrom 6 = .ok (.getfield 23, 3) := by decide +kernel
theorem dX10_farFrom_9 : decode cX10_farFrom 9 = .ok (.iload_n 2, 1) := by decide +kernel
theorem dX10_farFrom_10 : decode cX10_farFrom 10 = .ok (.iaload, 1) := by decide +kernel
theorem dX10_farFrom_11 : decode cX10_farFrom 11 = .ok (.i2l, 1) := by decide +kernel
theorem dX10_farFrom_12 : decode cX10_farFrom 12 = .ok (.goto 12, 3) := by decide +kernel
theorem dX10_farFrom_15 : decode cX10_farFrom 15 = .ok (.aload_n 0, 1) := by decide +kernel
theorem dX10_farFrom_16 : decode cX10_farFrom 16 = .ok (.getfield 23, 3) := by decide +kernel
theorem dX10_farFrom_19 : decode cX10_farFrom 19 = .ok (.iload_n 2, 1) := by decide +kernel
theorem dX10_farFrom_20 : decode cX10_farFrom 20 = .ok (.iaload, 1) := by decide +kernel
theorem dX10_farFrom_21 : decode cX10_farFrom 21 = .ok (.iconst 1, 1) := by decide +kernel
theorem dX10_farFrom_22 : decode cX10_farFrom 22 = .ok (.isub, 1) := by decide +kernel
theorem dX10_farFrom_23 : decode cX10_farFrom 23 = .ok (.i2l, 1) := by decide +kernel
theorem dX10_farFrom_24 : decode cX10_farFrom 24 = .ok (.lstore 4, 2) := by decide +kernel
theorem dX10_farFrom_26 : decode cX10_farFrom 26 = .ok (.lload 4, 2) := by decide +kernel
theorem dX10_farFrom_28 : decode cX10_farFrom 28 = .ok (.lconst 0, 1) := by decide +kernel
theorem dX10_farFrom_29 : decode cX10_farFrom 29 = .ok (.lcmp, 1) := by decide +kernel
theorem dX10_farFrom_30 : decode cX10_farFrom 30 = .ok (.ifCond .ne 7, 3) := by decide +kernel
theorem dX10_farFrom_33 : decode cX10_farFrom 33 = .ok (.ldc2_w 158, 3) := by decide +kernel
theorem dX10_farFrom_36 : decode cX10_farFrom 36 = .ok (.lreturn, 1) := by decide +kernel
theorem dX10_farFrom_37 : decode cX10_farFrom 37 = .ok (.iconst 0, 1) := by decide +kernel
theorem dX10_farFrom_38 : decode cX10_farFrom 38 = .ok (.istore 6, 2) := by decide +kernel
theorem dX10_farFrom_40 : decode cX10_farFrom 40 = .ok (.iload 6, 2) := by decide +kernel
theorem dX10_farFrom_42 : decode cX10_farFrom 42 = .ok (.aload_n 0, 1) := by decide +kernel
theorem dX10_farFrom_43 : decode cX10_farFrom 43 = .ok (.getfield 52, 3) := by decide +kernel
theorem dX10_farFrom_46 : decode cX10_farFrom 46 = .ok (.if_icmp .ge 40, 3) := by decide +kernel
theorem dX10_farFrom_49 : decode cX10_farFrom 49 = .ok (.aload_n 0, 1) := by decide +kernel
theorem dX10_farFrom_50 : decode cX10_farFrom 50 = .ok (.getfield 36, 3) := by decide +kernel
theorem dX10_farFrom_53 : decode cX10_farFrom 53 = .ok (.iload 6, 2) := by decide +kernel
theorem dX10_farFrom_55 : decode cX10_farFrom 55 = .ok (.lload 4, 2) := by decide +kernel
theorem dX10_farFrom_57 : decode cX10_farFrom 57 = .ok (.aload_n 0, 1) := by decide +kernel
theorem dX10_farFrom_58 : decode cX10_farFrom 58 = .ok (.getfield 26, 3) := by decide +kernel
theorem dX10_farFrom_61 : decode cX10_farFrom 61 = .ok (.iconst 5, 1) := by decide +kernel
theorem dX10_farFrom_62 : decode cX10_farFrom 62 = .ok (.iload_n 1, 1) := by decide +kernel
theorem dX10_farFrom_63 : decode cX10_farFrom 63 = .ok (.imul, 1) := by decide +kernel
theorem dX10_farFrom_64 : decode cX10_farFrom 64 = .ok (.iload 6, 2) := by decide +kernel
theorem dX10_farFrom_66 : decode cX10_farFrom 66 = .ok (.iadd, 1) := by decide +kernel
theorem dX10_farFrom_67 : decode cX10_farFrom 67 = .ok (.iaload, 1) := by decide +kernel
theorem dX10_farFrom_68 : decode cX10_farFrom 68 = .ok (.i2l, 1) := by decide +kernel
theorem dX10_farFrom_69 : decode cX10_farFrom 69 = .ok (.lmul, 1) := by decide +kernel
theorem dX10_farFrom_70 : decode cX10_farFrom 70 = .ok (.aload_n 0, 1) := by decide +kernel
theorem dX10_farFrom_71 : decode cX10_farFrom 71 = .ok (.iload_n 2, 1) := by decide +kernel
theorem dX10_farFrom_72 : decode cX10_farFrom 72 = .ok (.iload 6, 2) := by decide +kernel
theorem dX10_farFrom_74 : decode cX10_farFrom 74 = .ok (.iload_n 3, 1) := by decide +kernel
theorem dX10_farFrom_75 : decode cX10_farFrom 75 = .ok (.invokevirtual 160, 3) := by decide +kernel
theorem dX10_farFrom_78 : decode cX10_farFrom 78 = .ok (.lsub, 1) := by decide +kernel
theorem dX10_farFrom_79 : decode cX10_farFrom 79 = .ok (.lastore, 1) := by decide +kernel
theorem dX10_farFrom_80 : decode cX10_farFrom 80 = .ok (.iinc 6 1, 3) := by decide +kernel
theorem dX10_farFrom_83 : decode cX10_farFrom 83 = .ok (.goto (-43), 3) := by decide +kernel
theorem dX10_farFrom_86 : decode cX10_farFrom 86 = .ok (.aload_n 0, 1) := by decide +kernel
theorem dX10_farFrom_87 : decode cX10_farFrom 87 = .ok (.lload 4, 2) := by decide +kernel
theorem dX10_farFrom_89 : decode cX10_farFrom 89 = .ok (.invokevirtual 164, 3) := by decide +kernel
theorem dX10_farFrom_92 : decode cX10_farFrom 92 = .ok (.lreturn, 1) := by decide +kernel
theorem dX10_nearest_0 : decode cX10_nearest 0 = .ok (.iconst (-1), 1) := by decide +kernel
theorem dX10_nearest_1 : decode cX10_nearest 1 = .ok (.istore 5, 2) := by decide +kernel
theorem dX10_nearest_3 : decode cX10_nearest 3 = .ok (.lconst 0, 1) := by decide +kernel
theorem dX10_nearest_4 : decode cX10_nearest 4 = .ok (.lstore 6, 2) := by decide +kernel
theorem dX10_nearest_6 : decode cX10_nearest 6 = .ok (.iconst 0, 1) := by decide +kernel
theorem dX10_nearest_7 : decode cX10_nearest 7 = .ok (.istore 8, 2) := by decide +kernel
theorem dX10_nearest_9 : decode cX10_nearest 9 = .ok (.iload 8, 2) := by decide +kernel
theorem dX10_nearest_11 : decode cX10_nearest 11 = .ok (.aload_n 0, 1) := by decide +kernel
theorem dX10_nearest_12 : decode cX10_nearest 12 = .ok (.getfield 61, 3) := by decide +kernel
theorem dX10_nearest_15 : decode cX10_nearest 15 = .ok (.if_icmp .ge 76, 3) := by decide +kernel
theorem dX10_nearest_18 : decode cX10_nearest 18 = .ok (.iload 8, 2) := by decide +kernel
theorem dX10_nearest_20 : decode cX10_nearest 20 = .ok (.iload_n 2, 1) := by decide +kernel
theorem dX10_nearest_21 : decode cX10_nearest 21 = .ok (.if_icmp .ne 9, 3) := by decide +kernel
theorem dX10_nearest_24 : decode cX10_nearest 24 = .ok (.ldc2_w 158, 3) := by decide +kernel
theorem dX10_nearest_27 : decode cX10_nearest 27 = .ok (.goto 22, 3) := by decide +kernel
theorem dX10_nearest_30 : decode cX10_nearest 30 = .ok (.aload_n 0, 1) := by decide +kernel
theorem dX10_nearest_31 : decode cX10_nearest 31 = .ok (.iload_n 1, 1) := by decide +kernel
theorem dX10_nearest_32 : decode cX10_nearest 32 = .ok (.iload 8, 2) := by decide +kernel
theorem dX10_nearest_34 : decode cX10_nearest 34 = .ok (.iload 8, 2) := by decide +kernel
theorem dX10_nearest_36 : decode cX10_nearest 36 = .ok (.iload_n 3, 1) := by decide +kernel
theorem dX10_nearest_37 : decode cX10_nearest 37 = .ok (.if_icmp .ne 8, 3) := by decide +kernel
theorem dX10_nearest_40 : decode cX10_nearest 40 = .ok (.iload 4, 2) := by decide +kernel
theorem dX10_nearest_42 : decode cX10_nearest 42 = .ok (.goto 4, 3) := by decide +kernel
theorem dX10_nearest_45 : decode cX10_nearest 45 = .ok (.iconst (-1), 1) := by decide +kernel
theorem dX10_nearest_46 : decode cX10_nearest 46 = .ok (.invokevirtual 168, 3) := by decide +kernel
theorem dX10_nearest_49 : decode cX10_nearest 49 = .ok (.lstore 9, 2) := by decide +kernel
theorem dX10_nearest_51 : decode cX10_nearest 51 = .ok (.lload 9, 2) := by decide +kernel
theorem dX10_nearest_53 : decode cX10_nearest 53 = .ok (.ldc2_w 158, 3) := by decide +kernel
theorem dX10_nearest_56 : decode cX10_nearest 56 = .ok (.lcmp, 1) := by decide +kernel
theorem dX10_nearest_57 : decode cX10_nearest 57 = .ok (.ifCond .eq 28, 3) := by decide +kernel
theorem dX10_nearest_60 : decode cX10_nearest 60 = .ok (.iload 5, 2) := by decide +kernel
theorem dX10_nearest_62 : decode cX10_nearest 62 = .ok (.iconst (-1), 1) := by decide +kernel
theorem dX10_nearest_63 : decode cX10_nearest 63 = .ok (.if_icmp .eq 14, 3) := by decide +kernel
theorem dX10_nearest_66 : decode cX10_nearest 66 = .ok (.lload 9, 2) := by decide +kernel
theorem dX10_nearest_68 : decode cX10_nearest 68 = .ok (.lload 6, 2) := by decide +kernel
theorem dX10_nearest_70 : decode cX10_nearest 70 = .ok (.lcmp, 1) := by decide +kernel
theorem dX10_nearest_71 : decode cX10_nearest 71 = .ok (.ifCond .lt 6, 3) := by decide +kernel
theorem dX10_nearest_74 : decode cX10_nearest 74 = .ok (.goto 11, 3) := by decide +kernel
theorem dX10_nearest_77 : decode cX10_nearest 77 = .ok (.iload 8, 2) := by decide +kernel
theorem dX10_nearest_79 : decode cX10_nearest 79 = .ok (.istore 5, 2) := by decide +kernel
theorem dX10_nearest_81 : decode cX10_nearest 81 = .ok (.lload 9, 2) := by decide +kernel
theorem dX10_nearest_83 : decode cX10_nearest 83 = .ok (.lstore 6, 2) := by decide +kernel
theorem dX10_nearest_85 : decode cX10_nearest 85 = .ok (.iinc 8 1, 3) := by decide +kernel
theorem dX10_nearest_88 : decode cX10_nearest 88 = .ok (.goto (-79), 3) := by decide +kernel
theorem dX10_nearest_91 : decode cX10_nearest 91 = .ok (.iload 5, 2) := by decide +kernel
theorem dX10_nearest_93 : decode cX10_nearest 93 = .ok (.ireturn, 1) := by decide +kernel
theorem dX10_distance_0 : decode cX10_distance 0 = .ok (.aload_n 0, 1) := by decide +kernel
theorem dX10_distance_1 : decode cX10_distance 1 = .ok (.iconst 0, 1) := by decide +kernel
theorem dX10_distance_2 : decode cX10_distance 2 = .ok (.putfield 1, 3) := by decide +kernel
theorem dX10_distance_5 : decode cX10_distance 5 = .ok (.aload_n 0, 1) := by decide +kernel
theorem dX10_distance_6 : decode cX10_distance 6 = .ok (.iload_n 1, 1) := by decide +kernel
theorem dX10_distance_7 : decode cX10_distance 7 = .ok (.invokevirtual 148, 3) := by decide +kernel
theorem dX10_distance_10 : decode cX10_distance 10 = .ok (.ifCond .ne 6, 3) := by decide +kernel
theorem dX10_distance_13 : decode cX10_distance 13 = .ok (.bipush (-2), 2) := by decide +kernel
theorem dX10_distance_15 : decode cX10_distance 15 = .ok (.ireturn, 1) := by decide +kernel
theorem dX10_distance_16 : decode cX10_distance 16 = .ok (.aload_n 0, 1) := by decide +kernel
theorem dX10_distance_17 : decode cX10_distance 17 = .ok (.getfield 70, 3) := by decide +kernel
theorem dX10_distance_20 : decode cX10_distance 20 = .ok (.ifCond .ne 6, 3) := by decide +kernel
theorem dX10_distance_23 : decode cX10_distance 23 = .ok (.bipush (-5), 2) := by decide +kernel
theorem dX10_distance_25 : decode cX10_distance 25 = .ok (.ireturn, 1) := by decide +kernel
theorem dX10_distance_26 : decode cX10_distance 26 = .ok (.aload_n 0, 1) := by decide +kernel
theorem dX10_distance_27 : decode cX10_distance 27 = .ok (.iconst 0, 1) := by decide +kernel
theorem dX10_distance_28 : decode cX10_distance 28 = .ok (.invokevirtual 143, 3) := by decide +kernel
theorem dX10_distance_31 : decode cX10_distance 31 = .ok (.aload_n 0, 1) := by decide +kernel
theorem dX10_distance_32 : decode cX10_distance 32 = .ok (.iconst 0, 1) := by decide +kernel
theorem dX10_distance_33 : decode cX10_distance 33 = .ok (.iload_n 1, 1) := by decide +kernel
theorem dX10_distance_34 : decode cX10_distance 34 = .ok (.iconst (-1), 1) := by decide +kernel
theorem dX10_distance_35 : decode cX10_distance 35 = .ok (.invokevirtual 168, 3) := by decide +kernel
theorem dX10_distance_38 : decode cX10_distance 38 = .ok (.l2i, 1) := by decide +kernel
theorem dX10_distance_39 : decode cX10_distance 39 = .ok (.ireturn, 1) := by decide +kernel
theorem dX10_nearestClass_0 : decode cX10_nearestClass 0 = .ok (.aload_n 0, 1) := by decide +kernel
theorem dX10_nearestClass_1 : decode cX10_nearestClass 1 = .ok (.iconst 0, 1) := by decide +kernel
theorem dX10_nearestClass_2 : decode cX10_nearestClass 2 = .ok (.putfield 1, 3) := by decide +kernel
theorem dX10_nearestClass_5 : decode cX10_nearestClass 5 = .ok (.aload_n 0, 1) := by decide +kernel
theorem dX10_nearestClass_6 : decode cX10_nearestClass 6 = .ok (.getfield 70, 3) := by decide +kernel
theorem dX10_nearestClass_9 : decode cX10_nearestClass 9 = .ok (.ifCond .ne 6, 3) := by decide +kernel
theorem dX10_nearestClass_12 : decode cX10_nearestClass 12 = .ok (.bipush (-5), 2) := by decide +kernel
theorem dX10_nearestClass_14 : decode cX10_nearestClass 14 = .ok (.ireturn, 1) := by decide +kernel
theorem dX10_nearestClass_15 : decode cX10_nearestClass 15 = .ok (.aload_n 0, 1) := by decide +kernel
theorem dX10_nearestClass_16 : decode cX10_nearestClass 16 = .ok (.iconst 0, 1) := by decide +kernel
theorem dX10_nearestClass_17 : decode cX10_nearestClass 17 = .ok (.invokevirtual 143, 3) := by decide +kernel
theorem dX10_nearestClass_20 : decode cX10_nearestClass 20 = .ok (.aload_n 0, 1) := by decide +kernel
theorem dX10_nearestClass_21 : decode cX10_nearestClass 21 = .ok (.iconst 0, 1) := by decide +kernel
theorem dX10_nearestClass_22 : decode cX10_nearestClass 22 = .ok (.iconst (-1), 1) := by decide +kernel
theorem dX10_nearestClass_23 : decode cX10_nearestClass 23 = .ok (.iconst (-1), 1) := by decide +kernel
theorem dX10_nearestClass_24 : decode cX10_nearestClass 24 = .ok (.iconst (-1), 1) := by decide +kernel
theorem dX10_nearestClass_25 : decode cX10_nearestClass 25 = .ok (.invokevirtual 171, 3) := by decide +kernel
theorem dX10_nearestClass_28 : decode cX10_nearestClass 28 = .ok (.ireturn, 1) := by decide +kernel
theorem dX10_runnerUp_0 : decode cX10_runnerUp 0 = .ok (.aload_n 0, 1) := by decide +kernel
theorem dX10_runnerUp_1 : decode cX10_runnerUp 1 = .ok (.iconst 0, 1) := by decide +kernel
theorem dX10_runnerUp_2 : decode cX10_runnerUp 2 = .ok (.putfield 1, 3) := by decide +kernel
theorem dX10_runnerUp_5 : decode cX10_runnerUp 5 = .ok (.aload_n 0, 1) := by decide +kernel
theorem dX10_runnerUp_6 : decode cX10_runnerUp 6 = .ok (.getfield 70, 3) := by decide +kernel
theorem dX10_runnerUp_9 : decode cX10_runnerUp 9 = .ok (.ifCond .ne 6, 3) := by decide +kernel
theorem dX10_runnerUp_12 : decode cX10_runnerUp 12 = .ok (.bipush (-5), 2) := by decide +kernel
theorem dX10_runnerUp_14 : decode cX10_runnerUp 14 = .ok (.ireturn, 1) := by decide +kernel
theorem dX10_runnerUp_15 : decode cX10_runnerUp 15 = .ok (.aload_n 0, 1) := by decide +kernel
theorem dX10_runnerUp_16 : decode cX10_runnerUp 16 = .ok (.iconst 0, 1) := by decide +kernel
theorem dX10_runnerUp_17 : decode cX10_runnerUp 17 = .ok (.invokevirtual 143, 3) := by decide +kernel
theorem dX10_runnerUp_20 : decode cX10_runnerUp 20 = .ok (.aload_n 0, 1) := by decide +kernel
theorem dX10_runnerUp_21 : decode cX10_runnerUp 21 = .ok (.iconst 0, 1) := by decide +kernel
theorem dX10_runnerUp_22 : decode cX10_runnerUp 22 = .ok (.iconst (-1), 1) := by decide +kernel
theorem dX10_runnerUp_23 : decode cX10_runnerUp 23 = .ok (.iconst (-1), 1) := by decide +kernel
theorem dX10_runnerUp_24 : decode cX10_runnerUp 24 = .ok (.iconst (-1), 1) := by decide +kernel
theorem dX10_runnerUp_25 : decode cX10_runnerUp 25 = .ok (.invokevirtual 171, 3) := by decide +kernel
theorem dX10_runnerUp_28 : decode cX10_runnerUp 28 = .ok (.istore_n 1, 1) := by decide +kernel
theorem dX10_runnerUp_29 : decode cX10_runnerUp 29 = .ok (.iload_n 1, 1) := by decide +kernel
theorem dX10_runnerUp_30 : decode cX10_runnerUp 30 = .ok (.iconst (-1), 1) := by decide +kernel
theorem dX10_runnerUp_31 : decode cX10_runnerUp 31 = .ok (.if_icmp .ne 7, 3) := by decide +kernel
theorem dX10_runnerUp_34 : decode cX10_runnerUp 34 = .ok (.iconst (-1), 1) := by decide +kernel
theorem dX10_runnerUp_35 : decode cX10_runnerUp 35 = .ok (.goto 11, 3) := by decide +kernel
theorem dX10_runnerUp_38 : decode cX10_runnerUp 38 = .ok (.aload_n 0, 1) := by decide +kernel
theorem dX10_runnerUp_39 : decode cX10_runnerUp 39 = .ok (.iconst 0, 1) := by decide +kernel
theorem dX10_runnerUp_40 : decode cX10_runnerUp 40 = .ok (.iload_n 1, 1) := by decide +kernel
theorem dX10_runnerUp_41 : decode cX10_runnerUp 41 = .ok (.iconst (-1), 1) := by decide +kernel
theorem dX10_runnerUp_42 : decode cX10_runnerUp 42 = .ok (.iconst (-1), 1) := by decide +kernel
theorem dX10_runnerUp_43 : decode cX10_runnerUp 43 = .ok (.invokevirtual 171, 3) := by decide +kernel
theorem dX10_runnerUp_46 : decode cX10_runnerUp 46 = .ok (.ireturn, 1) := by decide +kernel
theorem dX10_farthest_0 : decode cX10_farthest 0 = .ok (.iconst 0, 1) := by decide +kernel
theorem dX10_farthest_1 : decode cX10_farthest 1 = .ok (.istore_n 2, 1) := by decide +kernel
theorem dX10_farthest_2 : decode cX10_farthest 2 = .ok (.iconst 1, 1) := by decide +kernel
theorem dX10_farthest_3 : decode cX10_farthest 3 = .ok (.istore_n 3, 1) := by decide +kernel
theorem dX10_farthest_4 : decode cX10_farthest 4 = .ok (.iload_n 3, 1) := by decide +kernel
theorem dX10_farthest_5 : decode cX10_farthest 5 = .ok (.aload_n 0, 1) := by decide +kernel
theorem dX10_farthest_6 : decode cX10_farthest 6 = .ok (.getfield 23, 3) := by decide +kernel
theorem dX10_farthest_9 : decode cX10_farthest 9 = .ok (.iload_n 1, 1) := by decide +kernel
theorem dX10_farthest_10 : decode cX10_farthest 10 = .ok (.iaload, 1) := by decide +kernel
theorem dX10_farthest_11 : decode cX10_farthest 11 = .ok (.if_icmp .ge 37, 3) := by decide +kernel
theorem dX10_farthest_14 : decode cX10_farthest 14 = .ok (.aload_n 0, 1) := by decide +kernel
theorem dX10_farthest_15 : decode cX10_farthest 15 = .ok (.iload_n 1, 1) := by decide +kernel
theorem dX10_farthest_16 : decode cX10_farthest 16 = .ok (.iload_n 3, 1) := by decide +kernel
theorem dX10_farthest_17 : decode cX10_farthest 17 = .ok (.invokestatic 151, 3) := by decide +kernel
theorem dX10_farthest_20 : decode cX10_farthest 20 = .ok (.iload_n 1, 1) := by decide +kernel
theorem dX10_farthest_21 : decode cX10_farthest 21 = .ok (.iconst (-1), 1) := by decide +kernel
theorem dX10_farthest_22 : decode cX10_farthest 22 = .ok (.invokevirtual 168, 3) := by decide +kernel
theorem dX10_farthest_25 : decode cX10_farthest 25 = .ok (.aload_n 0, 1) := by decide +kernel
theorem dX10_farthest_26 : decode cX10_farthest 26 = .ok (.iload_n 1, 1) := by decide +kernel
theorem dX10_farthest_27 : decode cX10_farthest 27 = .ok (.iload_n 2, 1) := by decide +kernel
theorem dX10_farthest_28 : decode cX10_farthest 28 = .ok (.invokestatic 151, 3) := by decide +kernel
theorem dX10_farthest_31 : decode cX10_farthest 31 = .ok (.iload_n 1, 1) := by decide +kernel
theorem dX10_farthest_32 : decode cX10_farthest 32 = .ok (.iconst (-1), 1) := by decide +kernel
theorem dX10_farthest_33 : decode cX10_farthest 33 = .ok (.invokevirtual 168, 3) := by decide +kernel
theorem dX10_farthest_36 : decode cX10_farthest 36 = .ok (.lcmp, 1) := by decide +kernel
theorem dX10_farthest_37 : decode cX10_farthest 37 = .ok (.ifCond .le 5, 3) := by decide +kernel
theorem dX10_farthest_40 : decode cX10_farthest 40 = .ok (.iload_n 3, 1) := by decide +kernel
theorem dX10_farthest_41 : decode cX10_farthest 41 = .ok (.istore_n 2, 1) := by decide +kernel
theorem dX10_farthest_42 : decode cX10_farthest 42 = .ok (.iinc 3 1, 3) := by decide +kernel
theorem dX10_farthest_45 : decode cX10_farthest 45 = .ok (.goto (-41), 3) := by decide +kernel
theorem dX10_farthest_48 : decode cX10_farthest 48 = .ok (.iload_n 2, 1) := by decide +kernel
theorem dX10_farthest_49 : decode cX10_farthest 49 = .ok (.ireturn, 1) := by decide +kernel
theorem dX10_radiusOf_0 : decode cX10_radiusOf 0 = .ok (.ldc2_w 92, 3) := by decide +kernel
theorem dX10_radiusOf_3 : decode cX10_radiusOf 3 = .ok (.aload_n 0, 1) := by decide +kernel
theorem dX10_radiusOf_4 : decode cX10_radiusOf 4 = .ok (.getfield 64, 3) := by decide +kernel
theorem dX10_radiusOf_7 : decode cX10_radiusOf 7 = .ok (.i2l, 1) := by decide +kernel
theorem dX10_radiusOf_8 : decode cX10_radiusOf 8 = .ok (.ladd, 1) := by decide +kernel
theorem dX10_radiusOf_9 : decode cX10_radiusOf 9 = .ok (.aload_n 0, 1) := by decide +kernel
theorem dX10_radiusOf_10 : decode cX10_radiusOf 10 = .ok (.iload_n 1, 1) := by decide +kernel
theorem dX10_radiusOf_11 : decode cX10_radiusOf 11 = .ok (.aload_n 0, 1) := by decide +kernel
theorem dX10_radiusOf_12 : decode cX10_radiusOf 12 = .ok (.iload_n 1, 1) := by decide +kernel
theorem dX10_radiusOf_13 : decode cX10_radiusOf 13 = .ok (.invokevirtual 175, 3) := by decide +kernel
theorem dX10_radiusOf_16 : decode cX10_radiusOf 16 = .ok (.invokestatic 151, 3) := by decide +kernel
theorem dX10_radiusOf_19 : decode cX10_radiusOf 19 = .ok (.iload_n 1, 1) := by decide +kernel
theorem dX10_radiusOf_20 : decode cX10_radiusOf 20 = .ok (.iconst (-1), 1) := by decide +kernel
theorem dX10_radiusOf_21 : decode cX10_radiusOf 21 = .ok (.invokevirtual 168, 3) := by decide +kernel
theorem dX10_radiusOf_24 : decode cX10_radiusOf 24 = .ok (.lmul, 1) := by decide +kernel
theorem dX10_radiusOf_25 : decode cX10_radiusOf 25 = .ok (.ldc2_w 92, 3) := by decide +kernel
theorem dX10_radiusOf_28 : decode cX10_radiusOf 28 = .ok (.ldiv, 1) := by decide +kernel
theorem dX10_radiusOf_29 : decode cX10_radiusOf 29 = .ok (.aload_n 0, 1) := by decide +kernel
theorem dX10_radiusOf_30 : decode cX10_radiusOf 30 = .ok (.getfield 67, 3) := by decide +kernel
theorem dX10_radiusOf_33 : decode cX10_radiusOf 33 = .ok (.i2l, 1) := by decide +kernel
theorem dX10_radiusOf_34 : decode cX10_radiusOf 34 = .ok (.ladd, 1) := by decide +kernel
theorem dX10_radiusOf_35 : decode cX10_radiusOf 35 = .ok (.lreturn, 1) := by decide +kernel
theorem dX10_radius_0 : decode cX10_radius 0 = .ok (.aload_n 0, 1) := by decide +kernel
theorem dX10_radius_1 : decode cX10_radius 1 = .ok (.iconst 0, 1) := by decide +kernel
theorem dX10_radius_2 : decode cX10_radius 2 = .ok (.putfield 1, 3) := by decide +kernel
theorem dX10_radius_5 : decode cX10_radius 5 = .ok (.aload_n 0, 1) := by decide +kernel
theorem dX10_radius_6 : decode cX10_radius 6 = .ok (.iload_n 1, 1) := by decide +kernel
theorem dX10_radius_7 : decode cX10_radius 7 = .ok (.invokevirtual 148, 3) := by decide +kernel
theorem dX10_radius_10 : decode cX10_radius 10 = .ok (.ifCond .ne 6, 3) := by decide +kernel
theorem dX10_radius_13 : decode cX10_radius 13 = .ok (.bipush (-2), 2) := by decide +kernel
theorem dX10_radius_15 : decode cX10_radius 15 = .ok (.ireturn, 1) := by decide +kernel
theorem dX10_radius_16 : decode cX10_radius 16 = .ok (.aload_n 0, 1) := by decide +kernel
theorem dX10_radius_17 : decode cX10_radius 17 = .ok (.getfield 23, 3) := by decide +kernel
theorem dX10_radius_20 : decode cX10_radius 20 = .ok (.iload_n 1, 1) := by decide +kernel
theorem dX10_radius_21 : decode cX10_radius 21 = .ok (.iaload, 1) := by decide +kernel
theorem dX10_radius_22 : decode cX10_radius 22 = .ok (.ifCond .ne 5, 3) := by decide +kernel
theorem dX10_radius_25 : decode cX10_radius 25 = .ok (.iconst (-1), 1) := by decide +kernel
theorem dX10_radius_26 : decode cX10_radius 26 = .ok (.ireturn, 1) := by decide +kernel
theorem dX10_radius_27 : decode cX10_radius 27 = .ok (.aload_n 0, 1) := by decide +kernel
theorem dX10_radius_28 : decode cX10_radius 28 = .ok (.iconst 0, 1) := by decide +kernel
theorem dX10_radius_29 : decode cX10_radius 29 = .ok (.invokevirtual 143, 3) := by decide +kernel
theorem dX10_radius_32 : decode cX10_radius 32 = .ok (.aload_n 0, 1) := by decide +kernel
theorem dX10_radius_33 : decode cX10_radius 33 = .ok (.iload_n 1, 1) := by decide +kernel
theorem dX10_radius_34 : decode cX10_radius 34 = .ok (.invokevirtual 179, 3) := by decide +kernel
theorem dX10_radius_37 : decode cX10_radius 37 = .ok (.l2i, 1) := by decide +kernel
theorem dX10_radius_38 : decode cX10_radius 38 = .ok (.ireturn, 1) := by decide +kernel
theorem dX10_setMargin_0 : decode cX10_setMargin 0 = .ok (.aload_n 0, 1) := by decide +kernel
theorem dX10_setMargin_1 : decode cX10_setMargin 1 = .ok (.iconst 0, 1) := by decide +kernel
theorem dX10_setMargin_2 : decode cX10_setMargin 2 = .ok (.putfield 1, 3) := by decide +kernel
theorem dX10_setMargin_5 : decode cX10_setMargin 5 = .ok (.iload_n 1, 1) := by decide +kernel
theorem dX10_setMargin_6 : decode cX10_setMargin 6 = .ok (.i2l, 1) := by decide +kernel
theorem dX10_setMargin_7 : decode cX10_setMargin 7 = .ok (.lconst 0, 1) := by decide +kernel
theorem dX10_setMargin_8 : decode cX10_setMargin 8 = .ok (.ldc2_w 183, 3) := by decide +kernel
theorem dX10_setMargin_11 : decode cX10_setMargin 11 = .ok (.invokestatic 84, 3) := by decide +kernel
theorem dX10_setMargin_14 : decode cX10_setMargin 14 = .ok (.ifCond .ne 6, 3) := by decide +kernel
theorem dX10_setMargin_17 : decode cX10_setMargin 17 = .ok (.bipush (-3), 2) := by decide +kernel
theorem dX10_setMargin_19 : decode cX10_setMargin 19 = .ok (.ireturn, 1) := by decide +kernel
theorem dX10_setMargin_20 : decode cX10_setMargin 20 = .ok (.aload_n 0, 1) := by decide +kernel
theorem dX10_setMargin_21 : decode cX10_setMargin 21 = .ok (.getfield 64, 3) := by decide +kernel
theorem dX10_setMargin_24 : decode cX10_setMargin 24 = .ok (.istore_n 2, 1) := by decide +kernel
theorem dX10_setMargin_25 : decode cX10_setMargin 25 = .ok (.aload_n 0, 1) := by decide +kernel
theorem dX10_setMargin_26 : decode cX10_setMargin 26 = .ok (.iload_n 1, 1) := by decide +kernel
theorem dX10_setMargin_27 : decode cX10_setMargin 27 = .ok (.putfield 64, 3) := by decide +kernel
theorem dX10_setMargin_30 : decode cX10_setMargin 30 = .ok (.iload_n 2, 1) := by decide +kernel
theorem dX10_setMargin_31 : decode cX10_setMargin 31 = .ok (.ireturn, 1) := by decide +kernel
theorem dX10_setSlack_0 : decode cX10_setSlack 0 = .ok (.aload_n 0, 1) := by decide +kernel
theorem dX10_setSlack_1 : decode cX10_setSlack 1 = .ok (.iconst 0, 1) := by decide +kernel
theorem dX10_setSlack_2 : decode cX10_setSlack 2 = .ok (.putfield 1, 3) := by decide +kernel
theorem dX10_setSlack_5 : decode cX10_setSlack 5 = .ok (.iload_n 1, 1) := by decide +kernel
theorem dX10_setSlack_6 : decode cX10_setSlack 6 = .ok (.i2l, 1) := by decide +kernel
theorem dX10_setSlack_7 : decode cX10_setSlack 7 = .ok (.lconst 0, 1) := by decide +kernel
theorem dX10_setSlack_8 : decode cX10_setSlack 8 = .ok (.ldc2_w 146, 3) := by decide +kernel
theorem dX10_setSlack_11 : decode cX10_setSlack 11 = .ok (.invokestatic 84, 3) := by decide +kernel
theorem dX10_setSlack_14 : decode cX10_setSlack 14 = .ok (.ifCond .ne 6, 3) := by decide +kernel
theorem dX10_setSlack_17 : decode cX10_setSlack 17 = .ok (.bipush (-3), 2) := by decide +kernel
theorem dX10_setSlack_19 : decode cX10_setSlack 19 = .ok (.ireturn, 1) := by decide +kernel
theorem dX10_setSlack_20 : decode cX10_setSlack 20 = .ok (.aload_n 0, 1) := by decide +kernel
theorem dX10_setSlack_21 : decode cX10_setSlack 21 = .ok (.getfield 67, 3) := by decide +kernel
theorem dX10_setSlack_24 : decode cX10_setSlack 24 = .ok (.istore_n 2, 1) := by decide +kernel
theorem dX10_setSlack_25 : decode cX10_setSlack 25 = .ok (.aload_n 0, 1) := by decide +kernel
theorem dX10_setSlack_26 : decode cX10_setSlack 26 = .ok (.iload_n 1, 1) := by decide +kernel
theorem dX10_setSlack_27 : decode cX10_setSlack 27 = .ok (.putfield 67, 3) := by decide +kernel
theorem dX10_setSlack_30 : decode cX10_setSlack 30 = .ok (.iload_n 2, 1) := by decide +kernel
theorem dX10_setSlack_31 : decode cX10_setSlack 31 = .ok (.ireturn, 1) := by decide +kernel
theorem dX10_classify_0 : decode cX10_classify 0 = .ok (.aload_n 0, 1) := by decide +kernel
theorem dX10_classify_1 : decode cX10_classify 1 = .ok (.iconst 0, 1) := by decide +kernel
theorem dX10_classify_2 : decode cX10_classify 2 = .ok (.putfield 1, 3) := by decide +kernel
theorem dX10_classify_5 : decode cX10_classify 5 = .ok (.aload_n 0, 1) := by decide +kernel
theorem dX10_classify_6 : decode cX10_classify 6 = .ok (.getfield 70, 3) := by decide +kernel
theorem dX10_classify_9 : decode cX10_classify 9 = .ok (.ifCond .ne 6, 3) := by decide +kernel
theorem dX10_classify_12 : decode cX10_classify 12 = .ok (.bipush (-5), 2) := by decide +kernel
theorem dX10_classify_14 : decode cX10_classify 14 = .ok (.ireturn, 1) := by decide +kernel
theorem dX10_classify_15 : decode cX10_classify 15 = .ok (.aload_n 0, 1) := by decide +kernel
theorem dX10_classify_16 : decode cX10_classify 16 = .ok (.iconst 0, 1) := by decide +kernel
theorem dX10_classify_17 : decode cX10_classify 17 = .ok (.invokevirtual 143, 3) := by decide +kernel
theorem dX10_classify_20 : decode cX10_classify 20 = .ok (.aload_n 0, 1) := by decide +kernel
theorem dX10_classify_21 : decode cX10_classify 21 = .ok (.iconst 0, 1) := by decide +kernel
theorem dX10_classify_22 : decode cX10_classify 22 = .ok (.iconst (-1), 1) := by decide +kernel
theorem dX10_classify_23 : decode cX10_classify 23 = .ok (.iconst (-1), 1) := by decide +kernel
theorem dX10_classify_24 : decode cX10_classify 24 = .ok (.iconst (-1), 1) := by decide +kernel
theorem dX10_classify_25 : decode cX10_classify 25 = .ok (.invokevirtual 171, 3) := by decide +kernel
theorem dX10_classify_28 : decode cX10_classify 28 = .ok (.istore_n 1, 1) := by decide +kernel
theorem dX10_classify_29 : decode cX10_classify 29 = .ok (.iload_n 1, 1) := by decide +kernel
theorem dX10_classify_30 : decode cX10_classify 30 = .ok (.iconst (-1), 1) := by decide +kernel
theorem dX10_classify_31 : decode cX10_classify 31 = .ok (.if_icmp .ne 5, 3) := by decide +kernel
theorem dX10_classify_34 : decode cX10_classify 34 = .ok (.iconst (-1), 1) := by decide +kernel
theorem dX10_classify_35 : decode cX10_classify 35 = .ok (.ireturn, 1) := by decide +kernel
theorem dX10_classify_36 : decode cX10_classify 36 = .ok (.aload_n 0, 1) := by decide +kernel
theorem dX10_classify_37 : decode cX10_classify 37 = .ok (.iconst 0, 1) := by decide +kernel
theorem dX10_classify_38 : decode cX10_classify 38 = .ok (.iload_n 1, 1) := by decide +kernel
theorem dX10_classify_39 : decode cX10_classify 39 = .ok (.iconst (-1), 1) := by decide +kernel
theorem dX10_classify_40 : decode cX10_classify 40 = .ok (.invokevirtual 168, 3) := by decide +kernel
theorem dX10_classify_43 : decode cX10_classify 43 = .ok (.aload_n 0, 1) := by decide +kernel
theorem dX10_classify_44 : decode cX10_classify 44 = .ok (.iload_n 1, 1) := by decide +kernel
theorem dX10_classify_45 : decode cX10_classify 45 = .ok (.invokevirtual 179, 3) := by decide +kernel
theorem dX10_classify_48 : decode cX10_classify 48 = .ok (.lcmp, 1) := by decide +kernel
theorem dX10_classify_49 : decode cX10_classify 49 = .ok (.ifCond .gt 7, 3) := by decide +kernel
theorem dX10_classify_52 : decode cX10_classify 52 = .ok (.iload_n 1, 1) := by decide +kernel
theorem dX10_classify_53 : decode cX10_classify 53 = .ok (.goto 5, 3) := by decide +kernel
theorem dX10_classify_56 : decode cX10_classify 56 = .ok (.bipush (-6), 2) := by decide +kernel
theorem dX10_classify_58 : decode cX10_classify 58 = .ok (.ireturn, 1) := by decide +kernel
theorem dX10_between_0 : decode cX10_between 0 = .ok (.aload_n 0, 1) := by decide +kernel
theorem dX10_between_1 : decode cX10_between 1 = .ok (.getfield 23, 3) := by decide +kernel
theorem dX10_between_4 : decode cX10_between 4 = .ok (.iload_n 1, 1) := by decide +kernel
theorem dX10_between_5 : decode cX10_between 5 = .ok (.iaload, 1) := by decide +kernel
theorem dX10_between_6 : decode cX10_between 6 = .ok (.i2l, 1) := by decide +kernel
theorem dX10_between_7 : decode cX10_between 7 = .ok (.lstore_n 3, 1) := by decide +kernel
theorem dX10_between_8 : decode cX10_between 8 = .ok (.aload_n 0, 1) := by decide +kernel
theorem dX10_between_9 : decode cX10_between 9 = .ok (.getfield 23, 3) := by decide +kernel
theorem dX10_between_12 : decode cX10_between 12 = .ok (.iload_n 2, 1) := by decide +kernel
theorem dX10_between_13 : decode cX10_between 13 = .ok (.iaload, 1) := by decide +kernel
theorem dX10_between_14 : decode cX10_between 14 = .ok (.i2l, 1) := by decide +kernel
theorem dX10_between_15 : decode cX10_between 15 = .ok (.lstore 5, 2) := by decide +kernel
theorem dX10_between_17 : decode cX10_between 17 = .ok (.iconst 0, 1) := by decide +kernel
theorem dX10_between_18 : decode cX10_between 18 = .ok (.istore 7, 2) := by decide +kernel
theorem dX10_between_20 : decode cX10_between 20 = .ok (.iload 7, 2) := by decide +kernel
theorem dX10_between_22 : decode cX10_between 22 = .ok (.aload_n 0, 1) := by decide +kernel
theorem dX10_between_23 : decode cX10_between 23 = .ok (.getfield 52, 3) := by decide +kernel
theorem dX10_between_26 : decode cX10_between 26 = .ok (.if_icmp .ge 38, 3) := by decide +kernel
theorem dX10_between_29 : decode cX10_between 29 = .ok (.aload_n 0, 1) := by decide +kernel
theorem dX10_between_30 : decode cX10_between 30 = .ok (.getfield 36, 3) := by decide +kernel
theorem dX10_between_33 : decode cX10_between 33 = .ok (.iload 7, 2) := by decide +kernel
theorem dX10_between_35 : decode cX10_between 35 = .ok (.lload 5, 2) := by decide +kernel
theorem dX10_between_37 : decode cX10_between 37 = .ok (.aload_n 0, 1) := by decide +kernel
theorem dX10_between_38 : decode cX10_between 38 = .ok (.iload_n 1, 1) := by decide +kernel
theorem dX10_between_39 : decode cX10_between 39 = .ok (.iload 7, 2) := by decide +kernel
theorem dX10_between_41 : decode cX10_between 41 = .ok (.iconst (-1), 1) := by decide +kernel
theorem dX10_between_42 : decode cX10_between 42 = .ok (.invokevirtual 160, 3) := by decide +kernel
theorem dX10_between_45 : decode cX10_between 45 = .ok (.lmul, 1) := by decide +kernel
theorem dX10_between_46 : decode cX10_between 46 = .ok (.lload_n 3, 1) := by decide +kernel
theorem dX10_between_47 : decode cX10_between 47 = .ok (.aload_n 0, 1) := by decide +kernel
theorem dX10_between_48 : decode cX10_between 48 = .ok (.iload_n 2, 1) := by decide +kernel
theorem dX10_between_49 : decode cX10_between 49 = .ok (.iload 7, 2) := by decide +kernel
theorem dX10_between_51 : decode cX10_between 51 = .ok (.iconst (-1), 1) := by decide +kernel
theorem dX10_between_52 : decode cX10_between 52 = .ok (.invokevirtual 160, 3) := by decide +kernel
theorem dX10_between_55 : decode cX10_between 55 = .ok (.lmul, 1) := by decide +kernel
theorem dX10_between_56 : decode cX10_between 56 = .ok (.lsub, 1) := by decide +kernel
theorem dX10_between_57 : decode cX10_between 57 = .ok (.lastore, 1) := by decide +kernel
theorem dX10_between_58 : decode cX10_between 58 = .ok (.iinc 7 1, 3) := by decide +kernel
theorem dX10_between_61 : decode cX10_between 61 = .ok (.goto (-41), 3) := by decide +kernel
theorem dX10_between_64 : decode cX10_between 64 = .ok (.aload_n 0, 1) := by decide +kernel
theorem dX10_between_65 : decode cX10_between 65 = .ok (.lload_n 3, 1) := by decide +kernel
theorem dX10_between_66 : decode cX10_between 66 = .ok (.lload 5, 2) := by decide +kernel
theorem dX10_between_68 : decode cX10_between 68 = .ok (.lmul, 1) := by decide +kernel
theorem dX10_between_69 : decode cX10_between 69 = .ok (.invokevirtual 164, 3) := by decide +kernel
theorem dX10_between_72 : decode cX10_between 72 = .ok (.lreturn, 1) := by decide +kernel
theorem dX10_classDistance_0 : decode cX10_classDistance 0 = .ok (.aload_n 0, 1) := by decide +kernel
theorem dX10_classDistance_1 : decode cX10_classDistance 1 = .ok (.iconst 0, 1) := by decide +kernel
theorem dX10_classDistance_2 : decode cX10_classDistance 2 = .ok (.putfield 1, 3) := by decide +kernel
theorem dX10_classDistance_5 : decode cX10_classDistance 5 = .ok (.aload_n 0, 1) := by decide +kernel
theorem dX10_classDistance_6 : decode cX10_classDistance 6 = .ok (.iload_n 1, 1) := by decide +kernel
theorem dX10_classDistance_7 : decode cX10_classDistance 7 = .ok (.invokevirtual 148, 3) := by decide +kernel
theorem dX10_classDistance_10 : decode cX10_classDistance 10 = .ok (.ifCond .eq 11, 3) := by decide +kernel
theorem dX10_classDistance_13 : decode cX10_classDistance 13 = .ok (.aload_n 0, 1) := by decide +kernel
theorem dX10_classDistance_14 : decode cX10_classDistance 14 = .ok (.iload_n 2, 1) := by decide +kernel
theorem dX10_classDistance_15 : decode cX10_classDistance 15 = .ok (.invokevirtual 148, 3) := by decide +kernel
theorem dX10_classDistance_18 : decode cX10_classDistance 18 = .ok (.ifCond .ne 6, 3) := by decide +kernel
theorem dX10_classDistance_21 : decode cX10_classDistance 21 = .ok (.bipush (-2), 2) := by decide +kernel
theorem dX10_classDistance_23 : decode cX10_classDistance 23 = .ok (.ireturn, 1) := by decide +kernel
theorem dX10_classDistance_24 : decode cX10_classDistance 24 = .ok (.aload_n 0, 1) := by decide +kernel
theorem dX10_classDistance_25 : decode cX10_classDistance 25 = .ok (.getfield 23, 3) := by decide +kernel
theorem dX10_classDistance_28 : decode cX10_classDistance 28 = .ok (.iload_n 1, 1) := by decide +kernel
theorem dX10_classDistance_29 : decode cX10_classDistance 29 = .ok (.iaload, 1) := by decide +kernel
theorem dX10_classDistance_30 : decode cX10_classDistance 30 = .ok (.ifCond .eq 12, 3) := by decide +kernel
theorem dX10_classDistance_33 : decode cX10_classDistance 33 = .ok (.aload_n 0, 1) := by decide +kernel
theorem dX10_classDistance_34 : decode cX10_classDistance 34 = .ok (.getfield 23, 3) := by decide +kernel
theorem dX10_classDistance_37 : decode cX10_classDistance 37 = .ok (.iload_n 2, 1) := by decide +kernel
theorem dX10_classDistance_38 : decode cX10_classDistance 38 = .ok (.iaload, 1) := by decide +kernel
theorem dX10_classDistance_39 : decode cX10_classDistance 39 = .ok (.ifCond .ne 5, 3) := by decide +kernel
theorem dX10_classDistance_42 : decode cX10_classDistance 42 = .ok (.iconst (-1), 1) := by decide +kernel
theorem dX10_classDistance_43 : decode cX10_classDistance 43 = .ok (.ireturn, 1) := by decide +kernel
theorem dX10_classDistance_44 : decode cX10_classDistance 44 = .ok (.aload_n 0, 1) := by decide +kernel
theorem dX10_classDistance_45 : decode cX10_classDistance 45 = .ok (.iconst 0, 1) := by decide +kernel
theorem dX10_classDistance_46 : decode cX10_classDistance 46 = .ok (.invokevirtual 143, 3) := by decide +kernel
theorem dX10_classDistance_49 : decode cX10_classDistance 49 = .ok (.aload_n 0, 1) := by decide +kernel
theorem dX10_classDistance_50 : decode cX10_classDistance 50 = .ok (.iload_n 1, 1) := by decide +kernel
theorem dX10_classDistance_51 : decode cX10_classDistance 51 = .ok (.iload_n 2, 1) := by decide +kernel
theorem dX10_classDistance_52 : decode cX10_classDistance 52 = .ok (.invokevirtual 185, 3) := by decide +kernel
theorem dX10_classDistance_55 : decode cX10_classDistance 55 = .ok (.l2i, 1) := by decide +kernel
theorem dX10_classDistance_56 : decode cX10_classDistance 56 = .ok (.ireturn, 1) := by decide +kernel
theorem dX10_closestClasses_0 : decode cX10_closestClasses 0 = .ok (.aload_n 0, 1) := by decide +kernel
theorem dX10_closestClasses_1 : decode cX10_closestClasses 1 = .ok (.iconst 0, 1) := by decide +kernel
theorem dX10_closestClasses_2 : decode cX10_closestClasses 2 = .ok (.putfield 1, 3) := by decide +kernel
theorem dX10_closestClasses_5 : decode cX10_closestClasses 5 = .ok (.aload_n 0, 1) := by decide +kernel
theorem dX10_closestClasses_6 : decode cX10_closestClasses 6 = .ok (.iconst 0, 1) := by decide +kernel
theorem dX10_closestClasses_7 : decode cX10_closestClasses 7 = .ok (.invokevirtual 143, 3) := by decide +kernel
theorem dX10_closestClasses_10 : decode cX10_closestClasses 10 = .ok (.iconst (-1), 1) := by decide +kernel
theorem dX10_closestClasses_11 : decode cX10_closestClasses 11 = .ok (.istore_n 1, 1) := by decide +kernel
theorem dX10_closestClasses_12 : decode cX10_closestClasses 12 = .ok (.lconst 0, 1) := by decide +kernel
theorem dX10_closestClasses_13 : decode cX10_closestClasses 13 = .ok (.lstore_n 2, 1) := by decide +kernel
theorem dX10_closestClasses_14 : decode cX10_closestClasses 14 = .ok (.iconst 0, 1) := by decide +kernel
theorem dX10_closestClasses_15 : decode cX10_closestClasses 15 = .ok (.istore 4, 2) := by decide +kernel
theorem dX10_closestClasses_17 : decode cX10_closestClasses 17 = .ok (.iload 4, 2) := by decide +kernel
theorem dX10_closestClasses_19 : decode cX10_closestClasses 19 = .ok (.aload_n 0, 1) := by decide +kernel
theorem dX10_closestClasses_20 : decode cX10_closestClasses 20 = .ok (.getfield 61, 3) := by decide +kernel
theorem dX10_closestClasses_23 : decode cX10_closestClasses 23 = .ok (.if_icmp .ge 90, 3) := by decide +kernel
theorem dX10_closestClasses_26 : decode cX10_closestClasses 26 = .ok (.iload 4, 2) := by decide +kernel
theorem dX10_closestClasses_28 : decode cX10_closestClasses 28 = .ok (.iconst 1, 1) := by decide +kernel
theorem dX10_closestClasses_29 : decode cX10_closestClasses 29 = .ok (.iadd, 1) := by decide +kernel
theorem dX10_closestClasses_30 : decode cX10_closestClasses 30 = .ok (.istore 5, 2) := by decide +kernel
theorem dX10_closestClasses_32 : decode cX10_closestClasses 32 = .ok (.iload 5, 2) := by decide +kernel
theorem dX10_closestClasses_34 : decode cX10_closestClasses 34 = .ok (.aload_n 0, 1) := by decide +kernel
theorem dX10_closestClasses_35 : decode cX10_closestClasses 35 = .ok (.getfield 61, 3) := by decide +kernel
theorem dX10_closestClasses_38 : decode cX10_closestClasses 38 = .ok (.if_icmp .ge 69, 3) := by decide +kernel
theorem dX10_closestClasses_41 : decode cX10_closestClasses 41 = .ok (.aload_n 0, 1) := by decide +kernel
theorem dX10_closestClasses_42 : decode cX10_closestClasses 42 = .ok (.getfield 23, 3) := by decide +kernel
theorem dX10_closestClasses_45 : decode cX10_closestClasses 45 = .ok (.iload 4, 2) := by decide +kernel
theorem dX10_closestClasses_47 : decode cX10_closestClasses 47 = .ok (.iaload, 1) := by decide +kernel
theorem dX10_closestClasses_48 : decode cX10_closestClasses 48 = .ok (.ifCond .eq 53, 3) := by decide +kernel
theorem dX10_closestClasses_51 : decode cX10_closestClasses 51 = .ok (.aload_n 0, 1) := by decide +kernel
theorem dX10_closestClasses_52 : decode cX10_closestClasses 52 = .ok (.getfield 23, 3) := by decide +kernel
theorem dX10_closestClasses_55 : decode cX10_closestClasses 55 = .ok (.iload 5, 2) := by decide +kernel
theorem dX10_closestClasses_57 : decode cX10_closestClasses 57 = .ok (.iaload, 1) := by decide +kernel
theorem dX10_closestClasses_58 : decode cX10_closestClasses 58 = .ok (.ifCond .ne 6, 3) := by decide +kernel
theorem dX10_closestClasses_61 : decode cX10_closestClasses 61 = .ok (.goto 40, 3) := by decide +kernel
theorem dX10_closestClasses_64 : decode cX10_closestClasses 64 = .ok (.aload_n 0, 1) := by decide +kernel
theorem dX10_closestClasses_65 : decode cX10_closestClasses 65 = .ok (.iload 4, 2) := by decide +kernel
theorem dX10_closestClasses_67 : decode cX10_closestClasses 67 = .ok (.iload 5, 2) := by decide +kernel
theorem dX10_closestClasses_69 : decode cX10_closestClasses 69 = .ok (.invokevirtual 185, 3) := by decide +kernel
theorem dX10_closestClasses_72 : decode cX10_closestClasses 72 = .ok (.lstore 6, 2) := by decide +kernel
theorem dX10_closestClasses_74 : decode cX10_closestClasses 74 = .ok (.iload_n 1, 1) := by decide +kernel
theorem dX10_closestClasses_75 : decode cX10_closestClasses 75 = .ok (.iconst (-1), 1) := by decide +kernel
theorem dX10_closestClasses_76 : decode cX10_closestClasses 76 = .ok (.if_icmp .eq 13, 3) := by decide +kernel
theorem dX10_closestClasses_79 : decode cX10_closestClasses 79 = .ok (.lload 6, 2) := by decide +kernel
theorem dX10_closestClasses_81 : decode cX10_closestClasses 81 = .ok (.lload_n 2, 1) := by decide +kernel
theorem dX10_closestClasses_82 : decode cX10_closestClasses 82 = .ok (.lcmp, 1) := by decide +kernel
theorem dX10_closestClasses_83 : decode cX10_closestClasses 83 = .ok (.ifCond .lt 6, 3) := by decide +kernel
theorem dX10_closestClasses_86 : decode cX10_closestClasses 86 = .ok (.goto 15, 3) := by decide +kernel
theorem dX10_closestClasses_89 : decode cX10_closestClasses 89 = .ok (.bipush 10, 2) := by decide +kernel
theorem dX10_closestClasses_91 : decode cX10_closestClasses 91 = .ok (.iload 4, 2) := by decide +kernel
theorem dX10_closestClasses_93 : decode cX10_closestClasses 93 = .ok (.imul, 1) := by decide +kernel
theorem dX10_closestClasses_94 : decode cX10_closestClasses 94 = .ok (.iload 5, 2) := by decide +kernel
theorem dX10_closestClasses_96 : decode cX10_closestClasses 96 = .ok (.iadd, 1) := by decide +kernel
theorem dX10_closestClasses_97 : decode cX10_closestClasses 97 = .ok (.istore_n 1, 1) := by decide +kernel
theorem dX10_closestClasses_98 : decode cX10_closestClasses 98 = .ok (.lload 6, 2) := by decide +kernel
theorem dX10_closestClasses_100 : decode cX10_closestClasses 100 = .ok (.lstore_n 2, 1) := by decide +kernel
theorem dX10_closestClasses_101 : decode cX10_closestClasses 101 = .ok (.iinc 5 1, 3) := by decide +kernel
theorem dX10_closestClasses_104 : decode cX10_closestClasses 104 = .ok (.goto (-72), 3) := by decide +kernel
theorem dX10_closestClasses_107 : decode cX10_closestClasses 107 = .ok (.iinc 4 1, 3) := by decide +kernel
theorem dX10_closestClasses_110 : decode cX10_closestClasses 110 = .ok (.goto (-93), 3) := by decide +kernel
theorem dX10_closestClasses_113 : decode cX10_closestClasses 113 = .ok (.iload_n 1, 1) := by decide +kernel
theorem dX10_closestClasses_114 : decode cX10_closestClasses 114 = .ok (.ireturn, 1) := by decide +kernel
theorem dX10_ranks_0 : decode cX10_ranks 0 = .ok (.aload_n 0, 1) := by decide +kernel
theorem dX10_ranks_1 : decode cX10_ranks 1 = .ok (.iconst 0, 1) := by decide +kernel
theorem dX10_ranks_2 : decode cX10_ranks 2 = .ok (.putfield 189, 3) := by decide +kernel
theorem dX10_ranks_5 : decode cX10_ranks 5 = .ok (.iconst 0, 1) := by decide +kernel
theorem dX10_ranks_6 : decode cX10_ranks 6 = .ok (.istore_n 1, 1) := by decide +kernel
theorem dX10_ranks_7 : decode cX10_ranks 7 = .ok (.iload_n 1, 1) := by decide +kernel
theorem dX10_ranks_8 : decode cX10_ranks 8 = .ok (.aload_n 0, 1) := by decide +kernel
theorem dX10_ranks_9 : decode cX10_ranks 9 = .ok (.getfield 61, 3) := by decide +kernel
theorem dX10_ranks_12 : decode cX10_ranks 12 = .ok (.if_icmp .ge 171, 3) := by decide +kernel
theorem dX10_ranks_15 : decode cX10_ranks 15 = .ok (.iconst 0, 1) := by decide +kernel
theorem dX10_ranks_16 : decode cX10_ranks 16 = .ok (.istore_n 2, 1) := by decide +kernel
theorem dX10_ranks_17 : decode cX10_ranks 17 = .ok (.iload_n 2, 1) := by decide +kernel
theorem dX10_ranks_18 : decode cX10_ranks 18 = .ok (.aload_n 0, 1) := by decide +kernel
theorem dX10_ranks_19 : decode cX10_ranks 19 = .ok (.getfield 23, 3) := by decide +kernel
theorem dX10_ranks_22 : decode cX10_ranks 22 = .ok (.iload_n 1, 1) := by decide +kernel
theorem dX10_ranks_23 : decode cX10_ranks 23 = .ok (.iaload, 1) := by decide +kernel
theorem dX10_ranks_24 : decode cX10_ranks 24 = .ok (.if_icmp .ge 153, 3) := by decide +kernel
theorem dX10_ranks_27 : decode cX10_ranks 27 = .ok (.iconst 0, 1) := by decide +kernel
theorem dX10_ranks_28 : decode cX10_ranks 28 = .ok (.istore_n 3, 1) := by decide +kernel
theorem dX10_ranks_29 : decode cX10_ranks 29 = .ok (.iload_n 3, 1) := by decide +kernel
theorem dX10_ranks_30 : decode cX10_ranks 30 = .ok (.aload_n 0, 1) := by decide +kernel
theorem dX10_ranks_31 : decode cX10_ranks 31 = .ok (.getfield 52, 3) := by decide +kernel
theorem dX10_ranks_34 : decode cX10_ranks 34 = .ok (.if_icmp .ge 37, 3) := by decide +kernel
theorem dX10_ranks_37 : decode cX10_ranks 37 = .ok (.aload_n 0, 1) := by decide +kernel
theorem dX10_ranks_38 : decode cX10_ranks 38 = .ok (.getfield 36, 3) := by decide +kernel
theorem dX10_ranks_41 : decode cX10_ranks 41 = .ok (.iload_n 3, 1) := by decide +kernel
theorem dX10_ranks_42 : decode cX10_ranks 42 = .ok (.aload_n 0, 1) := by decide +kernel
theorem dX10_ranks_43 : decode cX10_ranks 43 = .ok (.getfield 26, 3) := by decide +kernel
theorem dX10_ranks_46 : decode cX10_ranks 46 = .ok (.iload_n 3, 1) := by decide +kernel
theorem dX10_ranks_47 : decode cX10_ranks 47 = .ok (.iaload, 1) := by decide +kernel
theorem dX10_ranks_48 : decode cX10_ranks 48 = .ok (.aload_n 0, 1) := by decide +kernel
theorem dX10_ranks_49 : decode cX10_ranks 49 = .ok (.getfield 26, 3) := by decide +kernel
theorem dX10_ranks_52 : decode cX10_ranks 52 = .ok (.iconst 5, 1) := by decide +kernel
theorem dX10_ranks_53 : decode cX10_ranks 53 = .ok (.iload_n 1, 1) := by decide +kernel
theorem dX10_ranks_54 : decode cX10_ranks 54 = .ok (.iload_n 2, 1) := by decide +kernel
theorem dX10_ranks_55 : decode cX10_ranks 55 = .ok (.invokestatic 151, 3) := by decide +kernel
theorem dX10_ranks_58 : decode cX10_ranks 58 = .ok (.imul, 1) := by decide +kernel
theorem dX10_ranks_59 : decode cX10_ranks 59 = .ok (.iload_n 3, 1) := by decide +kernel
theorem dX10_ranks_60 : decode cX10_ranks 60 = .ok (.iadd, 1) := by decide +kernel
theorem dX10_ranks_61 : decode cX10_ranks 61 = .ok (.iaload, 1) := by decide +kernel
theorem dX10_ranks_62 : decode cX10_ranks 62 = .ok (.isub, 1) := by decide +kernel
theorem dX10_ranks_63 : decode cX10_ranks 63 = .ok (.i2l, 1) := by decide +kernel
theorem dX10_ranks_64 : decode cX10_ranks 64 = .ok (.lastore, 1) := by decide +kernel
theorem dX10_ranks_65 : decode cX10_ranks 65 = .ok (.iinc 3 1, 3) := by decide +kernel
theorem dX10_ranks_68 : decode cX10_ranks 68 = .ok (.goto (-39), 3) := by decide +kernel
theorem dX10_ranks_71 : decode cX10_ranks 71 = .ok (.aload_n 0, 1) := by decide +kernel
theorem dX10_ranks_72 : decode cX10_ranks 72 = .ok (.lconst 1, 1) := by decide +kernel
theorem dX10_ranks_73 : decode cX10_ranks 73 = .ok (.invokevirtual 164, 3) := by decide +kernel
theorem dX10_ranks_76 : decode cX10_ranks 76 = .ok (.lstore_n 3, 1) := by decide +kernel
theorem dX10_ranks_77 : decode cX10_ranks 77 = .ok (.aload_n 0, 1) := by decide +kernel
theorem dX10_ranks_78 : decode cX10_ranks 78 = .ok (.getfield 189, 3) := by decide +kernel
theorem dX10_ranks_81 : decode cX10_ranks 81 = .ok (.istore 5, 2) := by decide +kernel
theorem dX10_ranks_83 : decode cX10_ranks 83 = .ok (.iload 5, 2) := by decide +kernel
theorem dX10_ranks_85 : decode cX10_ranks 85 = .ok (.ifCond .le 55, 3) := by decide +kernel
theorem dX10_ranks_88 : decode cX10_ranks 88 = .ok (.aload_n 0, 1) := by decide +kernel
theorem dX10_ranks_89 : decode cX10_ranks 89 = .ok (.getfield 42, 3) := by decide +kernel
theorem dX10_ranks_92 : decode cX10_ranks 92 = .ok (.iload 5, 2) := by decide +kernel
theorem dX10_ranks_94 : decode cX10_ranks 94 = .ok (.iconst 1, 1) := by decide +kernel
theorem dX10_ranks_95 : decode cX10_ranks 95 = .ok (.isub, 1) := by decide +kernel
theorem dX10_ranks_96 : decode cX10_ranks 96 = .ok (.laload, 1) := by decide +kernel
theorem dX10_ranks_97 : decode cX10_ranks 97 = .ok (.lload_n 3, 1) := by decide +kernel
theorem dX10_ranks_98 : decode cX10_ranks 98 = .ok (.lcmp, 1) := by decide +kernel
theorem dX10_ranks_99 : decode cX10_ranks 99 = .ok (.ifCond .le 41, 3) := by decide +kernel
theorem dX10_ranks_102 : decode cX10_ranks 102 = .ok (.aload_n 0, 1) := by decide +kernel
theorem dX10_ranks_103 : decode cX10_ranks 103 = .ok (.getfield 42, 3) := by decide +kernel
theorem dX10_ranks_106 : decode cX10_ranks 106 = .ok (.iload 5, 2) := by decide +kernel
theorem dX10_ranks_108 : decode cX10_ranks 108 = .ok (.aload_n 0, 1) := by decide +kernel
theorem dX10_ranks_109 : decode cX10_ranks 109 = .ok (.getfield 42, 3) := by decide +kernel
theorem dX10_ranks_112 : decode cX10_ranks 112 = .ok (.iload 5, 2) := by decide +kernel
theorem dX10_ranks_114 : decode cX10_ranks 114 = .ok (.iconst 1, 1) := by decide +kernel
theorem dX10_ranks_115 : decode cX10_ranks 115 = .ok (.isub, 1) := by decide +kernel
theorem dX10_ranks_116 : decode cX10_ranks 116 = .ok (.laload, 1) := by decide +kernel
theorem dX10_ranks_117 : decode cX10_ranks 117 = .ok (.lastore, 1) := by decide +kernel
theorem dX10_ranks_118 : decode cX10_ranks 118 = .ok (.aload_n 0, 1) := by decide +kernel
theorem dX10_ranks_119 : decode cX10_ranks 119 = .ok (.getfield 39, 3) := by decide +kernel
theorem dX10_ranks_122 : decode cX10_ranks 122 = .ok (.iload 5, 2) := by decide +kernel
theorem dX10_ranks_124 : decode cX10_ranks 124 = .ok (.aload_n 0, 1) := by decide +kernel
theorem dX10_ranks_125 : decode cX10_ranks 125 = .ok (.getfield 39, 3) := by decide +kernel
theorem dX10_ranks_128 : decode cX10_ranks 128 = .ok (.iload 5, 2) := by decide +kernel
theorem dX10_ranks_130 : decode cX10_ranks 130 = .ok (.iconst 1, 1) := by decide +kernel
theorem dX10_ranks_131 : decode cX10_ranks 131 = .ok (.isub, 1) := by decide +kernel
theorem dX10_ranks_132 : decode cX10_ranks 132 = .ok (.iaload, 1) := by decide +kernel
theorem dX10_ranks_133 : decode cX10_ranks 133 = .ok (.iastore, 1) := by decide +kernel
theorem dX10_ranks_134 : decode cX10_ranks 134 = .ok (.iinc 5 (-1), 3) := by decide +kernel
theorem dX10_ranks_137 : decode cX10_ranks 137 = .ok (.goto (-54), 3) := by decide +kernel
theorem dX10_ranks_140 : decode cX10_ranks 140 = .ok (.aload_n 0, 1) := by decide +kernel
theorem dX10_ranks_141 : decode cX10_ranks 141 = .ok (.getfield 42, 3) := by decide +kernel
theorem dX10_ranks_144 : decode cX10_ranks 144 = .ok (.iload 5, 2) := by decide +kernel
theorem dX10_ranks_146 : decode cX10_ranks 146 = .ok (.lload_n 3, 1) := by decide +kernel
theorem dX10_ranks_147 : decode cX10_ranks 147 = .ok (.lastore, 1) := by decide +kernel
theorem dX10_ranks_148 : decode cX10_ranks 148 = .ok (.aload_n 0, 1) := by decide +kernel
theorem dX10_ranks_149 : decode cX10_ranks 149 = .ok (.getfield 39, 3) := by decide +kernel
theorem dX10_ranks_152 : decode cX10_ranks 152 = .ok (.iload 5, 2) := by decide +kernel
theorem dX10_ranks_154 : decode cX10_ranks 154 = .ok (.bipush 10, 2) := by decide +kernel
theorem dX10_ranks_156 : decode cX10_ranks 156 = .ok (.iload_n 1, 1) := by decide +kernel
theorem dX10_ranks_157 : decode cX10_ranks 157 = .ok (.imul, 1) := by decide +kernel
theorem dX10_ranks_158 : decode cX10_ranks 158 = .ok (.iload_n 2, 1) := by decide +kernel
theorem dX10_ranks_159 : decode cX10_ranks 159 = .ok (.iadd, 1) := by decide +kernel
theorem dX10_ranks_160 : decode cX10_ranks 160 = .ok (.iastore, 1) := by decide +kernel
theorem dX10_ranks_161 : decode cX10_ranks 161 = .ok (.aload_n 0, 1) := by decide +kernel
theorem dX10_ranks_162 : decode cX10_ranks 162 = .ok (.dup, 1) := by decide +kernel
theorem dX10_ranks_163 : decode cX10_ranks 163 = .ok (.getfield 189, 3) := by decide +kernel
theorem dX10_ranks_166 : decode cX10_ranks 166 = .ok (.iconst 1, 1) := by decide +kernel
theorem dX10_ranks_167 : decode cX10_ranks 167 = .ok (.iadd, 1) := by decide +kernel
theorem dX10_ranks_168 : decode cX10_ranks 168 = .ok (.putfield 189, 3) := by decide +kernel
theorem dX10_ranks_171 : decode cX10_ranks 171 = .ok (.iinc 2 1, 3) := by decide +kernel
theorem dX10_ranks_174 : decode cX10_ranks 174 = .ok (.goto (-157), 3) := by decide +kernel
theorem dX10_ranks_177 : decode cX10_ranks 177 = .ok (.iinc 1 1, 3) := by decide +kernel
theorem dX10_ranks_180 : decode cX10_ranks 180 = .ok (.goto (-173), 3) := by decide +kernel
theorem dX10_ranks_183 : decode cX10_ranks 183 = .ok (.return_, 1) := by decide +kernel
theorem dX10_nearestSample_0 : decode cX10_nearestSample 0 = .ok (.aload_n 0, 1) := by decide +kernel
theorem dX10_nearestSample_1 : decode cX10_nearestSample 1 = .ok (.iconst 0, 1) := by decide +kernel
theorem dX10_nearestSample_2 : decode cX10_nearestSample 2 = .ok (.putfield 1, 3) := by decide +kernel
theorem dX10_nearestSample_5 : decode cX10_nearestSample 5 = .ok (.iload_n 1, 1) := by decide +kernel
theorem dX10_nearestSample_6 : decode cX10_nearestSample 6 = .ok (.ifCond .ge 6, 3) := by decide +kernel
theorem dX10_nearestSample_9 : decode cX10_nearestSample 9 = .ok (.bipush (-3), 2) := by decide +kernel
theorem dX10_nearestSample_11 : decode cX10_nearestSample 11 = .ok (.ireturn, 1) := by decide +kernel
theorem dX10_nearestSample_12 : decode cX10_nearestSample 12 = .ok (.aload_n 0, 1) := by decide +kernel
theorem dX10_nearestSample_13 : decode cX10_nearestSample 13 = .ok (.getfield 70, 3) := by decide +kernel
theorem dX10_nearestSample_16 : decode cX10_nearestSample 16 = .ok (.ifCond .ne 6, 3) := by decide +kernel
theorem dX10_nearestSample_19 : decode cX10_nearestSample 19 = .ok (.bipush (-5), 2) := by decide +kernel
theorem dX10_nearestSample_21 : decode cX10_nearestSample 21 = .ok (.ireturn, 1) := by decide +kernel
theorem dX10_nearestSample_22 : decode cX10_nearestSample 22 = .ok (.aload_n 0, 1) := by decide +kernel
theorem dX10_nearestSample_23 : decode cX10_nearestSample 23 = .ok (.iconst 0, 1) := by decide +kernel
theorem dX10_nearestSample_24 : decode cX10_nearestSample 24 = .ok (.invokevirtual 143, 3) := by decide +kernel
theorem dX10_nearestSample_27 : decode cX10_nearestSample 27 = .ok (.aload_n 0, 1) := by decide +kernel
theorem dX10_nearestSample_28 : decode cX10_nearestSample 28 = .ok (.invokevirtual 192, 3) := by decide +kernel
theorem dX10_nearestSample_31 : decode cX10_nearestSample 31 = .ok (.iload_n 1, 1) := by decide +kernel
theorem dX10_nearestSample_32 : decode cX10_nearestSample 32 = .ok (.aload_n 0, 1) := by decide +kernel
theorem dX10_nearestSample_33 : decode cX10_nearestSample 33 = .ok (.getfield 189, 3) := by decide +kernel
theorem dX10_nearestSample_36 : decode cX10_nearestSample 36 = .ok (.if_icmp .ge 12, 3) := by decide +kernel
theorem dX10_nearestSample_39 : decode cX10_nearestSample 39 = .ok (.aload_n 0, 1) := by decide +kernel
theorem dX10_nearestSample_40 : decode cX10_nearestSample 40 = .ok (.getfield 39, 3) := by decide +kernel
theorem dX10_nearestSample_43 : decode cX10_nearestSample 43 = .ok (.iload_n 1, 1) := by decide +kernel
theorem dX10_nearestSample_44 : decode cX10_nearestSample 44 = .ok (.iaload, 1) := by decide +kernel
theorem dX10_nearestSample_45 : decode cX10_nearestSample 45 = .ok (.goto 4, 3) := by decide +kernel
theorem dX10_nearestSample_48 : decode cX10_nearestSample 48 = .ok (.iconst (-1), 1) := by decide +kernel
theorem dX10_nearestSample_49 : decode cX10_nearestSample 49 = .ok (.ireturn, 1) := by decide +kernel
theorem dX10_vote_0 : decode cX10_vote 0 = .ok (.aload_n 0, 1) := by decide +kernel
theorem dX10_vote_1 : decode cX10_vote 1 = .ok (.iconst 0, 1) := by decide +kernel
theorem dX10_vote_2 : decode cX10_vote 2 = .ok (.putfield 1, 3) := by decide +kernel
theorem dX10_vote_5 : decode cX10_vote 5 = .ok (.iload_n 1, 1) := by decide +kernel
theorem dX10_vote_6 : decode cX10_vote 6 = .ok (.i2l, 1) := by decide +kernel
theorem dX10_vote_7 : decode cX10_vote 7 = .ok (.lconst 1, 1) := by decide +kernel
theorem dX10_vote_8 : decode cX10_vote 8 = .ok (.ldc2_w 195, 3) := by decide +kernel
theorem dX10_vote_11 : decode cX10_vote 11 = .ok (.invokestatic 84, 3) := by decide +kernel
theorem dX10_vote_14 : decode cX10_vote 14 = .ok (.ifCond .ne 6, 3) := by decide +kernel
theorem dX10_vote_17 : decode cX10_vote 17 = .ok (.bipush (-3), 2) := by decide +kernel
theorem dX10_vote_19 : decode cX10_vote 19 = .ok (.ireturn, 1) := by decide +kernel
theorem dX10_vote_20 : decode cX10_vote 20 = .ok (.aload_n 0, 1) := by decide +kernel
theorem dX10_vote_21 : decode cX10_vote 21 = .ok (.getfield 70, 3) := by decide +kernel
theorem dX10_vote_24 : decode cX10_vote 24 = .ok (.ifCond .ne 6, 3) := by decide +kernel
theorem dX10_vote_27 : decode cX10_vote 27 = .ok (.bipush (-5), 2) := by decide +kernel
theorem dX10_vote_29 : decode cX10_vote 29 = .ok (.ireturn, 1) := by decide +kernel
theorem dX10_vote_30 : decode cX10_vote 30 = .ok (.aload_n 0, 1) := by decide +kernel
theorem dX10_vote_31 : decode cX10_vote 31 = .ok (.iconst 0, 1) := by decide +kernel
theorem dX10_vote_32 : decode cX10_vote 32 = .ok (.invokevirtual 143, 3) := by decide +kernel
theorem dX10_vote_35 : decode cX10_vote 35 = .ok (.aload_n 0, 1) := by decide +kernel
theorem dX10_vote_36 : decode cX10_vote 36 = .ok (.invokevirtual 192, 3) := by decide +kernel
theorem dX10_vote_39 : decode cX10_vote 39 = .ok (.iconst (-1), 1) := by decide +kernel
theorem dX10_vote_40 : decode cX10_vote 40 = .ok (.istore_n 2, 1) := by decide +kernel
theorem dX10_vote_41 : decode cX10_vote 41 = .ok (.iconst 0, 1) := by decide +kernel
theorem dX10_vote_42 : decode cX10_vote 42 = .ok (.istore_n 3, 1) := by decide +kernel
theorem dX10_vote_43 : decode cX10_vote 43 = .ok (.iconst 0, 1) := by decide +kernel
theorem dX10_vote_44 : decode cX10_vote 44 = .ok (.istore 4, 2) := by decide +kernel
theorem dX10_vote_46 : decode cX10_vote 46 = .ok (.iload 4, 2) := by decide +kernel
theorem dX10_vote_48 : decode cX10_vote 48 = .ok (.aload_n 0, 1) := by decide +kernel
theorem dX10_vote_49 : decode cX10_vote 49 = .ok (.getfield 189, 3) := by decide +kernel
theorem dX10_vote_52 : decode cX10_vote 52 = .ok (.if_icmp .ge 98, 3) := by decide +kernel
theorem dX10_vote_55 : decode cX10_vote 55 = .ok (.iload 4, 2) := by decide +kernel
theorem dX10_vote_57 : decode cX10_vote 57 = .ok (.iload_n 1, 1) := by decide +kernel
theorem dX10_vote_58 : decode cX10_vote 58 = .ok (.if_icmp .ge 92, 3) := by decide +kernel
theorem dX10_vote_61 : decode cX10_vote 61 = .ok (.iconst 0, 1) := by decide +kernel
theorem dX10_vote_62 : decode cX10_vote 62 = .ok (.istore 5, 2) := by decide +kernel
theorem dX10_vote_64 : decode cX10_vote 64 = .ok (.iconst 0, 1) := by decide +kernel
theorem dX10_vote_65 : decode cX10_vote 65 = .ok (.istore 6, 2) := by decide +kernel
theorem dX10_vote_67 : decode cX10_vote 67 = .ok (.iload 6, 2) := by decide +kernel
theorem dX10_vote_69 : decode cX10_vote 69 = .ok (.aload_n 0, 1) := by decide +kernel
theorem dX10_vote_70 : decode cX10_vote 70 = .ok (.getfield 189, 3) := by decide +kernel
theorem dX10_vote_73 : decode cX10_vote 73 = .ok (.if_icmp .ge 48, 3) := by decide +kernel
theorem dX10_vote_76 : decode cX10_vote 76 = .ok (.iload 6, 2) := by decide +kernel
theorem dX10_vote_78 : decode cX10_vote 78 = .ok (.iload_n 1, 1) := by decide +kernel
theorem dX10_vote_79 : decode cX10_vote 79 = .ok (.if_icmp .ge 42, 3) := by decide +kernel
theorem dX10_vote_82 : decode cX10_vote 82 = .ok (.iload 5, 2) := by decide +kernel
theorem dX10_vote_84 : decode cX10_vote 84 = .ok (.aload_n 0, 1) := by decide +kernel
theorem dX10_vote_85 : decode cX10_vote 85 = .ok (.getfield 39, 3) := by decide +kernel
theorem dX10_vote_88 : decode cX10_vote 88 = .ok (.iload 6, 2) := by decide +kernel
theorem dX10_vote_90 : decode cX10_vote 90 = .ok (.iaload, 1) := by decide +kernel
theorem dX10_vote_91 : decode cX10_vote 91 = .ok (.bipush 10, 2) := by decide +kernel
theorem dX10_vote_93 : decode cX10_vote 93 = .ok (.idiv, 1) := by decide +kernel
theorem dX10_vote_94 : decode cX10_vote 94 = .ok (.aload_n 0, 1) := by decide +kernel
theorem dX10_vote_95 : decode cX10_vote 95 = .ok (.getfield 39, 3) := by decide +kernel
theorem dX10_vote_98 : decode cX10_vote 98 = .ok (.iload 4, 2) := by decide +kernel
theorem dX10_vote_100 : decode cX10_vote 100 = .ok (.iaload, 1) := by decide +kernel
theorem dX10_vote_101 : decode cX10_vote 101 = .ok (.bipush 10, 2) := by decide +kernel
theorem dX10_vote_103 : decode cX10_vote 103 = .ok (.idiv, 1) := by decide +kernel
theorem dX10_vote_104 : decode cX10_vote 104 = .ok (.if_icmp .ne 7, 3) := by decide +kernel
theorem dX10_vote_107 : decode cX10_vote 107 = .ok (.iconst 1, 1) := by decide +kernel
theorem dX10_vote_108 : decode cX10_vote 108 = .ok (.goto 4, 3) := by decide +kernel
theorem dX10_vote_111 : decode cX10_vote 111 = .ok (.iconst 0, 1) := by decide +kernel
theorem dX10_vote_112 : decode cX10_vote 112 = .ok (.iadd, 1) := by decide +kernel
theorem dX10_vote_113 : decode cX10_vote 113 = .ok (.istore 5, 2) := by decide +kernel
theorem dX10_vote_115 : decode cX10_vote 115 = .ok (.iinc 6 1, 3) := by decide +kernel
theorem dX10_vote_118 : decode cX10_vote 118 = .ok (.goto (-51), 3) := by decide +kernel
theorem dX10_vote_121 : decode cX10_vote 121 = .ok (.iload 5, 2) := by decide +kernel
theorem dX10_vote_123 : decode cX10_vote 123 = .ok (.iload_n 3, 1) := by decide +kernel
theorem dX10_vote_124 : decode cX10_vote 124 = .ok (.if_icmp .gt 6, 3) := by decide +kernel
theorem dX10_vote_127 : decode cX10_vote 127 = .ok (.goto 17, 3) := by decide +kernel
theorem dX10_vote_130 : decode cX10_vote 130 = .ok (.aload_n 0, 1) := by decide +kernel
theorem dX10_vote_131 : decode cX10_vote 131 = .ok (.getfield 39, 3) := by decide +kernel
theorem dX10_vote_134 : decode cX10_vote 134 = .ok (.iload 4, 2) := by decide +kernel
theorem dX10_vote_136 : decode cX10_vote 136 = .ok (.iaload, 1) := by decide +kernel
theorem dX10_vote_137 : decode cX10_vote 137 = .ok (.bipush 10, 2) := by decide +kernel
theorem dX10_vote_139 : decode cX10_vote 139 = .ok (.idiv, 1) := by decide +kernel
theorem dX10_vote_140 : decode cX10_vote 140 = .ok (.istore_n 2, 1) := by decide +kernel
theorem dX10_vote_141 : decode cX10_vote 141 = .ok (.iload 5, 2) := by decide +kernel
theorem dX10_vote_143 : decode cX10_vote 143 = .ok (.istore_n 3, 1) := by decide +kernel
theorem dX10_vote_144 : decode cX10_vote 144 = .ok (.iinc 4 1, 3) := by decide +kernel
theorem dX10_vote_147 : decode cX10_vote 147 = .ok (.goto (-101), 3) := by decide +kernel
theorem dX10_vote_150 : decode cX10_vote 150 = .ok (.iload_n 2, 1) := by decide +kernel
theorem dX10_vote_151 : decode cX10_vote 151 = .ok (.ireturn, 1) := by decide +kernel
theorem dX10_tested_0 : decode cX10_tested 0 = .ok (.aload_n 0, 1) := by decide +kernel
theorem dX10_tested_1 : decode cX10_tested 1 = .ok (.iload_n 1, 1) := by decide +kernel
theorem dX10_tested_2 : decode cX10_tested 2 = .ok (.iload_n 2, 1) := by decide +kernel
theorem dX10_tested_3 : decode cX10_tested 3 = .ok (.invokestatic 151, 3) := by decide +kernel
theorem dX10_tested_6 : decode cX10_tested 6 = .ok (.iconst (-1), 1) := by decide +kernel
theorem dX10_tested_7 : decode cX10_tested 7 = .ok (.iload_n 1, 1) := by decide +kernel
theorem dX10_tested_8 : decode cX10_tested 8 = .ok (.iload_n 2, 1) := by decide +kernel
theorem dX10_tested_9 : decode cX10_tested 9 = .ok (.invokevirtual 171, 3) := by decide +kernel
theorem dX10_tested_12 : decode cX10_tested 12 = .ok (.ireturn, 1) := by decide +kernel
theorem dX10_leaveOneOut_0 : decode cX10_leaveOneOut 0 = .ok (.aload_n 0, 1) := by decide +kernel
theorem dX10_leaveOneOut_1 : decode cX10_leaveOneOut 1 = .ok (.iconst 0, 1) := by decide +kernel
theorem dX10_leaveOneOut_2 : decode cX10_leaveOneOut 2 = .ok (.putfield 1, 3) := by decide +kernel
theorem dX10_leaveOneOut_5 : decode cX10_leaveOneOut 5 = .ok (.aload_n 0, 1) := by decide +kernel
theorem dX10_leaveOneOut_6 : decode cX10_leaveOneOut 6 = .ok (.iload_n 1, 1) := by decide +kernel
theorem dX10_leaveOneOut_7 : decode cX10_leaveOneOut 7 = .ok (.iload_n 2, 1) := by decide +kernel
theorem dX10_leaveOneOut_8 : decode cX10_leaveOneOut 8 = .ok (.invokevirtual 154, 3) := by decide +kernel
theorem dX10_leaveOneOut_11 : decode cX10_leaveOneOut 11 = .ok (.ifCond .ne 6, 3) := by decide +kernel
theorem dX10_leaveOneOut_14 : decode cX10_leaveOneOut 14 = .ok (.bipush (-2), 2) := by decide +kernel
theorem dX10_leaveOneOut_16 : decode cX10_leaveOneOut 16 = .ok (.ireturn, 1) := by decide +kernel
theorem dX10_leaveOneOut_17 : decode cX10_leaveOneOut 17 = .ok (.aload_n 0, 1) := by decide +kernel
theorem dX10_leaveOneOut_18 : decode cX10_leaveOneOut 18 = .ok (.iconst 0, 1) := by decide +kernel
theorem dX10_leaveOneOut_19 : decode cX10_leaveOneOut 19 = .ok (.invokevirtual 143, 3) := by decide +kernel
theorem dX10_leaveOneOut_22 : decode cX10_leaveOneOut 22 = .ok (.aload_n 0, 1) := by decide +kernel
theorem dX10_leaveOneOut_23 : decode cX10_leaveOneOut 23 = .ok (.iload_n 1, 1) := by decide +kernel
theorem dX10_leaveOneOut_24 : decode cX10_leaveOneOut 24 = .ok (.iload_n 2, 1) := by decide +kernel
theorem dX10_leaveOneOut_25 : decode cX10_leaveOneOut 25 = .ok (.invokevirtual 197, 3) := by decide +kernel
theorem dX10_leaveOneOut_28 : decode cX10_leaveOneOut 28 = .ok (.ireturn, 1) := by decide +kernel
theorem dX10_confusion_0 : decode cX10_confusion 0 = .ok (.aload_n 0, 1) := by decide +kernel
theorem dX10_confusion_1 : decode cX10_confusion 1 = .ok (.iconst 0, 1) := by decide +kernel
theorem dX10_confusion_2 : decode cX10_confusion 2 = .ok (.putfield 1, 3) := by decide +kernel
theorem dX10_confusion_5 : decode cX10_confusion 5 = .ok (.aload_n 0, 1) := by decide +kernel
theorem dX10_confusion_6 : decode cX10_confusion 6 = .ok (.iload_n 1, 1) := by decide +kernel
theorem dX10_confusion_7 : decode cX10_confusion 7 = .ok (.invokevirtual 148, 3) := by decide +kernel
theorem dX10_confusion_10 : decode cX10_confusion 10 = .ok (.ifCond .eq 11, 3) := by decide +kernel
theorem dX10_confusion_13 : decode cX10_confusion 13 = .ok (.aload_n 0, 1) := by decide +kernel
theorem dX10_confusion_14 : decode cX10_confusion 14 = .ok (.iload_n 2, 1) := by decide +kernel
theorem dX10_confusion_15 : decode cX10_confusion 15 = .ok (.invokevirtual 148, 3) := by decide +kernel
theorem dX10_confusion_18 : decode cX10_confusion 18 = .ok (.ifCond .ne 6, 3) := by decide +kernel
theorem dX10_confusion_21 : decode cX10_confusion 21 = .ok (.bipush (-2), 2) := by decide +kernel
theorem dX10_confusion_23 : decode cX10_confusion 23 = .ok (.ireturn, 1) := by decide +kernel
theorem dX10_confusion_24 : decode cX10_confusion 24 = .ok (.aload_n 0, 1) := by decide +kernel
theorem dX10_confusion_25 : decode cX10_confusion 25 = .ok (.iconst 0, 1) := by decide +kernel
theorem dX10_confusion_26 : decode cX10_confusion 26 = .ok (.invokevirtual 143, 3) := by decide +kernel
theorem dX10_confusion_29 : decode cX10_confusion 29 = .ok (.iconst 0, 1) := by decide +kernel
theorem dX10_confusion_30 : decode cX10_confusion 30 = .ok (.istore_n 3, 1) := by decide +kernel
theorem dX10_confusion_31 : decode cX10_confusion 31 = .ok (.iconst 0, 1) := by decide +kernel
theorem dX10_confusion_32 : decode cX10_confusion 32 = .ok (.istore 4, 2) := by decide +kernel
theorem dX10_confusion_34 : decode cX10_confusion 34 = .ok (.iload 4, 2) := by decide +kernel
theorem dX10_confusion_36 : decode cX10_confusion 36 = .ok (.aload_n 0, 1) := by decide +kernel
theorem dX10_confusion_37 : decode cX10_confusion 37 = .ok (.getfield 23, 3) := by decide +kernel
theorem dX10_confusion_40 : decode cX10_confusion 40 = .ok (.iload_n 1, 1) := by decide +kernel
theorem dX10_confusion_41 : decode cX10_confusion 41 = .ok (.iaload, 1) := by decide +kernel
theorem dX10_confusion_42 : decode cX10_confusion 42 = .ok (.if_icmp .ge 28, 3) := by decide +kernel
theorem dX10_confusion_45 : decode cX10_confusion 45 = .ok (.iload_n 3, 1) := by decide +kernel
theorem dX10_confusion_46 : decode cX10_confusion 46 = .ok (.aload_n 0, 1) := by decide +kernel
theorem dX10_confusion_47 : decode cX10_confusion 47 = .ok (.iload_n 1, 1) := by decide +kernel
theorem dX10_confusion_48 : decode cX10_confusion 48 = .ok (.iload 4, 2) := by decide +kernel
theorem dX10_confusion_50 : decode cX10_confusion 50 = .ok (.invokevirtual 197, 3) := by decide +kernel
theorem dX10_confusion_53 : decode cX10_confusion 53 = .ok (.iload_n 2, 1) := by decide +kernel
theorem dX10_confusion_54 : decode cX10_confusion 54 = .ok (.if_icmp .ne 7, 3) := by decide +kernel
theorem dX10_confusion_57 : decode cX10_confusion 57 = .ok (.iconst 1, 1) := by decide +kernel
theorem dX10_confusion_58 : decode cX10_confusion 58 = .ok (.goto 4, 3) := by decide +kernel
theorem dX10_confusion_61 : decode cX10_confusion 61 = .ok (.iconst 0, 1) := by decide +kernel
theorem dX10_confusion_62 : decode cX10_confusion 62 = .ok (.iadd, 1) := by decide +kernel
theorem dX10_confusion_63 : decode cX10_confusion 63 = .ok (.istore_n 3, 1) := by decide +kernel
theorem dX10_confusion_64 : decode cX10_confusion 64 = .ok (.iinc 4 1, 3) := by decide +kernel
theorem dX10_confusion_67 : decode cX10_confusion 67 = .ok (.goto (-33), 3) := by decide +kernel
theorem dX10_confusion_70 : decode cX10_confusion 70 = .ok (.iload_n 3, 1) := by decide +kernel
theorem dX10_confusion_71 : decode cX10_confusion 71 = .ok (.ireturn, 1) := by decide +kernel
theorem dX10_correctOnes_0 : decode cX10_correctOnes 0 = .ok (.iconst 0, 1) := by decide +kernel
theorem dX10_correctOnes_1 : decode cX10_correctOnes 1 = .ok (.istore_n 1, 1) := by decide +kernel
theorem dX10_correctOnes_2 : decode cX10_correctOnes 2 = .ok (.iconst 0, 1) := by decide +kernel
theorem dX10_correctOnes_3 : decode cX10_correctOnes 3 = .ok (.istore_n 2, 1) := by decide +kernel
theorem dX10_correctOnes_4 : decode cX10_correctOnes 4 = .ok (.iload_n 2, 1) := by decide +kernel
theorem dX10_correctOnes_5 : decode cX10_correctOnes 5 = .ok (.aload_n 0, 1) := by decide +kernel
theorem dX10_correctOnes_6 : decode cX10_correctOnes 6 = .ok (.getfield 61, 3) := by decide +kernel
theorem dX10_correctOnes_9 : decode cX10_correctOnes 9 = .ok (.if_icmp .ge 45, 3) := by decide +kernel
theorem dX10_correctOnes_12 : decode cX10_correctOnes 12 = .ok (.iconst 0, 1) := by decide +kernel
theorem dX10_correctOnes_13 : decode cX10_correctOnes 13 = .ok (.istore_n 3, 1) := by decide +kernel
theorem dX10_correctOnes_14 : decode cX10_correctOnes 14 = .ok (.iload_n 3, 1) := by decide +kernel
theorem dX10_correctOnes_15 : decode cX10_correctOnes 15 = .ok (.aload_n 0, 1) := by decide +kernel
theorem dX10_correctOnes_16 : decode cX10_correctOnes 16 = .ok (.getfield 23, 3) := by decide +kernel
theorem dX10_correctOnes_19 : decode cX10_correctOnes 19 = .ok (.iload_n 2, 1) := by decide +kernel
theorem dX10_correctOnes_20 : decode cX10_correctOnes 20 = .ok (.iaload, 1) := by decide +kernel
theorem dX10_correctOnes_21 : decode cX10_correctOnes 21 = .ok (.if_icmp .ge 27, 3) := by decide +kernel
theorem dX10_correctOnes_24 : decode cX10_correctOnes 24 = .ok (.iload_n 1, 1) := by decide +kernel
theorem dX10_correctOnes_25 : decode cX10_correctOnes 25 = .ok (.aload_n 0, 1) := by decide +kernel
theorem dX10_correctOnes_26 : decode cX10_correctOnes 26 = .ok (.iload_n 2, 1) := by decide +kernel
theorem dX10_correctOnes_27 : decode cX10_correctOnes 27 = .ok (.iload_n 3, 1) := by decide +kernel
theorem dX10_correctOnes_28 : decode cX10_correctOnes 28 = .ok (.invokevirtual 197, 3) := by decide +kernel
theorem dX10_correctOnes_31 : decode cX10_correctOnes 31 = .ok (.iload_n 2, 1) := by decide +kernel
theorem dX10_correctOnes_32 : decode cX10_correctOnes 32 = .ok (.if_icmp .ne 7, 3) := by decide +kernel
theorem dX10_correctOnes_35 : decode cX10_correctOnes 35 = .ok (.iconst 1, 1) := by decide +kernel
theorem dX10_correctOnes_36 : decode cX10_correctOnes 36 = .ok (.goto 4, 3) := by decide +kernel
theorem dX10_correctOnes_39 : decode cX10_correctOnes 39 = .ok (.iconst 0, 1) := by decide +kernel
theorem dX10_correctOnes_40 : decode cX10_correctOnes 40 = .ok (.iadd, 1) := by decide +kernel
theorem dX10_correctOnes_41 : decode cX10_correctOnes 41 = .ok (.istore_n 1, 1) := by decide +kernel
theorem dX10_correctOnes_42 : decode cX10_correctOnes 42 = .ok (.iinc 3 1, 3) := by decide +kernel
theorem dX10_correctOnes_45 : decode cX10_correctOnes 45 = .ok (.goto (-31), 3) := by decide +kernel
theorem dX10_correctOnes_48 : decode cX10_correctOnes 48 = .ok (.iinc 2 1, 3) := by decide +kernel
theorem dX10_correctOnes_51 : decode cX10_correctOnes 51 = .ok (.goto (-47), 3) := by decide +kernel
theorem dX10_correctOnes_54 : decode cX10_correctOnes 54 = .ok (.iload_n 1, 1) := by decide +kernel
theorem dX10_correctOnes_55 : decode cX10_correctOnes 55 = .ok (.ireturn, 1) := by decide +kernel
theorem dX10_correctCount_0 : decode cX10_correctCount 0 = .ok (.aload_n 0, 1) := by decide +kernel
theorem dX10_correctCount_1 : decode cX10_correctCount 1 = .ok (.iconst 0, 1) := by decide +kernel
theorem dX10_correctCount_2 : decode cX10_correctCount 2 = .ok (.putfield 1, 3) := by decide +kernel
theorem dX10_correctCount_5 : decode cX10_correctCount 5 = .ok (.aload_n 0, 1) := by decide +kernel
theorem dX10_correctCount_6 : decode cX10_correctCount 6 = .ok (.iconst 0, 1) := by decide +kernel
theorem dX10_correctCount_7 : decode cX10_correctCount 7 = .ok (.invokevirtual 143, 3) := by decide +kernel
theorem dX10_correctCount_10 : decode cX10_correctCount 10 = .ok (.aload_n 0, 1) := by decide +kernel
theorem dX10_correctCount_11 : decode cX10_correctCount 11 = .ok (.invokevirtual 200, 3) := by decide +kernel
theorem dX10_correctCount_14 : decode cX10_correctCount 14 = .ok (.ireturn, 1) := by decide +kernel
theorem dX10_correctWithout_0 : decode cX10_correctWithout 0 = .ok (.aload_n 0, 1) := by decide +kernel
theorem dX10_correctWithout_1 : decode cX10_correctWithout 1 = .ok (.iconst 0, 1) := by decide +kernel
theorem dX10_correctWithout_2 : decode cX10_correctWithout 2 = .ok (.putfield 1, 3) := by decide +kernel
theorem dX10_correctWithout_5 : decode cX10_correctWithout 5 = .ok (.aload_n 0, 1) := by decide +kernel
theorem dX10_correctWithout_6 : decode cX10_correctWithout 6 = .ok (.iload_n 1, 1) := by decide +kernel
theorem dX10_correctWithout_7 : decode cX10_correctWithout 7 = .ok (.invokevirtual 88, 3) := by decide +kernel
theorem dX10_correctWithout_10 : decode cX10_correctWithout 10 = .ok (.ifCond .ne 6, 3) := by decide +kernel
theorem dX10_correctWithout_13 : decode cX10_correctWithout 13 = .ok (.bipush (-2), 2) := by decide +kernel
theorem dX10_correctWithout_15 : decode cX10_correctWithout 15 = .ok (.ireturn, 1) := by decide +kernel
theorem dX10_correctWithout_16 : decode cX10_correctWithout 16 = .ok (.aload_n 0, 1) := by decide +kernel
theorem dX10_correctWithout_17 : decode cX10_correctWithout 17 = .ok (.iconst 1, 1) := by decide +kernel
theorem dX10_correctWithout_18 : decode cX10_correctWithout 18 = .ok (.iload_n 1, 1) := by decide +kernel
theorem dX10_correctWithout_19 : decode cX10_correctWithout 19 = .ok (.ishl, 1) := by decide +kernel
theorem dX10_correctWithout_20 : decode cX10_correctWithout 20 = .ok (.invokevirtual 143, 3) := by decide +kernel
theorem dX10_correctWithout_23 : decode cX10_correctWithout 23 = .ok (.aload_n 0, 1) := by decide +kernel
theorem dX10_correctWithout_24 : decode cX10_correctWithout 24 = .ok (.invokevirtual 200, 3) := by decide +kernel
theorem dX10_correctWithout_27 : decode cX10_correctWithout 27 = .ok (.ireturn, 1) := by decide +kernel
theorem dX10_leastUsefulSensor_0 : decode cX10_leastUsefulSensor 0 = .ok (.aload_n 0, 1) := by decide +kernel
theorem dX10_leastUsefulSensor_1 : decode cX10_leastUsefulSensor 1 = .ok (.iconst 0, 1) := by decide +kernel
theorem dX10_leastUsefulSensor_2 : decode cX10_leastUsefulSensor 2 = .ok (.putfield 1, 3) := by decide +kernel
theorem dX10_leastUsefulSensor_5 : decode cX10_leastUsefulSensor 5 = .ok (.iconst 0, 1) := by decide +kernel
theorem dX10_leastUsefulSensor_6 : decode cX10_leastUsefulSensor 6 = .ok (.istore_n 1, 1) := by decide +kernel
theorem dX10_leastUsefulSensor_7 : decode cX10_leastUsefulSensor 7 = .ok (.iconst (-1), 1) := by decide +kernel
theorem dX10_leastUsefulSensor_8 : decode cX10_leastUsefulSensor 8 = .ok (.istore_n 2, 1) := by decide +kernel
theorem dX10_leastUsefulSensor_9 : decode cX10_leastUsefulSensor 9 = .ok (.iconst 0, 1) := by decide +kernel
theorem dX10_leastUsefulSensor_10 : decode cX10_leastUsefulSensor 10 = .ok (.istore_n 3, 1) := by decide +kernel
theorem dX10_leastUsefulSensor_11 : decode cX10_leastUsefulSensor 11 = .ok (.iload_n 3, 1) := by decide +kernel
theorem dX10_leastUsefulSensor_12 : decode cX10_leastUsefulSensor 12 = .ok (.aload_n 0, 1) := by decide +kernel
theorem dX10_leastUsefulSensor_13 : decode cX10_leastUsefulSensor 13 = .ok (.getfield 52, 3) := by decide +kernel
theorem dX10_leastUsefulSensor_16 : decode cX10_leastUsefulSensor 16 = .ok (.if_icmp .ge 36, 3) := by decide +kernel
theorem dX10_leastUsefulSensor_19 : decode cX10_leastUsefulSensor 19 = .ok (.aload_n 0, 1) := by decide +kernel
theorem dX10_leastUsefulSensor_20 : decode cX10_leastUsefulSensor 20 = .ok (.iconst 1, 1) := by decide +kernel
theorem dX10_leastUsefulSensor_21 : decode cX10_leastUsefulSensor 21 = .ok (.iload_n 3, 1) := by decide +kernel
theorem dX10_leastUsefulSensor_22 : decode cX10_leastUsefulSensor 22 = .ok (.ishl, 1) := by decide +kernel
theorem dX10_leastUsefulSensor_23 : decode cX10_leastUsefulSensor 23 = .ok (.invokevirtual 143, 3) := by decide +kernel
theorem dX10_leastUsefulSensor_26 : decode cX10_leastUsefulSensor 26 = .ok (.aload_n 0, 1) := by decide +kernel
theorem dX10_leastUsefulSensor_27 : decode cX10_leastUsefulSensor 27 = .ok (.invokevirtual 200, 3) := by decide +kernel
theorem dX10_leastUsefulSensor_30 : decode cX10_leastUsefulSensor 30 = .ok (.istore 4, 2) := by decide +kernel
theorem dX10_leastUsefulSensor_32 : decode cX10_leastUsefulSensor 32 = .ok (.iload 4, 2) := by decide +kernel
theorem dX10_leastUsefulSensor_34 : decode cX10_leastUsefulSensor 34 = .ok (.iload_n 2, 1) := by decide +kernel
theorem dX10_leastUsefulSensor_35 : decode cX10_leastUsefulSensor 35 = .ok (.if_icmp .gt 6, 3) := by decide +kernel
theorem dX10_leastUsefulSensor_38 : decode cX10_leastUsefulSensor 38 = .ok (.goto 8, 3) := by decide +kernel
theorem dX10_leastUsefulSensor_41 : decode cX10_leastUsefulSensor 41 = .ok (.iload_n 3, 1) := by decide +kernel
theorem dX10_leastUsefulSensor_42 : decode cX10_leastUsefulSensor 42 = .ok (.istore_n 1, 1) := by decide +kernel
theorem dX10_leastUsefulSensor_43 : decode cX10_leastUsefulSensor 43 = .ok (.iload 4, 2) := by decide +kernel
theorem dX10_leastUsefulSensor_45 : decode cX10_leastUsefulSensor 45 = .ok (.istore_n 2, 1) := by decide +kernel
theorem dX10_leastUsefulSensor_46 : decode cX10_leastUsefulSensor 46 = .ok (.iinc 3 1, 3) := by decide +kernel
theorem dX10_leastUsefulSensor_49 : decode cX10_leastUsefulSensor 49 = .ok (.goto (-38), 3) := by decide +kernel
theorem dX10_leastUsefulSensor_52 : decode cX10_leastUsefulSensor 52 = .ok (.iload_n 1, 1) := by decide +kernel
theorem dX10_leastUsefulSensor_53 : decode cX10_leastUsefulSensor 53 = .ok (.ireturn, 1) := by decide +kernel
theorem dX10_isSet_0 : decode cX10_isSet 0 = .ok (.iload_n 1, 1) := by decide +kernel
theorem dX10_isSet_1 : decode cX10_isSet 1 = .ok (.i2l, 1) := by decide +kernel
theorem dX10_isSet_2 : decode cX10_isSet 2 = .ok (.lconst 1, 1) := by decide +kernel
theorem dX10_isSet_3 : decode cX10_isSet 3 = .ok (.iconst 1, 1) := by decide +kernel
theorem dX10_isSet_4 : decode cX10_isSet 4 = .ok (.aload_n 0, 1) := by decide +kernel
theorem dX10_isSet_5 : decode cX10_isSet 5 = .ok (.getfield 52, 3) := by decide +kernel
theorem dX10_isSet_8 : decode cX10_isSet 8 = .ok (.ishl, 1) := by decide +kernel
theorem dX10_isSet_9 : decode cX10_isSet 9 = .ok (.iconst 1, 1) := by decide +kernel
theorem dX10_isSet_10 : decode cX10_isSet 10 = .ok (.isub, 1) := by decide +kernel
theorem dX10_isSet_11 : decode cX10_isSet 11 = .ok (.i2l, 1) := by decide +kernel
theorem dX10_isSet_12 : decode cX10_isSet 12 = .ok (.invokestatic 84, 3) := by decide +kernel
theorem dX10_isSet_15 : decode cX10_isSet 15 = .ok (.ireturn, 1) := by decide +kernel
theorem dX10_correctBy_0 : decode cX10_correctBy 0 = .ok (.aload_n 0, 1) := by decide +kernel
theorem dX10_correctBy_1 : decode cX10_correctBy 1 = .ok (.iconst 1, 1) := by decide +kernel
theorem dX10_correctBy_2 : decode cX10_correctBy 2 = .ok (.aload_n 0, 1) := by decide +kernel
theorem dX10_correctBy_3 : decode cX10_correctBy 3 = .ok (.getfield 52, 3) := by decide +kernel
theorem dX10_correctBy_6 : decode cX10_correctBy 6 = .ok (.ishl, 1) := by decide +kernel
theorem dX10_correctBy_7 : decode cX10_correctBy 7 = .ok (.iconst 1, 1) := by decide +kernel
theorem dX10_correctBy_8 : decode cX10_correctBy 8 = .ok (.isub, 1) := by decide +kernel
theorem dX10_correctBy_9 : decode cX10_correctBy 9 = .ok (.iload_n 1, 1) := by decide +kernel
theorem dX10_correctBy_10 : decode cX10_correctBy 10 = .ok (.iconst (-1), 1) := by decide +kernel
theorem dX10_correctBy_11 : decode cX10_correctBy 11 = .ok (.ixor, 1) := by decide +kernel
theorem dX10_correctBy_12 : decode cX10_correctBy 12 = .ok (.iand, 1) := by decide +kernel
theorem dX10_correctBy_13 : decode cX10_correctBy 13 = .ok (.invokevirtual 143, 3) := by decide +kernel
theorem dX10_correctBy_16 : decode cX10_correctBy 16 = .ok (.aload_n 0, 1) := by decide +kernel
theorem dX10_correctBy_17 : decode cX10_correctBy 17 = .ok (.invokevirtual 200, 3) := by decide +kernel
theorem dX10_correctBy_20 : decode cX10_correctBy 20 = .ok (.ireturn, 1) := by decide +kernel
theorem dX10_correctWith_0 : decode cX10_correctWith 0 = .ok (.aload_n 0, 1) := by decide +kernel
theorem dX10_correctWith_1 : decode cX10_correctWith 1 = .ok (.iconst 0, 1) := by decide +kernel
theorem dX10_correctWith_2 : decode cX10_correctWith 2 = .ok (.putfield 1, 3) := by decide +kernel
theorem dX10_correctWith_5 : decode cX10_correctWith 5 = .ok (.aload_n 0, 1) := by decide +kernel
theorem dX10_correctWith_6 : decode cX10_correctWith 6 = .ok (.iload_n 1, 1) := by decide +kernel
theorem dX10_correctWith_7 : decode cX10_correctWith 7 = .ok (.invokevirtual 204, 3) := by decide +kernel
theorem dX10_correctWith_10 : decode cX10_correctWith 10 = .ok (.ifCond .eq 11, 3) := by decide +kernel
theorem dX10_correctWith_13 : decode cX10_correctWith 13 = .ok (.aload_n 0, 1) := by decide +kernel
theorem dX10_correctWith_14 : decode cX10_correctWith 14 = .ok (.iload_n 1, 1) := by decide +kernel
theorem dX10_correctWith_15 : decode cX10_correctWith 15 = .ok (.invokevirtual 207, 3) := by decide +kernel
theorem dX10_correctWith_18 : decode cX10_correctWith 18 = .ok (.goto 5, 3) := by decide +kernel
theorem dX10_correctWith_21 : decode cX10_correctWith 21 = .ok (.bipush (-3), 2) := by decide +kernel
theorem dX10_correctWith_23 : decode cX10_correctWith 23 = .ok (.ireturn, 1) := by decide +kernel
theorem dX10_sizeOf_0 : decode cX10_sizeOf 0 = .ok (.iconst 0, 1) := by decide +kernel
theorem dX10_sizeOf_1 : decode cX10_sizeOf 1 = .ok (.istore_n 1, 1) := by decide +kernel
theorem dX10_sizeOf_2 : decode cX10_sizeOf 2 = .ok (.iconst 0, 1) := by decide +kernel
theorem dX10_sizeOf_3 : decode cX10_sizeOf 3 = .ok (.istore_n 2, 1) := by decide +kernel
theorem dX10_sizeOf_4 : decode cX10_sizeOf 4 = .ok (.iload_n 2, 1) := by decide +kernel
theorem dX10_sizeOf_5 : decode cX10_sizeOf 5 = .ok (.iconst 5, 1) := by decide +kernel
theorem dX10_sizeOf_6 : decode cX10_sizeOf 6 = .ok (.if_icmp .ge 17, 3) := by decide +kernel
theorem dX10_sizeOf_9 : decode cX10_sizeOf 9 = .ok (.iload_n 1, 1) := by decide +kernel
theorem dX10_sizeOf_10 : decode cX10_sizeOf 10 = .ok (.iload_n 0, 1) := by decide +kernel
theorem dX10_sizeOf_11 : decode cX10_sizeOf 11 = .ok (.iload_n 2, 1) := by decide +kernel
theorem dX10_sizeOf_12 : decode cX10_sizeOf 12 = .ok (.ishr, 1) := by decide +kernel
theorem dX10_sizeOf_13 : decode cX10_sizeOf 13 = .ok (.iconst 1, 1) := by decide +kernel
theorem dX10_sizeOf_14 : decode cX10_sizeOf 14 = .ok (.iand, 1) := by decide +kernel
theorem dX10_sizeOf_15 : decode cX10_sizeOf 15 = .ok (.iadd, 1) := by decide +kernel
theorem dX10_sizeOf_16 : decode cX10_sizeOf 16 = .ok (.istore_n 1, 1) := by decide +kernel
theorem dX10_sizeOf_17 : decode cX10_sizeOf 17 = .ok (.iinc 2 1, 3) := by decide +kernel
theorem dX10_sizeOf_20 : decode cX10_sizeOf 20 = .ok (.goto (-16), 3) := by decide +kernel
theorem dX10_sizeOf_23 : decode cX10_sizeOf 23 = .ok (.iload_n 1, 1) := by decide +kernel
theorem dX10_sizeOf_24 : decode cX10_sizeOf 24 = .ok (.ireturn, 1) := by decide +kernel
theorem dX10_bestSubset_0 : decode cX10_bestSubset 0 = .ok (.aload_n 0, 1) := by decide +kernel
theorem dX10_bestSubset_1 : decode cX10_bestSubset 1 = .ok (.iconst 0, 1) := by decide +kernel
theorem dX10_bestSubset_2 : decode cX10_bestSubset 2 = .ok (.putfield 1, 3) := by decide +kernel
theorem dX10_bestSubset_5 : decode cX10_bestSubset 5 = .ok (.iload_n 1, 1) := by decide +kernel
theorem dX10_bestSubset_6 : decode cX10_bestSubset 6 = .ok (.i2l, 1) := by decide +kernel
theorem dX10_bestSubset_7 : decode cX10_bestSubset 7 = .ok (.lconst 1, 1) := by decide +kernel
theorem dX10_bestSubset_8 : decode cX10_bestSubset 8 = .ok (.aload_n 0, 1) := by decide +kernel
theorem dX10_bestSubset_9 : decode cX10_bestSubset 9 = .ok (.getfield 52, 3) := by decide +kernel
theorem dX10_bestSubset_12 : decode cX10_bestSubset 12 = .ok (.i2l, 1) := by decide +kernel
theorem dX10_bestSubset_13 : decode cX10_bestSubset 13 = .ok (.invokestatic 84, 3) := by decide +kernel
theorem dX10_bestSubset_16 : decode cX10_bestSubset 16 = .ok (.ifCond .ne 6, 3) := by decide +kernel
theorem dX10_bestSubset_19 : decode cX10_bestSubset 19 = .ok (.bipush (-3), 2) := by decide +kernel
theorem dX10_bestSubset_21 : decode cX10_bestSubset 21 = .ok (.ireturn, 1) := by decide +kernel
theorem dX10_bestSubset_22 : decode cX10_bestSubset 22 = .ok (.iconst (-1), 1) := by decide +kernel
theorem dX10_bestSubset_23 : decode cX10_bestSubset 23 = .ok (.istore_n 2, 1) := by decide +kernel
theorem dX10_bestSubset_24 : decode cX10_bestSubset 24 = .ok (.iconst (-1), 1) := by decide +kernel
theorem dX10_bestSubset_25 : decode cX10_bestSubset 25 = .ok (.istore_n 3, 1) := by decide +kernel
theorem dX10_bestSubset_26 : decode cX10_bestSubset 26 = .ok (.iconst 1, 1) := by decide +kernel
theorem dX10_bestSubset_27 : decode cX10_bestSubset 27 = .ok (.istore 4, 2) := by decide +kernel
theorem dX10_bestSubset_29 : decode cX10_bestSubset 29 = .ok (.iload 4, 2) := by decide +kernel
theorem dX10_bestSubset_31 : decode cX10_bestSubset 31 = .ok (.iconst 1, 1) := by decide +kernel
theorem dX10_bestSubset_32 : decode cX10_bestSubset 32 = .ok (.aload_n 0, 1) := by decide +kernel
theorem dX10_bestSubset_33 : decode cX10_bestSubset 33 = .ok (.getfield 52, 3) := by decide +kernel
theorem dX10_bestSubset_36 : decode cX10_bestSubset 36 = .ok (.ishl, 1) := by decide +kernel
theorem dX10_bestSubset_37 : decode cX10_bestSubset 37 = .ok (.if_icmp .ge 45, 3) := by decide +kernel
theorem dX10_bestSubset_40 : decode cX10_bestSubset 40 = .ok (.iload 4, 2) := by decide +kernel
theorem dX10_bestSubset_42 : decode cX10_bestSubset 42 = .ok (.invokestatic 210, 3) := by decide +kernel
theorem dX10_bestSubset_45 : decode cX10_bestSubset 45 = .ok (.iload_n 1, 1) := by decide +kernel
theorem dX10_bestSubset_46 : decode cX10_bestSubset 46 = .ok (.if_icmp .ne 12, 3) := by decide +kernel
theorem dX10_bestSubset_49 : decode cX10_bestSubset 49 = .ok (.aload_n 0, 1) := by decide +kernel
theorem dX10_bestSubset_50 : decode cX10_bestSubset 50 = .ok (.iload 4, 2) := by decide +kernel
theorem dX10_bestSubset_52 : decode cX10_bestSubset 52 = .ok (.invokevirtual 207, 3) := by decide +kernel
theorem dX10_bestSubset_55 : decode cX10_bestSubset 55 = .ok (.goto 4, 3) := by decide +kernel
theorem dX10_bestSubset_58 : decode cX10_bestSubset 58 = .ok (.iconst (-1), 1) := by decide +kernel
theorem dX10_bestSubset_59 : decode cX10_bestSubset 59 = .ok (.istore 5, 2) := by decide +kernel
theorem dX10_bestSubset_61 : decode cX10_bestSubset 61 = .ok (.iload 5, 2) := by decide +kernel
theorem dX10_bestSubset_63 : decode cX10_bestSubset 63 = .ok (.iload_n 3, 1) := by decide +kernel
theorem dX10_bestSubset_64 : decode cX10_bestSubset 64 = .ok (.if_icmp .gt 6, 3) := by decide +kernel
theorem dX10_bestSubset_67 : decode cX10_bestSubset 67 = .ok (.goto 9, 3) := by decide +kernel
theorem dX10_bestSubset_70 : decode cX10_bestSubset 70 = .ok (.iload 4, 2) := by decide +kernel
theorem dX10_bestSubset_72 : decode cX10_bestSubset 72 = .ok (.istore_n 2, 1) := by decide +kernel
theorem dX10_bestSubset_73 : decode cX10_bestSubset 73 = .ok (.iload 5, 2) := by decide +kernel
theorem dX10_bestSubset_75 : decode cX10_bestSubset 75 = .ok (.istore_n 3, 1) := by decide +kernel
theorem dX10_bestSubset_76 : decode cX10_bestSubset 76 = .ok (.iinc 4 1, 3) := by decide +kernel
theorem dX10_bestSubset_79 : decode cX10_bestSubset 79 = .ok (.goto (-50), 3) := by decide +kernel
theorem dX10_bestSubset_82 : decode cX10_bestSubset 82 = .ok (.iload_n 2, 1) := by decide +kernel
theorem dX10_bestSubset_83 : decode cX10_bestSubset 83 = .ok (.ireturn, 1) := by decide +kernel
theorem dX10_suspectSensor_0 : decode cX10_suspectSensor 0 = .ok (.aload_n 0, 1) := by decide +kernel
theorem dX10_suspectSensor_1 : decode cX10_suspectSensor 1 = .ok (.iconst 0, 1) := by decide +kernel
theorem dX10_suspectSensor_2 : decode cX10_suspectSensor 2 = .ok (.putfield 1, 3) := by decide +kernel
theorem dX10_suspectSensor_5 : decode cX10_suspectSensor 5 = .ok (.aload_n 0, 1) := by decide +kernel
theorem dX10_suspectSensor_6 : decode cX10_suspectSensor 6 = .ok (.getfield 70, 3) := by decide +kernel
theorem dX10_suspectSensor_9 : decode cX10_suspectSensor 9 = .ok (.ifCond .ne 6, 3) := by decide +kernel
theorem dX10_suspectSensor_12 : decode cX10_suspectSensor 12 = .ok (.bipush (-5), 2) := by decide +kernel
theorem dX10_suspectSensor_14 : decode cX10_suspectSensor 14 = .ok (.ireturn, 1) := by decide +kernel
theorem dX10_suspectSensor_15 : decode cX10_suspectSensor 15 = .ok (.iconst (-1), 1) := by decide +kernel
theorem dX10_suspectSensor_16 : decode cX10_suspectSensor 16 = .ok (.istore_n 1, 1) := by decide +kernel
theorem dX10_suspectSensor_17 : decode cX10_suspectSensor 17 = .ok (.lconst 0, 1) := by decide +kernel
theorem dX10_suspectSensor_18 : decode cX10_suspectSensor 18 = .ok (.lstore_n 2, 1) := by decide +kernel
theorem dX10_suspectSensor_19 : decode cX10_suspectSensor 19 = .ok (.iconst 0, 1) := by decide +kernel
theorem dX10_suspectSensor_20 : decode cX10_suspectSensor 20 = .ok (.istore 4, 2) := by decide +kernel
theorem dX10_suspectSensor_22 : decode cX10_suspectSensor 22 = .ok (.iload 4, 2) := by decide +kernel
theorem dX10_suspectSensor_24 : decode cX10_suspectSensor 24 = .ok (.aload_n 0, 1) := by decide +kernel
theorem dX10_suspectSensor_25 : decode cX10_suspectSensor 25 = .ok (.getfield 52, 3) := by decide +kernel
theorem dX10_suspectSensor_28 : decode cX10_suspectSensor 28 = .ok (.if_icmp .ge 66, 3) := by decide +kernel
theorem dX10_suspectSensor_31 : decode cX10_suspectSensor 31 = .ok (.aload_n 0, 1) := by decide +kernel
theorem dX10_suspectSensor_32 : decode cX10_suspectSensor 32 = .ok (.iconst 1, 1) := by decide +kernel
theorem dX10_suspectSensor_33 : decode cX10_suspectSensor 33 = .ok (.iload 4, 2) := by decide +kernel
theorem dX10_suspectSensor_35 : decode cX10_suspectSensor 35 = .ok (.ishl, 1) := by decide +kernel
theorem dX10_suspectSensor_36 : decode cX10_suspectSensor 36 = .ok (.invokevirtual 143, 3) := by decide +kernel
theorem dX10_suspectSensor_39 : decode cX10_suspectSensor 39 = .ok (.aload_n 0, 1) := by decide +kernel
theorem dX10_suspectSensor_40 : decode cX10_suspectSensor 40 = .ok (.iconst 0, 1) := by decide +kernel
theorem dX10_suspectSensor_41 : decode cX10_suspectSensor 41 = .ok (.iconst (-1), 1) := by decide +kernel
theorem dX10_suspectSensor_42 : decode cX10_suspectSensor 42 = .ok (.iconst (-1), 1) := by decide +kernel
theorem dX10_suspectSensor_43 : decode cX10_suspectSensor 43 = .ok (.iconst (-1), 1) := by decide +kernel
theorem dX10_suspectSensor_44 : decode cX10_suspectSensor 44 = .ok (.invokevirtual 171, 3) := by decide +kernel
theorem dX10_suspectSensor_47 : decode cX10_suspectSensor 47 = .ok (.istore 5, 2) := by decide +kernel
theorem dX10_suspectSensor_49 : decode cX10_suspectSensor 49 = .ok (.iload 5, 2) := by decide +kernel
theorem dX10_suspectSensor_51 : decode cX10_suspectSensor 51 = .ok (.iconst (-1), 1) := by decide +kernel
theorem dX10_suspectSensor_52 : decode cX10_suspectSensor 52 = .ok (.if_icmp .ne 5, 3) := by decide +kernel
theorem dX10_suspectSensor_55 : decode cX10_suspectSensor 55 = .ok (.iconst (-1), 1) := by decide +kernel
theorem dX10_suspectSensor_56 : decode cX10_suspectSensor 56 = .ok (.ireturn, 1) := by decide +kernel
theorem dX10_suspectSensor_57 : decode cX10_suspectSensor 57 = .ok (.aload_n 0, 1) := by decide +kernel
theorem dX10_suspectSensor_58 : decode cX10_suspectSensor 58 = .ok (.iconst 0, 1) := by decide +kernel
theorem dX10_suspectSensor_59 : decode cX10_suspectSensor 59 = .ok (.iload 5, 2) := by decide +kernel
theorem dX10_suspectSensor_61 : decode cX10_suspectSensor 61 = .ok (.iconst (-1), 1) := by decide +kernel
theorem dX10_suspectSensor_62 : decode cX10_suspectSensor 62 = .ok (.invokevirtual 168, 3) := by decide +kernel
theorem dX10_suspectSensor_65 : decode cX10_suspectSensor 65 = .ok (.lstore 6, 2) := by decide +kernel
theorem dX10_suspectSensor_67 : decode cX10_suspectSensor 67 = .ok (.iload_n 1, 1) := by decide +kernel
theorem dX10_suspectSensor_68 : decode cX10_suspectSensor 68 = .ok (.iconst (-1), 1) := by decide +kernel
theorem dX10_suspectSensor_69 : decode cX10_suspectSensor 69 = .ok (.if_icmp .eq 13, 3) := by decide +kernel
theorem dX10_suspectSensor_72 : decode cX10_suspectSensor 72 = .ok (.lload 6, 2) := by decide +kernel
theorem dX10_suspectSensor_74 : decode cX10_suspectSensor 74 = .ok (.lload_n 2, 1) := by decide +kernel
theorem dX10_suspectSensor_75 : decode cX10_suspectSensor 75 = .ok (.lcmp, 1) := by decide +kernel
theorem dX10_suspectSensor_76 : decode cX10_suspectSensor 76 = .ok (.ifCond .lt 6, 3) := by decide +kernel
theorem dX10_suspectSensor_79 : decode cX10_suspectSensor 79 = .ok (.goto 9, 3) := by decide +kernel
theorem dX10_suspectSensor_82 : decode cX10_suspectSensor 82 = .ok (.iload 4, 2) := by decide +kernel
theorem dX10_suspectSensor_84 : decode cX10_suspectSensor 84 = .ok (.istore_n 1, 1) := by decide +kernel
theorem dX10_suspectSensor_85 : decode cX10_suspectSensor 85 = .ok (.lload 6, 2) := by decide +kernel
theorem dX10_suspectSensor_87 : decode cX10_suspectSensor 87 = .ok (.lstore_n 2, 1) := by decide +kernel
theorem dX10_suspectSensor_88 : decode cX10_suspectSensor 88 = .ok (.iinc 4 1, 3) := by decide +kernel
theorem dX10_suspectSensor_91 : decode cX10_suspectSensor 91 = .ok (.goto (-69), 3) := by decide +kernel
theorem dX10_suspectSensor_94 : decode cX10_suspectSensor 94 = .ok (.iload_n 1, 1) := by decide +kernel
theorem dX10_suspectSensor_95 : decode cX10_suspectSensor 95 = .ok (.ireturn, 1) := by decide +kernel
theorem dX10_apart_0 : decode cX10_apart 0 = .ok (.ldc2_w 158, 3) := by decide +kernel
theorem dX10_apart_3 : decode cX10_apart 3 = .ok (.lstore_n 3, 1) := by decide +kernel
theorem dX10_apart_4 : decode cX10_apart 4 = .ok (.iconst 0, 1) := by decide +kernel
theorem dX10_apart_5 : decode cX10_apart 5 = .ok (.istore 5, 2) := by decide +kernel
theorem dX10_apart_7 : decode cX10_apart 7 = .ok (.iload 5, 2) := by decide +kernel
theorem dX10_apart_9 : decode cX10_apart 9 = .ok (.aload_n 0, 1) := by decide +kernel
theorem dX10_apart_10 : decode cX10_apart 10 = .ok (.getfield 61, 3) := by decide +kernel
theorem dX10_apart_13 : decode cX10_apart 13 = .ok (.if_icmp .ge 80, 3) := by decide +kernel
theorem dX10_apart_16 : decode cX10_apart 16 = .ok (.iconst 0, 1) := by decide +kernel
theorem dX10_apart_17 : decode cX10_apart 17 = .ok (.istore 6, 2) := by decide +kernel
theorem dX10_apart_19 : decode cX10_apart 19 = .ok (.iload 6, 2) := by decide +kernel
theorem dX10_apart_21 : decode cX10_apart 21 = .ok (.aload_n 0, 1) := by decide +kernel
theorem dX10_apart_22 : decode cX10_apart 22 = .ok (.getfield 61, 3) := by decide +kernel
theorem dX10_apart_25 : decode cX10_apart 25 = .ok (.if_icmp .ge 62, 3) := by decide +kernel
theorem dX10_apart_28 : decode cX10_apart 28 = .ok (.aload_n 0, 1) := by decide +kernel
theorem dX10_apart_29 : decode cX10_apart 29 = .ok (.getfield 45, 3) := by decide +kernel
theorem dX10_apart_32 : decode cX10_apart 32 = .ok (.iload 5, 2) := by decide +kernel
theorem dX10_apart_34 : decode cX10_apart 34 = .ok (.iaload, 1) := by decide +kernel
theorem dX10_apart_35 : decode cX10_apart 35 = .ok (.iload_n 1, 1) := by decide +kernel
theorem dX10_apart_36 : decode cX10_apart 36 = .ok (.if_icmp .ne 45, 3) := by decide +kernel
theorem dX10_apart_39 : decode cX10_apart 39 = .ok (.aload_n 0, 1) := by decide +kernel
theorem dX10_apart_40 : decode cX10_apart 40 = .ok (.getfield 45, 3) := by decide +kernel
theorem dX10_apart_43 : decode cX10_apart 43 = .ok (.iload 6, 2) := by decide +kernel
theorem dX10_apart_45 : decode cX10_apart 45 = .ok (.iaload, 1) := by decide +kernel
theorem dX10_apart_46 : decode cX10_apart 46 = .ok (.iload_n 2, 1) := by decide +kernel
theorem dX10_apart_47 : decode cX10_apart 47 = .ok (.if_icmp .eq 6, 3) := by decide +kernel
theorem dX10_apart_50 : decode cX10_apart 50 = .ok (.goto 31, 3) := by decide +kernel
theorem dX10_apart_53 : decode cX10_apart 53 = .ok (.aload_n 0, 1) := by decide +kernel
theorem dX10_apart_54 : decode cX10_apart 54 = .ok (.iload 5, 2) := by decide +kernel
theorem dX10_apart_56 : decode cX10_apart 56 = .ok (.iload 6, 2) := by decide +kernel
theorem dX10_apart_58 : decode cX10_apart 58 = .ok (.invokevirtual 185, 3) := by decide +kernel
theorem dX10_apart_61 : decode cX10_apart 61 = .ok (.lstore 7, 2) := by decide +kernel
theorem dX10_apart_63 : decode cX10_apart 63 = .ok (.lload_n 3, 1) := by decide +kernel
theorem dX10_apart_64 : decode cX10_apart 64 = .ok (.ldc2_w 158, 3) := by decide +kernel
theorem dX10_apart_67 : decode cX10_apart 67 = .ok (.lcmp, 1) := by decide +kernel
theorem dX10_apart_68 : decode cX10_apart 68 = .ok (.ifCond .eq 10, 3) := by decide +kernel
theorem dX10_apart_71 : decode cX10_apart 71 = .ok (.lload 7, 2) := by decide +kernel
theorem dX10_apart_73 : decode cX10_apart 73 = .ok (.lload_n 3, 1) := by decide +kernel
theorem dX10_apart_74 : decode cX10_apart 74 = .ok (.lcmp, 1) := by decide +kernel
theorem dX10_apart_75 : decode cX10_apart 75 = .ok (.ifCond .ge 6, 3) := by decide +kernel
theorem dX10_apart_78 : decode cX10_apart 78 = .ok (.lload 7, 2) := by decide +kernel
theorem dX10_apart_80 : decode cX10_apart 80 = .ok (.lstore_n 3, 1) := by decide +kernel
theorem dX10_apart_81 : decode cX10_apart 81 = .ok (.iinc 6 1, 3) := by decide +kernel
theorem dX10_apart_84 : decode cX10_apart 84 = .ok (.goto (-65), 3) := by decide +kernel
theorem dX10_apart_87 : decode cX10_apart 87 = .ok (.iinc 5 1, 3) := by decide +kernel
theorem dX10_apart_90 : decode cX10_apart 90 = .ok (.goto (-83), 3) := by decide +kernel
theorem dX10_apart_93 : decode cX10_apart 93 = .ok (.lload_n 3, 1) := by decide +kernel
theorem dX10_apart_94 : decode cX10_apart 94 = .ok (.lreturn, 1) := by decide +kernel
theorem dX10_joins_0 : decode cX10_joins 0 = .ok (.aload_n 0, 1) := by decide +kernel
theorem dX10_joins_1 : decode cX10_joins 1 = .ok (.iconst (-1), 1) := by decide +kernel
theorem dX10_joins_2 : decode cX10_joins 2 = .ok (.putfield 213, 3) := by decide +kernel
theorem dX10_joins_5 : decode cX10_joins 5 = .ok (.iconst 0, 1) := by decide +kernel
theorem dX10_joins_6 : decode cX10_joins 6 = .ok (.istore_n 1, 1) := by decide +kernel
theorem dX10_joins_7 : decode cX10_joins 7 = .ok (.iload_n 1, 1) := by decide +kernel
theorem dX10_joins_8 : decode cX10_joins 8 = .ok (.aload_n 0, 1) := by decide +kernel
theorem dX10_joins_9 : decode cX10_joins 9 = .ok (.getfield 61, 3) := by decide +kernel
theorem dX10_joins_12 : decode cX10_joins 12 = .ok (.if_icmp .ge 92, 3) := by decide +kernel
theorem dX10_joins_15 : decode cX10_joins 15 = .ok (.iload_n 1, 1) := by decide +kernel
theorem dX10_joins_16 : decode cX10_joins 16 = .ok (.iconst 1, 1) := by decide +kernel
theorem dX10_joins_17 : decode cX10_joins 17 = .ok (.iadd, 1) := by decide +kernel
theorem dX10_joins_18 : decode cX10_joins 18 = .ok (.istore_n 2, 1) := by decide +kernel
theorem dX10_joins_19 : decode cX10_joins 19 = .ok (.iload_n 2, 1) := by decide +kernel
theorem dX10_joins_20 : decode cX10_joins 20 = .ok (.aload_n 0, 1) := by decide +kernel
theorem dX10_joins_21 : decode cX10_joins 21 = .ok (.getfield 61, 3) := by decide +kernel
theorem dX10_joins_24 : decode cX10_joins 24 = .ok (.if_icmp .ge 74, 3) := by decide +kernel
theorem dX10_joins_27 : decode cX10_joins 27 = .ok (.aload_n 0, 1) := by decide +kernel
theorem dX10_joins_28 : decode cX10_joins 28 = .ok (.getfield 45, 3) := by decide +kernel
theorem dX10_joins_31 : decode cX10_joins 31 = .ok (.iload_n 1, 1) := by decide +kernel
theorem dX10_joins_32 : decode cX10_joins 32 = .ok (.iaload, 1) := by decide +kernel
theorem dX10_joins_33 : decode cX10_joins 33 = .ok (.iload_n 1, 1) := by decide +kernel
theorem dX10_joins_34 : decode cX10_joins 34 = .ok (.if_icmp .ne 58, 3) := by decide +kernel
theorem dX10_joins_37 : decode cX10_joins 37 = .ok (.aload_n 0, 1) := by decide +kernel
theorem dX10_joins_38 : decode cX10_joins 38 = .ok (.getfield 45, 3) := by decide +kernel
theorem dX10_joins_41 : decode cX10_joins 41 = .ok (.iload_n 2, 1) := by decide +kernel
theorem dX10_joins_42 : decode cX10_joins 42 = .ok (.iaload, 1) := by decide +kernel
theorem dX10_joins_43 : decode cX10_joins 43 = .ok (.iload_n 2, 1) := by decide +kernel
theorem dX10_joins_44 : decode cX10_joins 44 = .ok (.if_icmp .eq 6, 3) := by decide +kernel
theorem dX10_joins_47 : decode cX10_joins 47 = .ok (.goto 45, 3) := by decide +kernel
theorem dX10_joins_50 : decode cX10_joins 50 = .ok (.aload_n 0, 1) := by decide +kernel
theorem dX10_joins_51 : decode cX10_joins 51 = .ok (.iload_n 1, 1) := by decide +kernel
theorem dX10_joins_52 : decode cX10_joins 52 = .ok (.iload_n 2, 1) := by decide +kernel
theorem dX10_joins_53 : decode cX10_joins 53 = .ok (.invokevirtual 216, 3) := by decide +kernel
theorem dX10_joins_56 : decode cX10_joins 56 = .ok (.lstore_n 3, 1) := by decide +kernel
theorem dX10_joins_57 : decode cX10_joins 57 = .ok (.aload_n 0, 1) := by decide +kernel
theorem dX10_joins_58 : decode cX10_joins 58 = .ok (.getfield 213, 3) := by decide +kernel
theorem dX10_joins_61 : decode cX10_joins 61 = .ok (.iconst (-1), 1) := by decide +kernel
theorem dX10_joins_62 : decode cX10_joins 62 = .ok (.if_icmp .eq 15, 3) := by decide +kernel
theorem dX10_joins_65 : decode cX10_joins 65 = .ok (.lload_n 3, 1) := by decide +kernel
theorem dX10_joins_66 : decode cX10_joins 66 = .ok (.aload_n 0, 1) := by decide +kernel
theorem dX10_joins_67 : decode cX10_joins 67 = .ok (.getfield 219, 3) := by decide +kernel
theorem dX10_joins_70 : decode cX10_joins 70 = .ok (.lcmp, 1) := by decide +kernel
theorem dX10_joins_71 : decode cX10_joins 71 = .ok (.ifCond .lt 6, 3) := by decide +kernel
theorem dX10_joins_74 : decode cX10_joins 74 = .ok (.goto 18, 3) := by decide +kernel
theorem dX10_joins_77 : decode cX10_joins 77 = .ok (.aload_n 0, 1) := by decide +kernel
theorem dX10_joins_78 : decode cX10_joins 78 = .ok (.bipush 10, 2) := by decide +kernel
theorem dX10_joins_80 : decode cX10_joins 80 = .ok (.iload_n 1, 1) := by decide +kernel
theorem dX10_joins_81 : decode cX10_joins 81 = .ok (.imul, 1) := by decide +kernel
theorem dX10_joins_82 : decode cX10_joins 82 = .ok (.iload_n 2, 1) := by decide +kernel
theorem dX10_joins_83 : decode cX10_joins 83 = .ok (.iadd, 1) := by decide +kernel
theorem dX10_joins_84 : decode cX10_joins 84 = .ok (.putfield 213, 3) := by decide +kernel
theorem dX10_joins_87 : decode cX10_joins 87 = .ok (.aload_n 0, 1) := by decide +kernel
theorem dX10_joins_88 : decode cX10_joins 88 = .ok (.lload_n 3, 1) := by decide +kernel
theorem dX10_joins_89 : decode cX10_joins 89 = .ok (.putfield 219, 3) := by decide +kernel
theorem dX10_joins_92 : decode cX10_joins 92 = .ok (.iinc 2 1, 3) := by decide +kernel
theorem dX10_joins_95 : decode cX10_joins 95 = .ok (.goto (-76), 3) := by decide +kernel
theorem dX10_joins_98 : decode cX10_joins 98 = .ok (.iinc 1 1, 3) := by decide +kernel
theorem dX10_joins_101 : decode cX10_joins 101 = .ok (.goto (-94), 3) := by decide +kernel
theorem dX10_joins_104 : decode cX10_joins 104 = .ok (.aload_n 0, 1) := by decide +kernel
theorem dX10_joins_105 : decode cX10_joins 105 = .ok (.getfield 213, 3) := by decide +kernel
theorem dX10_joins_108 : decode cX10_joins 108 = .ok (.iconst (-1), 1) := by decide +kernel
theorem dX10_joins_109 : decode cX10_joins 109 = .ok (.if_icmp .ne 5, 3) := by decide +kernel
theorem dX10_joins_112 : decode cX10_joins 112 = .ok (.iconst 0, 1) := by decide +kernel
theorem dX10_joins_113 : decode cX10_joins 113 = .ok (.ireturn, 1) := by decide +kernel
theorem dX10_joins_114 : decode cX10_joins 114 = .ok (.iconst 0, 1) := by decide +kernel
theorem dX10_joins_115 : decode cX10_joins 115 = .ok (.istore_n 1, 1) := by decide +kernel
theorem dX10_joins_116 : decode cX10_joins 116 = .ok (.iload_n 1, 1) := by decide +kernel
theorem dX10_joins_117 : decode cX10_joins 117 = .ok (.aload_n 0, 1) := by decide +kernel
theorem dX10_joins_118 : decode cX10_joins 118 = .ok (.getfield 61, 3) := by decide +kernel
theorem dX10_joins_121 : decode cX10_joins 121 = .ok (.if_icmp .ge 38, 3) := by decide +kernel
theorem dX10_joins_124 : decode cX10_joins 124 = .ok (.aload_n 0, 1) := by decide +kernel
theorem dX10_joins_125 : decode cX10_joins 125 = .ok (.getfield 45, 3) := by decide +kernel
theorem dX10_joins_128 : decode cX10_joins 128 = .ok (.iload_n 1, 1) := by decide +kernel
theorem dX10_joins_129 : decode cX10_joins 129 = .ok (.iaload, 1) := by decide +kernel
theorem dX10_joins_130 : decode cX10_joins 130 = .ok (.aload_n 0, 1) := by decide +kernel
theorem dX10_joins_131 : decode cX10_joins 131 = .ok (.getfield 213, 3) := by decide +kernel
theorem dX10_joins_134 : decode cX10_joins 134 = .ok (.bipush 10, 2) := by decide +kernel
theorem dX10_joins_136 : decode cX10_joins 136 = .ok (.irem, 1) := by decide +kernel
theorem dX10_joins_137 : decode cX10_joins 137 = .ok (.if_icmp .ne 16, 3) := by decide +kernel
theorem dX10_joins_140 : decode cX10_joins 140 = .ok (.aload_n 0, 1) := by decide +kernel
theorem dX10_joins_141 : decode cX10_joins 141 = .ok (.getfield 45, 3) := by decide +kernel
theorem dX10_joins_144 : decode cX10_joins 144 = .ok (.iload_n 1, 1) := by decide +kernel
theorem dX10_joins_145 : decode cX10_joins 145 = .ok (.aload_n 0, 1) := by decide +kernel
theorem dX10_joins_146 : decode cX10_joins 146 = .ok (.getfield 213, 3) := by decide +kernel
theorem dX10_joins_149 : decode cX10_joins 149 = .ok (.bipush 10, 2) := by decide +kernel
theorem dX10_joins_151 : decode cX10_joins 151 = .ok (.idiv, 1) := by decide +kernel
theorem dX10_joins_152 : decode cX10_joins 152 = .ok (.iastore, 1) := by decide +kernel
theorem dX10_joins_153 : decode cX10_joins 153 = .ok (.iinc 1 1, 3) := by decide +kernel
theorem dX10_joins_156 : decode cX10_joins 156 = .ok (.goto (-40), 3) := by decide +kernel
theorem dX10_joins_159 : decode cX10_joins 159 = .ok (.iconst 1, 1) := by decide +kernel
theorem dX10_joins_160 : decode cX10_joins 160 = .ok (.ireturn, 1) := by decide +kernel
theorem dX10_goesTo_0 : decode cX10_goesTo 0 = .ok (.aload_n 0, 1) := by decide +kernel
theorem dX10_goesTo_1 : decode cX10_goesTo 1 = .ok (.iconst 0, 1) := by decide +kernel
theorem dX10_goesTo_2 : decode cX10_goesTo 2 = .ok (.invokevirtual 143, 3) := by decide +kernel
theorem dX10_goesTo_5 : decode cX10_goesTo 5 = .ok (.iconst 0, 1) := by decide +kernel
theorem dX10_goesTo_6 : decode cX10_goesTo 6 = .ok (.istore_n 2, 1) := by decide +kernel
theorem dX10_goesTo_7 : decode cX10_goesTo 7 = .ok (.iload_n 2, 1) := by decide +kernel
theorem dX10_goesTo_8 : decode cX10_goesTo 8 = .ok (.aload_n 0, 1) := by decide +kernel
theorem dX10_goesTo_9 : decode cX10_goesTo 9 = .ok (.getfield 61, 3) := by decide +kernel
theorem dX10_goesTo_12 : decode cX10_goesTo 12 = .ok (.if_icmp .ge 29, 3) := by decide +kernel
theorem dX10_goesTo_15 : decode cX10_goesTo 15 = .ok (.aload_n 0, 1) := by decide +kernel
theorem dX10_goesTo_16 : decode cX10_goesTo 16 = .ok (.getfield 45, 3) := by decide +kernel
theorem dX10_goesTo_19 : decode cX10_goesTo 19 = .ok (.iload_n 2, 1) := by decide +kernel
theorem dX10_goesTo_20 : decode cX10_goesTo 20 = .ok (.aload_n 0, 1) := by decide +kernel
theorem dX10_goesTo_21 : decode cX10_goesTo 21 = .ok (.getfield 23, 3) := by decide +kernel
theorem dX10_goesTo_24 : decode cX10_goesTo 24 = .ok (.iload_n 2, 1) := by decide +kernel
theorem dX10_goesTo_25 : decode cX10_goesTo 25 = .ok (.iaload, 1) := by decide +kernel
theorem dX10_goesTo_26 : decode cX10_goesTo 26 = .ok (.ifCond .ne 7, 3) := by decide +kernel
theorem dX10_goesTo_29 : decode cX10_goesTo 29 = .ok (.iconst (-1), 1) := by decide +kernel
theorem dX10_goesTo_30 : decode cX10_goesTo 30 = .ok (.goto 4, 3) := by decide +kernel
theorem dX10_goesTo_33 : decode cX10_goesTo 33 = .ok (.iload_n 2, 1) := by decide +kernel
theorem dX10_goesTo_34 : decode cX10_goesTo 34 = .ok (.iastore, 1) := by decide +kernel
theorem dX10_goesTo_35 : decode cX10_goesTo 35 = .ok (.iinc 2 1, 3) := by decide +kernel
theorem dX10_goesTo_38 : decode cX10_goesTo 38 = .ok (.goto (-31), 3) := by decide +kernel
theorem dX10_goesTo_41 : decode cX10_goesTo 41 = .ok (.iconst 1, 1) := by decide +kernel
theorem dX10_goesTo_42 : decode cX10_goesTo 42 = .ok (.istore_n 2, 1) := by decide +kernel
theorem dX10_goesTo_43 : decode cX10_goesTo 43 = .ok (.iconst 0, 1) := by decide +kernel
theorem dX10_goesTo_44 : decode cX10_goesTo 44 = .ok (.istore_n 3, 1) := by decide +kernel
theorem dX10_goesTo_45 : decode cX10_goesTo 45 = .ok (.iload_n 3, 1) := by decide +kernel
theorem dX10_goesTo_46 : decode cX10_goesTo 46 = .ok (.iload_n 1, 1) := by decide +kernel
theorem dX10_goesTo_47 : decode cX10_goesTo 47 = .ok (.if_icmp .gt 18, 3) := by decide +kernel
theorem dX10_goesTo_50 : decode cX10_goesTo 50 = .ok (.iload_n 2, 1) := by decide +kernel
theorem dX10_goesTo_51 : decode cX10_goesTo 51 = .ok (.ifCond .eq 14, 3) := by decide +kernel
theorem dX10_goesTo_54 : decode cX10_goesTo 54 = .ok (.aload_n 0, 1) := by decide +kernel
theorem dX10_goesTo_55 : decode cX10_goesTo 55 = .ok (.invokevirtual 222, 3) := by decide +kernel
theorem dX10_goesTo_58 : decode cX10_goesTo 58 = .ok (.istore_n 2, 1) := by decide +kernel
theorem dX10_goesTo_59 : decode cX10_goesTo 59 = .ok (.iinc 3 1, 3) := by decide +kernel
theorem dX10_goesTo_62 : decode cX10_goesTo 62 = .ok (.goto (-17), 3) := by decide +kernel
theorem dX10_goesTo_65 : decode cX10_goesTo 65 = .ok (.iload_n 2, 1) := by decide +kernel
theorem dX10_goesTo_66 : decode cX10_goesTo 66 = .ok (.ireturn, 1) := by decide +kernel
theorem dX10_joinedGroups_0 : decode cX10_joinedGroups 0 = .ok (.aload_n 0, 1) := by decide +kernel
theorem dX10_joinedGroups_1 : decode cX10_joinedGroups 1 = .ok (.iconst 0, 1) := by decide +kernel
theorem dX10_joinedGroups_2 : decode cX10_joinedGroups 2 = .ok (.putfield 1, 3) := by decide +kernel
theorem dX10_joinedGroups_5 : decode cX10_joinedGroups 5 = .ok (.iload_n 1, 1) := by decide +kernel
theorem dX10_joinedGroups_6 : decode cX10_joinedGroups 6 = .ok (.ifCond .ge 6, 3) := by decide +kernel
theorem dX10_joinedGroups_9 : decode cX10_joinedGroups 9 = .ok (.bipush (-3), 2) := by decide +kernel
theorem dX10_joinedGroups_11 : decode cX10_joinedGroups 11 = .ok (.ireturn, 1) := by decide +kernel
theorem dX10_joinedGroups_12 : decode cX10_joinedGroups 12 = .ok (.aload_n 0, 1) := by decide +kernel
theorem dX10_joinedGroups_13 : decode cX10_joinedGroups 13 = .ok (.iload_n 1, 1) := by decide +kernel
theorem dX10_joinedGroups_14 : decode cX10_joinedGroups 14 = .ok (.invokevirtual 226, 3) := by decide +kernel
theorem dX10_joinedGroups_17 : decode cX10_joinedGroups 17 = .ok (.ifCond .eq 10, 3) := by decide +kernel
theorem dX10_joinedGroups_20 : decode cX10_joinedGroups 20 = .ok (.aload_n 0, 1) := by decide +kernel
theorem dX10_joinedGroups_21 : decode cX10_joinedGroups 21 = .ok (.getfield 213, 3) := by decide +kernel
theorem dX10_joinedGroups_24 : decode cX10_joinedGroups 24 = .ok (.goto 4, 3) := by decide +kernel
theorem dX10_joinedGroups_27 : decode cX10_joinedGroups 27 = .ok (.iconst (-1), 1) := by decide +kernel
theorem dX10_joinedGroups_28 : decode cX10_joinedGroups 28 = .ok (.ireturn, 1) := by decide +kernel
theorem dX10_joinDistance_0 : decode cX10_joinDistance 0 = .ok (.aload_n 0, 1) := by decide +kernel
theorem dX10_joinDistance_1 : decode cX10_joinDistance 1 = .ok (.iconst 0, 1) := by decide +kernel
theorem dX10_joinDistance_2 : decode cX10_joinDistance 2 = .ok (.putfield 1, 3) := by decide +kernel
theorem dX10_joinDistance_5 : decode cX10_joinDistance 5 = .ok (.iload_n 1, 1) := by decide +kernel
theorem dX10_joinDistance_6 : decode cX10_joinDistance 6 = .ok (.ifCond .ge 6, 3) := by decide +kernel
theorem dX10_joinDistance_9 : decode cX10_joinDistance 9 = .ok (.bipush (-3), 2) := by decide +kernel
theorem dX10_joinDistance_11 : decode cX10_joinDistance 11 = .ok (.ireturn, 1) := by decide +kernel
theorem dX10_joinDistance_12 : decode cX10_joinDistance 12 = .ok (.aload_n 0, 1) := by decide +kernel
theorem dX10_joinDistance_13 : decode cX10_joinDistance 13 = .ok (.iload_n 1, 1) := by decide +kernel
theorem dX10_joinDistance_14 : decode cX10_joinDistance 14 = .ok (.invokevirtual 226, 3) := by decide +kernel
theorem dX10_joinDistance_17 : decode cX10_joinDistance 17 = .ok (.ifCond .eq 11, 3) := by decide +kernel
theorem dX10_joinDistance_20 : decode cX10_joinDistance 20 = .ok (.aload_n 0, 1) := by decide +kernel
theorem dX10_joinDistance_21 : decode cX10_joinDistance 21 = .ok (.getfield 219, 3) := by decide +kernel
theorem dX10_joinDistance_24 : decode cX10_joinDistance 24 = .ok (.l2i, 1) := by decide +kernel
theorem dX10_joinDistance_25 : decode cX10_joinDistance 25 = .ok (.goto 4, 3) := by decide +kernel
theorem dX10_joinDistance_28 : decode cX10_joinDistance 28 = .ok (.iconst (-1), 1) := by decide +kernel
theorem dX10_joinDistance_29 : decode cX10_joinDistance 29 = .ok (.ireturn, 1) := by decide +kernel
theorem dX10_squaresOf_0 : decode cX10_squaresOf 0 = .ok (.lconst 0, 1) := by decide +kernel
theorem dX10_squaresOf_1 : decode cX10_squaresOf 1 = .ok (.lstore_n 3, 1) := by decide +kernel
theorem dX10_squaresOf_2 : decode cX10_squaresOf 2 = .ok (.iconst 0, 1) := by decide +kernel
theorem dX10_squaresOf_3 : decode cX10_squaresOf 3 = .ok (.istore 5, 2) := by decide +kernel
theorem dX10_squaresOf_5 : decode cX10_squaresOf 5 = .ok (.iload 5, 2) := by decide +kernel
theorem dX10_squaresOf_7 : decode cX10_squaresOf 7 = .ok (.aload_n 0, 1) := by decide +kernel
theorem dX10_squaresOf_8 : decode cX10_squaresOf 8 = .ok (.getfield 23, 3) := by decide +kernel
theorem dX10_squaresOf_11 : decode cX10_squaresOf 11 = .ok (.iload_n 1, 1) := by decide +kernel
theorem dX10_squaresOf_12 : decode cX10_squaresOf 12 = .ok (.iaload, 1) := by decide +kernel
theorem dX10_squaresOf_13 : decode cX10_squaresOf 13 = .ok (.if_icmp .ge 45, 3) := by decide +kernel
theorem dX10_squaresOf_16 : decode cX10_squaresOf 16 = .ok (.lload_n 3, 1) := by decide +kernel
theorem dX10_squaresOf_17 : decode cX10_squaresOf 17 = .ok (.aload_n 0, 1) := by decide +kernel
theorem dX10_squaresOf_18 : decode cX10_squaresOf 18 = .ok (.getfield 26, 3) := by decide +kernel
theorem dX10_squaresOf_21 : decode cX10_squaresOf 21 = .ok (.iconst 5, 1) := by decide +kernel
theorem dX10_squaresOf_22 : decode cX10_squaresOf 22 = .ok (.iload_n 1, 1) := by decide +kernel
theorem dX10_squaresOf_23 : decode cX10_squaresOf 23 = .ok (.iload 5, 2) := by decide +kernel
theorem dX10_squaresOf_25 : decode cX10_squaresOf 25 = .ok (.invokestatic 151, 3) := by decide +kernel
theorem dX10_squaresOf_28 : decode cX10_squaresOf 28 = .ok (.imul, 1) := by decide +kernel
theorem dX10_squaresOf_29 : decode cX10_squaresOf 29 = .ok (.iload_n 2, 1) := by decide +kernel
theorem dX10_squaresOf_30 : decode cX10_squaresOf 30 = .ok (.iadd, 1) := by decide +kernel
theorem dX10_squaresOf_31 : decode cX10_squaresOf 31 = .ok (.iaload, 1) := by decide +kernel
theorem dX10_squaresOf_32 : decode cX10_squaresOf 32 = .ok (.i2l, 1) := by decide +kernel
theorem dX10_squaresOf_33 : decode cX10_squaresOf 33 = .ok (.aload_n 0, 1) := by decide +kernel
theorem dX10_squaresOf_34 : decode cX10_squaresOf 34 = .ok (.getfield 26, 3) := by decide +kernel
theorem dX10_squaresOf_37 : decode cX10_squaresOf 37 = .ok (.iconst 5, 1) := by decide +kernel
theorem dX10_squaresOf_38 : decode cX10_squaresOf 38 = .ok (.iload_n 1, 1) := by decide +kernel
theorem dX10_squaresOf_39 : decode cX10_squaresOf 39 = .ok (.iload 5, 2) := by decide +kernel
theorem dX10_squaresOf_41 : decode cX10_squaresOf 41 = .ok (.invokestatic 151, 3) := by decide +kernel
theorem dX10_squaresOf_44 : decode cX10_squaresOf 44 = .ok (.imul, 1) := by decide +kernel
theorem dX10_squaresOf_45 : decode cX10_squaresOf 45 = .ok (.iload_n 2, 1) := by decide +kernel
theorem dX10_squaresOf_46 : decode cX10_squaresOf 46 = .ok (.iadd, 1) := by decide +kernel
theorem dX10_squaresOf_47 : decode cX10_squaresOf 47 = .ok (.iaload, 1) := by decide +kernel
theorem dX10_squaresOf_48 : decode cX10_squaresOf 48 = .ok (.i2l, 1) := by decide +kernel
theorem dX10_squaresOf_49 : decode cX10_squaresOf 49 = .ok (.lmul, 1) := by decide +kernel
theorem dX10_squaresOf_50 : decode cX10_squaresOf 50 = .ok (.ladd, 1) := by decide +kernel
theorem dX10_squaresOf_51 : decode cX10_squaresOf 51 = .ok (.lstore_n 3, 1) := by decide +kernel
theorem dX10_squaresOf_52 : decode cX10_squaresOf 52 = .ok (.iinc 5 1, 3) := by decide +kernel
theorem dX10_squaresOf_55 : decode cX10_squaresOf 55 = .ok (.goto (-50), 3) := by decide +kernel
theorem dX10_squaresOf_58 : decode cX10_squaresOf 58 = .ok (.lload_n 3, 1) := by decide +kernel
theorem dX10_squaresOf_59 : decode cX10_squaresOf 59 = .ok (.lreturn, 1) := by decide +kernel
theorem dX10_sensorScore_0 : decode cX10_sensorScore 0 = .ok (.aload_n 0, 1) := by decide +kernel
theorem dX10_sensorScore_1 : decode cX10_sensorScore 1 = .ok (.iconst 0, 1) := by decide +kernel
theorem dX10_sensorScore_2 : decode cX10_sensorScore 2 = .ok (.putfield 1, 3) := by decide +kernel
theorem dX10_sensorScore_5 : decode cX10_sensorScore 5 = .ok (.aload_n 0, 1) := by decide +kernel
theorem dX10_sensorScore_6 : decode cX10_sensorScore 6 = .ok (.iload_n 1, 1) := by decide +kernel
theorem dX10_sensorScore_7 : decode cX10_sensorScore 7 = .ok (.invokevirtual 88, 3) := by decide +kernel
theorem dX10_sensorScore_10 : decode cX10_sensorScore 10 = .ok (.ifCond .ne 6, 3) := by decide +kernel
theorem dX10_sensorScore_13 : decode cX10_sensorScore 13 = .ok (.bipush (-2), 2) := by decide +kernel
theorem dX10_sensorScore_15 : decode cX10_sensorScore 15 = .ok (.ireturn, 1) := by decide +kernel
theorem dX10_sensorScore_16 : decode cX10_sensorScore 16 = .ok (.aload_n 0, 1) := by decide +kernel
theorem dX10_sensorScore_17 : decode cX10_sensorScore 17 = .ok (.iconst 0, 1) := by decide +kernel
theorem dX10_sensorScore_18 : decode cX10_sensorScore 18 = .ok (.invokevirtual 143, 3) := by decide +kernel
theorem dX10_sensorScore_21 : decode cX10_sensorScore 21 = .ok (.lconst 0, 1) := by decide +kernel
theorem dX10_sensorScore_22 : decode cX10_sensorScore 22 = .ok (.lstore_n 2, 1) := by decide +kernel
theorem dX10_sensorScore_23 : decode cX10_sensorScore 23 = .ok (.lconst 0, 1) := by decide +kernel
theorem dX10_sensorScore_24 : decode cX10_sensorScore 24 = .ok (.lstore 4, 2) := by decide +kernel
theorem dX10_sensorScore_26 : decode cX10_sensorScore 26 = .ok (.lconst 0, 1) := by decide +kernel
theorem dX10_sensorScore_27 : decode cX10_sensorScore 27 = .ok (.lstore 6, 2) := by decide +kernel
theorem dX10_sensorScore_29 : decode cX10_sensorScore 29 = .ok (.lconst 0, 1) := by decide +kernel
theorem dX10_sensorScore_30 : decode cX10_sensorScore 30 = .ok (.lstore 8, 2) := by decide +kernel
theorem dX10_sensorScore_32 : decode cX10_sensorScore 32 = .ok (.iconst 0, 1) := by decide +kernel
theorem dX10_sensorScore_33 : decode cX10_sensorScore 33 = .ok (.istore 10, 2) := by decide +kernel
theorem dX10_sensorScore_35 : decode cX10_sensorScore 35 = .ok (.iload 10, 2) := by decide +kernel
theorem dX10_sensorScore_37 : decode cX10_sensorScore 37 = .ok (.aload_n 0, 1) := by decide +kernel
theorem dX10_sensorScore_38 : decode cX10_sensorScore 38 = .ok (.getfield 61, 3) := by decide +kernel
theorem dX10_sensorScore_41 : decode cX10_sensorScore 41 = .ok (.if_icmp .ge 98, 3) := by decide +kernel
theorem dX10_sensorScore_44 : decode cX10_sensorScore 44 = .ok (.aload_n 0, 1) := by decide +kernel
theorem dX10_sensorScore_45 : decode cX10_sensorScore 45 = .ok (.getfield 23, 3) := by decide +kernel
theorem dX10_sensorScore_48 : decode cX10_sensorScore 48 = .ok (.iload 10, 2) := by decide +kernel
theorem dX10_sensorScore_50 : decode cX10_sensorScore 50 = .ok (.iaload, 1) := by decide +kernel
theorem dX10_sensorScore_51 : decode cX10_sensorScore 51 = .ok (.ifCond .ne 6, 3) := by decide +kernel
theorem dX10_sensorScore_54 : decode cX10_sensorScore 54 = .ok (.goto 79, 3) := by decide +kernel
theorem dX10_sensorScore_57 : decode cX10_sensorScore 57 = .ok (.aload_n 0, 1) := by decide +kernel
theorem dX10_sensorScore_58 : decode cX10_sensorScore 58 = .ok (.iload 10, 2) := by decide +kernel
theorem dX10_sensorScore_60 : decode cX10_sensorScore 60 = .ok (.iload_n 1, 1) := by decide +kernel
theorem dX10_sensorScore_61 : decode cX10_sensorScore 61 = .ok (.iconst (-1), 1) := by decide +kernel
theorem dX10_sensorScore_62 : decode cX10_sensorScore 62 = .ok (.invokevirtual 160, 3) := by decide +kernel
theorem dX10_sensorScore_65 : decode cX10_sensorScore 65 = .ok (.lstore 11, 2) := by decide +kernel
theorem dX10_sensorScore_67 : decode cX10_sensorScore 67 = .ok (.lload_n 2, 1) := by decide +kernel
theorem dX10_sensorScore_68 : decode cX10_sensorScore 68 = .ok (.aload_n 0, 1) := by decide +kernel
theorem dX10_sensorScore_69 : decode cX10_sensorScore 69 = .ok (.getfield 23, 3) := by decide +kernel
theorem dX10_sensorScore_72 : decode cX10_sensorScore 72 = .ok (.iload 10, 2) := by decide +kernel
theorem dX10_sensorScore_74 : decode cX10_sensorScore 74 = .ok (.iaload, 1) := by decide +kernel
theorem dX10_sensorScore_75 : decode cX10_sensorScore 75 = .ok (.i2l, 1) := by decide +kernel
theorem dX10_sensorScore_76 : decode cX10_sensorScore 76 = .ok (.aload_n 0, 1) := by decide +kernel
theorem dX10_sensorScore_77 : decode cX10_sensorScore 77 = .ok (.iload 10, 2) := by decide +kernel
theorem dX10_sensorScore_79 : decode cX10_sensorScore 79 = .ok (.iload_n 1, 1) := by decide +kernel
theorem dX10_sensorScore_80 : decode cX10_sensorScore 80 = .ok (.invokevirtual 229, 3) := by decide +kernel
theorem dX10_sensorScore_83 : decode cX10_sensorScore 83 = .ok (.lmul, 1) := by decide +kernel
theorem dX10_sensorScore_84 : decode cX10_sensorScore 84 = .ok (.lload 11, 2) := by decide +kernel
theorem dX10_sensorScore_86 : decode cX10_sensorScore 86 = .ok (.lload 11, 2) := by decide +kernel
theorem dX10_sensorScore_88 : decode cX10_sensorScore 88 = .ok (.lmul, 1) := by decide +kernel
theorem dX10_sensorScore_89 : decode cX10_sensorScore 89 = .ok (.lsub, 1) := by decide +kernel
theorem dX10_sensorScore_90 : decode cX10_sensorScore 90 = .ok (.aload_n 0, 1) := by decide +kernel
theorem dX10_sensorScore_91 : decode cX10_sensorScore 91 = .ok (.getfield 23, 3) := by decide +kernel
theorem dX10_sensorScore_94 : decode cX10_sensorScore 94 = .ok (.iload 10, 2) := by decide +kernel
theorem dX10_sensorScore_96 : decode cX10_sensorScore 96 = .ok (.iaload, 1) := by decide +kernel
theorem dX10_sensorScore_97 : decode cX10_sensorScore 97 = .ok (.i2l, 1) := by decide +kernel
theorem dX10_sensorScore_98 : decode cX10_sensorScore 98 = .ok (.ldiv, 1) := by decide +kernel
theorem dX10_sensorScore_99 : decode cX10_sensorScore 99 = .ok (.ladd, 1) := by decide +kernel
theorem dX10_sensorScore_100 : decode cX10_sensorScore 100 = .ok (.lstore_n 2, 1) := by decide +kernel
theorem dX10_sensorScore_101 : decode cX10_sensorScore 101 = .ok (.lload 4, 2) := by decide +kernel
theorem dX10_sensorScore_103 : decode cX10_sensorScore 103 = .ok (.aload_n 0, 1) := by decide +kernel
theorem dX10_sensorScore_104 : decode cX10_sensorScore 104 = .ok (.getfield 23, 3) := by decide +kernel
theorem dX10_sensorScore_107 : decode cX10_sensorScore 107 = .ok (.iload 10, 2) := by decide +kernel
theorem dX10_sensorScore_109 : decode cX10_sensorScore 109 = .ok (.iaload, 1) := by decide +kernel
theorem dX10_sensorScore_110 : decode cX10_sensorScore 110 = .ok (.i2l, 1) := by decide +kernel
theorem dX10_sensorScore_111 : decode cX10_sensorScore 111 = .ok (.ladd, 1) := by decide +kernel
theorem dX10_sensorScore_112 : decode cX10_sensorScore 112 = .ok (.lstore 4, 2) := by decide +kernel
theorem dX10_sensorScore_114 : decode cX10_sensorScore 114 = .ok (.lload 6, 2) := by decide +kernel
theorem dX10_sensorScore_116 : decode cX10_sensorScore 116 = .ok (.aload_n 0, 1) := by decide +kernel
theorem dX10_sensorScore_117 : decode cX10_sensorScore 117 = .ok (.iload 10, 2) := by decide +kernel
theorem dX10_sensorScore_119 : decode cX10_sensorScore 119 = .ok (.iload_n 1, 1) := by decide +kernel
theorem dX10_sensorScore_120 : decode cX10_sensorScore 120 = .ok (.invokevirtual 229, 3) := by decide +kernel
theorem dX10_sensorScore_123 : decode cX10_sensorScore 123 = .ok (.ladd, 1) := by decide +kernel
theorem dX10_sensorScore_124 : decode cX10_sensorScore 124 = .ok (.lstore 6, 2) := by decide +kernel
theorem dX10_sensorScore_126 : decode cX10_sensorScore 126 = .ok (.lload 8, 2) := by decide +kernel
theorem dX10_sensorScore_128 : decode cX10_sensorScore 128 = .ok (.lload 11, 2) := by decide +kernel
theorem dX10_sensorScore_130 : decode cX10_sensorScore 130 = .ok (.ladd, 1) := by decide +kernel
theorem dX10_sensorScore_131 : decode cX10_sensorScore 131 = .ok (.lstore 8, 2) := by decide +kernel
theorem dX10_sensorScore_133 : decode cX10_sensorScore 133 = .ok (.iinc 10 1, 3) := by decide +kernel
theorem dX10_sensorScore_136 : decode cX10_sensorScore 136 = .ok (.goto (-101), 3) := by decide +kernel
theorem dX10_sensorScore_139 : decode cX10_sensorScore 139 = .ok (.lload 4, 2) := by decide +kernel
theorem dX10_sensorScore_141 : decode cX10_sensorScore 141 = .ok (.lconst 0, 1) := by decide +kernel
theorem dX10_sensorScore_142 : decode cX10_sensorScore 142 = .ok (.lcmp, 1) := by decide +kernel
theorem dX10_sensorScore_143 : decode cX10_sensorScore 143 = .ok (.ifCond .ne 5, 3) := by decide +kernel
theorem dX10_sensorScore_146 : decode cX10_sensorScore 146 = .ok (.iconst (-1), 1) := by decide +kernel
theorem dX10_sensorScore_147 : decode cX10_sensorScore 147 = .ok (.ireturn, 1) := by decide +kernel
theorem dX10_sensorScore_148 : decode cX10_sensorScore 148 = .ok (.lload 4, 2) := by decide +kernel
theorem dX10_sensorScore_150 : decode cX10_sensorScore 150 = .ok (.lload 6, 2) := by decide +kernel
theorem dX10_sensorScore_152 : decode cX10_sensorScore 152 = .ok (.lmul, 1) := by decide +kernel
theorem dX10_sensorScore_153 : decode cX10_sensorScore 153 = .ok (.lload 8, 2) := by decide +kernel
theorem dX10_sensorScore_155 : decode cX10_sensorScore 155 = .ok (.lload 8, 2) := by decide +kernel
theorem dX10_sensorScore_157 : decode cX10_sensorScore 157 = .ok (.lmul, 1) := by decide +kernel
theorem dX10_sensorScore_158 : decode cX10_sensorScore 158 = .ok (.lsub, 1) := by decide +kernel
theorem dX10_sensorScore_159 : decode cX10_sensorScore 159 = .ok (.lload 4, 2) := by decide +kernel
theorem dX10_sensorScore_161 : decode cX10_sensorScore 161 = .ok (.ldiv, 1) := by decide +kernel
theorem dX10_sensorScore_162 : decode cX10_sensorScore 162 = .ok (.lload_n 2, 1) := by decide +kernel
theorem dX10_sensorScore_163 : decode cX10_sensorScore 163 = .ok (.lsub, 1) := by decide +kernel
theorem dX10_sensorScore_164 : decode cX10_sensorScore 164 = .ok (.lstore 10, 2) := by decide +kernel
theorem dX10_sensorScore_166 : decode cX10_sensorScore 166 = .ok (.lload_n 2, 1) := by decide +kernel
theorem dX10_sensorScore_167 : decode cX10_sensorScore 167 = .ok (.lconst 0, 1) := by decide +kernel
theorem dX10_sensorScore_168 : decode cX10_sensorScore 168 = .ok (.lcmp, 1) := by decide +kernel
theorem dX10_sensorScore_169 : decode cX10_sensorScore 169 = .ok (.ifCond .le 14, 3) := by decide +kernel
theorem dX10_sensorScore_172 : decode cX10_sensorScore 172 = .ok (.ldc2_w 125, 3) := by decide +kernel
theorem dX10_sensorScore_175 : decode cX10_sensorScore 175 = .ok (.lload 10, 2) := by decide +kernel
theorem dX10_sensorScore_177 : decode cX10_sensorScore 177 = .ok (.lmul, 1) := by decide +kernel
theorem dX10_sensorScore_178 : decode cX10_sensorScore 178 = .ok (.lload_n 2, 1) := by decide +kernel
theorem dX10_sensorScore_179 : decode cX10_sensorScore 179 = .ok (.ldiv, 1) := by decide +kernel
theorem dX10_sensorScore_180 : decode cX10_sensorScore 180 = .ok (.goto 17, 3) := by decide +kernel
theorem dX10_sensorScore_183 : decode cX10_sensorScore 183 = .ok (.lload 10, 2) := by decide +kernel
theorem dX10_sensorScore_185 : decode cX10_sensorScore 185 = .ok (.lconst 0, 1) := by decide +kernel
theorem dX10_sensorScore_186 : decode cX10_sensorScore 186 = .ok (.lcmp, 1) := by decide +kernel
theorem dX10_sensorScore_187 : decode cX10_sensorScore 187 = .ok (.ifCond .le 9, 3) := by decide +kernel
theorem dX10_sensorScore_190 : decode cX10_sensorScore 190 = .ok (.ldc2_w 146, 3) := by decide +kernel
theorem dX10_sensorScore_193 : decode cX10_sensorScore 193 = .ok (.goto 4, 3) := by decide +kernel
theorem dX10_sensorScore_196 : decode cX10_sensorScore 196 = .ok (.lconst 0, 1) := by decide +kernel
theorem dX10_sensorScore_197 : decode cX10_sensorScore 197 = .ok (.lstore 12, 2) := by decide +kernel
theorem dX10_sensorScore_199 : decode cX10_sensorScore 199 = .ok (.lload 12, 2) := by decide +kernel
theorem dX10_sensorScore_201 : decode cX10_sensorScore 201 = .ok (.ldc2_w 232, 3) := by decide +kernel
theorem dX10_sensorScore_204 : decode cX10_sensorScore 204 = .ok (.lcmp, 1) := by decide +kernel
theorem dX10_sensorScore_205 : decode cX10_sensorScore 205 = .ok (.ifCond .le 8, 3) := by decide +kernel
theorem dX10_sensorScore_208 : decode cX10_sensorScore 208 = .ok (.ldc 234, 2) := by decide +kernel
theorem dX10_sensorScore_210 : decode cX10_sensorScore 210 = .ok (.goto 6, 3) := by decide +kernel
theorem dX10_sensorScore_213 : decode cX10_sensorScore 213 = .ok (.lload 12, 2) := by decide +kernel
theorem dX10_sensorScore_215 : decode cX10_sensorScore 215 = .ok (.l2i, 1) := by decide +kernel
theorem dX10_sensorScore_216 : decode cX10_sensorScore 216 = .ok (.ireturn, 1) := by decide +kernel
theorem dX10_outlier_0 : decode cX10_outlier 0 = .ok (.aload_n 0, 1) := by decide +kernel
theorem dX10_outlier_1 : decode cX10_outlier 1 = .ok (.iconst 0, 1) := by decide +kernel
theorem dX10_outlier_2 : decode cX10_outlier 2 = .ok (.putfield 1, 3) := by decide +kernel
theorem dX10_outlier_5 : decode cX10_outlier 5 = .ok (.aload_n 0, 1) := by decide +kernel
theorem dX10_outlier_6 : decode cX10_outlier 6 = .ok (.iload_n 1, 1) := by decide +kernel
theorem dX10_outlier_7 : decode cX10_outlier 7 = .ok (.invokevirtual 148, 3) := by decide +kernel
theorem dX10_outlier_10 : decode cX10_outlier 10 = .ok (.ifCond .ne 6, 3) := by decide +kernel
theorem dX10_outlier_13 : decode cX10_outlier 13 = .ok (.bipush (-2), 2) := by decide +kernel
theorem dX10_outlier_15 : decode cX10_outlier 15 = .ok (.ireturn, 1) := by decide +kernel
theorem dX10_outlier_16 : decode cX10_outlier 16 = .ok (.aload_n 0, 1) := by decide +kernel
theorem dX10_outlier_17 : decode cX10_outlier 17 = .ok (.getfield 23, 3) := by decide +kernel
theorem dX10_outlier_20 : decode cX10_outlier 20 = .ok (.iload_n 1, 1) := by decide +kernel
theorem dX10_outlier_21 : decode cX10_outlier 21 = .ok (.iaload, 1) := by decide +kernel
theorem dX10_outlier_22 : decode cX10_outlier 22 = .ok (.ifCond .ne 5, 3) := by decide +kernel
theorem dX10_outlier_25 : decode cX10_outlier 25 = .ok (.iconst (-1), 1) := by decide +kernel
theorem dX10_outlier_26 : decode cX10_outlier 26 = .ok (.ireturn, 1) := by decide +kernel
theorem dX10_outlier_27 : decode cX10_outlier 27 = .ok (.aload_n 0, 1) := by decide +kernel
theorem dX10_outlier_28 : decode cX10_outlier 28 = .ok (.iconst 0, 1) := by decide +kernel
theorem dX10_outlier_29 : decode cX10_outlier 29 = .ok (.invokevirtual 143, 3) := by decide +kernel
theorem dX10_outlier_32 : decode cX10_outlier 32 = .ok (.aload_n 0, 1) := by decide +kernel
theorem dX10_outlier_33 : decode cX10_outlier 33 = .ok (.iload_n 1, 1) := by decide +kernel
theorem dX10_outlier_34 : decode cX10_outlier 34 = .ok (.invokevirtual 175, 3) := by decide +kernel
theorem dX10_outlier_37 : decode cX10_outlier 37 = .ok (.ireturn, 1) := by decide +kernel
theorem dJ6_bitCount_0f7a4_0 : decode cJ6_bitCount_0f7a4 0 = .ok (.iload_n 0, 1) := by decide +kernel
theorem dJ6_bitCount_0f7a4_1 : decode cJ6_bitCount_0f7a4 1 = .ok (.iload_n 0, 1) := by decide +kernel
theorem dJ6_bitCount_0f7a4_2 : decode cJ6_bitCount_0f7a4 2 = .ok (.iconst 1, 1) := by decide +kernel
theorem dJ6_bitCount_0f7a4_3 : decode cJ6_bitCount_0f7a4 3 = .ok (.iushr, 1) := by decide +kernel
theorem dJ6_bitCount_0f7a4_4 : decode cJ6_bitCount_0f7a4 4 = .ok (.ldc_w 265, 3) := by decide +kernel
theorem dJ6_bitCount_0f7a4_7 : decode cJ6_bitCount_0f7a4 7 = .ok (.iand, 1) := by decide +kernel
theorem dJ6_bitCount_0f7a4_8 : decode cJ6_bitCount_0f7a4 8 = .ok (.isub, 1) := by decide +kernel
theorem dJ6_bitCount_0f7a4_9 : decode cJ6_bitCount_0f7a4 9 = .ok (.istore_n 0, 1) := by decide +kernel
theorem dJ6_bitCount_0f7a4_10 : decode cJ6_bitCount_0f7a4 10 = .ok (.iload_n 0, 1) := by decide +kernel
theorem dJ6_bitCount_0f7a4_11 : decode cJ6_bitCount_0f7a4 11 = .ok (.ldc_w 266, 3) := by decide +kernel
theorem dJ6_bitCount_0f7a4_14 : decode cJ6_bitCount_0f7a4 14 = .ok (.iand, 1) := by decide +kernel
theorem dJ6_bitCount_0f7a4_15 : decode cJ6_bitCount_0f7a4 15 = .ok (.iload_n 0, 1) := by decide +kernel
theorem dJ6_bitCount_0f7a4_16 : decode cJ6_bitCount_0f7a4 16 = .ok (.iconst 2, 1) := by decide +kernel
theorem dJ6_bitCount_0f7a4_17 : decode cJ6_bitCount_0f7a4 17 = .ok (.iushr, 1) := by decide +kernel
theorem dJ6_bitCount_0f7a4_18 : decode cJ6_bitCount_0f7a4 18 = .ok (.ldc_w 266, 3) := by decide +kernel
theorem dJ6_bitCount_0f7a4_21 : decode cJ6_bitCount_0f7a4 21 = .ok (.iand, 1) := by decide +kernel
theorem dJ6_bitCount_0f7a4_22 : decode cJ6_bitCount_0f7a4 22 = .ok (.iadd, 1) := by decide +kernel
theorem dJ6_bitCount_0f7a4_23 : decode cJ6_bitCount_0f7a4 23 = .ok (.istore_n 0, 1) := by decide +kernel
theorem dJ6_bitCount_0f7a4_24 : decode cJ6_bitCount_0f7a4 24 = .ok (.iload_n 0, 1) := by decide +kernel
theorem dJ6_bitCount_0f7a4_25 : decode cJ6_bitCount_0f7a4 25 = .ok (.iload_n 0, 1) := by decide +kernel
theorem dJ6_bitCount_0f7a4_26 : decode cJ6_bitCount_0f7a4 26 = .ok (.iconst 4, 1) := by decide +kernel
theorem dJ6_bitCount_0f7a4_27 : decode cJ6_bitCount_0f7a4 27 = .ok (.iushr, 1) := by decide +kernel
theorem dJ6_bitCount_0f7a4_28 : decode cJ6_bitCount_0f7a4 28 = .ok (.iadd, 1) := by decide +kernel
theorem dJ6_bitCount_0f7a4_29 : decode cJ6_bitCount_0f7a4 29 = .ok (.ldc_w 267, 3) := by decide +kernel
theorem dJ6_bitCount_0f7a4_32 : decode cJ6_bitCount_0f7a4 32 = .ok (.iand, 1) := by decide +kernel
theorem dJ6_bitCount_0f7a4_33 : decode cJ6_bitCount_0f7a4 33 = .ok (.istore_n 0, 1) := by decide +kernel
theorem dJ6_bitCount_0f7a4_34 : decode cJ6_bitCount_0f7a4 34 = .ok (.iload_n 0, 1) := by decide +kernel
theorem dJ6_bitCount_0f7a4_35 : decode cJ6_bitCount_0f7a4 35 = .ok (.iload_n 0, 1) := by decide +kernel
theorem dJ6_bitCount_0f7a4_36 : decode cJ6_bitCount_0f7a4 36 = .ok (.bipush 8, 2) := by decide +kernel
theorem dJ6_bitCount_0f7a4_38 : decode cJ6_bitCount_0f7a4 38 = .ok (.iushr, 1) := by decide +kernel
theorem dJ6_bitCount_0f7a4_39 : decode cJ6_bitCount_0f7a4 39 = .ok (.iadd, 1) := by decide +kernel
theorem dJ6_bitCount_0f7a4_40 : decode cJ6_bitCount_0f7a4 40 = .ok (.istore_n 0, 1) := by decide +kernel
theorem dJ6_bitCount_0f7a4_41 : decode cJ6_bitCount_0f7a4 41 = .ok (.iload_n 0, 1) := by decide +kernel
theorem dJ6_bitCount_0f7a4_42 : decode cJ6_bitCount_0f7a4 42 = .ok (.iload_n 0, 1) := by decide +kernel
theorem dJ6_bitCount_0f7a4_43 : decode cJ6_bitCount_0f7a4 43 = .ok (.bipush 16, 2) := by decide +kernel
theorem dJ6_bitCount_0f7a4_45 : decode cJ6_bitCount_0f7a4 45 = .ok (.iushr, 1) := by decide +kernel
theorem dJ6_bitCount_0f7a4_46 : decode cJ6_bitCount_0f7a4 46 = .ok (.iadd, 1) := by decide +kernel
theorem dJ6_bitCount_0f7a4_47 : decode cJ6_bitCount_0f7a4 47 = .ok (.istore_n 0, 1) := by decide +kernel
theorem dJ6_bitCount_0f7a4_48 : decode cJ6_bitCount_0f7a4 48 = .ok (.iload_n 0, 1) := by decide +kernel
theorem dJ6_bitCount_0f7a4_49 : decode cJ6_bitCount_0f7a4 49 = .ok (.bipush 63, 2) := by decide +kernel
theorem dJ6_bitCount_0f7a4_51 : decode cJ6_bitCount_0f7a4 51 = .ok (.iand, 1) := by decide +kernel
theorem dJ6_bitCount_0f7a4_52 : decode cJ6_bitCount_0f7a4 52 = .ok (.ireturn, 1) := by decide +kernel
theorem dJ9_abs_067f4_0 : decode cJ9_abs_067f4 0 = .ok (.lload_n 0, 1) := by decide +kernel
theorem dJ9_abs_067f4_1 : decode cJ9_abs_067f4 1 = .ok (.lconst 0, 1) := by decide +kernel
theorem dJ9_abs_067f4_2 : decode cJ9_abs_067f4 2 = .ok (.lcmp, 1) := by decide +kernel
theorem dJ9_abs_067f4_3 : decode cJ9_abs_067f4 3 = .ok (.ifCond .ge 8, 3) := by decide +kernel
theorem dJ9_abs_067f4_6 : decode cJ9_abs_067f4 6 = .ok (.lload_n 0, 1) := by decide +kernel
theorem dJ9_abs_067f4_7 : decode cJ9_abs_067f4 7 = .ok (.lneg, 1) := by decide +kernel
theorem dJ9_abs_067f4_8 : decode cJ9_abs_067f4 8 = .ok (.goto 4, 3) := by decide +kernel
theorem dJ9_abs_067f4_11 : decode cJ9_abs_067f4 11 = .ok (.lload_n 0, 1) := by decide +kernel
theorem dJ9_abs_067f4_12 : decode cJ9_abs_067f4 12 = .ok (.lreturn, 1) := by decide +kernel
theorem dJ9_max_7cf53_0 : decode cJ9_max_7cf53 0 = .ok (.iload_n 0, 1) := by decide +kernel
theorem dJ9_max_7cf53_1 : decode cJ9_max_7cf53 1 = .ok (.iload_n 1, 1) := by decide +kernel
theorem dJ9_max_7cf53_2 : decode cJ9_max_7cf53 2 = .ok (.if_icmp .lt 7, 3) := by decide +kernel
theorem dJ9_max_7cf53_5 : decode cJ9_max_7cf53 5 = .ok (.iload_n 0, 1) := by decide +kernel
theorem dJ9_max_7cf53_6 : decode cJ9_max_7cf53 6 = .ok (.goto 4, 3) := by decide +kernel
theorem dJ9_max_7cf53_9 : decode cJ9_max_7cf53 9 = .ok (.iload_n 1, 1) := by decide +kernel
theorem dJ9_max_7cf53_10 : decode cJ9_max_7cf53 10 = .ok (.ireturn, 1) := by decide +kernel
theorem dJ9_max_f86c9_0 : decode cJ9_max_f86c9 0 = .ok (.lload_n 0, 1) := by decide +kernel
theorem dJ9_max_f86c9_1 : decode cJ9_max_f86c9 1 = .ok (.lload_n 2, 1) := by decide +kernel
theorem dJ9_max_f86c9_2 : decode cJ9_max_f86c9 2 = .ok (.lcmp, 1) := by decide +kernel
theorem dJ9_max_f86c9_3 : decode cJ9_max_f86c9 3 = .ok (.ifCond .lt 7, 3) := by decide +kernel
theorem dJ9_max_f86c9_6 : decode cJ9_max_f86c9 6 = .ok (.lload_n 0, 1) := by decide +kernel
theorem dJ9_max_f86c9_7 : decode cJ9_max_f86c9 7 = .ok (.goto 4, 3) := by decide +kernel
theorem dJ9_max_f86c9_10 : decode cJ9_max_f86c9 10 = .ok (.lload_n 2, 1) := by decide +kernel
theorem dJ9_max_f86c9_11 : decode cJ9_max_f86c9 11 = .ok (.lreturn, 1) := by decide +kernel
theorem dJ9_min_7cf53_0 : decode cJ9_min_7cf53 0 = .ok (.iload_n 0, 1) := by decide +kernel
theorem dJ9_min_7cf53_1 : decode cJ9_min_7cf53 1 = .ok (.iload_n 1, 1) := by decide +kernel
theorem dJ9_min_7cf53_2 : decode cJ9_min_7cf53 2 = .ok (.if_icmp .gt 7, 3) := by decide +kernel
theorem dJ9_min_7cf53_5 : decode cJ9_min_7cf53 5 = .ok (.iload_n 0, 1) := by decide +kernel
theorem dJ9_min_7cf53_6 : decode cJ9_min_7cf53 6 = .ok (.goto 4, 3) := by decide +kernel
theorem dJ9_min_7cf53_9 : decode cJ9_min_7cf53 9 = .ok (.iload_n 1, 1) := by decide +kernel
theorem dJ9_min_7cf53_10 : decode cJ9_min_7cf53 10 = .ok (.ireturn, 1) := by decide +kernel
theorem dJ9_min_f86c9_0 : decode cJ9_min_f86c9 0 = .ok (.lload_n 0, 1) := by decide +kernel
theorem dJ9_min_f86c9_1 : decode cJ9_min_f86c9 1 = .ok (.lload_n 2, 1) := by decide +kernel
theorem dJ9_min_f86c9_2 : decode cJ9_min_f86c9 2 = .ok (.lcmp, 1) := by decide +kernel
theorem dJ9_min_f86c9_3 : decode cJ9_min_f86c9 3 = .ok (.ifCond .gt 7, 3) := by decide +kernel
theorem dJ9_min_f86c9_6 : decode cJ9_min_f86c9 6 = .ok (.lload_n 0, 1) := by decide +kernel
theorem dJ9_min_f86c9_7 : decode cJ9_min_f86c9 7 = .ok (.goto 4, 3) := by decide +kernel
theorem dJ9_min_f86c9_10 : decode cJ9_min_f86c9 10 = .ok (.lload_n 2, 1) := by decide +kernel
theorem dJ9_min_f86c9_11 : decode cJ9_min_f86c9 11 = .ok (.lreturn, 1) := by decide +kernel
theorem dL_law_0 : decode cL_law 0 = .ok (.new 7, 3) := by decide +kernel
theorem dL_law_3 : decode cL_law 3 = .ok (.dup, 1) := by decide +kernel
theorem dL_law_4 : decode cL_law 4 = .ok (.invokespecial 9, 3) := by decide +kernel
theorem dL_law_7 : decode cL_law 7 = .ok (.astore_n 1, 1) := by decide +kernel
theorem dL_law_8 : decode cL_law 8 = .ok (.new 10, 3) := by decide +kernel
theorem dL_law_11 : decode cL_law 11 = .ok (.dup, 1) := by decide +kernel
theorem dL_law_12 : decode cL_law 12 = .ok (.invokespecial 12, 3) := by decide +kernel
theorem dL_law_15 : decode cL_law 15 = .ok (.astore_n 2, 1) := by decide +kernel
theorem dL_law_16 : decode cL_law 16 = .ok (.iconst 0, 1) := by decide +kernel
theorem dL_law_17 : decode cL_law 17 = .ok (.istore_n 3, 1) := by decide +kernel
theorem dL_law_18 : decode cL_law 18 = .ok (.iload_n 3, 1) := by decide +kernel
theorem dL_law_19 : decode cL_law 19 = .ok (.aload_n 0, 1) := by decide +kernel
theorem dL_law_20 : decode cL_law 20 = .ok (.arraylength, 1) := by decide +kernel
theorem dL_law_21 : decode cL_law 21 = .ok (.bipush 7, 2) := by decide +kernel
theorem dL_law_23 : decode cL_law 23 = .ok (.isub, 1) := by decide +kernel
theorem dL_law_24 : decode cL_law 24 = .ok (.if_icmp .gt 1259, 3) := by decide +kernel
theorem dL_law_27 : decode cL_law 27 = .ok (.aload_n 0, 1) := by decide +kernel
theorem dL_law_28 : decode cL_law 28 = .ok (.iload_n 3, 1) := by decide +kernel
theorem dL_law_29 : decode cL_law 29 = .ok (.iaload, 1) := by decide +kernel
theorem dL_law_30 : decode cL_law 30 = .ok (.bipush 63, 2) := by decide +kernel
theorem dL_law_32 : decode cL_law 32 = .ok (.iand, 1) := by decide +kernel
theorem dL_law_33 : decode cL_law 33 = .ok (.tableswitch 1244 0 44 #[195, 218, 231, 264, 339, 362, 385, 398, 411, 434, 473, 496, 509, 532, 545, 584, 617, 630, 643, 666, 699, 732, 755, 778, 791, 804, 827, 850, 873, 886, 919, 932, 945, 968, 991, 1014, 1037, 1070, 1103, 1116, 1139, 1162, 1185, 1198, 1221], 195) := by decide +kernel
theorem dL_law_228 : decode cL_law 228 = .ok (.aload_n 1, 1) := by decide +kernel
theorem dL_law_229 : decode cL_law 229 = .ok (.aload_n 0, 1) := by decide +kernel
theorem dL_law_230 : decode cL_law 230 = .ok (.iload_n 3, 1) := by decide +kernel
theorem dL_law_231 : decode cL_law 231 = .ok (.iconst 1, 1) := by decide +kernel
theorem dL_law_232 : decode cL_law 232 = .ok (.iadd, 1) := by decide +kernel
theorem dL_law_233 : decode cL_law 233 = .ok (.iaload, 1) := by decide +kernel
theorem dL_law_234 : decode cL_law 234 = .ok (.invokevirtual 13, 3) := by decide +kernel
theorem dL_law_237 : decode cL_law 237 = .ok (.aload_n 2, 1) := by decide +kernel
theorem dL_law_238 : decode cL_law 238 = .ok (.aload_n 0, 1) := by decide +kernel
theorem dL_law_239 : decode cL_law 239 = .ok (.iload_n 3, 1) := by decide +kernel
theorem dL_law_240 : decode cL_law 240 = .ok (.iconst 1, 1) := by decide +kernel
theorem dL_law_241 : decode cL_law 241 = .ok (.iadd, 1) := by decide +kernel
theorem dL_law_242 : decode cL_law 242 = .ok (.iaload, 1) := by decide +kernel
theorem dL_law_243 : decode cL_law 243 = .ok (.invokevirtual 17, 3) := by decide +kernel
theorem dL_law_246 : decode cL_law 246 = .ok (.if_icmp .eq 1031, 3) := by decide +kernel
theorem dL_law_249 : decode cL_law 249 = .ok (.iconst 0, 1) := by decide +kernel
theorem dL_law_250 : decode cL_law 250 = .ok (.ireturn, 1) := by decide +kernel
theorem dL_law_251 : decode cL_law 251 = .ok (.aload_n 1, 1) := by decide +kernel
theorem dL_law_252 : decode cL_law 252 = .ok (.invokevirtual 18, 3) := by decide +kernel
theorem dL_law_255 : decode cL_law 255 = .ok (.aload_n 2, 1) := by decide +kernel
theorem dL_law_256 : decode cL_law 256 = .ok (.invokevirtual 22, 3) := by decide +kernel
theorem dL_law_259 : decode cL_law 259 = .ok (.if_icmp .eq 1018, 3) := by decide +kernel
theorem dL_law_262 : decode cL_law 262 = .ok (.iconst 0, 1) := by decide +kernel
theorem dL_law_263 : decode cL_law 263 = .ok (.ireturn, 1) := by decide +kernel
theorem dL_law_264 : decode cL_law 264 = .ok (.aload_n 1, 1) := by decide +kernel
theorem dL_law_265 : decode cL_law 265 = .ok (.aload_n 0, 1) := by decide +kernel
theorem dL_law_266 : decode cL_law 266 = .ok (.iload_n 3, 1) := by decide +kernel
theorem dL_law_267 : decode cL_law 267 = .ok (.iconst 1, 1) := by decide +kernel
theorem dL_law_268 : decode cL_law 268 = .ok (.iadd, 1) := by decide +kernel
theorem dL_law_269 : decode cL_law 269 = .ok (.iaload, 1) := by decide +kernel
theorem dL_law_270 : decode cL_law 270 = .ok (.aload_n 0, 1) := by decide +kernel
theorem dL_law_271 : decode cL_law 271 = .ok (.iload_n 3, 1) := by decide +kernel
theorem dL_law_272 : decode cL_law 272 = .ok (.iconst 2, 1) := by decide +kernel
theorem dL_law_273 : decode cL_law 273 = .ok (.iadd, 1) := by decide +kernel
theorem dL_law_274 : decode cL_law 274 = .ok (.iaload, 1) := by decide +kernel
theorem dL_law_275 : decode cL_law 275 = .ok (.invokevirtual 23, 3) := by decide +kernel
theorem dL_law_278 : decode cL_law 278 = .ok (.aload_n 2, 1) := by decide +kernel
theorem dL_law_279 : decode cL_law 279 = .ok (.aload_n 0, 1) := by decide +kernel
theorem dL_law_280 : decode cL_law 280 = .ok (.iload_n 3, 1) := by decide +kernel
theorem dL_law_281 : decode cL_law 281 = .ok (.iconst 1, 1) := by decide +kernel
theorem dL_law_282 : decode cL_law 282 = .ok (.iadd, 1) := by decide +kernel
theorem dL_law_283 : decode cL_law 283 = .ok (.iaload, 1) := by decide +kernel
theorem dL_law_284 : decode cL_law 284 = .ok (.aload_n 0, 1) := by decide +kernel
theorem dL_law_285 : decode cL_law 285 = .ok (.iload_n 3, 1) := by decide +kernel
theorem dL_law_286 : decode cL_law 286 = .ok (.iconst 2, 1) := by decide +kernel
theorem dL_law_287 : decode cL_law 287 = .ok (.iadd, 1) := by decide +kernel
theorem dL_law_288 : decode cL_law 288 = .ok (.iaload, 1) := by decide +kernel
theorem dL_law_289 : decode cL_law 289 = .ok (.invokevirtual 27, 3) := by decide +kernel
theorem dL_law_292 : decode cL_law 292 = .ok (.if_icmp .eq 985, 3) := by decide +kernel
theorem dL_law_295 : decode cL_law 295 = .ok (.iconst 0, 1) := by decide +kernel
theorem dL_law_296 : decode cL_law 296 = .ok (.ireturn, 1) := by decide +kernel
theorem dL_law_297 : decode cL_law 297 = .ok (.aload_n 1, 1) := by decide +kernel
theorem dL_law_298 : decode cL_law 298 = .ok (.aload_n 0, 1) := by decide +kernel
theorem dL_law_299 : decode cL_law 299 = .ok (.iload_n 3, 1) := by decide +kernel
theorem dL_law_300 : decode cL_law 300 = .ok (.iconst 1, 1) := by decide +kernel
theorem dL_law_301 : decode cL_law 301 = .ok (.iadd, 1) := by decide +kernel
theorem dL_law_302 : decode cL_law 302 = .ok (.iaload, 1) := by decide +kernel
theorem dL_law_303 : decode cL_law 303 = .ok (.aload_n 0, 1) := by decide +kernel
theorem dL_law_304 : decode cL_law 304 = .ok (.iload_n 3, 1) := by decide +kernel
theorem dL_law_305 : decode cL_law 305 = .ok (.iconst 2, 1) := by decide +kernel
theorem dL_law_306 : decode cL_law 306 = .ok (.iadd, 1) := by decide +kernel
theorem dL_law_307 : decode cL_law 307 = .ok (.iaload, 1) := by decide +kernel
theorem dL_law_308 : decode cL_law 308 = .ok (.aload_n 0, 1) := by decide +kernel
theorem dL_law_309 : decode cL_law 309 = .ok (.iload_n 3, 1) := by decide +kernel
theorem dL_law_310 : decode cL_law 310 = .ok (.iconst 3, 1) := by decide +kernel
theorem dL_law_311 : decode cL_law 311 = .ok (.iadd, 1) := by decide +kernel
theorem dL_law_312 : decode cL_law 312 = .ok (.iaload, 1) := by decide +kernel
theorem dL_law_313 : decode cL_law 313 = .ok (.aload_n 0, 1) := by decide +kernel
theorem dL_law_314 : decode cL_law 314 = .ok (.iload_n 3, 1) := by decide +kernel
theorem dL_law_315 : decode cL_law 315 = .ok (.iconst 4, 1) := by decide +kernel
theorem dL_law_316 : decode cL_law 316 = .ok (.iadd, 1) := by decide +kernel
theorem dL_law_317 : decode cL_law 317 = .ok (.iaload, 1) := by decide +kernel
theorem dL_law_318 : decode cL_law 318 = .ok (.aload_n 0, 1) := by decide +kernel
theorem dL_law_319 : decode cL_law 319 = .ok (.iload_n 3, 1) := by decide +kernel
theorem dL_law_320 : decode cL_law 320 = .ok (.iconst 5, 1) := by decide +kernel
theorem dL_law_321 : decode cL_law 321 = .ok (.iadd, 1) := by decide +kernel
theorem dL_law_322 : decode cL_law 322 = .ok (.iaload, 1) := by decide +kernel
theorem dL_law_323 : decode cL_law 323 = .ok (.aload_n 0, 1) := by decide +kernel
theorem dL_law_324 : decode cL_law 324 = .ok (.iload_n 3, 1) := by decide +kernel
theorem dL_law_325 : decode cL_law 325 = .ok (.bipush 6, 2) := by decide +kernel
theorem dL_law_327 : decode cL_law 327 = .ok (.iadd, 1) := by decide +kernel
theorem dL_law_328 : decode cL_law 328 = .ok (.iaload, 1) := by decide +kernel
theorem dL_law_329 : decode cL_law 329 = .ok (.invokevirtual 28, 3) := by decide +kernel
theorem dL_law_332 : decode cL_law 332 = .ok (.aload_n 2, 1) := by decide +kernel
theorem dL_law_333 : decode cL_law 333 = .ok (.aload_n 0, 1) := by decide +kernel
theorem dL_law_334 : decode cL_law 334 = .ok (.iload_n 3, 1) := by decide +kernel
theorem dL_law_335 : decode cL_law 335 = .ok (.iconst 1, 1) := by decide +kernel
theorem dL_law_336 : decode cL_law 336 = .ok (.iadd, 1) := by decide +kernel
theorem dL_law_337 : decode cL_law 337 = .ok (.iaload, 1) := by decide +kernel
theorem dL_law_338 : decode cL_law 338 = .ok (.aload_n 0, 1) := by decide +kernel
theorem dL_law_339 : decode cL_law 339 = .ok (.iload_n 3, 1) := by decide +kernel
theorem dL_law_340 : decode cL_law 340 = .ok (.iconst 2, 1) := by decide +kernel
theorem dL_law_341 : decode cL_law 341 = .ok (.iadd, 1) := by decide +kernel
theorem dL_law_342 : decode cL_law 342 = .ok (.iaload, 1) := by decide +kernel
theorem dL_law_343 : decode cL_law 343 = .ok (.aload_n 0, 1) := by decide +kernel
theorem dL_law_344 : decode cL_law 344 = .ok (.iload_n 3, 1) := by decide +kernel
theorem dL_law_345 : decode cL_law 345 = .ok (.iconst 3, 1) := by decide +kernel
theorem dL_law_346 : decode cL_law 346 = .ok (.iadd, 1) := by decide +kernel
theorem dL_law_347 : decode cL_law 347 = .ok (.iaload, 1) := by decide +kernel
theorem dL_law_348 : decode cL_law 348 = .ok (.aload_n 0, 1) := by decide +kernel
theorem dL_law_349 : decode cL_law 349 = .ok (.iload_n 3, 1) := by decide +kernel
theorem dL_law_350 : decode cL_law 350 = .ok (.iconst 4, 1) := by decide +kernel
theorem dL_law_351 : decode cL_law 351 = .ok (.iadd, 1) := by decide +kernel
theorem dL_law_352 : decode cL_law 352 = .ok (.iaload, 1) := by decide +kernel
theorem dL_law_353 : decode cL_law 353 = .ok (.aload_n 0, 1) := by decide +kernel
theorem dL_law_354 : decode cL_law 354 = .ok (.iload_n 3, 1) := by decide +kernel
theorem dL_law_355 : decode cL_law 355 = .ok (.iconst 5, 1) := by decide +kernel
theorem dL_law_356 : decode cL_law 356 = .ok (.iadd, 1) := by decide +kernel
theorem dL_law_357 : decode cL_law 357 = .ok (.iaload, 1) := by decide +kernel
theorem dL_law_358 : decode cL_law 358 = .ok (.aload_n 0, 1) := by decide +kernel
theorem dL_law_359 : decode cL_law 359 = .ok (.iload_n 3, 1) := by decide +kernel
theorem dL_law_360 : decode cL_law 360 = .ok (.bipush 6, 2) := by decide +kernel
theorem dL_law_362 : decode cL_law 362 = .ok (.iadd, 1) := by decide +kernel
theorem dL_law_363 : decode cL_law 363 = .ok (.iaload, 1) := by decide +kernel
theorem dL_law_364 : decode cL_law 364 = .ok (.invokevirtual 32, 3) := by decide +kernel
theorem dL_law_367 : decode cL_law 367 = .ok (.if_icmp .eq 910, 3) := by decide +kernel
theorem dL_law_370 : decode cL_law 370 = .ok (.iconst 0, 1) := by decide +kernel
theorem dL_law_371 : decode cL_law 371 = .ok (.ireturn, 1) := by decide +kernel
theorem dL_law_372 : decode cL_law 372 = .ok (.aload_n 1, 1) := by decide +kernel
theorem dL_law_373 : decode cL_law 373 = .ok (.aload_n 0, 1) := by decide +kernel
theorem dL_law_374 : decode cL_law 374 = .ok (.iload_n 3, 1) := by decide +kernel
theorem dL_law_375 : decode cL_law 375 = .ok (.iconst 1, 1) := by decide +kernel
theorem dL_law_376 : decode cL_law 376 = .ok (.iadd, 1) := by decide +kernel
theorem dL_law_377 : decode cL_law 377 = .ok (.iaload, 1) := by decide +kernel
theorem dL_law_378 : decode cL_law 378 = .ok (.invokevirtual 33, 3) := by decide +kernel
theorem dL_law_381 : decode cL_law 381 = .ok (.aload_n 2, 1) := by decide +kernel
theorem dL_law_382 : decode cL_law 382 = .ok (.aload_n 0, 1) := by decide +kernel
theorem dL_law_383 : decode cL_law 383 = .ok (.iload_n 3, 1) := by decide +kernel
theorem dL_law_384 : decode cL_law 384 = .ok (.iconst 1, 1) := by decide +kernel
theorem dL_law_385 : decode cL_law 385 = .ok (.iadd, 1) := by decide +kernel
theorem dL_law_386 : decode cL_law 386 = .ok (.iaload, 1) := by decide +kernel
theorem dL_law_387 : decode cL_law 387 = .ok (.invokevirtual 36, 3) := by decide +kernel
theorem dL_law_390 : decode cL_law 390 = .ok (.if_icmp .eq 887, 3) := by decide +kernel
theorem dL_law_393 : decode cL_law 393 = .ok (.iconst 0, 1) := by decide +kernel
theorem dL_law_394 : decode cL_law 394 = .ok (.ireturn, 1) := by decide +kernel
theorem dL_law_395 : decode cL_law 395 = .ok (.aload_n 1, 1) := by decide +kernel
theorem dL_law_396 : decode cL_law 396 = .ok (.aload_n 0, 1) := by decide +kernel
theorem dL_law_397 : decode cL_law 397 = .ok (.iload_n 3, 1) := by decide +kernel
theorem dL_law_398 : decode cL_law 398 = .ok (.iconst 1, 1) := by decide +kernel
theorem dL_law_399 : decode cL_law 399 = .ok (.iadd, 1) := by decide +kernel
theorem dL_law_400 : decode cL_law 400 = .ok (.iaload, 1) := by decide +kernel
theorem dL_law_401 : decode cL_law 401 = .ok (.invokevirtual 37, 3) := by decide +kernel
theorem dL_law_404 : decode cL_law 404 = .ok (.aload_n 2, 1) := by decide +kernel
theorem dL_law_405 : decode cL_law 405 = .ok (.aload_n 0, 1) := by decide +kernel
theorem dL_law_406 : decode cL_law 406 = .ok (.iload_n 3, 1) := by decide +kernel
theorem dL_law_407 : decode cL_law 407 = .ok (.iconst 1, 1) := by decide +kernel
theorem dL_law_408 : decode cL_law 408 = .ok (.iadd, 1) := by decide +kernel
theorem dL_law_409 : decode cL_law 409 = .ok (.iaload, 1) := by decide +kernel
theorem dL_law_410 : decode cL_law 410 = .ok (.invokevirtual 40, 3) := by decide +kernel
theorem dL_law_413 : decode cL_law 413 = .ok (.if_icmp .eq 864, 3) := by decide +kernel
theorem dL_law_416 : decode cL_law 416 = .ok (.iconst 0, 1) := by decide +kernel
theorem dL_law_417 : decode cL_law 417 = .ok (.ireturn, 1) := by decide +kernel
theorem dL_law_418 : decode cL_law 418 = .ok (.aload_n 1, 1) := by decide +kernel
theorem dL_law_419 : decode cL_law 419 = .ok (.invokevirtual 41, 3) := by decide +kernel
theorem dL_law_422 : decode cL_law 422 = .ok (.aload_n 2, 1) := by decide +kernel
theorem dL_law_423 : decode cL_law 423 = .ok (.invokevirtual 44, 3) := by decide +kernel
theorem dL_law_426 : decode cL_law 426 = .ok (.if_icmp .eq 851, 3) := by decide +kernel
theorem dL_law_429 : decode cL_law 429 = .ok (.iconst 0, 1) := by decide +kernel
theorem dL_law_430 : decode cL_law 430 = .ok (.ireturn, 1) := by decide +kernel
theorem dL_law_431 : decode cL_law 431 = .ok (.aload_n 1, 1) := by decide +kernel
theorem dL_law_432 : decode cL_law 432 = .ok (.invokevirtual 45, 3) := by decide +kernel
theorem dL_law_435 : decode cL_law 435 = .ok (.aload_n 2, 1) := by decide +kernel
theorem dL_law_436 : decode cL_law 436 = .ok (.invokevirtual 48, 3) := by decide +kernel
theorem dL_law_439 : decode cL_law 439 = .ok (.if_icmp .eq 838, 3) := by decide +kernel
theorem dL_law_442 : decode cL_law 442 = .ok (.iconst 0, 1) := by decide +kernel
theorem dL_law_443 : decode cL_law 443 = .ok (.ireturn, 1) := by decide +kernel
theorem dL_law_444 : decode cL_law 444 = .ok (.aload_n 1, 1) := by decide +kernel
theorem dL_law_445 : decode cL_law 445 = .ok (.aload_n 0, 1) := by decide +kernel
theorem dL_law_446 : decode cL_law 446 = .ok (.iload_n 3, 1) := by decide +kernel
theorem dL_law_447 : decode cL_law 447 = .ok (.iconst 1, 1) := by decide +kernel
theorem dL_law_448 : decode cL_law 448 = .ok (.iadd, 1) := by decide +kernel
theorem dL_law_449 : decode cL_law 449 = .ok (.iaload, 1) := by decide +kernel
theorem dL_law_450 : decode cL_law 450 = .ok (.invokevirtual 49, 3) := by decide +kernel
theorem dL_law_453 : decode cL_law 453 = .ok (.aload_n 2, 1) := by decide +kernel
theorem dL_law_454 : decode cL_law 454 = .ok (.aload_n 0, 1) := by decide +kernel
theorem dL_law_455 : decode cL_law 455 = .ok (.iload_n 3, 1) := by decide +kernel
theorem dL_law_456 : decode cL_law 456 = .ok (.iconst 1, 1) := by decide +kernel
theorem dL_law_457 : decode cL_law 457 = .ok (.iadd, 1) := by decide +kernel
theorem dL_law_458 : decode cL_law 458 = .ok (.iaload, 1) := by decide +kernel
theorem dL_law_459 : decode cL_law 459 = .ok (.invokevirtual 52, 3) := by decide +kernel
theorem dL_law_462 : decode cL_law 462 = .ok (.if_icmp .eq 815, 3) := by decide +kernel
theorem dL_law_465 : decode cL_law 465 = .ok (.iconst 0, 1) := by decide +kernel
theorem dL_law_466 : decode cL_law 466 = .ok (.ireturn, 1) := by decide +kernel
theorem dL_law_467 : decode cL_law 467 = .ok (.aload_n 1, 1) := by decide +kernel
theorem dL_law_468 : decode cL_law 468 = .ok (.aload_n 0, 1) := by decide +kernel
theorem dL_law_469 : decode cL_law 469 = .ok (.iload_n 3, 1) := by decide +kernel
theorem dL_law_470 : decode cL_law 470 = .ok (.iconst 1, 1) := by decide +kernel
theorem dL_law_471 : decode cL_law 471 = .ok (.iadd, 1) := by decide +kernel
theorem dL_law_472 : decode cL_law 472 = .ok (.iaload, 1) := by decide +kernel
theorem dL_law_473 : decode cL_law 473 = .ok (.ifCond .eq 7, 3) := by decide +kernel
theorem dL_law_476 : decode cL_law 476 = .ok (.iconst 1, 1) := by decide +kernel
theorem dL_law_477 : decode cL_law 477 = .ok (.goto 4, 3) := by decide +kernel
theorem dL_law_480 : decode cL_law 480 = .ok (.iconst 0, 1) := by decide +kernel
theorem dL_law_481 : decode cL_law 481 = .ok (.invokevirtual 53, 3) := by decide +kernel
theorem dL_law_484 : decode cL_law 484 = .ok (.aload_n 2, 1) := by decide +kernel
theorem dL_law_485 : decode cL_law 485 = .ok (.aload_n 0, 1) := by decide +kernel
theorem dL_law_486 : decode cL_law 486 = .ok (.iload_n 3, 1) := by decide +kernel
theorem dL_law_487 : decode cL_law 487 = .ok (.iconst 1, 1) := by decide +kernel
theorem dL_law_488 : decode cL_law 488 = .ok (.iadd, 1) := by decide +kernel
theorem dL_law_489 : decode cL_law 489 = .ok (.iaload, 1) := by decide +kernel
theorem dL_law_490 : decode cL_law 490 = .ok (.ifCond .eq 7, 3) := by decide +kernel
theorem dL_law_493 : decode cL_law 493 = .ok (.iconst 1, 1) := by decide +kernel
theorem dL_law_494 : decode cL_law 494 = .ok (.goto 4, 3) := by decide +kernel
theorem dL_law_497 : decode cL_law 497 = .ok (.iconst 0, 1) := by decide +kernel
theorem dL_law_498 : decode cL_law 498 = .ok (.invokevirtual 57, 3) := by decide +kernel
theorem dL_law_501 : decode cL_law 501 = .ok (.if_icmp .eq 776, 3) := by decide +kernel
theorem dL_law_504 : decode cL_law 504 = .ok (.iconst 0, 1) := by decide +kernel
theorem dL_law_505 : decode cL_law 505 = .ok (.ireturn, 1) := by decide +kernel
theorem dL_law_506 : decode cL_law 506 = .ok (.aload_n 1, 1) := by decide +kernel
theorem dL_law_507 : decode cL_law 507 = .ok (.aload_n 0, 1) := by decide +kernel
theorem dL_law_508 : decode cL_law 508 = .ok (.iload_n 3, 1) := by decide +kernel
theorem dL_law_509 : decode cL_law 509 = .ok (.iconst 1, 1) := by decide +kernel
theorem dL_law_510 : decode cL_law 510 = .ok (.iadd, 1) := by decide +kernel
theorem dL_law_511 : decode cL_law 511 = .ok (.iaload, 1) := by decide +kernel
theorem dL_law_512 : decode cL_law 512 = .ok (.invokevirtual 58, 3) := by decide +kernel
theorem dL_law_515 : decode cL_law 515 = .ok (.aload_n 2, 1) := by decide +kernel
theorem dL_law_516 : decode cL_law 516 = .ok (.aload_n 0, 1) := by decide +kernel
theorem dL_law_517 : decode cL_law 517 = .ok (.iload_n 3, 1) := by decide +kernel
theorem dL_law_518 : decode cL_law 518 = .ok (.iconst 1, 1) := by decide +kernel
theorem dL_law_519 : decode cL_law 519 = .ok (.iadd, 1) := by decide +kernel
theorem dL_law_520 : decode cL_law 520 = .ok (.iaload, 1) := by decide +kernel
theorem dL_law_521 : decode cL_law 521 = .ok (.invokevirtual 61, 3) := by decide +kernel
theorem dL_law_524 : decode cL_law 524 = .ok (.if_icmp .eq 753, 3) := by decide +kernel
theorem dL_law_527 : decode cL_law 527 = .ok (.iconst 0, 1) := by decide +kernel
theorem dL_law_528 : decode cL_law 528 = .ok (.ireturn, 1) := by decide +kernel
theorem dL_law_529 : decode cL_law 529 = .ok (.aload_n 1, 1) := by decide +kernel
theorem dL_law_530 : decode cL_law 530 = .ok (.invokevirtual 62, 3) := by decide +kernel
theorem dL_law_533 : decode cL_law 533 = .ok (.aload_n 2, 1) := by decide +kernel
theorem dL_law_534 : decode cL_law 534 = .ok (.invokevirtual 65, 3) := by decide +kernel
theorem dL_law_537 : decode cL_law 537 = .ok (.if_icmp .eq 740, 3) := by decide +kernel
theorem dL_law_540 : decode cL_law 540 = .ok (.iconst 0, 1) := by decide +kernel
theorem dL_law_541 : decode cL_law 541 = .ok (.ireturn, 1) := by decide +kernel
theorem dL_law_542 : decode cL_law 542 = .ok (.aload_n 1, 1) := by decide +kernel
theorem dL_law_543 : decode cL_law 543 = .ok (.aload_n 0, 1) := by decide +kernel
theorem dL_law_544 : decode cL_law 544 = .ok (.iload_n 3, 1) := by decide +kernel
theorem dL_law_545 : decode cL_law 545 = .ok (.iconst 1, 1) := by decide +kernel
theorem dL_law_546 : decode cL_law 546 = .ok (.iadd, 1) := by decide +kernel
theorem dL_law_547 : decode cL_law 547 = .ok (.iaload, 1) := by decide +kernel
theorem dL_law_548 : decode cL_law 548 = .ok (.invokevirtual 66, 3) := by decide +kernel
theorem dL_law_551 : decode cL_law 551 = .ok (.aload_n 2, 1) := by decide +kernel
theorem dL_law_552 : decode cL_law 552 = .ok (.aload_n 0, 1) := by decide +kernel
theorem dL_law_553 : decode cL_law 553 = .ok (.iload_n 3, 1) := by decide +kernel
theorem dL_law_554 : decode cL_law 554 = .ok (.iconst 1, 1) := by decide +kernel
theorem dL_law_555 : decode cL_law 555 = .ok (.iadd, 1) := by decide +kernel
theorem dL_law_556 : decode cL_law 556 = .ok (.iaload, 1) := by decide +kernel
theorem dL_law_557 : decode cL_law 557 = .ok (.invokevirtual 69, 3) := by decide +kernel
theorem dL_law_560 : decode cL_law 560 = .ok (.if_icmp .eq 717, 3) := by decide +kernel
theorem dL_law_563 : decode cL_law 563 = .ok (.iconst 0, 1) := by decide +kernel
theorem dL_law_564 : decode cL_law 564 = .ok (.ireturn, 1) := by decide +kernel
theorem dL_law_565 : decode cL_law 565 = .ok (.aload_n 1, 1) := by decide +kernel
theorem dL_law_566 : decode cL_law 566 = .ok (.invokevirtual 70, 3) := by decide +kernel
theorem dL_law_569 : decode cL_law 569 = .ok (.aload_n 2, 1) := by decide +kernel
theorem dL_law_570 : decode cL_law 570 = .ok (.invokevirtual 73, 3) := by decide +kernel
theorem dL_law_573 : decode cL_law 573 = .ok (.if_icmp .eq 704, 3) := by decide +kernel
theorem dL_law_576 : decode cL_law 576 = .ok (.iconst 0, 1) := by decide +kernel
theorem dL_law_577 : decode cL_law 577 = .ok (.ireturn, 1) := by decide +kernel
theorem dL_law_578 : decode cL_law 578 = .ok (.aload_n 1, 1) := by decide +kernel
theorem dL_law_579 : decode cL_law 579 = .ok (.aload_n 0, 1) := by decide +kernel
theorem dL_law_580 : decode cL_law 580 = .ok (.iload_n 3, 1) := by decide +kernel
theorem dL_law_581 : decode cL_law 581 = .ok (.iconst 1, 1) := by decide +kernel
theorem dL_law_582 : decode cL_law 582 = .ok (.iadd, 1) := by decide +kernel
theorem dL_law_583 : decode cL_law 583 = .ok (.iaload, 1) := by decide +kernel
theorem dL_law_584 : decode cL_law 584 = .ok (.ifCond .eq 7, 3) := by decide +kernel
theorem dL_law_587 : decode cL_law 587 = .ok (.iconst 1, 1) := by decide +kernel
theorem dL_law_588 : decode cL_law 588 = .ok (.goto 4, 3) := by decide +kernel
theorem dL_law_591 : decode cL_law 591 = .ok (.iconst 0, 1) := by decide +kernel
theorem dL_law_592 : decode cL_law 592 = .ok (.invokevirtual 74, 3) := by decide +kernel
theorem dL_law_595 : decode cL_law 595 = .ok (.aload_n 2, 1) := by decide +kernel
theorem dL_law_596 : decode cL_law 596 = .ok (.aload_n 0, 1) := by decide +kernel
theorem dL_law_597 : decode cL_law 597 = .ok (.iload_n 3, 1) := by decide +kernel
theorem dL_law_598 : decode cL_law 598 = .ok (.iconst 1, 1) := by decide +kernel
theorem dL_law_599 : decode cL_law 599 = .ok (.iadd, 1) := by decide +kernel
theorem dL_law_600 : decode cL_law 600 = .ok (.iaload, 1) := by decide +kernel
theorem dL_law_601 : decode cL_law 601 = .ok (.ifCond .eq 7, 3) := by decide +kernel
theorem dL_law_604 : decode cL_law 604 = .ok (.iconst 1, 1) := by decide +kernel
theorem dL_law_605 : decode cL_law 605 = .ok (.goto 4, 3) := by decide +kernel
theorem dL_law_608 : decode cL_law 608 = .ok (.iconst 0, 1) := by decide +kernel
theorem dL_law_609 : decode cL_law 609 = .ok (.invokevirtual 77, 3) := by decide +kernel
theorem dL_law_612 : decode cL_law 612 = .ok (.if_icmp .eq 665, 3) := by decide +kernel
theorem dL_law_615 : decode cL_law 615 = .ok (.iconst 0, 1) := by decide +kernel
theorem dL_law_616 : decode cL_law 616 = .ok (.ireturn, 1) := by decide +kernel
theorem dL_law_617 : decode cL_law 617 = .ok (.aload_n 1, 1) := by decide +kernel
theorem dL_law_618 : decode cL_law 618 = .ok (.aload_n 0, 1) := by decide +kernel
theorem dL_law_619 : decode cL_law 619 = .ok (.iload_n 3, 1) := by decide +kernel
theorem dL_law_620 : decode cL_law 620 = .ok (.iconst 1, 1) := by decide +kernel
theorem dL_law_621 : decode cL_law 621 = .ok (.iadd, 1) := by decide +kernel
theorem dL_law_622 : decode cL_law 622 = .ok (.iaload, 1) := by decide +kernel
theorem dL_law_623 : decode cL_law 623 = .ok (.aload_n 0, 1) := by decide +kernel
theorem dL_law_624 : decode cL_law 624 = .ok (.iload_n 3, 1) := by decide +kernel
theorem dL_law_625 : decode cL_law 625 = .ok (.iconst 2, 1) := by decide +kernel
theorem dL_law_626 : decode cL_law 626 = .ok (.iadd, 1) := by decide +kernel
theorem dL_law_627 : decode cL_law 627 = .ok (.iaload, 1) := by decide +kernel
theorem dL_law_628 : decode cL_law 628 = .ok (.invokevirtual 78, 3) := by decide +kernel
theorem dL_law_631 : decode cL_law 631 = .ok (.aload_n 2, 1) := by decide +kernel
theorem dL_law_632 : decode cL_law 632 = .ok (.aload_n 0, 1) := by decide +kernel
theorem dL_law_633 : decode cL_law 633 = .ok (.iload_n 3, 1) := by decide +kernel
theorem dL_law_634 : decode cL_law 634 = .ok (.iconst 1, 1) := by decide +kernel
theorem dL_law_635 : decode cL_law 635 = .ok (.iadd, 1) := by decide +kernel
theorem dL_law_636 : decode cL_law 636 = .ok (.iaload, 1) := by decide +kernel
theorem dL_law_637 : decode cL_law 637 = .ok (.aload_n 0, 1) := by decide +kernel
theorem dL_law_638 : decode cL_law 638 = .ok (.iload_n 3, 1) := by decide +kernel
theorem dL_law_639 : decode cL_law 639 = .ok (.iconst 2, 1) := by decide +kernel
theorem dL_law_640 : decode cL_law 640 = .ok (.iadd, 1) := by decide +kernel
theorem dL_law_641 : decode cL_law 641 = .ok (.iaload, 1) := by decide +kernel
theorem dL_law_642 : decode cL_law 642 = .ok (.invokevirtual 81, 3) := by decide +kernel
theorem dL_law_645 : decode cL_law 645 = .ok (.if_icmp .eq 632, 3) := by decide +kernel
theorem dL_law_648 : decode cL_law 648 = .ok (.iconst 0, 1) := by decide +kernel
theorem dL_law_649 : decode cL_law 649 = .ok (.ireturn, 1) := by decide +kernel
theorem dL_law_650 : decode cL_law 650 = .ok (.aload_n 1, 1) := by decide +kernel
theorem dL_law_651 : decode cL_law 651 = .ok (.invokevirtual 82, 3) := by decide +kernel
theorem dL_law_654 : decode cL_law 654 = .ok (.aload_n 2, 1) := by decide +kernel
theorem dL_law_655 : decode cL_law 655 = .ok (.invokevirtual 85, 3) := by decide +kernel
theorem dL_law_658 : decode cL_law 658 = .ok (.if_icmp .eq 619, 3) := by decide +kernel
theorem dL_law_661 : decode cL_law 661 = .ok (.iconst 0, 1) := by decide +kernel
theorem dL_law_662 : decode cL_law 662 = .ok (.ireturn, 1) := by decide +kernel
theorem dL_law_663 : decode cL_law 663 = .ok (.aload_n 1, 1) := by decide +kernel
theorem dL_law_664 : decode cL_law 664 = .ok (.invokevirtual 86, 3) := by decide +kernel
theorem dL_law_667 : decode cL_law 667 = .ok (.aload_n 2, 1) := by decide +kernel
theorem dL_law_668 : decode cL_law 668 = .ok (.invokevirtual 89, 3) := by decide +kernel
theorem dL_law_671 : decode cL_law 671 = .ok (.if_icmp .eq 606, 3) := by decide +kernel
theorem dL_law_674 : decode cL_law 674 = .ok (.iconst 0, 1) := by decide +kernel
theorem dL_law_675 : decode cL_law 675 = .ok (.ireturn, 1) := by decide +kernel
theorem dL_law_676 : decode cL_law 676 = .ok (.aload_n 1, 1) := by decide +kernel
theorem dL_law_677 : decode cL_law 677 = .ok (.aload_n 0, 1) := by decide +kernel
theorem dL_law_678 : decode cL_law 678 = .ok (.iload_n 3, 1) := by decide +kernel
theorem dL_law_679 : decode cL_law 679 = .ok (.iconst 1, 1) := by decide +kernel
theorem dL_law_680 : decode cL_law 680 = .ok (.iadd, 1) := by decide +kernel
theorem dL_law_681 : decode cL_law 681 = .ok (.iaload, 1) := by decide +kernel
theorem dL_law_682 : decode cL_law 682 = .ok (.invokevirtual 90, 3) := by decide +kernel
theorem dL_law_685 : decode cL_law 685 = .ok (.aload_n 2, 1) := by decide +kernel
theorem dL_law_686 : decode cL_law 686 = .ok (.aload_n 0, 1) := by decide +kernel
theorem dL_law_687 : decode cL_law 687 = .ok (.iload_n 3, 1) := by decide +kernel
theorem dL_law_688 : decode cL_law 688 = .ok (.iconst 1, 1) := by decide +kernel
theorem dL_law_689 : decode cL_law 689 = .ok (.iadd, 1) := by decide +kernel
theorem dL_law_690 : decode cL_law 690 = .ok (.iaload, 1) := by decide +kernel
theorem dL_law_691 : decode cL_law 691 = .ok (.invokevirtual 93, 3) := by decide +kernel
theorem dL_law_694 : decode cL_law 694 = .ok (.if_icmp .eq 583, 3) := by decide +kernel
theorem dL_law_697 : decode cL_law 697 = .ok (.iconst 0, 1) := by decide +kernel
theorem dL_law_698 : decode cL_law 698 = .ok (.ireturn, 1) := by decide +kernel
theorem dL_law_699 : decode cL_law 699 = .ok (.aload_n 1, 1) := by decide +kernel
theorem dL_law_700 : decode cL_law 700 = .ok (.aload_n 0, 1) := by decide +kernel
theorem dL_law_701 : decode cL_law 701 = .ok (.iload_n 3, 1) := by decide +kernel
theorem dL_law_702 : decode cL_law 702 = .ok (.iconst 1, 1) := by decide +kernel
theorem dL_law_703 : decode cL_law 703 = .ok (.iadd, 1) := by decide +kernel
theorem dL_law_704 : decode cL_law 704 = .ok (.iaload, 1) := by decide +kernel
theorem dL_law_705 : decode cL_law 705 = .ok (.aload_n 0, 1) := by decide +kernel
theorem dL_law_706 : decode cL_law 706 = .ok (.iload_n 3, 1) := by decide +kernel
theorem dL_law_707 : decode cL_law 707 = .ok (.iconst 2, 1) := by decide +kernel
theorem dL_law_708 : decode cL_law 708 = .ok (.iadd, 1) := by decide +kernel
theorem dL_law_709 : decode cL_law 709 = .ok (.iaload, 1) := by decide +kernel
theorem dL_law_710 : decode cL_law 710 = .ok (.invokevirtual 94, 3) := by decide +kernel
theorem dL_law_713 : decode cL_law 713 = .ok (.aload_n 2, 1) := by decide +kernel
theorem dL_law_714 : decode cL_law 714 = .ok (.aload_n 0, 1) := by decide +kernel
theorem dL_law_715 : decode cL_law 715 = .ok (.iload_n 3, 1) := by decide +kernel
theorem dL_law_716 : decode cL_law 716 = .ok (.iconst 1, 1) := by decide +kernel
theorem dL_law_717 : decode cL_law 717 = .ok (.iadd, 1) := by decide +kernel
theorem dL_law_718 : decode cL_law 718 = .ok (.iaload, 1) := by decide +kernel
theorem dL_law_719 : decode cL_law 719 = .ok (.aload_n 0, 1) := by decide +kernel
theorem dL_law_720 : decode cL_law 720 = .ok (.iload_n 3, 1) := by decide +kernel
theorem dL_law_721 : decode cL_law 721 = .ok (.iconst 2, 1) := by decide +kernel
theorem dL_law_722 : decode cL_law 722 = .ok (.iadd, 1) := by decide +kernel
theorem dL_law_723 : decode cL_law 723 = .ok (.iaload, 1) := by decide +kernel
theorem dL_law_724 : decode cL_law 724 = .ok (.invokevirtual 97, 3) := by decide +kernel
theorem dL_law_727 : decode cL_law 727 = .ok (.if_icmp .eq 550, 3) := by decide +kernel
theorem dL_law_730 : decode cL_law 730 = .ok (.iconst 0, 1) := by decide +kernel
theorem dL_law_731 : decode cL_law 731 = .ok (.ireturn, 1) := by decide +kernel
theorem dL_law_732 : decode cL_law 732 = .ok (.aload_n 1, 1) := by decide +kernel
theorem dL_law_733 : decode cL_law 733 = .ok (.aload_n 0, 1) := by decide +kernel
theorem dL_law_734 : decode cL_law 734 = .ok (.iload_n 3, 1) := by decide +kernel
theorem dL_law_735 : decode cL_law 735 = .ok (.iconst 1, 1) := by decide +kernel
theorem dL_law_736 : decode cL_law 736 = .ok (.iadd, 1) := by decide +kernel
theorem dL_law_737 : decode cL_law 737 = .ok (.iaload, 1) := by decide +kernel
theorem dL_law_738 : decode cL_law 738 = .ok (.aload_n 0, 1) := by decide +kernel
theorem dL_law_739 : decode cL_law 739 = .ok (.iload_n 3, 1) := by decide +kernel
theorem dL_law_740 : decode cL_law 740 = .ok (.iconst 2, 1) := by decide +kernel
theorem dL_law_741 : decode cL_law 741 = .ok (.iadd, 1) := by decide +kernel
theorem dL_law_742 : decode cL_law 742 = .ok (.iaload, 1) := by decide +kernel
theorem dL_law_743 : decode cL_law 743 = .ok (.invokevirtual 98, 3) := by decide +kernel
theorem dL_law_746 : decode cL_law 746 = .ok (.aload_n 2, 1) := by decide +kernel
theorem dL_law_747 : decode cL_law 747 = .ok (.aload_n 0, 1) := by decide +kernel
theorem dL_law_748 : decode cL_law 748 = .ok (.iload_n 3, 1) := by decide +kernel
theorem dL_law_749 : decode cL_law 749 = .ok (.iconst 1, 1) := by decide +kernel
theorem dL_law_750 : decode cL_law 750 = .ok (.iadd, 1) := by decide +kernel
theorem dL_law_751 : decode cL_law 751 = .ok (.iaload, 1) := by decide +kernel
theorem dL_law_752 : decode cL_law 752 = .ok (.aload_n 0, 1) := by decide +kernel
theorem dL_law_753 : decode cL_law 753 = .ok (.iload_n 3, 1) := by decide +kernel
theorem dL_law_754 : decode cL_law 754 = .ok (.iconst 2, 1) := by decide +kernel
theorem dL_law_755 : decode cL_law 755 = .ok (.iadd, 1) := by decide +kernel
theorem dL_law_756 : decode cL_law 756 = .ok (.iaload, 1) := by decide +kernel
theorem dL_law_757 : decode cL_law 757 = .ok (.invokevirtual 101, 3) := by decide +kernel
theorem dL_law_760 : decode cL_law 760 = .ok (.if_icmp .eq 517, 3) := by decide +kernel
theorem dL_law_763 : decode cL_law 763 = .ok (.iconst 0, 1) := by decide +kernel
theorem dL_law_764 : decode cL_law 764 = .ok (.ireturn, 1) := by decide +kernel
theorem dL_law_765 : decode cL_law 765 = .ok (.aload_n 1, 1) := by decide +kernel
theorem dL_law_766 : decode cL_law 766 = .ok (.aload_n 0, 1) := by decide +kernel
theorem dL_law_767 : decode cL_law 767 = .ok (.iload_n 3, 1) := by decide +kernel
theorem dL_law_768 : decode cL_law 768 = .ok (.iconst 1, 1) := by decide +kernel
theorem dL_law_769 : decode cL_law 769 = .ok (.iadd, 1) := by decide +kernel
theorem dL_law_770 : decode cL_law 770 = .ok (.iaload, 1) := by decide +kernel
theorem dL_law_771 : decode cL_law 771 = .ok (.invokevirtual 102, 3) := by decide +kernel
theorem dL_law_774 : decode cL_law 774 = .ok (.aload_n 2, 1) := by decide +kernel
theorem dL_law_775 : decode cL_law 775 = .ok (.aload_n 0, 1) := by decide +kernel
theorem dL_law_776 : decode cL_law 776 = .ok (.iload_n 3, 1) := by decide +kernel
theorem dL_law_777 : decode cL_law 777 = .ok (.iconst 1, 1) := by decide +kernel
theorem dL_law_778 : decode cL_law 778 = .ok (.iadd, 1) := by decide +kernel
theorem dL_law_779 : decode cL_law 779 = .ok (.iaload, 1) := by decide +kernel
theorem dL_law_780 : decode cL_law 780 = .ok (.invokevirtual 105, 3) := by decide +kernel
theorem dL_law_783 : decode cL_law 783 = .ok (.if_icmp .eq 494, 3) := by decide +kernel
theorem dL_law_786 : decode cL_law 786 = .ok (.iconst 0, 1) := by decide +kernel
theorem dL_law_787 : decode cL_law 787 = .ok (.ireturn, 1) := by decide +kernel
theorem dL_law_788 : decode cL_law 788 = .ok (.aload_n 1, 1) := by decide +kernel
theorem dL_law_789 : decode cL_law 789 = .ok (.aload_n 0, 1) := by decide +kernel
theorem dL_law_790 : decode cL_law 790 = .ok (.iload_n 3, 1) := by decide +kernel
theorem dL_law_791 : decode cL_law 791 = .ok (.iconst 1, 1) := by decide +kernel
theorem dL_law_792 : decode cL_law 792 = .ok (.iadd, 1) := by decide +kernel
theorem dL_law_793 : decode cL_law 793 = .ok (.iaload, 1) := by decide +kernel
theorem dL_law_794 : decode cL_law 794 = .ok (.invokevirtual 106, 3) := by decide +kernel
theorem dL_law_797 : decode cL_law 797 = .ok (.aload_n 2, 1) := by decide +kernel
theorem dL_law_798 : decode cL_law 798 = .ok (.aload_n 0, 1) := by decide +kernel
theorem dL_law_799 : decode cL_law 799 = .ok (.iload_n 3, 1) := by decide +kernel
theorem dL_law_800 : decode cL_law 800 = .ok (.iconst 1, 1) := by decide +kernel
theorem dL_law_801 : decode cL_law 801 = .ok (.iadd, 1) := by decide +kernel
theorem dL_law_802 : decode cL_law 802 = .ok (.iaload, 1) := by decide +kernel
theorem dL_law_803 : decode cL_law 803 = .ok (.invokevirtual 109, 3) := by decide +kernel
theorem dL_law_806 : decode cL_law 806 = .ok (.if_icmp .eq 471, 3) := by decide +kernel
theorem dL_law_809 : decode cL_law 809 = .ok (.iconst 0, 1) := by decide +kernel
theorem dL_law_810 : decode cL_law 810 = .ok (.ireturn, 1) := by decide +kernel
theorem dL_law_811 : decode cL_law 811 = .ok (.aload_n 1, 1) := by decide +kernel
theorem dL_law_812 : decode cL_law 812 = .ok (.invokevirtual 110, 3) := by decide +kernel
theorem dL_law_815 : decode cL_law 815 = .ok (.aload_n 2, 1) := by decide +kernel
theorem dL_law_816 : decode cL_law 816 = .ok (.invokevirtual 113, 3) := by decide +kernel
theorem dL_law_819 : decode cL_law 819 = .ok (.if_icmp .eq 458, 3) := by decide +kernel
theorem dL_law_822 : decode cL_law 822 = .ok (.iconst 0, 1) := by decide +kernel
theorem dL_law_823 : decode cL_law 823 = .ok (.ireturn, 1) := by decide +kernel
theorem dL_law_824 : decode cL_law 824 = .ok (.aload_n 1, 1) := by decide +kernel
theorem dL_law_825 : decode cL_law 825 = .ok (.invokevirtual 114, 3) := by decide +kernel
theorem dL_law_828 : decode cL_law 828 = .ok (.aload_n 2, 1) := by decide +kernel
theorem dL_law_829 : decode cL_law 829 = .ok (.invokevirtual 117, 3) := by decide +kernel
theorem dL_law_832 : decode cL_law 832 = .ok (.if_icmp .eq 445, 3) := by decide +kernel
theorem dL_law_835 : decode cL_law 835 = .ok (.iconst 0, 1) := by decide +kernel
theorem dL_law_836 : decode cL_law 836 = .ok (.ireturn, 1) := by decide +kernel
theorem dL_law_837 : decode cL_law 837 = .ok (.aload_n 1, 1) := by decide +kernel
theorem dL_law_838 : decode cL_law 838 = .ok (.aload_n 0, 1) := by decide +kernel
theorem dL_law_839 : decode cL_law 839 = .ok (.iload_n 3, 1) := by decide +kernel
theorem dL_law_840 : decode cL_law 840 = .ok (.iconst 1, 1) := by decide +kernel
theorem dL_law_841 : decode cL_law 841 = .ok (.iadd, 1) := by decide +kernel
theorem dL_law_842 : decode cL_law 842 = .ok (.iaload, 1) := by decide +kernel
theorem dL_law_843 : decode cL_law 843 = .ok (.invokevirtual 118, 3) := by decide +kernel
theorem dL_law_846 : decode cL_law 846 = .ok (.aload_n 2, 1) := by decide +kernel
theorem dL_law_847 : decode cL_law 847 = .ok (.aload_n 0, 1) := by decide +kernel
theorem dL_law_848 : decode cL_law 848 = .ok (.iload_n 3, 1) := by decide +kernel
theorem dL_law_849 : decode cL_law 849 = .ok (.iconst 1, 1) := by decide +kernel
theorem dL_law_850 : decode cL_law 850 = .ok (.iadd, 1) := by decide +kernel
theorem dL_law_851 : decode cL_law 851 = .ok (.iaload, 1) := by decide +kernel
theorem dL_law_852 : decode cL_law 852 = .ok (.invokevirtual 121, 3) := by decide +kernel
theorem dL_law_855 : decode cL_law 855 = .ok (.if_icmp .eq 422, 3) := by decide +kernel
theorem dL_law_858 : decode cL_law 858 = .ok (.iconst 0, 1) := by decide +kernel
theorem dL_law_859 : decode cL_law 859 = .ok (.ireturn, 1) := by decide +kernel
theorem dL_law_860 : decode cL_law 860 = .ok (.aload_n 1, 1) := by decide +kernel
theorem dL_law_861 : decode cL_law 861 = .ok (.aload_n 0, 1) := by decide +kernel
theorem dL_law_862 : decode cL_law 862 = .ok (.iload_n 3, 1) := by decide +kernel
theorem dL_law_863 : decode cL_law 863 = .ok (.iconst 1, 1) := by decide +kernel
theorem dL_law_864 : decode cL_law 864 = .ok (.iadd, 1) := by decide +kernel
theorem dL_law_865 : decode cL_law 865 = .ok (.iaload, 1) := by decide +kernel
theorem dL_law_866 : decode cL_law 866 = .ok (.invokevirtual 122, 3) := by decide +kernel
theorem dL_law_869 : decode cL_law 869 = .ok (.aload_n 2, 1) := by decide +kernel
theorem dL_law_870 : decode cL_law 870 = .ok (.aload_n 0, 1) := by decide +kernel
theorem dL_law_871 : decode cL_law 871 = .ok (.iload_n 3, 1) := by decide +kernel
theorem dL_law_872 : decode cL_law 872 = .ok (.iconst 1, 1) := by decide +kernel
theorem dL_law_873 : decode cL_law 873 = .ok (.iadd, 1) := by decide +kernel
theorem dL_law_874 : decode cL_law 874 = .ok (.iaload, 1) := by decide +kernel
theorem dL_law_875 : decode cL_law 875 = .ok (.invokevirtual 125, 3) := by decide +kernel
theorem dL_law_878 : decode cL_law 878 = .ok (.if_icmp .eq 399, 3) := by decide +kernel
theorem dL_law_881 : decode cL_law 881 = .ok (.iconst 0, 1) := by decide +kernel
theorem dL_law_882 : decode cL_law 882 = .ok (.ireturn, 1) := by decide +kernel
theorem dL_law_883 : decode cL_law 883 = .ok (.aload_n 1, 1) := by decide +kernel
theorem dL_law_884 : decode cL_law 884 = .ok (.aload_n 0, 1) := by decide +kernel
theorem dL_law_885 : decode cL_law 885 = .ok (.iload_n 3, 1) := by decide +kernel
theorem dL_law_886 : decode cL_law 886 = .ok (.iconst 1, 1) := by decide +kernel
theorem dL_law_887 : decode cL_law 887 = .ok (.iadd, 1) := by decide +kernel
theorem dL_law_888 : decode cL_law 888 = .ok (.iaload, 1) := by decide +kernel
theorem dL_law_889 : decode cL_law 889 = .ok (.invokevirtual 126, 3) := by decide +kernel
theorem dL_law_892 : decode cL_law 892 = .ok (.aload_n 2, 1) := by decide +kernel
theorem dL_law_893 : decode cL_law 893 = .ok (.aload_n 0, 1) := by decide +kernel
theorem dL_law_894 : decode cL_law 894 = .ok (.iload_n 3, 1) := by decide +kernel
theorem dL_law_895 : decode cL_law 895 = .ok (.iconst 1, 1) := by decide +kernel
theorem dL_law_896 : decode cL_law 896 = .ok (.iadd, 1) := by decide +kernel
theorem dL_law_897 : decode cL_law 897 = .ok (.iaload, 1) := by decide +kernel
theorem dL_law_898 : decode cL_law 898 = .ok (.invokevirtual 129, 3) := by decide +kernel
theorem dL_law_901 : decode cL_law 901 = .ok (.if_icmp .eq 376, 3) := by decide +kernel
theorem dL_law_904 : decode cL_law 904 = .ok (.iconst 0, 1) := by decide +kernel
theorem dL_law_905 : decode cL_law 905 = .ok (.ireturn, 1) := by decide +kernel
theorem dL_law_906 : decode cL_law 906 = .ok (.aload_n 1, 1) := by decide +kernel
theorem dL_law_907 : decode cL_law 907 = .ok (.invokevirtual 130, 3) := by decide +kernel
theorem dL_law_910 : decode cL_law 910 = .ok (.aload_n 2, 1) := by decide +kernel
theorem dL_law_911 : decode cL_law 911 = .ok (.invokevirtual 133, 3) := by decide +kernel
theorem dL_law_914 : decode cL_law 914 = .ok (.if_icmp .eq 363, 3) := by decide +kernel
theorem dL_law_917 : decode cL_law 917 = .ok (.iconst 0, 1) := by decide +kernel
theorem dL_law_918 : decode cL_law 918 = .ok (.ireturn, 1) := by decide +kernel
theorem dL_law_919 : decode cL_law 919 = .ok (.aload_n 1, 1) := by decide +kernel
theorem dL_law_920 : decode cL_law 920 = .ok (.aload_n 0, 1) := by decide +kernel
theorem dL_law_921 : decode cL_law 921 = .ok (.iload_n 3, 1) := by decide +kernel
theorem dL_law_922 : decode cL_law 922 = .ok (.iconst 1, 1) := by decide +kernel
theorem dL_law_923 : decode cL_law 923 = .ok (.iadd, 1) := by decide +kernel
theorem dL_law_924 : decode cL_law 924 = .ok (.iaload, 1) := by decide +kernel
theorem dL_law_925 : decode cL_law 925 = .ok (.aload_n 0, 1) := by decide +kernel
theorem dL_law_926 : decode cL_law 926 = .ok (.iload_n 3, 1) := by decide +kernel
theorem dL_law_927 : decode cL_law 927 = .ok (.iconst 2, 1) := by decide +kernel
theorem dL_law_928 : decode cL_law 928 = .ok (.iadd, 1) := by decide +kernel
theorem dL_law_929 : decode cL_law 929 = .ok (.iaload, 1) := by decide +kernel
theorem dL_law_930 : decode cL_law 930 = .ok (.invokevirtual 134, 3) := by decide +kernel
theorem dL_law_933 : decode cL_law 933 = .ok (.aload_n 2, 1) := by decide +kernel
theorem dL_law_934 : decode cL_law 934 = .ok (.aload_n 0, 1) := by decide +kernel
theorem dL_law_935 : decode cL_law 935 = .ok (.iload_n 3, 1) := by decide +kernel
theorem dL_law_936 : decode cL_law 936 = .ok (.iconst 1, 1) := by decide +kernel
theorem dL_law_937 : decode cL_law 937 = .ok (.iadd, 1) := by decide +kernel
theorem dL_law_938 : decode cL_law 938 = .ok (.iaload, 1) := by decide +kernel
theorem dL_law_939 : decode cL_law 939 = .ok (.aload_n 0, 1) := by decide +kernel
theorem dL_law_940 : decode cL_law 940 = .ok (.iload_n 3, 1) := by decide +kernel
theorem dL_law_941 : decode cL_law 941 = .ok (.iconst 2, 1) := by decide +kernel
theorem dL_law_942 : decode cL_law 942 = .ok (.iadd, 1) := by decide +kernel
theorem dL_law_943 : decode cL_law 943 = .ok (.iaload, 1) := by decide +kernel
theorem dL_law_944 : decode cL_law 944 = .ok (.invokevirtual 137, 3) := by decide +kernel
theorem dL_law_947 : decode cL_law 947 = .ok (.if_icmp .eq 330, 3) := by decide +kernel
theorem dL_law_950 : decode cL_law 950 = .ok (.iconst 0, 1) := by decide +kernel
theorem dL_law_951 : decode cL_law 951 = .ok (.ireturn, 1) := by decide +kernel
theorem dL_law_952 : decode cL_law 952 = .ok (.aload_n 1, 1) := by decide +kernel
theorem dL_law_953 : decode cL_law 953 = .ok (.invokevirtual 138, 3) := by decide +kernel
theorem dL_law_956 : decode cL_law 956 = .ok (.aload_n 2, 1) := by decide +kernel
theorem dL_law_957 : decode cL_law 957 = .ok (.invokevirtual 141, 3) := by decide +kernel
theorem dL_law_960 : decode cL_law 960 = .ok (.if_icmp .eq 317, 3) := by decide +kernel
theorem dL_law_963 : decode cL_law 963 = .ok (.iconst 0, 1) := by decide +kernel
theorem dL_law_964 : decode cL_law 964 = .ok (.ireturn, 1) := by decide +kernel
theorem dL_law_965 : decode cL_law 965 = .ok (.aload_n 1, 1) := by decide +kernel
theorem dL_law_966 : decode cL_law 966 = .ok (.invokevirtual 142, 3) := by decide +kernel
theorem dL_law_969 : decode cL_law 969 = .ok (.aload_n 2, 1) := by decide +kernel
theorem dL_law_970 : decode cL_law 970 = .ok (.invokevirtual 145, 3) := by decide +kernel
theorem dL_law_973 : decode cL_law 973 = .ok (.if_icmp .eq 304, 3) := by decide +kernel
theorem dL_law_976 : decode cL_law 976 = .ok (.iconst 0, 1) := by decide +kernel
theorem dL_law_977 : decode cL_law 977 = .ok (.ireturn, 1) := by decide +kernel
theorem dL_law_978 : decode cL_law 978 = .ok (.aload_n 1, 1) := by decide +kernel
theorem dL_law_979 : decode cL_law 979 = .ok (.aload_n 0, 1) := by decide +kernel
theorem dL_law_980 : decode cL_law 980 = .ok (.iload_n 3, 1) := by decide +kernel
theorem dL_law_981 : decode cL_law 981 = .ok (.iconst 1, 1) := by decide +kernel
theorem dL_law_982 : decode cL_law 982 = .ok (.iadd, 1) := by decide +kernel
theorem dL_law_983 : decode cL_law 983 = .ok (.iaload, 1) := by decide +kernel
theorem dL_law_984 : decode cL_law 984 = .ok (.invokevirtual 146, 3) := by decide +kernel
theorem dL_law_987 : decode cL_law 987 = .ok (.aload_n 2, 1) := by decide +kernel
theorem dL_law_988 : decode cL_law 988 = .ok (.aload_n 0, 1) := by decide +kernel
theorem dL_law_989 : decode cL_law 989 = .ok (.iload_n 3, 1) := by decide +kernel
theorem dL_law_990 : decode cL_law 990 = .ok (.iconst 1, 1) := by decide +kernel
theorem dL_law_991 : decode cL_law 991 = .ok (.iadd, 1) := by decide +kernel
theorem dL_law_992 : decode cL_law 992 = .ok (.iaload, 1) := by decide +kernel
theorem dL_law_993 : decode cL_law 993 = .ok (.invokevirtual 149, 3) := by decide +kernel
theorem dL_law_996 : decode cL_law 996 = .ok (.if_icmp .eq 281, 3) := by decide +kernel
theorem dL_law_999 : decode cL_law 999 = .ok (.iconst 0, 1) := by decide +kernel
theorem dL_law_1000 : decode cL_law 1000 = .ok (.ireturn, 1) := by decide +kernel
theorem dL_law_1001 : decode cL_law 1001 = .ok (.aload_n 1, 1) := by decide +kernel
theorem dL_law_1002 : decode cL_law 1002 = .ok (.aload_n 0, 1) := by decide +kernel
theorem dL_law_1003 : decode cL_law 1003 = .ok (.iload_n 3, 1) := by decide +kernel
theorem dL_law_1004 : decode cL_law 1004 = .ok (.iconst 1, 1) := by decide +kernel
theorem dL_law_1005 : decode cL_law 1005 = .ok (.iadd, 1) := by decide +kernel
theorem dL_law_1006 : decode cL_law 1006 = .ok (.iaload, 1) := by decide +kernel
theorem dL_law_1007 : decode cL_law 1007 = .ok (.invokevirtual 150, 3) := by decide +kernel
theorem dL_law_1010 : decode cL_law 1010 = .ok (.aload_n 2, 1) := by decide +kernel
theorem dL_law_1011 : decode cL_law 1011 = .ok (.aload_n 0, 1) := by decide +kernel
theorem dL_law_1012 : decode cL_law 1012 = .ok (.iload_n 3, 1) := by decide +kernel
theorem dL_law_1013 : decode cL_law 1013 = .ok (.iconst 1, 1) := by decide +kernel
theorem dL_law_1014 : decode cL_law 1014 = .ok (.iadd, 1) := by decide +kernel
theorem dL_law_1015 : decode cL_law 1015 = .ok (.iaload, 1) := by decide +kernel
theorem dL_law_1016 : decode cL_law 1016 = .ok (.invokevirtual 153, 3) := by decide +kernel
theorem dL_law_1019 : decode cL_law 1019 = .ok (.if_icmp .eq 258, 3) := by decide +kernel
theorem dL_law_1022 : decode cL_law 1022 = .ok (.iconst 0, 1) := by decide +kernel
theorem dL_law_1023 : decode cL_law 1023 = .ok (.ireturn, 1) := by decide +kernel
theorem dL_law_1024 : decode cL_law 1024 = .ok (.aload_n 1, 1) := by decide +kernel
theorem dL_law_1025 : decode cL_law 1025 = .ok (.aload_n 0, 1) := by decide +kernel
theorem dL_law_1026 : decode cL_law 1026 = .ok (.iload_n 3, 1) := by decide +kernel
theorem dL_law_1027 : decode cL_law 1027 = .ok (.iconst 1, 1) := by decide +kernel
theorem dL_law_1028 : decode cL_law 1028 = .ok (.iadd, 1) := by decide +kernel
theorem dL_law_1029 : decode cL_law 1029 = .ok (.iaload, 1) := by decide +kernel
theorem dL_law_1030 : decode cL_law 1030 = .ok (.invokevirtual 154, 3) := by decide +kernel
theorem dL_law_1033 : decode cL_law 1033 = .ok (.aload_n 2, 1) := by decide +kernel
theorem dL_law_1034 : decode cL_law 1034 = .ok (.aload_n 0, 1) := by decide +kernel
theorem dL_law_1035 : decode cL_law 1035 = .ok (.iload_n 3, 1) := by decide +kernel
theorem dL_law_1036 : decode cL_law 1036 = .ok (.iconst 1, 1) := by decide +kernel
theorem dL_law_1037 : decode cL_law 1037 = .ok (.iadd, 1) := by decide +kernel
theorem dL_law_1038 : decode cL_law 1038 = .ok (.iaload, 1) := by decide +kernel
theorem dL_law_1039 : decode cL_law 1039 = .ok (.invokevirtual 157, 3) := by decide +kernel
theorem dL_law_1042 : decode cL_law 1042 = .ok (.if_icmp .eq 235, 3) := by decide +kernel
theorem dL_law_1045 : decode cL_law 1045 = .ok (.iconst 0, 1) := by decide +kernel
theorem dL_law_1046 : decode cL_law 1046 = .ok (.ireturn, 1) := by decide +kernel
theorem dL_law_1047 : decode cL_law 1047 = .ok (.aload_n 1, 1) := by decide +kernel
theorem dL_law_1048 : decode cL_law 1048 = .ok (.aload_n 0, 1) := by decide +kernel
theorem dL_law_1049 : decode cL_law 1049 = .ok (.iload_n 3, 1) := by decide +kernel
theorem dL_law_1050 : decode cL_law 1050 = .ok (.iconst 1, 1) := by decide +kernel
theorem dL_law_1051 : decode cL_law 1051 = .ok (.iadd, 1) := by decide +kernel
theorem dL_law_1052 : decode cL_law 1052 = .ok (.iaload, 1) := by decide +kernel
theorem dL_law_1053 : decode cL_law 1053 = .ok (.invokevirtual 158, 3) := by decide +kernel
theorem dL_law_1056 : decode cL_law 1056 = .ok (.aload_n 2, 1) := by decide +kernel
theorem dL_law_1057 : decode cL_law 1057 = .ok (.aload_n 0, 1) := by decide +kernel
theorem dL_law_1058 : decode cL_law 1058 = .ok (.iload_n 3, 1) := by decide +kernel
theorem dL_law_1059 : decode cL_law 1059 = .ok (.iconst 1, 1) := by decide +kernel
theorem dL_law_1060 : decode cL_law 1060 = .ok (.iadd, 1) := by decide +kernel
theorem dL_law_1061 : decode cL_law 1061 = .ok (.iaload, 1) := by decide +kernel
theorem dL_law_1062 : decode cL_law 1062 = .ok (.invokevirtual 161, 3) := by decide +kernel
theorem dL_law_1065 : decode cL_law 1065 = .ok (.if_icmp .eq 212, 3) := by decide +kernel
theorem dL_law_1068 : decode cL_law 1068 = .ok (.iconst 0, 1) := by decide +kernel
theorem dL_law_1069 : decode cL_law 1069 = .ok (.ireturn, 1) := by decide +kernel
theorem dL_law_1070 : decode cL_law 1070 = .ok (.aload_n 1, 1) := by decide +kernel
theorem dL_law_1071 : decode cL_law 1071 = .ok (.aload_n 0, 1) := by decide +kernel
theorem dL_law_1072 : decode cL_law 1072 = .ok (.iload_n 3, 1) := by decide +kernel
theorem dL_law_1073 : decode cL_law 1073 = .ok (.iconst 1, 1) := by decide +kernel
theorem dL_law_1074 : decode cL_law 1074 = .ok (.iadd, 1) := by decide +kernel
theorem dL_law_1075 : decode cL_law 1075 = .ok (.iaload, 1) := by decide +kernel
theorem dL_law_1076 : decode cL_law 1076 = .ok (.aload_n 0, 1) := by decide +kernel
theorem dL_law_1077 : decode cL_law 1077 = .ok (.iload_n 3, 1) := by decide +kernel
theorem dL_law_1078 : decode cL_law 1078 = .ok (.iconst 2, 1) := by decide +kernel
theorem dL_law_1079 : decode cL_law 1079 = .ok (.iadd, 1) := by decide +kernel
theorem dL_law_1080 : decode cL_law 1080 = .ok (.iaload, 1) := by decide +kernel
theorem dL_law_1081 : decode cL_law 1081 = .ok (.invokevirtual 162, 3) := by decide +kernel
theorem dL_law_1084 : decode cL_law 1084 = .ok (.aload_n 2, 1) := by decide +kernel
theorem dL_law_1085 : decode cL_law 1085 = .ok (.aload_n 0, 1) := by decide +kernel
theorem dL_law_1086 : decode cL_law 1086 = .ok (.iload_n 3, 1) := by decide +kernel
theorem dL_law_1087 : decode cL_law 1087 = .ok (.iconst 1, 1) := by decide +kernel
theorem dL_law_1088 : decode cL_law 1088 = .ok (.iadd, 1) := by decide +kernel
theorem dL_law_1089 : decode cL_law 1089 = .ok (.iaload, 1) := by decide +kernel
theorem dL_law_1090 : decode cL_law 1090 = .ok (.aload_n 0, 1) := by decide +kernel
theorem dL_law_1091 : decode cL_law 1091 = .ok (.iload_n 3, 1) := by decide +kernel
theorem dL_law_1092 : decode cL_law 1092 = .ok (.iconst 2, 1) := by decide +kernel
theorem dL_law_1093 : decode cL_law 1093 = .ok (.iadd, 1) := by decide +kernel
theorem dL_law_1094 : decode cL_law 1094 = .ok (.iaload, 1) := by decide +kernel
theorem dL_law_1095 : decode cL_law 1095 = .ok (.invokevirtual 165, 3) := by decide +kernel
theorem dL_law_1098 : decode cL_law 1098 = .ok (.if_icmp .eq 179, 3) := by decide +kernel
theorem dL_law_1101 : decode cL_law 1101 = .ok (.iconst 0, 1) := by decide +kernel
theorem dL_law_1102 : decode cL_law 1102 = .ok (.ireturn, 1) := by decide +kernel
theorem dL_law_1103 : decode cL_law 1103 = .ok (.aload_n 1, 1) := by decide +kernel
theorem dL_law_1104 : decode cL_law 1104 = .ok (.aload_n 0, 1) := by decide +kernel
theorem dL_law_1105 : decode cL_law 1105 = .ok (.iload_n 3, 1) := by decide +kernel
theorem dL_law_1106 : decode cL_law 1106 = .ok (.iconst 1, 1) := by decide +kernel
theorem dL_law_1107 : decode cL_law 1107 = .ok (.iadd, 1) := by decide +kernel
theorem dL_law_1108 : decode cL_law 1108 = .ok (.iaload, 1) := by decide +kernel
theorem dL_law_1109 : decode cL_law 1109 = .ok (.aload_n 0, 1) := by decide +kernel
theorem dL_law_1110 : decode cL_law 1110 = .ok (.iload_n 3, 1) := by decide +kernel
theorem dL_law_1111 : decode cL_law 1111 = .ok (.iconst 2, 1) := by decide +kernel
theorem dL_law_1112 : decode cL_law 1112 = .ok (.iadd, 1) := by decide +kernel
theorem dL_law_1113 : decode cL_law 1113 = .ok (.iaload, 1) := by decide +kernel
theorem dL_law_1114 : decode cL_law 1114 = .ok (.invokevirtual 166, 3) := by decide +kernel
theorem dL_law_1117 : decode cL_law 1117 = .ok (.aload_n 2, 1) := by decide +kernel
theorem dL_law_1118 : decode cL_law 1118 = .ok (.aload_n 0, 1) := by decide +kernel
theorem dL_law_1119 : decode cL_law 1119 = .ok (.iload_n 3, 1) := by decide +kernel
theorem dL_law_1120 : decode cL_law 1120 = .ok (.iconst 1, 1) := by decide +kernel
theorem dL_law_1121 : decode cL_law 1121 = .ok (.iadd, 1) := by decide +kernel
theorem dL_law_1122 : decode cL_law 1122 = .ok (.iaload, 1) := by decide +kernel
theorem dL_law_1123 : decode cL_law 1123 = .ok (.aload_n 0, 1) := by decide +kernel
theorem dL_law_1124 : decode cL_law 1124 = .ok (.iload_n 3, 1) := by decide +kernel
theorem dL_law_1125 : decode cL_law 1125 = .ok (.iconst 2, 1) := by decide +kernel
theorem dL_law_1126 : decode cL_law 1126 = .ok (.iadd, 1) := by decide +kernel
theorem dL_law_1127 : decode cL_law 1127 = .ok (.iaload, 1) := by decide +kernel
theorem dL_law_1128 : decode cL_law 1128 = .ok (.invokevirtual 169, 3) := by decide +kernel
theorem dL_law_1131 : decode cL_law 1131 = .ok (.if_icmp .eq 146, 3) := by decide +kernel
theorem dL_law_1134 : decode cL_law 1134 = .ok (.iconst 0, 1) := by decide +kernel
theorem dL_law_1135 : decode cL_law 1135 = .ok (.ireturn, 1) := by decide +kernel
theorem dL_law_1136 : decode cL_law 1136 = .ok (.aload_n 1, 1) := by decide +kernel
theorem dL_law_1137 : decode cL_law 1137 = .ok (.invokevirtual 170, 3) := by decide +kernel
theorem dL_law_1140 : decode cL_law 1140 = .ok (.aload_n 2, 1) := by decide +kernel
theorem dL_law_1141 : decode cL_law 1141 = .ok (.invokevirtual 173, 3) := by decide +kernel
theorem dL_law_1144 : decode cL_law 1144 = .ok (.if_icmp .eq 133, 3) := by decide +kernel
theorem dL_law_1147 : decode cL_law 1147 = .ok (.iconst 0, 1) := by decide +kernel
theorem dL_law_1148 : decode cL_law 1148 = .ok (.ireturn, 1) := by decide +kernel
theorem dL_law_1149 : decode cL_law 1149 = .ok (.aload_n 1, 1) := by decide +kernel
theorem dL_law_1150 : decode cL_law 1150 = .ok (.aload_n 0, 1) := by decide +kernel
theorem dL_law_1151 : decode cL_law 1151 = .ok (.iload_n 3, 1) := by decide +kernel
theorem dL_law_1152 : decode cL_law 1152 = .ok (.iconst 1, 1) := by decide +kernel
theorem dL_law_1153 : decode cL_law 1153 = .ok (.iadd, 1) := by decide +kernel
theorem dL_law_1154 : decode cL_law 1154 = .ok (.iaload, 1) := by decide +kernel
theorem dL_law_1155 : decode cL_law 1155 = .ok (.invokevirtual 174, 3) := by decide +kernel
theorem dL_law_1158 : decode cL_law 1158 = .ok (.aload_n 2, 1) := by decide +kernel
theorem dL_law_1159 : decode cL_law 1159 = .ok (.aload_n 0, 1) := by decide +kernel
theorem dL_law_1160 : decode cL_law 1160 = .ok (.iload_n 3, 1) := by decide +kernel
theorem dL_law_1161 : decode cL_law 1161 = .ok (.iconst 1, 1) := by decide +kernel
theorem dL_law_1162 : decode cL_law 1162 = .ok (.iadd, 1) := by decide +kernel
theorem dL_law_1163 : decode cL_law 1163 = .ok (.iaload, 1) := by decide +kernel
theorem dL_law_1164 : decode cL_law 1164 = .ok (.invokevirtual 177, 3) := by decide +kernel
theorem dL_law_1167 : decode cL_law 1167 = .ok (.if_icmp .eq 110, 3) := by decide +kernel
theorem dL_law_1170 : decode cL_law 1170 = .ok (.iconst 0, 1) := by decide +kernel
theorem dL_law_1171 : decode cL_law 1171 = .ok (.ireturn, 1) := by decide +kernel
theorem dL_law_1172 : decode cL_law 1172 = .ok (.aload_n 1, 1) := by decide +kernel
theorem dL_law_1173 : decode cL_law 1173 = .ok (.aload_n 0, 1) := by decide +kernel
theorem dL_law_1174 : decode cL_law 1174 = .ok (.iload_n 3, 1) := by decide +kernel
theorem dL_law_1175 : decode cL_law 1175 = .ok (.iconst 1, 1) := by decide +kernel
theorem dL_law_1176 : decode cL_law 1176 = .ok (.iadd, 1) := by decide +kernel
theorem dL_law_1177 : decode cL_law 1177 = .ok (.iaload, 1) := by decide +kernel
theorem dL_law_1178 : decode cL_law 1178 = .ok (.invokevirtual 178, 3) := by decide +kernel
theorem dL_law_1181 : decode cL_law 1181 = .ok (.aload_n 2, 1) := by decide +kernel
theorem dL_law_1182 : decode cL_law 1182 = .ok (.aload_n 0, 1) := by decide +kernel
theorem dL_law_1183 : decode cL_law 1183 = .ok (.iload_n 3, 1) := by decide +kernel
theorem dL_law_1184 : decode cL_law 1184 = .ok (.iconst 1, 1) := by decide +kernel
theorem dL_law_1185 : decode cL_law 1185 = .ok (.iadd, 1) := by decide +kernel
theorem dL_law_1186 : decode cL_law 1186 = .ok (.iaload, 1) := by decide +kernel
theorem dL_law_1187 : decode cL_law 1187 = .ok (.invokevirtual 181, 3) := by decide +kernel
theorem dL_law_1190 : decode cL_law 1190 = .ok (.if_icmp .eq 87, 3) := by decide +kernel
theorem dL_law_1193 : decode cL_law 1193 = .ok (.iconst 0, 1) := by decide +kernel
theorem dL_law_1194 : decode cL_law 1194 = .ok (.ireturn, 1) := by decide +kernel
theorem dL_law_1195 : decode cL_law 1195 = .ok (.aload_n 1, 1) := by decide +kernel
theorem dL_law_1196 : decode cL_law 1196 = .ok (.aload_n 0, 1) := by decide +kernel
theorem dL_law_1197 : decode cL_law 1197 = .ok (.iload_n 3, 1) := by decide +kernel
theorem dL_law_1198 : decode cL_law 1198 = .ok (.iconst 1, 1) := by decide +kernel
theorem dL_law_1199 : decode cL_law 1199 = .ok (.iadd, 1) := by decide +kernel
theorem dL_law_1200 : decode cL_law 1200 = .ok (.iaload, 1) := by decide +kernel
theorem dL_law_1201 : decode cL_law 1201 = .ok (.invokevirtual 182, 3) := by decide +kernel
theorem dL_law_1204 : decode cL_law 1204 = .ok (.aload_n 2, 1) := by decide +kernel
theorem dL_law_1205 : decode cL_law 1205 = .ok (.aload_n 0, 1) := by decide +kernel
theorem dL_law_1206 : decode cL_law 1206 = .ok (.iload_n 3, 1) := by decide +kernel
theorem dL_law_1207 : decode cL_law 1207 = .ok (.iconst 1, 1) := by decide +kernel
theorem dL_law_1208 : decode cL_law 1208 = .ok (.iadd, 1) := by decide +kernel
theorem dL_law_1209 : decode cL_law 1209 = .ok (.iaload, 1) := by decide +kernel
theorem dL_law_1210 : decode cL_law 1210 = .ok (.invokevirtual 185, 3) := by decide +kernel
theorem dL_law_1213 : decode cL_law 1213 = .ok (.if_icmp .eq 64, 3) := by decide +kernel
theorem dL_law_1216 : decode cL_law 1216 = .ok (.iconst 0, 1) := by decide +kernel
theorem dL_law_1217 : decode cL_law 1217 = .ok (.ireturn, 1) := by decide +kernel
theorem dL_law_1218 : decode cL_law 1218 = .ok (.aload_n 1, 1) := by decide +kernel
theorem dL_law_1219 : decode cL_law 1219 = .ok (.invokevirtual 186, 3) := by decide +kernel
theorem dL_law_1222 : decode cL_law 1222 = .ok (.aload_n 2, 1) := by decide +kernel
theorem dL_law_1223 : decode cL_law 1223 = .ok (.invokevirtual 189, 3) := by decide +kernel
theorem dL_law_1226 : decode cL_law 1226 = .ok (.if_icmp .eq 51, 3) := by decide +kernel
theorem dL_law_1229 : decode cL_law 1229 = .ok (.iconst 0, 1) := by decide +kernel
theorem dL_law_1230 : decode cL_law 1230 = .ok (.ireturn, 1) := by decide +kernel
theorem dL_law_1231 : decode cL_law 1231 = .ok (.aload_n 1, 1) := by decide +kernel
theorem dL_law_1232 : decode cL_law 1232 = .ok (.aload_n 0, 1) := by decide +kernel
theorem dL_law_1233 : decode cL_law 1233 = .ok (.iload_n 3, 1) := by decide +kernel
theorem dL_law_1234 : decode cL_law 1234 = .ok (.iconst 1, 1) := by decide +kernel
theorem dL_law_1235 : decode cL_law 1235 = .ok (.iadd, 1) := by decide +kernel
theorem dL_law_1236 : decode cL_law 1236 = .ok (.iaload, 1) := by decide +kernel
theorem dL_law_1237 : decode cL_law 1237 = .ok (.invokevirtual 190, 3) := by decide +kernel
theorem dL_law_1240 : decode cL_law 1240 = .ok (.aload_n 2, 1) := by decide +kernel
theorem dL_law_1241 : decode cL_law 1241 = .ok (.aload_n 0, 1) := by decide +kernel
theorem dL_law_1242 : decode cL_law 1242 = .ok (.iload_n 3, 1) := by decide +kernel
theorem dL_law_1243 : decode cL_law 1243 = .ok (.iconst 1, 1) := by decide +kernel
theorem dL_law_1244 : decode cL_law 1244 = .ok (.iadd, 1) := by decide +kernel
theorem dL_law_1245 : decode cL_law 1245 = .ok (.iaload, 1) := by decide +kernel
theorem dL_law_1246 : decode cL_law 1246 = .ok (.invokevirtual 193, 3) := by decide +kernel
theorem dL_law_1249 : decode cL_law 1249 = .ok (.if_icmp .eq 28, 3) := by decide +kernel
theorem dL_law_1252 : decode cL_law 1252 = .ok (.iconst 0, 1) := by decide +kernel
theorem dL_law_1253 : decode cL_law 1253 = .ok (.ireturn, 1) := by decide +kernel
theorem dL_law_1254 : decode cL_law 1254 = .ok (.aload_n 1, 1) := by decide +kernel
theorem dL_law_1255 : decode cL_law 1255 = .ok (.aload_n 0, 1) := by decide +kernel
theorem dL_law_1256 : decode cL_law 1256 = .ok (.iload_n 3, 1) := by decide +kernel
theorem dL_law_1257 : decode cL_law 1257 = .ok (.iconst 1, 1) := by decide +kernel
theorem dL_law_1258 : decode cL_law 1258 = .ok (.iadd, 1) := by decide +kernel
theorem dL_law_1259 : decode cL_law 1259 = .ok (.iaload, 1) := by decide +kernel
theorem dL_law_1260 : decode cL_law 1260 = .ok (.invokevirtual 194, 3) := by decide +kernel
theorem dL_law_1263 : decode cL_law 1263 = .ok (.aload_n 2, 1) := by decide +kernel
theorem dL_law_1264 : decode cL_law 1264 = .ok (.aload_n 0, 1) := by decide +kernel
theorem dL_law_1265 : decode cL_law 1265 = .ok (.iload_n 3, 1) := by decide +kernel
theorem dL_law_1266 : decode cL_law 1266 = .ok (.iconst 1, 1) := by decide +kernel
theorem dL_law_1267 : decode cL_law 1267 = .ok (.iadd, 1) := by decide +kernel
theorem dL_law_1268 : decode cL_law 1268 = .ok (.iaload, 1) := by decide +kernel
theorem dL_law_1269 : decode cL_law 1269 = .ok (.invokevirtual 197, 3) := by decide +kernel
theorem dL_law_1272 : decode cL_law 1272 = .ok (.if_icmp .eq 5, 3) := by decide +kernel
theorem dL_law_1275 : decode cL_law 1275 = .ok (.iconst 0, 1) := by decide +kernel
theorem dL_law_1276 : decode cL_law 1276 = .ok (.ireturn, 1) := by decide +kernel
theorem dL_law_1277 : decode cL_law 1277 = .ok (.iinc 3 7, 3) := by decide +kernel
theorem dL_law_1280 : decode cL_law 1280 = .ok (.goto (-1262), 3) := by decide +kernel
theorem dL_law_1283 : decode cL_law 1283 = .ok (.iconst 1, 1) := by decide +kernel
theorem dL_law_1284 : decode cL_law 1284 = .ok (.ireturn, 1) := by decide +kernel
abbrev vwCl : List vw_C := [(RX0, TX0, 7), (RX1, TX1, 8), (RX2, TX2, 4), (RX3, TX3, 5), (RX4, TX4, 5), (RX5, TX5, 2), (RX6, TX6, 3), (RX7, TX7, 4), (RX8, TX8, 3), (RX9, TX9, 13), (RX10, TX10, 28)]
end
section
/-! NUMBERS: an Int stands for the int (q_i) or the long (q_l) that it wraps to; r_i, r_l: it is in the range -/
def q_i (z : Int) : Int32 := Int32.ofInt z
def q_l (z : Int) : Int64 := Int64.ofInt z
def r_i (z : Int) : Prop := -2147483648 ≤ z ∧ z ≤ 2147483647
def r_l (z : Int) : Prop := -9223372036854775808 ≤ z ∧ z ≤ 9223372036854775807
theorem q_iT {z : Int} (h : r_i z) : (q_i z).toInt = z := Int32.toInt_ofInt_of_le (by have := h.1; omega) (by have := h.2; omega)
theorem q_lT {z : Int} (h : r_l z) : (q_l z).toInt = z := Int64.toInt_ofInt_of_le (by have := h.1; omega) (by have := h.2; omega)
theorem q_iEq {x y : Int} (hx : r_i x) (hy : r_i y) : q_i x = q_i y ↔ x = y := by rw [← Int32.toInt_inj, q_iT hx, q_iT hy]
theorem q_iLt {x y : Int} (hx : r_i x) (hy : r_i y) : q_i x < q_i y ↔ x < y := by rw [Int32.lt_iff_toInt_lt, q_iT hx, q_iT hy]
theorem q_iLe {x y : Int} (hx : r_i x) (hy : r_i y) : q_i x ≤ q_i y ↔ x ≤ y := by rw [Int32.le_iff_toInt_le, q_iT hx, q_iT hy]
theorem q_lEq {x y : Int} (hx : r_l x) (hy : r_l y) : q_l x = q_l y ↔ x = y := by rw [← Int64.toInt_inj, q_lT hx, q_lT hy]
theorem q_lLt {x y : Int} (hx : r_l x) (hy : r_l y) : q_l x < q_l y ↔ x < y := by rw [Int64.lt_iff_toInt_lt, q_lT hx, q_lT hy]
theorem q_i0 : q_i 0 = 0 := rfl
theorem q_l0 : q_l 0 = 0 := rfl
theorem r_i0 : r_i 0 := by unfold r_i; omega
theorem q_iAdd (x y : Int) : q_i x + q_i y = q_i (x + y) := (Int32.ofInt_add x y).symm
theorem q_iSub (x y : Int) : q_i x - q_i y = q_i (x - y) := (Int32.ofInt_sub x y).symm
theorem q_iMul (x y : Int) : q_i x * q_i y = q_i (x * y) := (Int32.ofInt_mul x y).symm
theorem q_lAdd (x y : Int) : q_l x + q_l y = q_l (x + y) := (Int64.ofInt_add x y).symm
theorem q_lSub (x y : Int) : q_l x - q_l y = q_l (x - y) := (Int64.ofInt_sub x y).symm
theorem q_lMul (x y : Int) : q_l x * q_l y = q_l (x * y) := (Int64.ofInt_mul x y).symm
theorem q_lNeg (x : Int) : -q_l x = q_l (-x) := (Int64.ofInt_neg x).symm
theorem q_i2l {x : Int} (h : r_i x) : (q_i x).toInt64 = q_l x := Int64.toInt_inj.mp (by
  rw [Int32.toInt_toInt64, q_iT h, q_lT ⟨by have := h.1; omega, by have := h.2; omega⟩])
theorem q_l2i (x : Int) : (q_l x).toInt32 = q_i x := Int64.toInt32_ofInt
theorem q_min : Int32.minValue.toInt = -2147483648 := by decide
theorem q_max : Int32.maxValue.toInt = 2147483647 := by decide
theorem q_minl : Int64.minValue.toInt = -9223372036854775808 := by decide
theorem q_maxl : Int64.maxValue.toInt = 9223372036854775807 := by decide
theorem q_iDiv {x y : Int} (hx : r_i x) (hy : r_i y) : q_i x / q_i y = q_i (x.tdiv y) :=
  (Int32.ofInt_tdiv (by rw [q_min]; exact hx.1) (by rw [q_max]; exact hx.2) (by rw [q_min]; exact hy.1) (by rw [q_max]; exact hy.2)).symm
theorem q_lDiv {x y : Int} (hx : r_l x) (hy : r_l y) : q_l x / q_l y = q_l (x.tdiv y) :=
  (Int64.ofInt_tdiv (by rw [q_minl]; exact hx.1) (by rw [q_maxl]; exact hx.2) (by rw [q_minl]; exact hy.1) (by rw [q_maxl]; exact hy.2)).symm
theorem q_tmod (x y : Int) : x - x.tdiv y * y = x.tmod y := by rw [Int.tmod_def, Int.mul_comm]
theorem q_nat {z : Int} (h0 : 0 ≤ z) (h : r_i z) : (q_i z).toNatClampNeg = z.toNat := Int32.toNatClampNeg_ofInt_of_le (by have := h.1; omega) (by have := h.2; omega)
theorem q_ofN {n : Nat} : Int32.ofNat n = q_i (n : Int) := (Int32.ofInt_eq_ofNat).symm
/-- what lcmp answers -/
def q_cmp (x y : Int) : Int := if y < x then 1 else if x = y then 0 else -1
theorem q_cmpE {x y : Int} (hx : r_l x) (hy : r_l y) : lg_cmp (q_l x) (q_l y) = q_i (q_cmp x y) := by
  unfold lg_cmp q_cmp
  simp only [gt_iff_lt, q_lLt hy hx, q_lEq hx hy]
  by_cases h1 : y < x
  · rw [if_pos h1, if_pos h1]; rfl
  · rw [if_neg h1, if_neg h1]
    by_cases h2 : x = y
    · rw [if_pos h2, if_pos h2]; rfl
    · rw [if_neg h2, if_neg h2]; rfl
theorem q_cmpR (x y : Int) : r_i (q_cmp x y) := by unfold q_cmp r_i; split <;> (try split) <;> omega
theorem q_cmp_lt {x y : Int} : q_cmp x y < 0 ↔ x < y := by unfold q_cmp; split <;> (try split) <;> omega
theorem q_cmp_le {x y : Int} : q_cmp x y ≤ 0 ↔ x ≤ y := by unfold q_cmp; split <;> (try split) <;> omega
theorem q_cmp_gt {x y : Int} : 0 < q_cmp x y ↔ y < x := by unfold q_cmp; split <;> (try split) <;> omega
theorem q_cmp_ge {x y : Int} : 0 ≤ q_cmp x y ↔ y ≤ x := by unfold q_cmp; split <;> (try split) <;> omega
theorem q_cmp_eq {x y : Int} : q_cmp x y = 0 ↔ x = y := by unfold q_cmp; split <;> (try split) <;> omega
/-! WORDS OF THE FUNCTIONS: a guard, a bind, a name -/
noncomputable def q_gd {α : Type} (p : Prop) (k : Option α) : Option α := @ite _ p (Classical.propDecidable p) k none
theorem q_gd_some {α : Type} {p : Prop} {k : Option α} {r : α} (h : q_gd p k = some r) : p ∧ k = some r := by
  unfold q_gd at h
  by_cases hp : p
  · rw [if_pos hp] at h; exact ⟨hp, h⟩
  · rw [if_neg hp] at h; cases h
theorem q_gdT {α : Type} {p : Prop} {k : Option α} (h : p) : q_gd p k = k := by unfold q_gd; rw [if_pos h]
def q_bd {α β : Type} (o : Option α) (k : α → Option β) : Option β := match o with | none => none | some a => k a
theorem q_bd_some {α β : Type} {o : Option α} {k : α → Option β} {r : β} (h : q_bd o k = some r) : ∃ a, o = some a ∧ k a = some r := by
  cases o with
  | none => cases h
  | some a => exact ⟨a, rfl, h⟩
theorem q_bdE {α β : Type} {o : Option α} {a : α} {k : α → Option β} (h : o = some a) : q_bd o k = k a := by rw [h]; rfl
def q_lt {α β : Type} (v : α) (k : α → β) : β := k v
theorem q_lt_nm {α β : Type} {v : α} {k : α → β} {r : β} (h : q_lt v k = r) : ∃ x, v = x ∧ k x = r := ⟨v, rfl, h⟩
theorem q_ltE {α β : Type} {v : α} {k : α → β} : q_lt v k = k v := rfl
theorem q_ifp {α : Type} {c : Prop} [hd : Decidable c] {A B r : α} (h : c) (e : (if c then A else B) = r) : A = r := by rw [if_pos h] at e; exact e
theorem q_ifn {α : Type} {c : Prop} [hd : Decidable c] {A B r : α} (h : ¬ c) (e : (if c then A else B) = r) : B = r := by rw [if_neg h] at e; exact e
/-! THE HEAP AS FUNCTIONS: S = (kind of a cell, length of an array, the next address), R: its slots that hold references (0: null), I: its slots that hold numbers.
Kinds: 1..11 the classes of vwCl, 12 int[], 13 long[], 14 boolean[], 15 Group[], 16 Measurement[], 17 int[][]; 0: no cell of ours -/
abbrev q_S : Type := (Nat → Nat) × (Nat → Nat) × Nat
abbrev q_HR : Type := Nat → Nat → Nat
abbrev q_HI : Type := Nat → Nat → Int
def q_rf (r : Nat) : Value := if r = 0 then .null else .ref r
def q_fv (ty : FieldType) (r : Nat) (z : Int) : Value := match ty with
  | .long => .long (q_l z)
  | .object _ => q_rf r
  | .array _ => q_rf r
  | .float => .float 0
  | .double => .double 0
  | _ => .int (q_i z)
theorem q_fv0 (ty : FieldType) : defaultValue ty = q_fv ty 0 0 := by cases ty <;> rfl
def q_up {α : Type} (f : Nat → Nat → α) (a k : Nat) (v : α) : Nat → Nat → α := fun b j => if b = a ∧ j = k then v else f b j
def q_zr {α : Type} (f : Nat → Nat → α) (a : Nat) (v : α) : Nat → Nat → α := fun b j => if b = a then v else f b j
def q_ty (k : Nat) : Nat → FieldType := match k with
  | 1 => tyX0
  | 2 => tyX1
  | 3 => tyX2
  | 4 => tyX3
  | 5 => tyX4
  | 6 => tyX5
  | 7 => tyX6
  | 8 => tyX7
  | 9 => tyX8
  | 10 => tyX9
  | 11 => tyX10
  | 12 => fun _ => .int
  | 13 => fun _ => .long
  | 14 => fun _ => .boolean
  | 15 => fun _ => .object "SensorArray$Group"
  | 16 => fun _ => .object "SensorArray$Measurement"
  | _ => fun _ => .array .int
def q_nf (k : Nat) : Nat := match k with
  | 1 => 7
  | 2 => 8
  | 3 => 4
  | 4 => 5
  | 5 => 5
  | 6 => 2
  | 7 => 3
  | 8 => 4
  | 9 => 3
  | 10 => 13
  | _ => 28
def q_cell (D : va_G) (cy : Nat → ClassId) (k n : Nat) (r : Nat → Nat) (z : Nat → Int) (a : Nat) (H : Heap) : Prop :=
  if k < 12 then t_OB a (D.1 (k - 1)) (q_nf k) (D.2 (k - 1)) H (fun j => q_fv (q_ty k j) (r j) (z j))
  else H[a]? = some (arrV (cy k) n (fun j => q_fv (q_ty k j) (r j) (z j)))
def q_R (B : Nat) (D : va_G) (cy : Nat → ClassId) (S : q_S) (R : q_HR) (I : q_HI) (H : Heap) : Prop :=
  (H.size = S.2.2 ∧ ∀ a, S.2.1 a < 2147483648) ∧ ∀ a, S.1 a ≠ 0 → B ≤ a ∧ q_cell D cy (S.1 a) (S.2.1 a) (R a) (I a) a H
theorem q_cell.lt {D : va_G} {cy : Nat → ClassId} {k n : Nat} {r : Nat → Nat} {z : Nat → Int} {a : Nat} {H : Heap} (h : q_cell D cy k n r z a H) : a < H.size := by
  unfold q_cell at h
  split at h
  · obtain ⟨cell, h2, -⟩ := h
    exact (Array.getElem?_eq_some_iff.mp h2).1
  · exact (Array.getElem?_eq_some_iff.mp h).1
theorem q_cell.kept {D : va_G} {cy : Nat → ClassId} {k n : Nat} {r : Nat → Nat} {z : Nat → Int} {a : Nat} {H H1 : Heap} (h : q_cell D cy k n r z a H) (hq : H1[a]? = H[a]?) : q_cell D cy k n r z a H1 := by
  unfold q_cell at h ⊢
  split at h
  · next hk => rw [if_pos hk]; exact h.kept hq
  · next hk => rw [if_neg hk]; exact hq.trans h
/-! THE STATIC WORLD: the tables' words, the classes -/
def q_ok (w : Cond) : Bool := match w with
  | .fieldLinkNest _ _ _ _ _ _ => true
  | .methodLinkNest _ _ _ _ => true
  | w => goodWord w
def q_tys (cy : Nat → ClassId) : List (ClassId × FieldType) := [(cy 12, .int), (cy 13, .long), (cy 14, .boolean), (cy 15, .object "SensorArray$Group"), (cy 16, .object "SensorArray$Measurement"), (cy 17, .array .int)]
def q_AA (U : State) : Prop := (Cond.arrayOver (.array .int)).before #[] U = true
def q_K (D : va_G) (cy : Nat → ClassId) (U : State) : Prop :=
  (∀ w ∈ lw_tbl, q_ok w = true → va_Nw w U) ∧ va_K D vwCl (q_tys cy) U ∧ va_AO "SensorArray$Group" U ∧ va_AO "SensorArray$Measurement" U ∧ q_AA U
theorem q_ok_warm {w : Cond} {s U : State} (hW : s.WarmedH U.vm) (h : q_ok w = true) (hs : va_Nw w s) : va_Nw w U := by
  unfold q_ok at h
  split at h
  · exact va_Nw.warmF hW hs
  · exact va_Nw.warmM hW hs
  · exact word_at hW (good_of_word h) hs
theorem q_AA.moved {u U : State} (hvm : u.vm.Alike U.vm) (h : q_AA u) : q_AA U := by
  obtain ⟨comp, c, k, h1, h2, h3, h4, h5⟩ := arrayOverA_spec h
  obtain ⟨k', hk', he⟩ := hvm.2.2 _ _ h3
  have hi : (U.vm.classes.findIdx? fun (x : Class) => match x.kind with | .array component _ => component == comp | _ => false) = some c := by
    rw [hvm.findIdx?_eq _ (fun _ => rfl)]
    exact h2
  have hkind : k'.kind = .array comp (.array .int) := by rw [he]; exact h4
  have f1 : U.vm.findClass (FieldType.array .int).toString = some comp := by rw [hvm.findClass]; exact h1
  have f2 : U.vm.findClass ("[" ++ (FieldType.array .int).toString) = some c := by rw [hvm.findClass]; exact h5
  unfold q_AA Cond.before Cond.holds
  simp only [Cond.value]
  rw [f1, Option.bind_some]
  refine (congrArg (fun o : Option Nat => (o.bind (fun c => (U.vm.classes[c]?).map fun (k : Class) => match k.kind with | .array _ ty => decide (ty = FieldType.array .int) && decide (U.vm.findClass ("[" ++ (FieldType.array .int).toString) = some c) | _ => false) == some true)) hi).trans ?_
  simp [hk', hkind, f2]
theorem q_K.warm {D : va_G} {cy : Nat → ClassId} {s U : State} (hW : s.WarmedH U.vm) (h : q_K D cy s) : q_K D cy U :=
  ⟨fun w hw ho => q_ok_warm hW ho (h.1 w hw ho), va_K.moved hW.alike h.2.1, va_AO.moved hW.alike h.2.2.1, va_AO.moved hW.alike h.2.2.2.1, q_AA.moved hW.alike h.2.2.2.2⟩
/-- a word of the tables, at any arguments -/
theorem q_K.use {D : va_G} {cy : Nat → ClassId} {U : State} {w : Cond} (h : q_K D cy U) (hw : w ∈ lw_tbl) (ho : q_ok w = true) (A : Array Value) : w.before A U = true := by
  have h1 := h.1 w hw ho
  unfold q_ok at ho
  split at ho
  · exact va_Nw.use rfl h1
  · exact va_Nw.use rfl h1
  · exact word_at (State.WarmedH.refl U) (good_of_word ho) h1
end
section
/-! THE JUDGEMENT: a walk at pc, with locals lv, stack st, and the heap as functions S R I -/
abbrev q_X : Type := Program × Launch × Env × State × MethodId × Array Value × List Frame × Method × Code × va_G × (Nat → ClassId) × Nat × (State → Prop)
def q_F (B : Nat) (H0 H : Heap) (locs : List Loc) : Prop := H0.size ≤ H.size ∧ (∀ q : Nat, q < B → H[q]? = H0[q]?) ∧ (∀ q ∈ locs, B ≤ q.base) ∧ B ≤ H0.size
def q_V (X : q_X) (Rm : Room) (cc : ByteArray) (nL cells slots pc : Nat) (lv : List (Nat × Value)) (st : List Value) (S : q_S) (R : q_HR) (I : q_HI) : Prop :=
  match X with
  | (p, l, e, s, m, args, below, meth, c, D, cy, B, Q) => ∀ (H : Heap) (locs : List Loc) (ls : Array Slot), q_R B D cy S R I H → q_F B s.heap H locs → lv_has ls nL lv → W p l e Rm s m args below meth c H locs cells slots Q (F0 m pc ls st)
def q_C (X : q_X) (cc : ByteArray) (nL : Nat) (own : String) (ret : Option FieldType) (nm : String) : Prop :=
  match X with
  | (p, l, e, s, m, args, below, meth, c, D, cy, B, Q) => p.tables.exec = Jvm.exec ∧ c.code = cc ∧ c.maxLocals = nL ∧ s.vm.findClass own = some m.cls ∧ q_K D cy s ∧ 0 < B ∧ meth.locks = false ∧ meth.sig.returnType = ret ∧ meth.name = nm
def q_Pc (B : Nat) (D : va_G) (cy : Nat → ClassId) (As : List Value) (S : q_S) (R : q_HR) (I : q_HI) : Array Value → State → Prop := fun a U => a = As.toArray ∧ q_K D cy U ∧ q_R B D cy S R I U.heap ∧ 0 < B ∧ B ≤ U.heap.size
def q_Qc (B : Nat) (D : va_G) (cy : Nat → ClassId) (rv : Option Value) (S : q_S) (R : q_HR) (I : q_HI) : Array Value → State → Outcome → State → Prop := fun _ st o t => o = .returned rv ∧ q_R B D cy S R I t.heap ∧ st.heap.size ≤ t.heap.size ∧ ∀ q : Nat, q < B → t.heap[q]? = st.heap[q]?
def q_E (X : q_X) (mc ms : Nat) (rv : Option Value) (S : q_S) (R : q_HR) (I : q_HI) : Prop :=
  match X with
  | (p, l, e, s, m, args, below, meth, c, D, cy, B, Q) => Q = MQ below (q_Qc B D cy rv S R I) args s mc ms (fun q => B ≤ q)
/-- a field's access by an entry of a pool: class and place of the field, final, through the nest -/
def q_FA (own : String) (idx k j : Nat) (fin nest : Bool) : Prop := ∃ (C : String) (T : u_T), vwCl[k - 1]? = some (C, T, q_nf k) ∧ j < q_nf k ∧ k < 12 ∧ 0 < k ∧ (T j).1 = C ∧ (T j).2.2.2 = fin ∧
  (∀ w ∈ u_ws C T (q_nf k), w ∈ lw_tbl ∧ q_ok w = true) ∧ (∀ i, i < q_nf k → parseFieldDescriptor (T i).2.2.1 = some (q_ty k i)) ∧ (∀ a, a < q_nf k → ∀ b, b < q_nf k → a ≠ b → (T a).2.1 ≠ (T b).2.1) ∧
  (if nest = true then ∃ host, Cond.fieldLinkNest own idx C (T j).2.1 (T j).2.2.1 host ∈ lw_tbl else Cond.fieldLink own idx C (T j).2.1 (T j).2.2.1 ∈ lw_tbl ∧ C = own)
theorem q_updI (k j : Nat) (r : Nat → Nat) (z : Nat → Int) (w : Int) : updV (fun i => q_fv (q_ty k i) (r i) (z i)) j (q_fv (q_ty k j) (r j) w) = fun i => q_fv (q_ty k i) (r i) (if i = j then w else z i) := by
  funext i
  unfold updV
  by_cases h : i = j
  · subst h; simp
  · simp [h]
theorem q_updR (k j : Nat) (r : Nat → Nat) (z : Nat → Int) (w : Nat) : updV (fun i => q_fv (q_ty k i) (r i) (z i)) j (q_fv (q_ty k j) w (z j)) = fun i => q_fv (q_ty k i) (if i = j then w else r i) (z i) := by
  funext i
  unfold updV
  by_cases h : i = j
  · subst h; simp
  · simp [h]
theorem q_up_self {α : Type} (f : Nat → Nat → α) (a j : Nat) (v : α) : q_up f a j v a = fun i => if i = j then v else f a i := by funext i; simp [q_up]
theorem q_up_ne {α : Type} (f : Nat → Nat → α) {a b : Nat} (j : Nat) (v : α) (h : b ≠ a) : q_up f a j v b = f b := by funext i; simp [q_up, h]
theorem q_zr_self {α : Type} (f : Nat → Nat → α) (a : Nat) (v : α) : q_zr f a v a = fun _ => v := by funext i; simp [q_zr]
theorem q_zr_ne {α : Type} (f : Nat → Nat → α) {a b : Nat} (v : α) (h : b ≠ a) : q_zr f a v b = f b := by funext i; simp [q_zr, h]
/-- one cell is written -/
theorem q_R.put {B : Nat} {D : va_G} {cy : Nat → ClassId} {S : q_S} {R R' : q_HR} {I I' : q_HI} {H H1 : Heap} {a : Nat} (h : q_R B D cy S R I H) (hz : H1.size = H.size) (ho : ∀ q : Nat, q ≠ a → H1[q]? = H[q]?)
    (hr : ∀ b, b ≠ a → R' b = R b) (hi : ∀ b, b ≠ a → I' b = I b) (hc : q_cell D cy (S.1 a) (S.2.1 a) (R' a) (I' a) a H1) : q_R B D cy S R' I' H1 := by
  refine ⟨⟨hz.trans h.1.1, h.1.2⟩, fun b hb => ?_⟩
  obtain ⟨h1, h2⟩ := h.2 b hb
  refine ⟨h1, ?_⟩
  by_cases hba : b = a
  · subst hba; exact hc
  · rw [hr b hba, hi b hba]; exact h2.kept (ho b hba)
theorem q_F.put {B : Nat} {H0 H H1 : Heap} {locs : List Loc} {a k : Nat} (h : q_F B H0 H locs) (hz : H1.size = H.size) (ho : ∀ q : Nat, q ≠ a → H1[q]? = H[q]?) (ha : B ≤ a) : q_F B H0 H1 (locs ++ [⟨a, k⟩]) := by
  refine ⟨by rw [hz]; exact h.1, fun q hq => ?_, fun q hq => ?_, h.2.2.2⟩
  · rw [ho q (by omega)]; exact h.2.1 q hq
  · rcases List.mem_append.mp hq with h1 | h1
    · exact h.2.2.1 q h1
    · rw [List.mem_singleton.mp h1]; exact ha
theorem q_kinds {D : va_G} {cy : Nat → ClassId} {U : State} (hK : q_K D cy U) {k t0 : Nat} {ty : FieldType} (ht : (q_tys cy)[t0]? = some (cy k, ty)) : ArrOfT U (cy k) ty ∧ va_RA U (cy k) ty := hK.2.1.2 t0 _ ht
section QV
variable {X : q_X} {Rm : Room} {cc : ByteArray} {nL cells slots pc : Nat} {lv : List (Nat × Value)} {st : List Value} {S : q_S} {R : q_HR} {I : q_HI} {own : String} {ret : Option FieldType} {nm : String}
theorem v_sub {lv' : List (Nat × Value)} (ks : List Nat) (hl : lv_pick lv ks = lv') (k : q_V X Rm cc nL cells slots pc lv' st S R I) : q_V X Rm cc nL cells slots pc lv st S R I := by
  obtain ⟨p, l, e, s, m, args, below, meth, c, D, cy, B, Q⟩ := X
  intro H locs ls hR hF hv
  exact k H locs ls hR hF (lv_sub hv ks hl)
theorem v_widen {k n : Nat} (h1 : cells ≤ k) (h2 : slots ≤ n) (kk : q_V X Rm cc nL k n pc lv st S R I) : q_V X Rm cc nL cells slots pc lv st S R I := by
  obtain ⟨p, l, e, s, m, args, below, meth, c, D, cy, B, Q⟩ := X
  intro H locs ls hR hF hv
  exact W.widen h1 h2 (kk H locs ls hR hF hv)
theorem v_cs {k n : Nat} (h1 : cells = k) (h2 : slots = n) (kk : q_V X Rm cc nL k n pc lv st S R I) : q_V X Rm cc nL cells slots pc lv st S R I := by subst h1; subst h2; exact kk
theorem v_iconst {n : Int} (hX : q_C X cc nL own ret nm) (hd : decode cc pc = .ok (.iconst n, 1)) (k : q_V X Rm cc nL cells slots (pc + 1) lv (.int (q_i n) :: st) S R I) : q_V X Rm cc nL cells slots pc lv st S R I := by
  obtain ⟨p, l, e, s, m, args, below, meth, c, D, cy, B, Q⟩ := X
  obtain ⟨hx, hb, hml, hown, hK, hB, hlk, hrt, hnm⟩ := hX
  intro H locs ls hR hF hl
  exact lv_iconst hx hb hd rfl (k H locs ls hR hF hl)
theorem v_bipush {n : Int} (z : Int) (hX : q_C X cc nL own ret nm) (hd : decode cc pc = .ok (.bipush n, 2)) (hz : (Int8.ofInt n).toInt32 = q_i z) (k : q_V X Rm cc nL cells slots (pc + 2) lv (.int (q_i z) :: st) S R I) : q_V X Rm cc nL cells slots pc lv st S R I := by
  obtain ⟨p, l, e, s, m, args, below, meth, c, D, cy, B, Q⟩ := X
  obtain ⟨hx, hb, hml, hown, hK, hB, hlk, hrt, hnm⟩ := hX
  intro H locs ls hR hF hl
  exact lv_bipush hx hb hd hz (k H locs ls hR hF hl)
theorem v_sipush {n : Int} (z : Int) (hX : q_C X cc nL own ret nm) (hd : decode cc pc = .ok (.sipush n, 3)) (hz : (Int16.ofInt n).toInt32 = q_i z) (k : q_V X Rm cc nL cells slots (pc + 3) lv (.int (q_i z) :: st) S R I) : q_V X Rm cc nL cells slots pc lv st S R I := by
  obtain ⟨p, l, e, s, m, args, below, meth, c, D, cy, B, Q⟩ := X
  obtain ⟨hx, hb, hml, hown, hK, hB, hlk, hrt, hnm⟩ := hX
  intro H locs ls hR hF hl
  exact lv_sipush hx hb hd hz (k H locs ls hR hF hl)
theorem v_lconst {n : Fin 2} (z : Int) (hX : q_C X cc nL own ret nm) (hd : decode cc pc = .ok (.lconst n, 1)) (hz : Int64.ofNat (n : Nat) = q_l z) (k : q_V X Rm cc nL cells slots (pc + 1) lv (.long (q_l z) :: st) S R I) : q_V X Rm cc nL cells slots pc lv st S R I := by
  obtain ⟨p, l, e, s, m, args, below, meth, c, D, cy, B, Q⟩ := X
  obtain ⟨hx, hb, hml, hown, hK, hB, hlk, hrt, hnm⟩ := hX
  intro H locs ls hR hF hl
  exact lv_lconst hx hb hd hz (k H locs ls hR hF hl)
theorem v_ldc {idx : Nat} {v : Int32} (z : Int) (hX : q_C X cc nL own ret nm) (hw : Cond.constant own idx v ∈ lw_tbl) (hv : v = q_i z) (hd : decode cc pc = .ok (.ldc idx, 2)) (k : q_V X Rm cc nL cells slots (pc + 2) lv (.int (q_i z) :: st) S R I) : q_V X Rm cc nL cells slots pc lv st S R I := by
  obtain ⟨p, l, e, s, m, args, below, meth, c, D, cy, B, Q⟩ := X
  obtain ⟨hx, hb, hml, hown, hK, hB, hlk, hrt, hnm⟩ := hX
  intro H locs ls hR hF hl
  subst hv
  exact lv_ldc hx hb hown (hK.use hw rfl _) hd (k H locs ls hR hF hl)
theorem v_ldcw {idx : Nat} {v : Int32} (z : Int) (hX : q_C X cc nL own ret nm) (hw : Cond.constant own idx v ∈ lw_tbl) (hv : v = q_i z) (hd : decode cc pc = .ok (.ldc_w idx, 3)) (k : q_V X Rm cc nL cells slots (pc + 3) lv (.int (q_i z) :: st) S R I) : q_V X Rm cc nL cells slots pc lv st S R I := by
  obtain ⟨p, l, e, s, m, args, below, meth, c, D, cy, B, Q⟩ := X
  obtain ⟨hx, hb, hml, hown, hK, hB, hlk, hrt, hnm⟩ := hX
  intro H locs ls hR hF hl
  subst hv
  exact lv_ldcw hx hb hown (hK.use hw rfl _) hd (k H locs ls hR hF hl)
theorem v_ldc2 {idx : Nat} {v : Int64} (z : Int) (hX : q_C X cc nL own ret nm) (hw : Cond.constantLong own idx v ∈ lw_tbl) (hv : v = q_l z) (hd : decode cc pc = .ok (.ldc2_w idx, 3)) (k : q_V X Rm cc nL cells slots (pc + 3) lv (.long (q_l z) :: st) S R I) : q_V X Rm cc nL cells slots pc lv st S R I := by
  obtain ⟨p, l, e, s, m, args, below, meth, c, D, cy, B, Q⟩ := X
  obtain ⟨hx, hb, hml, hown, hK, hB, hlk, hrt, hnm⟩ := hX
  intro H locs ls hR hF hl
  subst hv
  exact lv_ldc2 hx hb hown (hK.use hw rfl _) hd (k H locs ls hR hF hl)
theorem v_iload_n {n : Fin 4} (i : Nat) (q : Nat) {x : Int32} (hX : q_C X cc nL own ret nm) (hd : decode cc pc = .ok (.iload_n n, 1)) (hi : (n : Nat) = i) (hq : lv[q]? = some (i, .int x)) (k : q_V X Rm cc nL cells slots (pc + 1) lv (.int x :: st) S R I) : q_V X Rm cc nL cells slots pc lv st S R I := by
  obtain ⟨p, l, e, s, m, args, below, meth, c, D, cy, B, Q⟩ := X
  obtain ⟨hx, hb, hml, hown, hK, hB, hlk, hrt, hnm⟩ := hX
  intro H locs ls hR hF hl
  exact lv_iload_n hx hb hd hi (lv_at hl q hq) (k H locs ls hR hF hl)
theorem v_iload {i : Nat} (q : Nat) {x : Int32} (hX : q_C X cc nL own ret nm) (hd : decode cc pc = .ok (.iload i, 2)) (hq : lv[q]? = some (i, .int x)) (k : q_V X Rm cc nL cells slots (pc + 2) lv (.int x :: st) S R I) : q_V X Rm cc nL cells slots pc lv st S R I := by
  obtain ⟨p, l, e, s, m, args, below, meth, c, D, cy, B, Q⟩ := X
  obtain ⟨hx, hb, hml, hown, hK, hB, hlk, hrt, hnm⟩ := hX
  intro H locs ls hR hF hl
  exact lv_iload hx hb hd (lv_at hl q hq) (k H locs ls hR hF hl)
theorem v_lload_n {n : Fin 4} (i : Nat) (q : Nat) {x : Int64} (hX : q_C X cc nL own ret nm) (hd : decode cc pc = .ok (.lload_n n, 1)) (hi : (n : Nat) = i) (hq : lv[q]? = some (i, .long x)) (k : q_V X Rm cc nL cells slots (pc + 1) lv (.long x :: st) S R I) : q_V X Rm cc nL cells slots pc lv st S R I := by
  obtain ⟨p, l, e, s, m, args, below, meth, c, D, cy, B, Q⟩ := X
  obtain ⟨hx, hb, hml, hown, hK, hB, hlk, hrt, hnm⟩ := hX
  intro H locs ls hR hF hl
  exact lv_lload_n hx hb hd hi (lv_at hl q hq) (k H locs ls hR hF hl)
theorem v_lload {i : Nat} (q : Nat) {x : Int64} (hX : q_C X cc nL own ret nm) (hd : decode cc pc = .ok (.lload i, 2)) (hq : lv[q]? = some (i, .long x)) (k : q_V X Rm cc nL cells slots (pc + 2) lv (.long x :: st) S R I) : q_V X Rm cc nL cells slots pc lv st S R I := by
  obtain ⟨p, l, e, s, m, args, below, meth, c, D, cy, B, Q⟩ := X
  obtain ⟨hx, hb, hml, hown, hK, hB, hlk, hrt, hnm⟩ := hX
  intro H locs ls hR hF hl
  exact lv_lload hx hb hd (lv_at hl q hq) (k H locs ls hR hF hl)
theorem v_aload_n {n : Fin 4} (i : Nat) (q : Nat) {x : Nat} (hX : q_C X cc nL own ret nm) (hd : decode cc pc = .ok (.aload_n n, 1)) (hi : (n : Nat) = i) (hq : lv[q]? = some (i, .ref x)) (k : q_V X Rm cc nL cells slots (pc + 1) lv (.ref x :: st) S R I) : q_V X Rm cc nL cells slots pc lv st S R I := by
  obtain ⟨p, l, e, s, m, args, below, meth, c, D, cy, B, Q⟩ := X
  obtain ⟨hx, hb, hml, hown, hK, hB, hlk, hrt, hnm⟩ := hX
  intro H locs ls hR hF hl
  exact lv_aload_n hx hb hd hi (lv_at hl q hq) (k H locs ls hR hF hl)
theorem v_aload {i : Nat} (q : Nat) {x : Nat} (hX : q_C X cc nL own ret nm) (hd : decode cc pc = .ok (.aload i, 2)) (hq : lv[q]? = some (i, .ref x)) (k : q_V X Rm cc nL cells slots (pc + 2) lv (.ref x :: st) S R I) : q_V X Rm cc nL cells slots pc lv st S R I := by
  obtain ⟨p, l, e, s, m, args, below, meth, c, D, cy, B, Q⟩ := X
  obtain ⟨hx, hb, hml, hown, hK, hB, hlk, hrt, hnm⟩ := hX
  intro H locs ls hR hF hl
  exact lv_aload hx hb hd (lv_at hl q hq) (k H locs ls hR hF hl)
theorem v_istore_n {n : Fin 4} (i : Nat) {x : Int32} {lw : List (Nat × Value)} (hX : q_C X cc nL own ret nm) (hd : decode cc pc = .ok (.istore_n n, 1)) (hi : (n : Nat) = i) (hn : i < nL) (hv : (i, Value.int x) :: lv.filter (fun q => !(q.1 == i) && !(q.1 + 1 == i && q.2.category == 2)) = lw) (k : q_V X Rm cc nL cells slots (pc + 1) lw st S R I) : q_V X Rm cc nL cells slots pc lv (.int x :: st) S R I := by
  obtain ⟨p, l, e, s, m, args, below, meth, c, D, cy, B, Q⟩ := X
  obtain ⟨hx, hb, hml, hown, hK, hB, hlk, hrt, hnm⟩ := hX
  intro H locs ls hR hF hl
  exact lv_istore_n hx hb hd hi hl hn hv (fun ls hl => k H locs ls hR hF hl)
theorem v_istore {i : Nat} {x : Int32} {lw : List (Nat × Value)} (hX : q_C X cc nL own ret nm) (hd : decode cc pc = .ok (.istore i, 2)) (hn : i < nL) (hv : (i, Value.int x) :: lv.filter (fun q => !(q.1 == i) && !(q.1 + 1 == i && q.2.category == 2)) = lw) (k : q_V X Rm cc nL cells slots (pc + 2) lw st S R I) : q_V X Rm cc nL cells slots pc lv (.int x :: st) S R I := by
  obtain ⟨p, l, e, s, m, args, below, meth, c, D, cy, B, Q⟩ := X
  obtain ⟨hx, hb, hml, hown, hK, hB, hlk, hrt, hnm⟩ := hX
  intro H locs ls hR hF hl
  exact lv_istore hx hb hd hl hn hv (fun ls hl => k H locs ls hR hF hl)
theorem v_lstore_n {n : Fin 4} (i : Nat) {x : Int64} {lw : List (Nat × Value)} (hX : q_C X cc nL own ret nm) (hd : decode cc pc = .ok (.lstore_n n, 1)) (hi : (n : Nat) = i) (hn : i + 1 < nL) (hv : (i, Value.long x) :: lv.filter (fun q => !(q.1 == i) && (!(q.1 == i + 1) && !(q.1 + 1 == i && q.2.category == 2))) = lw) (k : q_V X Rm cc nL cells slots (pc + 1) lw st S R I) : q_V X Rm cc nL cells slots pc lv (.long x :: st) S R I := by
  obtain ⟨p, l, e, s, m, args, below, meth, c, D, cy, B, Q⟩ := X
  obtain ⟨hx, hb, hml, hown, hK, hB, hlk, hrt, hnm⟩ := hX
  intro H locs ls hR hF hl
  exact lv_lstore_n hx hb hd hi hl hn hv (fun ls hl => k H locs ls hR hF hl)
theorem v_lstore {i : Nat} {x : Int64} {lw : List (Nat × Value)} (hX : q_C X cc nL own ret nm) (hd : decode cc pc = .ok (.lstore i, 2)) (hn : i + 1 < nL) (hv : (i, Value.long x) :: lv.filter (fun q => !(q.1 == i) && (!(q.1 == i + 1) && !(q.1 + 1 == i && q.2.category == 2))) = lw) (k : q_V X Rm cc nL cells slots (pc + 2) lw st S R I) : q_V X Rm cc nL cells slots pc lv (.long x :: st) S R I := by
  obtain ⟨p, l, e, s, m, args, below, meth, c, D, cy, B, Q⟩ := X
  obtain ⟨hx, hb, hml, hown, hK, hB, hlk, hrt, hnm⟩ := hX
  intro H locs ls hR hF hl
  exact lv_lstore hx hb hd hl hn hv (fun ls hl => k H locs ls hR hF hl)
theorem v_astore_n {n : Fin 4} (i : Nat) {x : Nat} {lw : List (Nat × Value)} (hX : q_C X cc nL own ret nm) (hd : decode cc pc = .ok (.astore_n n, 1)) (hi : (n : Nat) = i) (hn : i < nL) (hv : (i, Value.ref x) :: lv.filter (fun q => !(q.1 == i) && !(q.1 + 1 == i && q.2.category == 2)) = lw) (k : q_V X Rm cc nL cells slots (pc + 1) lw st S R I) : q_V X Rm cc nL cells slots pc lv (.ref x :: st) S R I := by
  obtain ⟨p, l, e, s, m, args, below, meth, c, D, cy, B, Q⟩ := X
  obtain ⟨hx, hb, hml, hown, hK, hB, hlk, hrt, hnm⟩ := hX
  intro H locs ls hR hF hl
  exact lv_astore_n hx hb hd hi hl hn hv (fun ls hl => k H locs ls hR hF hl)
theorem v_astore {i : Nat} {x : Nat} {lw : List (Nat × Value)} (hX : q_C X cc nL own ret nm) (hd : decode cc pc = .ok (.astore i, 2)) (hn : i < nL) (hv : (i, Value.ref x) :: lv.filter (fun q => !(q.1 == i) && !(q.1 + 1 == i && q.2.category == 2)) = lw) (k : q_V X Rm cc nL cells slots (pc + 2) lw st S R I) : q_V X Rm cc nL cells slots pc lv (.ref x :: st) S R I := by
  obtain ⟨p, l, e, s, m, args, below, meth, c, D, cy, B, Q⟩ := X
  obtain ⟨hx, hb, hml, hown, hK, hB, hlk, hrt, hnm⟩ := hX
  intro H locs ls hR hF hl
  exact lv_astore hx hb hd hl hn hv (fun ls hl => k H locs ls hR hF hl)
theorem v_iinc {i : Nat} (q : Nat) {n x : Int} {lw : List (Nat × Value)} (hX : q_C X cc nL own ret nm) (hd : decode cc pc = .ok (.iinc i n, 3)) (hq : lv[q]? = some (i, .int (q_i x))) (hn : i < nL) (hv : (i, Value.int (q_i (x + n))) :: lv.filter (fun q => !(q.1 == i) && !(q.1 + 1 == i && q.2.category == 2)) = lw) (k : q_V X Rm cc nL cells slots (pc + 3) lw st S R I) : q_V X Rm cc nL cells slots pc lv st S R I := by
  obtain ⟨p, l, e, s, m, args, below, meth, c, D, cy, B, Q⟩ := X
  obtain ⟨hx, hb, hml, hown, hK, hB, hlk, hrt, hnm⟩ := hX
  intro H locs ls hR hF hl
  exact lv_iinc hx hb hd hl hq (q_iAdd x n) hn hv (fun ls hl => k H locs ls hR hF hl)
theorem v_iadd {x y : Int} (hX : q_C X cc nL own ret nm) (hd : decode cc pc = .ok (.iadd, 1)) (k : q_V X Rm cc nL cells slots (pc + 1) lv (.int (q_i (x + y)) :: st) S R I) : q_V X Rm cc nL cells slots pc lv (.int (q_i y) :: .int (q_i x) :: st) S R I := by
  obtain ⟨p, l, e, s, m, args, below, meth, c, D, cy, B, Q⟩ := X
  obtain ⟨hx, hb, hml, hown, hK, hB, hlk, hrt, hnm⟩ := hX
  intro H locs ls hR hF hl
  refine lv_iadd hx hb hd ?_
  rw [q_iAdd x y]
  exact k H locs ls hR hF hl
theorem v_isub {x y : Int} (hX : q_C X cc nL own ret nm) (hd : decode cc pc = .ok (.isub, 1)) (k : q_V X Rm cc nL cells slots (pc + 1) lv (.int (q_i (x - y)) :: st) S R I) : q_V X Rm cc nL cells slots pc lv (.int (q_i y) :: .int (q_i x) :: st) S R I := by
  obtain ⟨p, l, e, s, m, args, below, meth, c, D, cy, B, Q⟩ := X
  obtain ⟨hx, hb, hml, hown, hK, hB, hlk, hrt, hnm⟩ := hX
  intro H locs ls hR hF hl
  refine lv_isub hx hb hd ?_
  rw [q_iSub x y]
  exact k H locs ls hR hF hl
theorem v_imul {x y : Int} (hX : q_C X cc nL own ret nm) (hd : decode cc pc = .ok (.imul, 1)) (k : q_V X Rm cc nL cells slots (pc + 1) lv (.int (q_i (x * y)) :: st) S R I) : q_V X Rm cc nL cells slots pc lv (.int (q_i y) :: .int (q_i x) :: st) S R I := by
  obtain ⟨p, l, e, s, m, args, below, meth, c, D, cy, B, Q⟩ := X
  obtain ⟨hx, hb, hml, hown, hK, hB, hlk, hrt, hnm⟩ := hX
  intro H locs ls hR hF hl
  refine lv_imul hx hb hd ?_
  rw [q_iMul x y]
  exact k H locs ls hR hF hl
theorem v_ladd {x y : Int} (hX : q_C X cc nL own ret nm) (hd : decode cc pc = .ok (.ladd, 1)) (k : q_V X Rm cc nL cells slots (pc + 1) lv (.long (q_l (x + y)) :: st) S R I) : q_V X Rm cc nL cells slots pc lv (.long (q_l y) :: .long (q_l x) :: st) S R I := by
  obtain ⟨p, l, e, s, m, args, below, meth, c, D, cy, B, Q⟩ := X
  obtain ⟨hx, hb, hml, hown, hK, hB, hlk, hrt, hnm⟩ := hX
  intro H locs ls hR hF hl
  refine lv_ladd hx hb hd ?_
  rw [q_lAdd x y]
  exact k H locs ls hR hF hl
theorem v_lsub {x y : Int} (hX : q_C X cc nL own ret nm) (hd : decode cc pc = .ok (.lsub, 1)) (k : q_V X Rm cc nL cells slots (pc + 1) lv (.long (q_l (x - y)) :: st) S R I) : q_V X Rm cc nL cells slots pc lv (.long (q_l y) :: .long (q_l x) :: st) S R I := by
  obtain ⟨p, l, e, s, m, args, below, meth, c, D, cy, B, Q⟩ := X
  obtain ⟨hx, hb, hml, hown, hK, hB, hlk, hrt, hnm⟩ := hX
  intro H locs ls hR hF hl
  refine lv_lsub hx hb hd ?_
  rw [q_lSub x y]
  exact k H locs ls hR hF hl
theorem v_lmul {x y : Int} (hX : q_C X cc nL own ret nm) (hd : decode cc pc = .ok (.lmul, 1)) (k : q_V X Rm cc nL cells slots (pc + 1) lv (.long (q_l (x * y)) :: st) S R I) : q_V X Rm cc nL cells slots pc lv (.long (q_l y) :: .long (q_l x) :: st) S R I := by
  obtain ⟨p, l, e, s, m, args, below, meth, c, D, cy, B, Q⟩ := X
  obtain ⟨hx, hb, hml, hown, hK, hB, hlk, hrt, hnm⟩ := hX
  intro H locs ls hR hF hl
  refine lv_lmul hx hb hd ?_
  rw [q_lMul x y]
  exact k H locs ls hR hF hl
theorem v_lneg {x : Int} (hX : q_C X cc nL own ret nm) (hd : decode cc pc = .ok (.lneg, 1)) (k : q_V X Rm cc nL cells slots (pc + 1) lv (.long (q_l (-x)) :: st) S R I) : q_V X Rm cc nL cells slots pc lv (.long (q_l x) :: st) S R I := by
  obtain ⟨p, l, e, s, m, args, below, meth, c, D, cy, B, Q⟩ := X
  obtain ⟨hx, hb, hml, hown, hK, hB, hlk, hrt, hnm⟩ := hX
  intro H locs ls hR hF hl
  refine lv_lneg hx hb hd ?_
  rw [q_lNeg]
  exact k H locs ls hR hF hl
theorem v_idiv {x y : Int} (hX : q_C X cc nL own ret nm) (gx : r_i x) (gy : r_i y) (g0 : y ≠ 0) (hd : decode cc pc = .ok (.idiv, 1)) (k : q_V X Rm cc nL cells slots (pc + 1) lv (.int (q_i (x.tdiv y)) :: st) S R I) : q_V X Rm cc nL cells slots pc lv (.int (q_i y) :: .int (q_i x) :: st) S R I := by
  obtain ⟨p, l, e, s, m, args, below, meth, c, D, cy, B, Q⟩ := X
  obtain ⟨hx, hb, hml, hown, hK, hB, hlk, hrt, hnm⟩ := hX
  intro H locs ls hR hF hl
  refine lv_idiv hx hb hd (fun h => g0 ?_) ?_
  · rw [← q_i0, q_iEq gy (by unfold r_i; omega)] at h; exact h
  · rw [q_iDiv gx gy]; exact k H locs ls hR hF hl
theorem v_irem {x y : Int} (hX : q_C X cc nL own ret nm) (gx : r_i x) (gy : r_i y) (g0 : y ≠ 0) (hd : decode cc pc = .ok (.irem, 1)) (k : q_V X Rm cc nL cells slots (pc + 1) lv (.int (q_i (x.tmod y)) :: st) S R I) : q_V X Rm cc nL cells slots pc lv (.int (q_i y) :: .int (q_i x) :: st) S R I := by
  obtain ⟨p, l, e, s, m, args, below, meth, c, D, cy, B, Q⟩ := X
  obtain ⟨hx, hb, hml, hown, hK, hB, hlk, hrt, hnm⟩ := hX
  intro H locs ls hR hF hl
  refine lv_irem hx hb hd (fun h => g0 ?_) ?_
  · rw [← q_i0, q_iEq gy (by unfold r_i; omega)] at h; exact h
  · rw [q_iDiv gx gy, q_iMul, q_iSub, q_tmod]; exact k H locs ls hR hF hl
theorem v_ldiv {x y : Int} (hX : q_C X cc nL own ret nm) (gx : r_l x) (gy : r_l y) (g0 : y ≠ 0) (hd : decode cc pc = .ok (.ldiv, 1)) (k : q_V X Rm cc nL cells slots (pc + 1) lv (.long (q_l (x.tdiv y)) :: st) S R I) : q_V X Rm cc nL cells slots pc lv (.long (q_l y) :: .long (q_l x) :: st) S R I := by
  obtain ⟨p, l, e, s, m, args, below, meth, c, D, cy, B, Q⟩ := X
  obtain ⟨hx, hb, hml, hown, hK, hB, hlk, hrt, hnm⟩ := hX
  intro H locs ls hR hF hl
  refine lv_ldiv hx hb hd (fun h => g0 ?_) ?_
  · rw [← q_l0, q_lEq gy (by unfold r_l; omega)] at h; exact h
  · rw [q_lDiv gx gy]; exact k H locs ls hR hF hl
theorem v_lrem {x y : Int} (hX : q_C X cc nL own ret nm) (gx : r_l x) (gy : r_l y) (g0 : y ≠ 0) (hd : decode cc pc = .ok (.lrem, 1)) (k : q_V X Rm cc nL cells slots (pc + 1) lv (.long (q_l (x.tmod y)) :: st) S R I) : q_V X Rm cc nL cells slots pc lv (.long (q_l y) :: .long (q_l x) :: st) S R I := by
  obtain ⟨p, l, e, s, m, args, below, meth, c, D, cy, B, Q⟩ := X
  obtain ⟨hx, hb, hml, hown, hK, hB, hlk, hrt, hnm⟩ := hX
  intro H locs ls hR hF hl
  refine lv_lrem hx hb hd (fun h => g0 ?_) ?_
  · rw [← q_l0, q_lEq gy (by unfold r_l; omega)] at h; exact h
  · rw [q_lDiv gx gy, q_lMul, q_lSub, q_tmod]; exact k H locs ls hR hF hl
def q_and (x y : Int) : Int := (q_i x &&& q_i y).toInt
def q_xor (x y : Int) : Int := (q_i x ^^^ q_i y).toInt
def q_shl (x y : Int) : Int := (q_i x <<< (q_i y &&& 31)).toInt
def q_shr (x y : Int) : Int := (q_i x >>> (q_i y &&& 31)).toInt
def q_ushr (x y : Int) : Int := (((q_i x).toUInt32 >>> ((q_i y).toUInt32 &&& Int32.toUInt32 31)).toInt32).toInt
theorem q_iOf (v : Int32) : q_i v.toInt = v := Int32.ofInt_toInt v
theorem v_iand {x y : Int} (hX : q_C X cc nL own ret nm) (hd : decode cc pc = .ok (.iand, 1)) (k : q_V X Rm cc nL cells slots (pc + 1) lv (.int (q_i (q_and x y)) :: st) S R I) : q_V X Rm cc nL cells slots pc lv (.int (q_i y) :: .int (q_i x) :: st) S R I := by
  obtain ⟨p, l, e, s, m, args, below, meth, c, D, cy, B, Q⟩ := X
  obtain ⟨hx, hb, hml, hown, hK, hB, hlk, hrt, hnm⟩ := hX
  intro H locs ls hR hF hl
  refine lv_iand hx hb hd ?_
  have k2 := k H locs ls hR hF hl
  rw [q_and, q_iOf] at k2
  exact k2
theorem v_ixor {x y : Int} (hX : q_C X cc nL own ret nm) (hd : decode cc pc = .ok (.ixor, 1)) (k : q_V X Rm cc nL cells slots (pc + 1) lv (.int (q_i (q_xor x y)) :: st) S R I) : q_V X Rm cc nL cells slots pc lv (.int (q_i y) :: .int (q_i x) :: st) S R I := by
  obtain ⟨p, l, e, s, m, args, below, meth, c, D, cy, B, Q⟩ := X
  obtain ⟨hx, hb, hml, hown, hK, hB, hlk, hrt, hnm⟩ := hX
  intro H locs ls hR hF hl
  refine lv_ixor hx hb hd ?_
  have k2 := k H locs ls hR hF hl
  rw [q_xor, q_iOf] at k2
  exact k2
theorem v_ishl {x y : Int} (hX : q_C X cc nL own ret nm) (hd : decode cc pc = .ok (.ishl, 1)) (k : q_V X Rm cc nL cells slots (pc + 1) lv (.int (q_i (q_shl x y)) :: st) S R I) : q_V X Rm cc nL cells slots pc lv (.int (q_i y) :: .int (q_i x) :: st) S R I := by
  obtain ⟨p, l, e, s, m, args, below, meth, c, D, cy, B, Q⟩ := X
  obtain ⟨hx, hb, hml, hown, hK, hB, hlk, hrt, hnm⟩ := hX
  intro H locs ls hR hF hl
  refine lv_ishl hx hb hd ?_
  have k2 := k H locs ls hR hF hl
  rw [q_shl, q_iOf] at k2
  exact k2
theorem v_ishr {x y : Int} (hX : q_C X cc nL own ret nm) (hd : decode cc pc = .ok (.ishr, 1)) (k : q_V X Rm cc nL cells slots (pc + 1) lv (.int (q_i (q_shr x y)) :: st) S R I) : q_V X Rm cc nL cells slots pc lv (.int (q_i y) :: .int (q_i x) :: st) S R I := by
  obtain ⟨p, l, e, s, m, args, below, meth, c, D, cy, B, Q⟩ := X
  obtain ⟨hx, hb, hml, hown, hK, hB, hlk, hrt, hnm⟩ := hX
  intro H locs ls hR hF hl
  refine lv_ishr hx hb hd ?_
  have k2 := k H locs ls hR hF hl
  rw [q_shr, q_iOf] at k2
  exact k2
theorem v_iushr {x y : Int} (hX : q_C X cc nL own ret nm) (hd : decode cc pc = .ok (.iushr, 1)) (k : q_V X Rm cc nL cells slots (pc + 1) lv (.int (q_i (q_ushr x y)) :: st) S R I) : q_V X Rm cc nL cells slots pc lv (.int (q_i y) :: .int (q_i x) :: st) S R I := by
  obtain ⟨p, l, e, s, m, args, below, meth, c, D, cy, B, Q⟩ := X
  obtain ⟨hx, hb, hml, hown, hK, hB, hlk, hrt, hnm⟩ := hX
  intro H locs ls hR hF hl
  have k2 := k H locs ls hR hF hl
  rw [q_ushr, q_iOf] at k2
  exact lv_iushr hx hb hd rfl k2
theorem v_i2l {x : Int} (hX : q_C X cc nL own ret nm) (gx : r_i x) (hd : decode cc pc = .ok (.i2l, 1)) (k : q_V X Rm cc nL cells slots (pc + 1) lv (.long (q_l x) :: st) S R I) : q_V X Rm cc nL cells slots pc lv (.int (q_i x) :: st) S R I := by
  obtain ⟨p, l, e, s, m, args, below, meth, c, D, cy, B, Q⟩ := X
  obtain ⟨hx, hb, hml, hown, hK, hB, hlk, hrt, hnm⟩ := hX
  intro H locs ls hR hF hl
  exact lv_i2l hx hb hd (q_i2l gx) (k H locs ls hR hF hl)
theorem v_l2i {x : Int} (hX : q_C X cc nL own ret nm) (hd : decode cc pc = .ok (.l2i, 1)) (k : q_V X Rm cc nL cells slots (pc + 1) lv (.int (q_i x) :: st) S R I) : q_V X Rm cc nL cells slots pc lv (.long (q_l x) :: st) S R I := by
  obtain ⟨p, l, e, s, m, args, below, meth, c, D, cy, B, Q⟩ := X
  obtain ⟨hx, hb, hml, hown, hK, hB, hlk, hrt, hnm⟩ := hX
  intro H locs ls hR hF hl
  exact lv_l2i hx hb hd (q_l2i x) (k H locs ls hR hF hl)
theorem v_lcmp {x y : Int} (hX : q_C X cc nL own ret nm) (gx : r_l x) (gy : r_l y) (hd : decode cc pc = .ok (.lcmp, 1)) (k : q_V X Rm cc nL cells slots (pc + 1) lv (.int (q_i (q_cmp x y)) :: st) S R I) : q_V X Rm cc nL cells slots pc lv (.long (q_l y) :: .long (q_l x) :: st) S R I := by
  obtain ⟨p, l, e, s, m, args, below, meth, c, D, cy, B, Q⟩ := X
  obtain ⟨hx, hb, hml, hown, hK, hB, hlk, hrt, hnm⟩ := hX
  intro H locs ls hR hF hl
  refine W.lcmp hx hb hd ?_
  rw [q_cmpE gx gy]
  exact k H locs ls hR hF hl
theorem v_dup {v : Value} (hX : q_C X cc nL own ret nm) (hd : decode cc pc = .ok (.dup, 1)) (hc : v.category = 1) (k : q_V X Rm cc nL cells slots (pc + 1) lv (v :: v :: st) S R I) : q_V X Rm cc nL cells slots pc lv (v :: st) S R I := by
  obtain ⟨p, l, e, s, m, args, below, meth, c, D, cy, B, Q⟩ := X
  obtain ⟨hx, hb, hml, hown, hK, hB, hlk, hrt, hnm⟩ := hX
  intro H locs ls hR hF hl
  exact lv_dup hx hb hd hc (k H locs ls hR hF hl)
theorem v_dup_x1 {v w : Value} (hX : q_C X cc nL own ret nm) (hd : decode cc pc = .ok (.dup_x1, 1)) (hc : v.category = 1) (hc2 : w.category = 1) (k : q_V X Rm cc nL cells slots (pc + 1) lv (v :: w :: v :: st) S R I) : q_V X Rm cc nL cells slots pc lv (v :: w :: st) S R I := by
  obtain ⟨p, l, e, s, m, args, below, meth, c, D, cy, B, Q⟩ := X
  obtain ⟨hx, hb, hml, hown, hK, hB, hlk, hrt, hnm⟩ := hX
  intro H locs ls hR hF hl
  exact lv_dup_x1 hx hb hd hc hc2 (k H locs ls hR hF hl)
theorem v_dup2 {v w : Value} (hX : q_C X cc nL own ret nm) (hd : decode cc pc = .ok (.dup2, 1)) (hc : v.category = 1) (hc2 : w.category = 1) (k : q_V X Rm cc nL cells slots (pc + 1) lv (v :: w :: v :: w :: st) S R I) : q_V X Rm cc nL cells slots pc lv (v :: w :: st) S R I := by
  obtain ⟨p, l, e, s, m, args, below, meth, c, D, cy, B, Q⟩ := X
  obtain ⟨hx, hb, hml, hown, hK, hB, hlk, hrt, hnm⟩ := hX
  intro H locs ls hR hF hl
  exact lv_dup2_11 hx hb hd hc hc2 (k H locs ls hR hF hl)
theorem v_icmp_eq {x y : Int} {off : Int} {tgt : Nat} (hX : q_C X cc nL own ret nm) (gx : r_i x) (gy : r_i y) (hd : decode cc pc = .ok (.if_icmp .eq off, 3)) (ht : (pc : Int) + off = (tgt : Int)) (kt : x = y → q_V X Rm cc nL cells slots tgt lv st S R I) (kf : ¬ (x = y) → q_V X Rm cc nL cells slots (pc + 3) lv st S R I) : q_V X Rm cc nL cells slots pc lv (.int (q_i y) :: .int (q_i x) :: st) S R I := by
  obtain ⟨p, l, e, s, m, args, below, meth, c, D, cy, B, Q⟩ := X
  obtain ⟨hx, hb, hml, hown, hK, hB, hlk, hrt, hnm⟩ := hX
  intro H locs ls hR hF hl
  exact lv_icmp_eq hx hb hd ht (fun h => kt ((q_iEq gx gy).mp h) H locs ls hR hF hl) (fun h => kf (fun q => h ((q_iEq gx gy).mpr q)) H locs ls hR hF hl)
theorem v_if_eq {x : Int} {off : Int} {tgt : Nat} (hX : q_C X cc nL own ret nm) (gx : r_i x) (hd : decode cc pc = .ok (.ifCond .eq off, 3)) (ht : (pc : Int) + off = (tgt : Int)) (kt : x = 0 → q_V X Rm cc nL cells slots tgt lv st S R I) (kf : ¬ (x = 0) → q_V X Rm cc nL cells slots (pc + 3) lv st S R I) : q_V X Rm cc nL cells slots pc lv (.int (q_i x) :: st) S R I := by
  obtain ⟨p, l, e, s, m, args, below, meth, c, D, cy, B, Q⟩ := X
  obtain ⟨hx, hb, hml, hown, hK, hB, hlk, hrt, hnm⟩ := hX
  intro H locs ls hR hF hl
  exact lv_if_eq hx hb hd ht (fun h => kt ((q_iEq gx r_i0).mp h) H locs ls hR hF hl) (fun h => kf (fun q => h ((q_iEq gx r_i0).mpr q)) H locs ls hR hF hl)
theorem v_ifc_eq {x y : Int} {off : Int} {tgt : Nat} (hX : q_C X cc nL own ret nm) (hd : decode cc pc = .ok (.ifCond .eq off, 3)) (ht : (pc : Int) + off = (tgt : Int)) (kt : x = y → q_V X Rm cc nL cells slots tgt lv st S R I) (kf : ¬ (x = y) → q_V X Rm cc nL cells slots (pc + 3) lv st S R I) : q_V X Rm cc nL cells slots pc lv (.int (q_i (q_cmp x y)) :: st) S R I := by
  obtain ⟨p, l, e, s, m, args, below, meth, c, D, cy, B, Q⟩ := X
  obtain ⟨hx, hb, hml, hown, hK, hB, hlk, hrt, hnm⟩ := hX
  intro H locs ls hR hF hl
  exact lv_if_eq hx hb hd ht (fun h => kt (q_cmp_eq.mp ((q_iEq (q_cmpR x y) r_i0).mp h)) H locs ls hR hF hl) (fun h => kf (fun q => h ((q_iEq (q_cmpR x y) r_i0).mpr (q_cmp_eq.mpr q))) H locs ls hR hF hl)
theorem v_icmp_ne {x y : Int} {off : Int} {tgt : Nat} (hX : q_C X cc nL own ret nm) (gx : r_i x) (gy : r_i y) (hd : decode cc pc = .ok (.if_icmp .ne off, 3)) (ht : (pc : Int) + off = (tgt : Int)) (kt : x = y → q_V X Rm cc nL cells slots (pc + 3) lv st S R I) (kf : ¬ (x = y) → q_V X Rm cc nL cells slots tgt lv st S R I) : q_V X Rm cc nL cells slots pc lv (.int (q_i y) :: .int (q_i x) :: st) S R I := by
  obtain ⟨p, l, e, s, m, args, below, meth, c, D, cy, B, Q⟩ := X
  obtain ⟨hx, hb, hml, hown, hK, hB, hlk, hrt, hnm⟩ := hX
  intro H locs ls hR hF hl
  refine lv_icmp_ne hx hb hd ht (fun h => kf (fun q => h ((q_iEq gx gy).mpr q)) H locs ls hR hF hl) (fun h => kt ?_ H locs ls hR hF hl)
  exact (q_iEq gx gy).mp h
theorem v_if_ne {x : Int} {off : Int} {tgt : Nat} (hX : q_C X cc nL own ret nm) (gx : r_i x) (hd : decode cc pc = .ok (.ifCond .ne off, 3)) (ht : (pc : Int) + off = (tgt : Int)) (kt : x = 0 → q_V X Rm cc nL cells slots (pc + 3) lv st S R I) (kf : ¬ (x = 0) → q_V X Rm cc nL cells slots tgt lv st S R I) : q_V X Rm cc nL cells slots pc lv (.int (q_i x) :: st) S R I := by
  obtain ⟨p, l, e, s, m, args, below, meth, c, D, cy, B, Q⟩ := X
  obtain ⟨hx, hb, hml, hown, hK, hB, hlk, hrt, hnm⟩ := hX
  intro H locs ls hR hF hl
  refine lv_if_ne hx hb hd ht (fun h => kf (fun q => h ((q_iEq gx r_i0).mpr q)) H locs ls hR hF hl) (fun h => kt ?_ H locs ls hR hF hl)
  exact (q_iEq gx r_i0).mp h
theorem v_ifc_ne {x y : Int} {off : Int} {tgt : Nat} (hX : q_C X cc nL own ret nm) (hd : decode cc pc = .ok (.ifCond .ne off, 3)) (ht : (pc : Int) + off = (tgt : Int)) (kt : x = y → q_V X Rm cc nL cells slots (pc + 3) lv st S R I) (kf : ¬ (x = y) → q_V X Rm cc nL cells slots tgt lv st S R I) : q_V X Rm cc nL cells slots pc lv (.int (q_i (q_cmp x y)) :: st) S R I := by
  obtain ⟨p, l, e, s, m, args, below, meth, c, D, cy, B, Q⟩ := X
  obtain ⟨hx, hb, hml, hown, hK, hB, hlk, hrt, hnm⟩ := hX
  intro H locs ls hR hF hl
  refine lv_if_ne hx hb hd ht (fun h => kf (fun q => h ((q_iEq (q_cmpR x y) r_i0).mpr (q_cmp_eq.mpr q))) H locs ls hR hF hl) (fun h => kt ?_ H locs ls hR hF hl)
  exact q_cmp_eq.mp ((q_iEq (q_cmpR x y) r_i0).mp h)
theorem v_icmp_lt {x y : Int} {off : Int} {tgt : Nat} (hX : q_C X cc nL own ret nm) (gx : r_i x) (gy : r_i y) (hd : decode cc pc = .ok (.if_icmp .lt off, 3)) (ht : (pc : Int) + off = (tgt : Int)) (kt : x < y → q_V X Rm cc nL cells slots tgt lv st S R I) (kf : ¬ (x < y) → q_V X Rm cc nL cells slots (pc + 3) lv st S R I) : q_V X Rm cc nL cells slots pc lv (.int (q_i y) :: .int (q_i x) :: st) S R I := by
  obtain ⟨p, l, e, s, m, args, below, meth, c, D, cy, B, Q⟩ := X
  obtain ⟨hx, hb, hml, hown, hK, hB, hlk, hrt, hnm⟩ := hX
  intro H locs ls hR hF hl
  exact lv_icmp_lt hx hb hd ht (fun h => kt ((q_iLt gx gy).mp h) H locs ls hR hF hl) (fun h => kf (fun q => h ((q_iLt gx gy).mpr q)) H locs ls hR hF hl)
theorem v_if_lt {x : Int} {off : Int} {tgt : Nat} (hX : q_C X cc nL own ret nm) (gx : r_i x) (hd : decode cc pc = .ok (.ifCond .lt off, 3)) (ht : (pc : Int) + off = (tgt : Int)) (kt : x < 0 → q_V X Rm cc nL cells slots tgt lv st S R I) (kf : ¬ (x < 0) → q_V X Rm cc nL cells slots (pc + 3) lv st S R I) : q_V X Rm cc nL cells slots pc lv (.int (q_i x) :: st) S R I := by
  obtain ⟨p, l, e, s, m, args, below, meth, c, D, cy, B, Q⟩ := X
  obtain ⟨hx, hb, hml, hown, hK, hB, hlk, hrt, hnm⟩ := hX
  intro H locs ls hR hF hl
  exact lv_if_lt hx hb hd ht (fun h => kt ((q_iLt gx r_i0).mp h) H locs ls hR hF hl) (fun h => kf (fun q => h ((q_iLt gx r_i0).mpr q)) H locs ls hR hF hl)
theorem v_ifc_lt {x y : Int} {off : Int} {tgt : Nat} (hX : q_C X cc nL own ret nm) (hd : decode cc pc = .ok (.ifCond .lt off, 3)) (ht : (pc : Int) + off = (tgt : Int)) (kt : x < y → q_V X Rm cc nL cells slots tgt lv st S R I) (kf : ¬ (x < y) → q_V X Rm cc nL cells slots (pc + 3) lv st S R I) : q_V X Rm cc nL cells slots pc lv (.int (q_i (q_cmp x y)) :: st) S R I := by
  obtain ⟨p, l, e, s, m, args, below, meth, c, D, cy, B, Q⟩ := X
  obtain ⟨hx, hb, hml, hown, hK, hB, hlk, hrt, hnm⟩ := hX
  intro H locs ls hR hF hl
  exact lv_if_lt hx hb hd ht (fun h => kt (q_cmp_lt.mp ((q_iLt (q_cmpR x y) r_i0).mp h)) H locs ls hR hF hl) (fun h => kf (fun q => h ((q_iLt (q_cmpR x y) r_i0).mpr (q_cmp_lt.mpr q))) H locs ls hR hF hl)
theorem v_icmp_ge {x y : Int} {off : Int} {tgt : Nat} (hX : q_C X cc nL own ret nm) (gx : r_i x) (gy : r_i y) (hd : decode cc pc = .ok (.if_icmp .ge off, 3)) (ht : (pc : Int) + off = (tgt : Int)) (kt : y ≤ x → q_V X Rm cc nL cells slots tgt lv st S R I) (kf : ¬ (y ≤ x) → q_V X Rm cc nL cells slots (pc + 3) lv st S R I) : q_V X Rm cc nL cells slots pc lv (.int (q_i y) :: .int (q_i x) :: st) S R I := by
  obtain ⟨p, l, e, s, m, args, below, meth, c, D, cy, B, Q⟩ := X
  obtain ⟨hx, hb, hml, hown, hK, hB, hlk, hrt, hnm⟩ := hX
  intro H locs ls hR hF hl
  exact lv_icmp_ge hx hb hd ht (fun h => kt ((q_iLe gy gx).mp h) H locs ls hR hF hl) (fun h => kf (fun q => h ((q_iLe gy gx).mpr q)) H locs ls hR hF hl)
theorem v_if_ge {x : Int} {off : Int} {tgt : Nat} (hX : q_C X cc nL own ret nm) (gx : r_i x) (hd : decode cc pc = .ok (.ifCond .ge off, 3)) (ht : (pc : Int) + off = (tgt : Int)) (kt : 0 ≤ x → q_V X Rm cc nL cells slots tgt lv st S R I) (kf : ¬ (0 ≤ x) → q_V X Rm cc nL cells slots (pc + 3) lv st S R I) : q_V X Rm cc nL cells slots pc lv (.int (q_i x) :: st) S R I := by
  obtain ⟨p, l, e, s, m, args, below, meth, c, D, cy, B, Q⟩ := X
  obtain ⟨hx, hb, hml, hown, hK, hB, hlk, hrt, hnm⟩ := hX
  intro H locs ls hR hF hl
  exact lv_if_ge hx hb hd ht (fun h => kt ((q_iLe r_i0 gx).mp h) H locs ls hR hF hl) (fun h => kf (fun q => h ((q_iLe r_i0 gx).mpr q)) H locs ls hR hF hl)
theorem v_ifc_ge {x y : Int} {off : Int} {tgt : Nat} (hX : q_C X cc nL own ret nm) (hd : decode cc pc = .ok (.ifCond .ge off, 3)) (ht : (pc : Int) + off = (tgt : Int)) (kt : y ≤ x → q_V X Rm cc nL cells slots tgt lv st S R I) (kf : ¬ (y ≤ x) → q_V X Rm cc nL cells slots (pc + 3) lv st S R I) : q_V X Rm cc nL cells slots pc lv (.int (q_i (q_cmp x y)) :: st) S R I := by
  obtain ⟨p, l, e, s, m, args, below, meth, c, D, cy, B, Q⟩ := X
  obtain ⟨hx, hb, hml, hown, hK, hB, hlk, hrt, hnm⟩ := hX
  intro H locs ls hR hF hl
  exact lv_if_ge hx hb hd ht (fun h => kt (q_cmp_ge.mp ((q_iLe r_i0 (q_cmpR x y)).mp h)) H locs ls hR hF hl) (fun h => kf (fun q => h ((q_iLe r_i0 (q_cmpR x y)).mpr (q_cmp_ge.mpr q))) H locs ls hR hF hl)
theorem v_icmp_gt {x y : Int} {off : Int} {tgt : Nat} (hX : q_C X cc nL own ret nm) (gx : r_i x) (gy : r_i y) (hd : decode cc pc = .ok (.if_icmp .gt off, 3)) (ht : (pc : Int) + off = (tgt : Int)) (kt : y < x → q_V X Rm cc nL cells slots tgt lv st S R I) (kf : ¬ (y < x) → q_V X Rm cc nL cells slots (pc + 3) lv st S R I) : q_V X Rm cc nL cells slots pc lv (.int (q_i y) :: .int (q_i x) :: st) S R I := by
  obtain ⟨p, l, e, s, m, args, below, meth, c, D, cy, B, Q⟩ := X
  obtain ⟨hx, hb, hml, hown, hK, hB, hlk, hrt, hnm⟩ := hX
  intro H locs ls hR hF hl
  exact lv_icmp_gt hx hb hd ht (fun h => kt ((q_iLt gy gx).mp h) H locs ls hR hF hl) (fun h => kf (fun q => h ((q_iLt gy gx).mpr q)) H locs ls hR hF hl)
theorem v_if_gt {x : Int} {off : Int} {tgt : Nat} (hX : q_C X cc nL own ret nm) (gx : r_i x) (hd : decode cc pc = .ok (.ifCond .gt off, 3)) (ht : (pc : Int) + off = (tgt : Int)) (kt : 0 < x → q_V X Rm cc nL cells slots tgt lv st S R I) (kf : ¬ (0 < x) → q_V X Rm cc nL cells slots (pc + 3) lv st S R I) : q_V X Rm cc nL cells slots pc lv (.int (q_i x) :: st) S R I := by
  obtain ⟨p, l, e, s, m, args, below, meth, c, D, cy, B, Q⟩ := X
  obtain ⟨hx, hb, hml, hown, hK, hB, hlk, hrt, hnm⟩ := hX
  intro H locs ls hR hF hl
  exact lv_if_gt hx hb hd ht (fun h => kt ((q_iLt r_i0 gx).mp h) H locs ls hR hF hl) (fun h => kf (fun q => h ((q_iLt r_i0 gx).mpr q)) H locs ls hR hF hl)
theorem v_ifc_gt {x y : Int} {off : Int} {tgt : Nat} (hX : q_C X cc nL own ret nm) (hd : decode cc pc = .ok (.ifCond .gt off, 3)) (ht : (pc : Int) + off = (tgt : Int)) (kt : y < x → q_V X Rm cc nL cells slots tgt lv st S R I) (kf : ¬ (y < x) → q_V X Rm cc nL cells slots (pc + 3) lv st S R I) : q_V X Rm cc nL cells slots pc lv (.int (q_i (q_cmp x y)) :: st) S R I := by
  obtain ⟨p, l, e, s, m, args, below, meth, c, D, cy, B, Q⟩ := X
  obtain ⟨hx, hb, hml, hown, hK, hB, hlk, hrt, hnm⟩ := hX
  intro H locs ls hR hF hl
  exact lv_if_gt hx hb hd ht (fun h => kt (q_cmp_gt.mp ((q_iLt r_i0 (q_cmpR x y)).mp h)) H locs ls hR hF hl) (fun h => kf (fun q => h ((q_iLt r_i0 (q_cmpR x y)).mpr (q_cmp_gt.mpr q))) H locs ls hR hF hl)
theorem v_icmp_le {x y : Int} {off : Int} {tgt : Nat} (hX : q_C X cc nL own ret nm) (gx : r_i x) (gy : r_i y) (hd : decode cc pc = .ok (.if_icmp .le off, 3)) (ht : (pc : Int) + off = (tgt : Int)) (kt : x ≤ y → q_V X Rm cc nL cells slots tgt lv st S R I) (kf : ¬ (x ≤ y) → q_V X Rm cc nL cells slots (pc + 3) lv st S R I) : q_V X Rm cc nL cells slots pc lv (.int (q_i y) :: .int (q_i x) :: st) S R I := by
  obtain ⟨p, l, e, s, m, args, below, meth, c, D, cy, B, Q⟩ := X
  obtain ⟨hx, hb, hml, hown, hK, hB, hlk, hrt, hnm⟩ := hX
  intro H locs ls hR hF hl
  exact lv_icmp_le hx hb hd ht (fun h => kt ((q_iLe gx gy).mp h) H locs ls hR hF hl) (fun h => kf (fun q => h ((q_iLe gx gy).mpr q)) H locs ls hR hF hl)
theorem v_if_le {x : Int} {off : Int} {tgt : Nat} (hX : q_C X cc nL own ret nm) (gx : r_i x) (hd : decode cc pc = .ok (.ifCond .le off, 3)) (ht : (pc : Int) + off = (tgt : Int)) (kt : x ≤ 0 → q_V X Rm cc nL cells slots tgt lv st S R I) (kf : ¬ (x ≤ 0) → q_V X Rm cc nL cells slots (pc + 3) lv st S R I) : q_V X Rm cc nL cells slots pc lv (.int (q_i x) :: st) S R I := by
  obtain ⟨p, l, e, s, m, args, below, meth, c, D, cy, B, Q⟩ := X
  obtain ⟨hx, hb, hml, hown, hK, hB, hlk, hrt, hnm⟩ := hX
  intro H locs ls hR hF hl
  exact lv_if_le hx hb hd ht (fun h => kt ((q_iLe gx r_i0).mp h) H locs ls hR hF hl) (fun h => kf (fun q => h ((q_iLe gx r_i0).mpr q)) H locs ls hR hF hl)
theorem v_ifc_le {x y : Int} {off : Int} {tgt : Nat} (hX : q_C X cc nL own ret nm) (hd : decode cc pc = .ok (.ifCond .le off, 3)) (ht : (pc : Int) + off = (tgt : Int)) (kt : x ≤ y → q_V X Rm cc nL cells slots tgt lv st S R I) (kf : ¬ (x ≤ y) → q_V X Rm cc nL cells slots (pc + 3) lv st S R I) : q_V X Rm cc nL cells slots pc lv (.int (q_i (q_cmp x y)) :: st) S R I := by
  obtain ⟨p, l, e, s, m, args, below, meth, c, D, cy, B, Q⟩ := X
  obtain ⟨hx, hb, hml, hown, hK, hB, hlk, hrt, hnm⟩ := hX
  intro H locs ls hR hF hl
  exact lv_if_le hx hb hd ht (fun h => kt (q_cmp_le.mp ((q_iLe (q_cmpR x y) r_i0).mp h)) H locs ls hR hF hl) (fun h => kf (fun q => h ((q_iLe (q_cmpR x y) r_i0).mpr (q_cmp_le.mpr q))) H locs ls hR hF hl)
theorem v_goto {off : Int} {tgt : Nat} (hX : q_C X cc nL own ret nm) (hd : decode cc pc = .ok (.goto off, 3)) (ht : (pc : Int) + off = (tgt : Int)) (k : q_V X Rm cc nL cells slots tgt lv st S R I) : q_V X Rm cc nL cells slots pc lv st S R I := by
  obtain ⟨p, l, e, s, m, args, below, meth, c, D, cy, B, Q⟩ := X
  obtain ⟨hx, hb, hml, hown, hK, hB, hlk, hrt, hnm⟩ := hX
  intro H locs ls hR hF hl
  exact lv_goto hx hb hd ht (k H locs ls hR hF hl)
end QV
end
section
section QH
variable {X : q_X} {Rm : Room} {cc : ByteArray} {nL cells slots pc : Nat} {lv : List (Nat × Value)} {st : List Value} {S : q_S} {R : q_HR} {I : q_HI} {own : String} {ret : Option FieldType} {nm : String}
/-! FIELDS -/
theorem q_getW {p : Program} {l : Launch} {e : Env} {s : State} {m : MethodId} {args : Array Value} {below : List Frame} {meth : Method} {c : Code} {D : va_G} {cy : Nat → ClassId} {B : Nat} {Q : State → Prop} {H : Heap} {locs : List Loc} {ls : Array Slot} {a idx k j : Nat} {fin nest : Bool} (hx : p.tables.exec = Jvm.exec) (hb : c.code = cc) (hown : s.vm.findClass own = some m.cls) (hK : q_K D cy s) (hR : q_R B D cy S R I H)
    (hA : q_FA own idx k j fin nest) (hk : S.1 a = k) (hd : decode cc pc = .ok (.getfield idx, 3)) (kk : W p l e Rm s m args below meth c H locs cells slots Q (F0 m (pc + 3) ls (q_fv (q_ty k j) (R a j) (I a j) :: st))) : W p l e Rm s m args below meth c H locs cells slots Q (F0 m pc ls (.ref a :: st)) := by
  obtain ⟨C, T, hC, hj, hk12, hk0, hTC, hfin, hws, hpf, hnms, hlk⟩ := hA
  have hc := (hR.2 a (by omega)).2
  rw [hk] at hc
  unfold q_cell at hc
  rw [if_pos hk12] at hc
  obtain ⟨cell, q1, q2, q3, q4⟩ := hc
  obtain ⟨hS, hfc, kC, hkC, hkind⟩ := hK.2.1.1 (k - 1) _ hC
  obtain ⟨cf, kf, fi, f, hi, hsl⟩ := hS j hj
  dsimp only at hi hsl hS hfc
  have hts : ∀ w ∈ u_ws C T (q_nf k), w.before args s = true := fun w hw => hK.use (hws w hw).1 (hws w hw).2 args
  have hst := (u_facts hfc hkC (u_lays hts (fun w h => h) hj) hi).1
  rw [hTC] at hi
  have hslot : cell.slots[f.slot]? = some (q_fv (q_ty k j) (R a j) (I a j)) := by rw [hsl]; exact q4 j hj
  cases nest with
  | false =>
    simp only [Bool.false_eq_true, if_false] at hlk
    exact W.getf hx hb hown (hK.use hlk.1 rfl args) hi hst q1 (by rw [q3]; exact fun h => by cases h) hslot rfl rfl hd kk
  | true =>
    simp only [if_true] at hlk
    obtain ⟨host, hlk⟩ := hlk
    exact va_Wgetf hx hb hown (hK.use hlk rfl args) hi hst q1 (by rw [q3]; exact fun h => by cases h) hslot rfl rfl hd kk
theorem v_getI {a idx k j : Nat} {fin nest : Bool} (hX : q_C X cc nL own ret nm) (hA : q_FA own idx k j fin nest) (hv : ∀ r z, q_fv (q_ty k j) r z = .int (q_i z)) (hk : S.1 a = k) (hd : decode cc pc = .ok (.getfield idx, 3)) (kk : q_V X Rm cc nL cells slots (pc + 3) lv (.int (q_i (I a j)) :: st) S R I) : q_V X Rm cc nL cells slots pc lv (.ref a :: st) S R I := by
  obtain ⟨p, l, e, s, m, args, below, meth, c, D, cy, B, Q⟩ := X
  obtain ⟨hx, hb, hml, hown, hK, hB, hlk, hrt, hnm⟩ := hX
  intro H locs ls hR hF hl
  refine q_getW hx hb hown hK hR hA hk hd ?_
  rw [hv]
  exact kk H locs ls hR hF hl
theorem v_getJ {a idx k j : Nat} {fin nest : Bool} (hX : q_C X cc nL own ret nm) (hA : q_FA own idx k j fin nest) (hv : ∀ r z, q_fv (q_ty k j) r z = .long (q_l z)) (hk : S.1 a = k) (hd : decode cc pc = .ok (.getfield idx, 3)) (kk : q_V X Rm cc nL cells slots (pc + 3) lv (.long (q_l (I a j)) :: st) S R I) : q_V X Rm cc nL cells slots pc lv (.ref a :: st) S R I := by
  obtain ⟨p, l, e, s, m, args, below, meth, c, D, cy, B, Q⟩ := X
  obtain ⟨hx, hb, hml, hown, hK, hB, hlk, hrt, hnm⟩ := hX
  intro H locs ls hR hF hl
  refine q_getW hx hb hown hK hR hA hk hd ?_
  rw [hv]
  exact kk H locs ls hR hF hl
theorem q_rf_ref {B : Nat} {D : va_G} {cy : Nat → ClassId} {H : Heap} (hB : 0 < B) (hR : q_R B D cy S R I H) {r k : Nat} (hr : S.1 r = k) (hk : k ≠ 0) : q_rf r = .ref r := by
  have := (hR.2 r (by omega)).1
  unfold q_rf
  rw [if_neg (by omega)]
theorem v_getA {a idx k j kr : Nat} {fin nest : Bool} (hX : q_C X cc nL own ret nm) (hA : q_FA own idx k j fin nest) (hv : ∀ r z, q_fv (q_ty k j) r z = q_rf r) (hk : S.1 a = k) (hr : S.1 (R a j) = kr) (hn : kr ≠ 0) (hd : decode cc pc = .ok (.getfield idx, 3)) (kk : q_V X Rm cc nL cells slots (pc + 3) lv (.ref (R a j) :: st) S R I) : q_V X Rm cc nL cells slots pc lv (.ref a :: st) S R I := by
  obtain ⟨p, l, e, s, m, args, below, meth, c, D, cy, B, Q⟩ := X
  obtain ⟨hx, hb, hml, hown, hK, hB, hlk, hrt, hnm⟩ := hX
  intro H locs ls hR hF hl
  refine q_getW hx hb hown hK hR hA hk hd ?_
  rw [hv, q_rf_ref hB hR hr hn]
  exact kk H locs ls hR hF hl
theorem q_putW {p : Program} {l : Launch} {e : Env} {s : State} {m : MethodId} {args : Array Value} {below : List Frame} {meth : Method} {c : Code} {D : va_G} {cy : Nat → ClassId} {B : Nat} {Q : State → Prop} {H : Heap} {locs : List Loc} {ls : Array Slot} {a idx k j : Nat} {fin nest : Bool} {v : Value} (hx : p.tables.exec = Jvm.exec) (hb : c.code = cc) (hown : s.vm.findClass own = some m.cls) (hK : q_K D cy s) (hR : q_R B D cy S R I H)
    (hA : q_FA own idx k j fin nest) (hfi : fin = false ∨ (nest = false ∧ meth.name = "<init>")) (hk : S.1 a = k) (hn : narrow (q_ty k j) v = v) (hf : fits (q_ty k j) v = true) (hd : decode cc pc = .ok (.putfield idx, 3))
    (kk : ∀ (H' : Heap) (sl : Nat), t_OB a (D.1 (k - 1)) (q_nf k) (D.2 (k - 1)) H' (updV (fun j => q_fv (q_ty k j) (R a j) (I a j)) j v) → H'.size = H.size → (∀ q : Nat, q ≠ a → H'[q]? = H[q]?) → W p l e Rm s m args below meth c H' (locs ++ [⟨a, sl⟩]) cells slots Q (F0 m (pc + 3) ls st)) : W p l e Rm s m args below meth c H locs cells slots Q (F0 m pc ls (v :: .ref a :: st)) := by
  obtain ⟨C, T, hC, hj, hk12, hk0, hTC, hfin, hws, hpf, hnms, hlk⟩ := hA
  have hc := (hR.2 a (by omega)).2
  rw [hk] at hc
  unfold q_cell at hc
  rw [if_pos hk12] at hc
  obtain ⟨cell, q1, q2, q3, q4⟩ := hc
  have hts : ∀ w ∈ u_ws C T (q_nf k), w.before args s = true := fun w hw => hK.use (hws w hw).1 (hws w hw).2 args
  have hap := va_apart (own := own) hts (fun w h => h) (q_ty k) hpf hnms hK.2.1 hC
  obtain ⟨hS, hfc, kC, hkC, hkind⟩ := hK.2.1.1 (k - 1) _ hC
  obtain ⟨cf, kf, fi, f, hi, hsl⟩ := hS j hj
  dsimp only at hi hsl hS hfc
  have hst := (u_facts hfc hkC (u_lays hts (fun w h => h) hj) hi).1
  have hlay := hts _ (u_in_lay hj)
  have hlt : f.slot < cell.slots.size := by rw [hsl]; exact k2_hasslot (q4 j hj)
  unfold u_lay at hlay
  cases fin with
  | false =>
    rw [if_neg (by rw [hfin]; decide)] at hlay
    have h6 := u_store hfc hkC hkind hlay hi (hpf j hj) hn hf
    rw [hTC] at hi
    cases nest with
    | false =>
      simp only [Bool.false_eq_true, if_false] at hlk
      refine W.putK hx hb (f := f) ⟨hown, hK.use hlk.1 rfl args, ⟨_, _, _, hi⟩, hst⟩ (by rw [q2]; exact h6) q1 q3 hlt rfl rfl hd fun H' e1 e2 e3 => ?_
      rw [hsl] at e1 ⊢
      exact kk H' _ ⟨_, e1, q2, q3, t_set q4 hap hj v⟩ e2 e3
    | true =>
      simp only [if_true] at hlk
      obtain ⟨host, hlk⟩ := hlk
      refine va_WputK hx hb (f := f) hown (hK.use hlk rfl args) hi hst (by rw [q2]; exact h6) q1 q3 hlt rfl rfl hd fun H' e1 e2 e3 => ?_
      rw [hsl] at e1 ⊢
      exact kk H' _ ⟨_, e1, q2, q3, t_set q4 hap hj v⟩ e2 e3
  | true =>
    rcases hfi with hfi | ⟨rfl, hin⟩
    · cases hfi
    · simp only [Bool.false_eq_true, if_false] at hlk
      rw [if_pos hfin] at hlay
      have hcf : m.cls = cf := by
        obtain ⟨_, _, c', _, _, _, -, -, hf', -, -, -, hown2, -⟩ := Cond.laysFinal_spec hlay
        have e1 : c' = cf := by have := hi.symm.trans hf'; simp at this; exact this.1.symm
        rw [hTC, hlk.2] at hown2
        rw [← e1]; exact Option.some.inj (hown.symm.trans hown2)
      have h6 := u_fits hfc hkC hkind (Or.inr hlay) hi (hpf j hj) hn hf
      rw [hTC] at hi
      refine W.putFinK hx hb hown (hK.use hlk.1 rfl args) hi hst hcf hin (by rw [q2]; exact h6) q1 q3 hlt rfl rfl hd fun H' e1 e2 e3 => ?_
      rw [hsl] at e1 ⊢
      exact kk H' _ ⟨_, e1, q2, q3, t_set q4 hap hj v⟩ e2 e3
theorem q_FA.lt {idx k j : Nat} {fin nest : Bool} (h : q_FA own idx k j fin nest) : k < 12 ∧ 0 < k := by
  obtain ⟨C, T, hC, hj, hk12, hk0, -⟩ := h
  exact ⟨hk12, hk0⟩
theorem q_putI {a idx k j : Nat} {fin nest : Bool} {z : Int} {v : Value} (hX : q_C X cc nL own ret nm) (hA : q_FA own idx k j fin nest) (hfi : fin = false ∨ (nest = false ∧ nm = "<init>")) (hv : ∀ r, q_fv (q_ty k j) r z = v) (hk : S.1 a = k) (hn : narrow (q_ty k j) v = v) (hf : fits (q_ty k j) v = true) (hd : decode cc pc = .ok (.putfield idx, 3)) (kk : q_V X Rm cc nL cells slots (pc + 3) lv st S R (q_up I a j z)) : q_V X Rm cc nL cells slots pc lv (v :: .ref a :: st) S R I := by
  obtain ⟨p, l, e, s, m, args, below, meth, c, D, cy, B, Q⟩ := X
  obtain ⟨hx, hb, hml, hown, hK, hB, hlk, hrt, hnm⟩ := hX
  intro H locs ls hR hF hl
  obtain ⟨hk12, hk0⟩ := hA.lt
  subst hnm
  refine q_putW hx hb hown hK hR hA hfi hk hn hf hd fun H' sl e1 e2 e3 => ?_
  refine kk H' _ ls (hR.put e2 e3 (fun _ _ => rfl) (fun b hb => q_up_ne I j z hb) ?_) (hF.put e2 e3 (hR.2 a (by omega)).1) hl
  rw [hk]
  unfold q_cell
  rw [if_pos hk12, q_up_self, ← q_updI k j (R a) (I a) z, hv]
  exact e1
theorem v_putI {a idx k j : Nat} {nest : Bool} {z : Int} (hX : q_C X cc nL own ret nm) (hA : q_FA own idx k j false nest) (ht : q_ty k j = .int) (hk : S.1 a = k) (hd : decode cc pc = .ok (.putfield idx, 3)) (kk : q_V X Rm cc nL cells slots (pc + 3) lv st S R (q_up I a j z)) : q_V X Rm cc nL cells slots pc lv (.int (q_i z) :: .ref a :: st) S R I :=
  q_putI hX hA (Or.inl rfl) (fun r => by rw [ht]; rfl) hk (by rw [ht]; rfl) (by rw [ht]; rfl) hd kk
theorem v_putFI {a idx k j : Nat} {z : Int} (hX : q_C X cc nL own ret "<init>") (hA : q_FA own idx k j true false) (ht : q_ty k j = .int) (hk : S.1 a = k) (hd : decode cc pc = .ok (.putfield idx, 3)) (kk : q_V X Rm cc nL cells slots (pc + 3) lv st S R (q_up I a j z)) : q_V X Rm cc nL cells slots pc lv (.int (q_i z) :: .ref a :: st) S R I :=
  q_putI hX hA (Or.inr ⟨rfl, rfl⟩) (fun r => by rw [ht]; rfl) hk (by rw [ht]; rfl) (by rw [ht]; rfl) hd kk
theorem v_putJ {a idx k j : Nat} {nest : Bool} {z : Int} (hX : q_C X cc nL own ret nm) (hA : q_FA own idx k j false nest) (ht : q_ty k j = .long) (hk : S.1 a = k) (hd : decode cc pc = .ok (.putfield idx, 3)) (kk : q_V X Rm cc nL cells slots (pc + 3) lv st S R (q_up I a j z)) : q_V X Rm cc nL cells slots pc lv (.long (q_l z) :: .ref a :: st) S R I :=
  q_putI hX hA (Or.inl rfl) (fun r => by rw [ht]; rfl) hk (by rw [ht]; rfl) (by rw [ht]; rfl) hd kk
theorem q_bz {z : Int} (h : z = 0 ∨ z = 1) : narrow .boolean (.int (q_i z)) = .int (q_i z) ∧ fits .boolean (.int (q_i z)) = true := by
  rcases h with rfl | rfl
  · exact ⟨by decide, by decide⟩
  · exact ⟨by decide, by decide⟩
theorem v_putZ {a idx k j : Nat} {nest : Bool} {z : Int} (hX : q_C X cc nL own ret nm) (hA : q_FA own idx k j false nest) (ht : q_ty k j = .boolean) (gz : z = 0 ∨ z = 1) (hk : S.1 a = k) (hd : decode cc pc = .ok (.putfield idx, 3)) (kk : q_V X Rm cc nL cells slots (pc + 3) lv st S R (q_up I a j z)) : q_V X Rm cc nL cells slots pc lv (.int (q_i z) :: .ref a :: st) S R I :=
  q_putI hX hA (Or.inl rfl) (fun r => by rw [ht]; rfl) hk (by rw [ht]; exact (q_bz gz).1) (by rw [ht]; exact (q_bz gz).2) hd kk
theorem q_putA {a idx k j v kv : Nat} {fin nest : Bool} (hX : q_C X cc nL own ret nm) (hA : q_FA own idx k j fin nest) (hfi : fin = false ∨ (nest = false ∧ nm = "<init>")) (hv : ∀ r z, q_fv (q_ty k j) r z = q_rf r) (hn : narrow (q_ty k j) (.ref v) = .ref v) (hf : fits (q_ty k j) (.ref v) = true) (hk : S.1 a = k) (hr : S.1 v = kv) (h0 : kv ≠ 0) (hd : decode cc pc = .ok (.putfield idx, 3)) (kk : q_V X Rm cc nL cells slots (pc + 3) lv st S (q_up R a j v) I) : q_V X Rm cc nL cells slots pc lv (.ref v :: .ref a :: st) S R I := by
  obtain ⟨p, l, e, s, m, args, below, meth, c, D, cy, B, Q⟩ := X
  obtain ⟨hx, hb, hml, hown, hK, hB, hlk, hrt, hnm⟩ := hX
  intro H locs ls hR hF hl
  obtain ⟨hk12, hk0⟩ := hA.lt
  subst hnm
  refine q_putW hx hb hown hK hR hA hfi hk hn hf hd fun H' sl e1 e2 e3 => ?_
  refine kk H' _ ls (hR.put e2 e3 (fun b hb => q_up_ne R j v hb) (fun _ _ => rfl) ?_) (hF.put e2 e3 (hR.2 a (by omega)).1) hl
  rw [hk]
  unfold q_cell
  rw [if_pos hk12, q_up_self, ← q_updR k j (R a) (I a) v, hv, q_rf_ref hB hR hr h0]
  exact e1
theorem v_putA {a idx k j v kv : Nat} {nest : Bool} (hX : q_C X cc nL own ret nm) (hA : q_FA own idx k j false nest) (hv : ∀ r z, q_fv (q_ty k j) r z = q_rf r) (hn : narrow (q_ty k j) (.ref v) = .ref v) (hf : fits (q_ty k j) (.ref v) = true) (hk : S.1 a = k) (hr : S.1 v = kv) (h0 : kv ≠ 0) (hd : decode cc pc = .ok (.putfield idx, 3)) (kk : q_V X Rm cc nL cells slots (pc + 3) lv st S (q_up R a j v) I) : q_V X Rm cc nL cells slots pc lv (.ref v :: .ref a :: st) S R I :=
  q_putA hX hA (Or.inl rfl) hv hn hf hk hr h0 hd kk
theorem v_putFA {a idx k j v kv : Nat} (hX : q_C X cc nL own ret "<init>") (hA : q_FA own idx k j true false) (hv : ∀ r z, q_fv (q_ty k j) r z = q_rf r) (hn : narrow (q_ty k j) (.ref v) = .ref v) (hf : fits (q_ty k j) (.ref v) = true) (hk : S.1 a = k) (hr : S.1 v = kv) (h0 : kv ≠ 0) (hd : decode cc pc = .ok (.putfield idx, 3)) (kk : q_V X Rm cc nL cells slots (pc + 3) lv st S (q_up R a j v) I) : q_V X Rm cc nL cells slots pc lv (.ref v :: .ref a :: st) S R I :=
  q_putA hX hA (Or.inr ⟨rfl, rfl⟩) hv hn hf hk hr h0 hd kk
/-! ARRAYS -/
theorem q_arr {B : Nat} {D : va_G} {cy : Nat → ClassId} {H : Heap} (hR : q_R B D cy S R I H) {a k : Nat} (hk : S.1 a = k) (h12 : ¬ k < 12) : B ≤ a ∧ H[a]? = some (arrV (cy k) (S.2.1 a) (fun j => q_fv (q_ty k j) (R a j) (I a j))) := by
  have hc := hR.2 a (by omega)
  rw [hk] at hc
  unfold q_cell at hc
  rw [if_neg h12] at hc
  exact hc
theorem q_in {n : Nat} {i : Int} (hi : 0 ≤ i ∧ i < (n : Int)) (hr : r_i i) : ¬ (q_i i < 0 ∨ n ≤ (q_i i).toNatClampNeg) := by
  rw [q_nat hi.1 hr, ← q_i0, q_iLt hr r_i0]
  omega
theorem q_rng {B : Nat} {D : va_G} {cy : Nat → ClassId} {H : Heap} (hR : q_R B D cy S R I H) {a : Nat} {i : Int} (hi : 0 ≤ i ∧ i < (S.2.1 a : Int)) : r_i i := by
  have := hR.1.2 a
  unfold r_i
  omega
theorem v_alen {a k t0 : Nat} {ty : FieldType} (hX : q_C X cc nL own ret nm) (hk : S.1 a = k) (h12 : ¬ k < 12) (ht : ∀ cy : Nat → ClassId, (q_tys cy)[t0]? = some (cy k, ty)) (hd : decode cc pc = .ok (.arraylength, 1)) (kk : q_V X Rm cc nL cells slots (pc + 1) lv (.int (q_i (S.2.1 a : Int)) :: st) S R I) : q_V X Rm cc nL cells slots pc lv (.ref a :: st) S R I := by
  obtain ⟨p, l, e, s, m, args, below, meth, c, D, cy, B, Q⟩ := X
  obtain ⟨hx, hb, hml, hown, hK, hB, hlk, hrt, hnm⟩ := hX
  intro H locs ls hR hF hl
  obtain ⟨hBa, hc⟩ := q_arr hR hk h12
  exact W.alen hx hb hc ((q_kinds hK (ht cy)).1 _ _) (by rw [arrV_size]; exact q_ofN) rfl rfl hd (kk H locs ls hR hF hl)
theorem v_iaload {a : Nat} {i : Int} (hX : q_C X cc nL own ret nm) (hk : S.1 a = 12) (hi : 0 ≤ i ∧ i < (S.2.1 a : Int)) (hd : decode cc pc = .ok (.iaload, 1)) (kk : q_V X Rm cc nL cells slots (pc + 1) lv (.int (q_i (I a i.toNat)) :: st) S R I) : q_V X Rm cc nL cells slots pc lv (.int (q_i i) :: .ref a :: st) S R I := by
  obtain ⟨p, l, e, s, m, args, below, meth, c, D, cy, B, Q⟩ := X
  obtain ⟨hx, hb, hml, hown, hK, hB, hlk, hrt, hnm⟩ := hX
  intro H locs ls hR hF hl
  obtain ⟨hBa, hc⟩ := q_arr hR hk (by decide)
  have hr := q_rng hR hi
  exact W.iald (v := .int (q_i (I a i.toNat))) hx hb hc ((q_kinds hK (k := 12) (t0 := 0) rfl).1 _ _) (fun h => by cases h) (by rw [arrV_size]; exact q_in hi hr) (by rw [q_nat hi.1 hr, arrV_read _ _ (by omega)]; rfl) rfl rfl hd (kk H locs ls hR hF hl)
theorem v_laload {a : Nat} {i : Int} (hX : q_C X cc nL own ret nm) (hk : S.1 a = 13) (hi : 0 ≤ i ∧ i < (S.2.1 a : Int)) (hd : decode cc pc = .ok (.laload, 1)) (kk : q_V X Rm cc nL cells slots (pc + 1) lv (.long (q_l (I a i.toNat)) :: st) S R I) : q_V X Rm cc nL cells slots pc lv (.int (q_i i) :: .ref a :: st) S R I := by
  obtain ⟨p, l, e, s, m, args, below, meth, c, D, cy, B, Q⟩ := X
  obtain ⟨hx, hb, hml, hown, hK, hB, hlk, hrt, hnm⟩ := hX
  intro H locs ls hR hF hl
  obtain ⟨hBa, hc⟩ := q_arr hR hk (by decide)
  have hr := q_rng hR hi
  exact W.lald (v := .long (q_l (I a i.toNat))) hx hb hc ((q_kinds hK (k := 13) (t0 := 1) rfl).1 _ _) (fun h => by cases h) (by rw [arrV_size]; exact q_in hi hr) (by rw [q_nat hi.1 hr, arrV_read _ _ (by omega)]; rfl) rfl rfl hd (kk H locs ls hR hF hl)
theorem v_baload {a : Nat} {i : Int} (hX : q_C X cc nL own ret nm) (hk : S.1 a = 14) (hi : 0 ≤ i ∧ i < (S.2.1 a : Int)) (hd : decode cc pc = .ok (.baload, 1)) (kk : q_V X Rm cc nL cells slots (pc + 1) lv (.int (q_i (I a i.toNat)) :: st) S R I) : q_V X Rm cc nL cells slots pc lv (.int (q_i i) :: .ref a :: st) S R I := by
  obtain ⟨p, l, e, s, m, args, below, meth, c, D, cy, B, Q⟩ := X
  obtain ⟨hx, hb, hml, hown, hK, hB, hlk, hrt, hnm⟩ := hX
  intro H locs ls hR hF hl
  obtain ⟨hBa, hc⟩ := q_arr hR hk (by decide)
  have hr := q_rng hR hi
  exact W.zald (v := .int (q_i (I a i.toNat))) hx hb hc ((q_kinds hK (k := 14) (t0 := 2) rfl).1 _ _) (fun h => by cases h) (by rw [arrV_size]; exact q_in hi hr) (by rw [q_nat hi.1 hr, arrV_read _ _ (by omega)]; rfl) rfl rfl hd (kk H locs ls hR hF hl)
theorem v_iastore {a : Nat} {i z : Int} (hX : q_C X cc nL own ret nm) (hk : S.1 a = 12) (hi : 0 ≤ i ∧ i < (S.2.1 a : Int)) (hd : decode cc pc = .ok (.iastore, 1)) (kk : q_V X Rm cc nL cells slots (pc + 1) lv st S R (q_up I a i.toNat z)) : q_V X Rm cc nL cells slots pc lv (.int (q_i z) :: .int (q_i i) :: .ref a :: st) S R I := by
  obtain ⟨p, l, e, s, m, args, below, meth, c, D, cy, B, Q⟩ := X
  obtain ⟨hx, hb, hml, hown, hK, hB, hlk, hrt, hnm⟩ := hX
  intro H locs ls hR hF hl
  obtain ⟨hBa, hc⟩ := q_arr hR hk (by decide)
  have hr := q_rng hR hi
  refine W.iast hx hb hc ((q_kinds hK (k := 12) (t0 := 0) rfl).1 _ _) (fun h => by cases h) (by rw [arrV_size]; exact q_in hi hr) rfl rfl hd fun H' e1 e2 e3 => ?_
  refine kk H' _ ls (hR.put e2 e3 (fun _ _ => rfl) (fun b hb => q_up_ne I i.toNat z hb) ?_) (hF.put e2 e3 hBa) hl
  rw [hk]
  unfold q_cell
  rw [if_neg (by decide), e1, arrV_store, q_nat hi.1 hr, q_up_self]
  exact congrArg (fun f => some (arrV (cy 12) (S.2.1 a) f)) (q_updI 12 i.toNat (R a) (I a) z)
theorem v_lastore {a : Nat} {i z : Int} (hX : q_C X cc nL own ret nm) (hk : S.1 a = 13) (hi : 0 ≤ i ∧ i < (S.2.1 a : Int)) (hd : decode cc pc = .ok (.lastore, 1)) (kk : q_V X Rm cc nL cells slots (pc + 1) lv st S R (q_up I a i.toNat z)) : q_V X Rm cc nL cells slots pc lv (.long (q_l z) :: .int (q_i i) :: .ref a :: st) S R I := by
  obtain ⟨p, l, e, s, m, args, below, meth, c, D, cy, B, Q⟩ := X
  obtain ⟨hx, hb, hml, hown, hK, hB, hlk, hrt, hnm⟩ := hX
  intro H locs ls hR hF hl
  obtain ⟨hBa, hc⟩ := q_arr hR hk (by decide)
  have hr := q_rng hR hi
  refine W.last hx hb hc ((q_kinds hK (k := 13) (t0 := 1) rfl).1 _ _) (fun h => by cases h) (by rw [arrV_size]; exact q_in hi hr) rfl rfl hd fun H' e1 e2 e3 => ?_
  refine kk H' _ ls (hR.put e2 e3 (fun _ _ => rfl) (fun b hb => q_up_ne I i.toNat z hb) ?_) (hF.put e2 e3 hBa) hl
  rw [hk]
  unfold q_cell
  rw [if_neg (by decide), e1, arrV_store, q_nat hi.1 hr, q_up_self]
  exact congrArg (fun f => some (arrV (cy 13) (S.2.1 a) f)) (q_updI 13 i.toNat (R a) (I a) z)
theorem v_bastore {a : Nat} {i z : Int} (hX : q_C X cc nL own ret nm) (gz : z = 0 ∨ z = 1) (hk : S.1 a = 14) (hi : 0 ≤ i ∧ i < (S.2.1 a : Int)) (hd : decode cc pc = .ok (.bastore, 1)) (kk : q_V X Rm cc nL cells slots (pc + 1) lv st S R (q_up I a i.toNat z)) : q_V X Rm cc nL cells slots pc lv (.int (q_i z) :: .int (q_i i) :: .ref a :: st) S R I := by
  obtain ⟨p, l, e, s, m, args, below, meth, c, D, cy, B, Q⟩ := X
  obtain ⟨hx, hb, hml, hown, hK, hB, hlk, hrt, hnm⟩ := hX
  intro H locs ls hR hF hl
  obtain ⟨hBa, hc⟩ := q_arr hR hk (by decide)
  have hr := q_rng hR hi
  refine W.zast hx hb hc ((q_kinds hK (k := 14) (t0 := 2) rfl).1 _ _) (fun h => by cases h) (by rw [arrV_size]; exact q_in hi hr) rfl rfl hd fun H' e1 e2 e3 => ?_
  rw [(q_bz gz).1] at e1
  refine kk H' _ ls (hR.put e2 e3 (fun _ _ => rfl) (fun b hb => q_up_ne I i.toNat z hb) ?_) (hF.put e2 e3 hBa) hl
  rw [hk]
  unfold q_cell
  rw [if_neg (by decide), e1, arrV_store, q_nat hi.1 hr, q_up_self]
  exact congrArg (fun f => some (arrV (cy 14) (S.2.1 a) f)) (q_updI 14 i.toNat (R a) (I a) z)
theorem v_aaload {a k t0 kr : Nat} {i : Int} {ty : FieldType} (hX : q_C X cc nL own ret nm) (hk : S.1 a = k) (h12 : ¬ k < 12) (ht : ∀ cy : Nat → ClassId, (q_tys cy)[t0]? = some (cy k, ty)) (hty : ty.isReference = true) (hv : ∀ j r z, q_fv (q_ty k j) r z = q_rf r) (hi : 0 ≤ i ∧ i < (S.2.1 a : Int)) (hr0 : S.1 (R a i.toNat) = kr) (hn : kr ≠ 0) (hd : decode cc pc = .ok (.aaload, 1)) (kk : q_V X Rm cc nL cells slots (pc + 1) lv (.ref (R a i.toNat) :: st) S R I) : q_V X Rm cc nL cells slots pc lv (.int (q_i i) :: .ref a :: st) S R I := by
  obtain ⟨p, l, e, s, m, args, below, meth, c, D, cy, B, Q⟩ := X
  obtain ⟨hx, hb, hml, hown, hK, hB, hlk, hrt, hnm⟩ := hX
  intro H locs ls hR hF hl
  obtain ⟨hBa, hc⟩ := q_arr hR hk h12
  have hr := q_rng hR hi
  exact W.aald (v := .ref (R a i.toNat)) hx hb hc ((q_kinds hK (ht cy)).1 _ _) hty (fun h => by cases h) (by rw [arrV_size]; exact q_in hi hr) (by rw [q_nat hi.1 hr, arrV_read _ _ (by omega), hv, q_rf_ref hB hR hr0 hn]) rfl rfl hd (kk H locs ls hR hF hl)
theorem v_aastore {a v k t0 kv : Nat} {i : Int} {C : String} {T : u_T} (hX : q_C X cc nL own ret nm) (hk : S.1 a = k) (h12 : ¬ k < 12) (ht : ∀ cy : Nat → ClassId, (q_tys cy)[t0]? = some (cy k, .object C)) (hv : ∀ j r z, q_fv (q_ty k j) r z = q_rf r) (hi : 0 ≤ i ∧ i < (S.2.1 a : Int)) (hkv : S.1 v = kv) (hv12 : kv < 12) (hv0 : kv ≠ 0) (hC : vwCl[kv - 1]? = some (C, T, q_nf kv)) (hd : decode cc pc = .ok (.aastore, 1)) (kk : q_V X Rm cc nL cells slots (pc + 1) lv st S (q_up R a i.toNat v) I) : q_V X Rm cc nL cells slots pc lv (.ref v :: .int (q_i i) :: .ref a :: st) S R I := by
  obtain ⟨p, l, e, s, m, args, below, meth, c, D, cy, B, Q⟩ := X
  obtain ⟨hx, hb, hml, hown, hK, hB, hlk, hrt, hnm⟩ := hX
  intro H locs ls hR hF hl
  obtain ⟨hBa, hc⟩ := q_arr hR hk h12
  have hr := q_rng hR hi
  have hcv := (hR.2 v (by omega)).2
  rw [hkv] at hcv
  unfold q_cell at hcv
  rw [if_pos hv12] at hcv
  obtain ⟨cellV, g1, g2, g3, -⟩ := hcv
  have hcls := (hK.2.1.1 (kv - 1) _ hC).2
  obtain ⟨kA, comp, k1, k2, k3, -⟩ := (q_kinds hK (ht cy)).2
  have hcomp : comp = D.1 (kv - 1) := Option.some.inj (k3.symm.trans hcls.1)
  subst hcomp
  obtain ⟨kC, hkC, -⟩ := hcls.2
  have hin : ¬ q_i i < 0 ∧ (q_i i).toNatClampNeg < S.2.1 a := by
    have := q_in hi hr
    constructor
    · exact fun h => this (Or.inl h)
    · exact Nat.not_le.mp fun h => this (Or.inr h)
  refine W.aast hx hb hc (fun q h => by cases h) (fun h => by cases h) k1 k2 rfl hkC ⟨hin.1, by rw [arrV_size]; exact hin.2⟩ g1 (fun q h => by rw [g3] at h; cases h) (by rw [g2]; exact hkC) (by rw [g2]; exact va_assign hcls) rfl rfl hd fun H' e1 e2 e3 => ?_
  refine kk H' _ ls (hR.put e2 e3 (fun b hb => q_up_ne R i.toNat v hb) (fun _ _ => rfl) ?_) (hF.put e2 e3 hBa) hl
  rw [hk]
  unfold q_cell
  rw [if_neg h12, e1, arrV_store, q_nat hi.1 hr, q_up_self, ← q_updR k i.toNat (R a) (I a) v, hv, q_rf_ref hB hR hkv hv0]
end QH
end
section
/-! NEW CELLS -/
def q_nw (S : q_S) (k n : Nat) : q_S := (fun b => if b = S.2.2 then k else S.1 b, fun b => if b = S.2.2 then n else S.2.1 b, S.2.2 + 1)
def q_NA (own : String) (idx k : Nat) : Prop := ∃ (C : String) (T : u_T), vwCl[k - 1]? = some (C, T, q_nf k) ∧ k < 12 ∧ 0 < k ∧ (∀ w ∈ u_ws C T (q_nf k), w ∈ lw_tbl ∧ q_ok w = true) ∧ (∀ i, i < q_nf k → parseFieldDescriptor (T i).2.2.1 = some (q_ty k i)) ∧
  Cond.classLink own idx C ∈ lw_tbl ∧ Cond.instantiable C (q_nf k) ∈ lw_tbl ∧ Cond.initialized C ∈ lw_tbl
theorem q_R.grow {B : Nat} {D : va_G} {cy : Nat → ClassId} {S : q_S} {R : q_HR} {I : q_HI} {H H1 : Heap} {k n : Nat} (h : q_R B D cy S R I H) (hB : B ≤ H.size) (hn : n < 2147483648) (hz : H1.size = H.size + 1) (ho : ∀ q : Nat, q < H.size → H1[q]? = H[q]?)
    (hc : q_cell D cy k n (fun _ => 0) (fun _ => 0) H.size H1) : q_R B D cy (q_nw S k n) (q_zr R S.2.2 0) (q_zr I S.2.2 0) H1 := by
  have hs := h.1.1
  refine ⟨⟨by rw [hz, hs]; rfl, fun a => ?_⟩, fun b hb => ?_⟩
  · show (if a = S.2.2 then n else S.2.1 a) < _
    split
    · exact hn
    · exact h.1.2 a
  · show B ≤ b ∧ q_cell D cy (if b = S.2.2 then k else S.1 b) (if b = S.2.2 then n else S.2.1 b) _ _ b H1
    by_cases hbe : b = S.2.2
    · subst hbe
      rw [if_pos rfl, if_pos rfl, q_zr_self, q_zr_self]
      rw [← hs] at *
      exact ⟨hB, hc⟩
    · rw [if_neg hbe, if_neg hbe, q_zr_ne _ _ hbe, q_zr_ne _ _ hbe]
      have hb' : S.1 b ≠ 0 := by
        have h9 : (if b = S.2.2 then k else S.1 b) ≠ 0 := hb
        rwa [if_neg hbe] at h9
      obtain ⟨h1, h2⟩ := h.2 b hb'
      exact ⟨h1, h2.kept (ho b h2.lt)⟩
theorem q_F.grow {B : Nat} {H0 H H1 : Heap} {locs : List Loc} (h : q_F B H0 H locs) (hz : H1.size = H.size + 1) (ho : ∀ q : Nat, q < H.size → H1[q]? = H[q]?) : q_F B H0 H1 locs :=
  ⟨by rw [hz]; have := h.1; omega, fun q hq => by rw [ho q (by have := h.1; have := h.2.2.2; omega)]; exact h.2.1 q hq, h.2.2.1, h.2.2.2⟩
section QN
variable {X : q_X} {Rm : Room} {cc : ByteArray} {nL cells slots pc : Nat} {lv : List (Nat × Value)} {st : List Value} {S : q_S} {R : q_HR} {I : q_HI} {own : String} {ret : Option FieldType} {nm : String}
theorem v_new {idx k : Nat} (hX : q_C X cc nL own ret nm) (hA : q_NA own idx k) (hc1 : cells + 1 ≤ Rm.cells) (hs1 : slots + q_nf k ≤ Rm.slots) (hd : decode cc pc = .ok (.new idx, 3)) (kk : q_V X Rm cc nL (cells + 1) (slots + q_nf k) (pc + 3) lv (.ref S.2.2 :: st) (q_nw S k 0) (q_zr R S.2.2 0) (q_zr I S.2.2 0)) : q_V X Rm cc nL cells slots pc lv st S R I := by
  obtain ⟨p, l, e, s, m, args, below, meth, c, D, cy, B, Q⟩ := X
  obtain ⟨hx, hb, hml, hown, hK, hB, hlk, hrt, hnm⟩ := hX
  intro H locs ls hR hF hl
  obtain ⟨C, T, hC, hk12, hk0, hws, hpf, w1, w2, w3⟩ := hA
  have hKn := hK.2.1.1 (k - 1) _ hC
  have hts : ∀ w ∈ u_ws C T (q_nf k), w.before args s = true := fun w hw => hK.use (hws w hw).1 (hws w hw).2 args
  refine W.newcK hx hb hown (hK.use w1 rfl args) (hK.use w2 rfl args) (hK.use w3 rfl args) rfl hd hc1 hs1 hKn.2.1 rfl fun H1 kC hkC e1 z1 o1 => ?_
  have hbn := u_born (q_ty k) hts (fun w h => h) hKn hkC e1 hpf
  have hs := hR.1.1
  have hBH : B ≤ H.size := Nat.le_trans hF.2.2.2 hF.1
  have hR1 := hR.grow (k := k) (n := 0) hBH (by decide) z1 o1 (by unfold q_cell; rw [if_pos hk12]; exact hbn.to (fun j _ => q_fv0 _))
  have k2 := kk H1 locs ls hR1 (hF.grow z1 o1) hl
  rw [← hs] at k2
  exact k2
theorem v_newarr {atype : ArrayType} {k N t0 : Nat} {n : Int} {ty : FieldType} (hX : q_C X cc nL own ret nm) (h12 : ¬ k < 12) (hw : Cond.arrayClass ty ∈ lw_tbl) (hty : newarray.typeOf atype = ty) (hre : ∀ j, q_ty k j = ty) (ht : ∀ cy : Nat → ClassId, (q_tys cy)[t0]? = some (cy k, ty)) (hra : ∀ (U : State) (c : ClassId), va_RA U c ty → U.vm.findClass ("[" ++ ty.toString) = some c) (hn : 0 ≤ n ∧ n ≤ (N : Int)) (hN : N ≤ 1000) (hbt : ∀ M, M ≤ 1000 → M * componentBytes ty ≤ 536870912) (hc1 : cells + 1 ≤ Rm.cells) (hs1 : slots + N ≤ Rm.slots) (hd : decode cc pc = .ok (.newarray atype, 2))
    (kk : q_V X Rm cc nL (cells + 1) (slots + N) (pc + 2) lv (.ref S.2.2 :: st) (q_nw S k n.toNat) (q_zr R S.2.2 0) (q_zr I S.2.2 0)) : q_V X Rm cc nL cells slots pc lv (.int (q_i n) :: st) S R I := by
  obtain ⟨p, l, e, s, m, args, below, meth, c, D, cy, B, Q⟩ := X
  obtain ⟨hx, hb, hml, hown, hK, hB, hlk, hrt, hnm⟩ := hX
  intro H locs ls hR hF hl
  subst hty
  have hr : r_i n := by unfold r_i; omega
  have hcl : (q_i n).toNatClampNeg = n.toNat := q_nat hn.1 hr
  refine va_newaK hx hb (hK.use hw rfl args) rfl hd rfl (by rw [← q_i0, q_iLt hr r_i0]; omega) hcl (hbt _ (by omega)) hc1 (by omega) rfl fun H1 cA e1 z1 o1 hAr hNm => ?_
  have hcA : cA = cy k := Option.some.inj (hNm.symm.trans (hra s _ (q_kinds hK (ht cy)).2))
  subst hcA
  have hs := hR.1.1
  have hBH : B ≤ H.size := Nat.le_trans hF.2.2.2 hF.1
  have hR1 := hR.grow (k := k) (n := n.toNat) hBH (by omega) z1 o1 (by
    unfold q_cell
    rw [if_neg h12, e1]
    refine congrArg (fun f => some (arrV (cy k) n.toNat f)) (funext fun j => ?_)
    rw [hre j]
    exact q_fv0 _)
  have k2 := kk H1 locs ls hR1 (hF.grow z1 o1) hl
  rw [← hs] at k2
  exact W.widen (k := cells + 1) (n := slots + N) (Nat.le_refl _) (by omega) k2
theorem v_anewarr {idx k N t0 : Nat} {n : Int} {C : String} (hX : q_C X cc nL own ret nm) (h12 : ¬ k < 12) (hw : Cond.classLink own idx C ∈ lw_tbl) (hao : ∀ U : State, (va_AO "SensorArray$Group" U ∧ va_AO "SensorArray$Measurement" U) → va_AO C U) (hre : ∀ j, q_ty k j = .object C) (ht : ∀ cy : Nat → ClassId, (q_tys cy)[t0]? = some (cy k, .object C)) (hn : 0 ≤ n ∧ n ≤ (N : Int)) (hN : N ≤ 1000) (hc1 : cells + 1 ≤ Rm.cells) (hs1 : slots + N ≤ Rm.slots) (hd : decode cc pc = .ok (.anewarray idx, 3))
    (kk : q_V X Rm cc nL (cells + 1) (slots + N) (pc + 3) lv (.ref S.2.2 :: st) (q_nw S k n.toNat) (q_zr R S.2.2 0) (q_zr I S.2.2 0)) : q_V X Rm cc nL cells slots pc lv (.int (q_i n) :: st) S R I := by
  obtain ⟨p, l, e, s, m, args, below, meth, c, D, cy, B, Q⟩ := X
  obtain ⟨hx, hb, hml, hown, hK, hB, hlk, hrt, hnm⟩ := hX
  intro H locs ls hR hF hl
  have hr : r_i n := by unfold r_i; omega
  have hcl : (q_i n).toNatClampNeg = n.toNat := q_nat hn.1 hr
  refine W.anew hx hb hown (hK.use hw rfl args) (va_AO.use (hao s ⟨hK.2.2.1, hK.2.2.2.1⟩)) rfl hd rfl (by rw [← q_i0, q_iLt hr r_i0]; omega) (by omega) hc1 (by omega) fun cA kA comp h1 h2 h3 h4 => ?_
  obtain ⟨kA', comp', -, -, -, h5⟩ := (q_kinds hK (ht cy)).2
  have hcA : cA = cy k := Option.some.inj (h1.symm.trans h5)
  subst hcA
  have hs := hR.1.1
  have hBH : B ≤ H.size := Nat.le_trans hF.2.2.2 hF.1
  have z1 : (H.push { cls := cy k, slots := Array.replicate (q_i n).toNatClampNeg .null, vm := .none }).size = H.size + 1 := by simp
  have o1 : ∀ q : Nat, q < H.size → (H.push { cls := cy k, slots := Array.replicate (q_i n).toNatClampNeg .null, vm := .none })[q]? = H[q]? := fun q hq => by rw [Array.getElem?_push, if_neg (Nat.ne_of_lt hq)]
  have hR1 := hR.grow (k := k) (n := n.toNat) hBH (by omega) z1 o1 (by
    unfold q_cell
    rw [if_neg h12, hcl, arrV_new]
    rw [show (H.push (arrV (cy k) n.toNat fun _ => .null))[H.size]? = some (arrV (cy k) n.toNat fun _ => .null) by simp]
    refine congrArg (fun f => some (arrV (cy k) n.toNat f)) (funext fun j => ?_)
    rw [hre j]
    rfl)
  have k2 := kk _ locs ls hR1 (hF.grow z1 o1) hl
  rw [← hs] at k2
  exact W.widen (k := cells + 1) (n := slots + N) (Nat.le_refl _) (by omega) k2
/-! CALLS -/
def q_MB (own : String) (idx : Nat) (y : MethodName) (bytes : ByteArray) (maxL : Nat) (rt : Option FieldType) (n : Nat) (nest : Bool) : Prop :=
  (if nest = true then ∃ host, Cond.methodLinkNest own idx y host ∈ lw_tbl else Cond.methodLink own idx y ∈ lw_tbl) ∧ Cond.initialized y.cls ∈ lw_tbl ∧ Cond.code y bytes maxL rt ∈ lw_tbl ∧
  (y.cls ≠ "java/lang/invoke/MethodHandle" ∧ y.cls ≠ "java/lang/invoke/VarHandle" ∧ (parseMethodDescriptor y.desc).map (fun d => d.parameters.length) = some n)
def q_MV (own : String) (idx : Nat) (y : MethodName) (bytes : ByteArray) (maxL : Nat) (rt : Option FieldType) (n : Nat) (nest : Bool) (kb : Nat) : Prop :=
  q_MB own idx y bytes maxL rt n nest ∧ Cond.instanceMethod y ∈ lw_tbl ∧ Cond.selects y.cls y y ∈ lw_tbl ∧ (∃ T, vwCl[kb - 1]? = some (y.cls, T, q_nf kb)) ∧ kb < 12 ∧ kb ≠ 0
def q_MS (own : String) (idx : Nat) (y : MethodName) (bytes : ByteArray) (maxL : Nat) (rt : Option FieldType) (n : Nat) (nest : Bool) : Prop :=
  q_MB own idx y bytes maxL rt n nest ∧ Cond.static y ∈ lw_tbl
def q_MI (own : String) (idx : Nat) (y : MethodName) (bytes : ByteArray) (maxL : Nat) (n : Nat) (nest : Bool) : Prop :=
  q_MB own idx y bytes maxL none n nest ∧ Cond.instanceMethod y ∈ lw_tbl ∧ y.name = "<init>"
theorem q_blind {B : Nat} {D : va_G} {cy : Nat → ClassId} {As : List Value} : FrameBlind (q_Pc B D cy As S R I) := fun a U g mk h => ⟨h.1, h.2.1.warm (U := U.calling g mk a) (State.WarmedH.refl U), h.2.2⟩
theorem q_lenOf {y : MethodName} {n : Nat} (hd : (parseMethodDescriptor y.desc).map (fun d => d.parameters.length) = some n) : ∀ sig, parseMethodDescriptor y.desc = some sig → n = sig.parameters.length := fun sig h => by
  rw [h] at hd
  exact (Option.some.inj hd).symm
theorem q_wcode {D : va_G} {cy : Nat → ClassId} {s : State} {y : MethodName} {bytes : ByteArray} {maxL : Nat} {rt : Option FieldType} (hK : q_K D cy s) (hw : Cond.code y bytes maxL rt ∈ lw_tbl) : ∀ w ∈ [Cond.code y bytes maxL rt], ∀ (a' : Array Value) (U : State), s.WarmedH U.vm → w.before a' U = true := fun w hm a' U hW => by
  rw [List.mem_singleton.mp hm]
  exact (hK.warm hW).use hw rfl a'
/-- behind a call -/
theorem q_back {p : Program} {l : Launch} {e : Env} {s : State} {m : MethodId} {args : Array Value} {below : List Frame} {meth : Method} {c : Code} {D : va_G} {cy : Nat → ClassId} {B mc ms : Nat} {Q : State → Prop} {H : Heap} {locs : List Loc} {ls : Array Slot} {rv : Option Value} {rest st1 : List Value} {a : Array Value} {S' : q_S} {R' : q_HR} {I' : q_HI}
    (hr : va_Run p l e Rm s m args below meth c H locs cells slots mc ms (F0 m pc ls st) rest (q_Qc B D cy rv S' R' I' a) (fun q => B ≤ q)) (hF : q_F B s.heap H locs) (h1 : rv.toList ++ rest = st1) (hl : lv_has ls nL lv) (kk : q_V (p, l, e, s, m, args, below, meth, c, D, cy, B, Q) Rm cc nL (cells + mc) (slots + ms) (pc + 3) lv st1 S' R' I') : W p l e Rm s m args below meth c H locs cells slots Q (F0 m pc ls st) := by
  intro T hT Xs
  obtain ⟨v, st₀, t, T', L, h0, X', hL, e1, e2, ⟨hv, hR', hz, hk⟩, go⟩ := hr T hT Xs
  have hv' : v = rv := Outcome.returned.inj hv
  subst hv'
  subst h1
  rw [h0] at hz hk
  obtain ⟨t2, a1, b1⟩ := kk T'.heap (locs ++ L) ls (by rw [e1]; exact hR') ⟨by rw [e1]; exact Nat.le_trans hF.1 hz, fun q hq => by rw [e1, hk q hq]; exact hF.2.1 q hq, fun q hq => by
    rcases List.mem_append.mp hq with h | h
    · exact hF.2.2.1 q h
    · exact hL q h, hF.2.2.2⟩ hl T' rfl X'
  exact ⟨t2, go t2 a1, b1⟩
theorem v_callV {idx maxL n kb b mc ms : Nat} {nest : Bool} {y : MethodName} {bytes : ByteArray} {rt : Option FieldType} {rm : Room} {As rest : List Value} (rv : Option Value) {st1 : List Value} {S' : q_S} {R' : q_HR} {I' : q_HI} (hX : q_C X cc nL own ret nm) (hM : q_MV own idx y bytes maxL rt n nest kb)
    (hc : ∀ (l : Launch) (D : va_G) (cy : Nat → ClassId) (B : Nat), Met l y [Cond.code y bytes maxL rt] rm (q_Pc B D cy (.ref b :: As) S R I) (q_Qc B D cy rv S' R' I') mc ms (fun q => B ≤ q)) (hrm : rm.cells = mc ∧ rm.slots = ms) (hRm : rm.frames + 1 ≤ Rm.frames ∧ 8 + (maxL + 11) + rm.locals ≤ Rm.locals) (hk : S.1 b = kb) (hn : As.length = n) (hs : st = As.reverse ++ .ref b :: rest) (hW : (rest.map fun v => v.category).sum ≤ 8) (hf : cells + mc ≤ Rm.cells ∧ slots + ms ≤ Rm.slots) (hd : decode cc pc = .ok (.invokevirtual idx, 3)) (h1 : rv.toList ++ rest = st1)
    (kk : q_V X Rm cc nL (cells + mc) (slots + ms) (pc + 3) lv st1 S' R' I') : q_V X Rm cc nL cells slots pc lv st S R I := by
  obtain ⟨p, l, e, s, m, args, below, meth, c, D, cy, B, Q⟩ := X
  obtain ⟨hx, hb, hml, hown, hK, hB, hlk, hrt, hnm⟩ := hX
  intro H locs ls hR hF hl
  obtain ⟨⟨hlk2, hini, hcd, hy1, hy2, hpd⟩, hin, hse, ⟨T, hC⟩, h12, h0⟩ := hM
  have hcv := (hR.2 b (by omega)).2
  rw [hk] at hcv
  unfold q_cell at hcv
  rw [if_pos h12] at hcv
  obtain ⟨cellV, g1, g2, g3, -⟩ := hcv
  have hcls := (hK.2.1.1 (kb - 1) _ hC).2.1
  have hP : PreV s H y.cls b (q_Pc B D cy (.ref b :: As) S R I) As := ⟨q_blind, ⟨cellV, g1, by rw [g3]; rfl, by rw [g2]; exact hcls⟩, fun U hU hW => ⟨rfl, hK.warm hW, by rw [hU]; exact hR, hB, by rw [hU]; exact Nat.le_trans hF.2.2.2 hF.1⟩⟩
  cases nest with
  | false =>
    simp only [Bool.false_eq_true, if_false] at hlk2
    exact q_back (va_runV (Ts := []) ⟨hx, hb, hml, hown, fun w h => by cases h⟩ (hc l D cy B) ⟨⟨hrm.1, hrm.2, hRm.1, hRm.2, q_wcode hK hcd, List.mem_singleton.mpr rfl, hK.use hcd rfl args, hK.use hini rfl args, ⟨hy1, hy2⟩, q_lenOf hpd, hK.use hlk2 rfl args⟩, hK.use hin rfl args, hK.use hse rfl args⟩ hP rfl hn hl.1 hs (lv_room hW) hd hf) hF h1 hl kk
  | true =>
    simp only [if_true] at hlk2
    obtain ⟨host, hlk2⟩ := hlk2
    exact q_back (va_runVN (Ts := []) ⟨hx, hb, hml, hown, fun w h => by cases h⟩ (hc l D cy B) ⟨⟨⟨hrm.1, hrm.2, hRm.1, hRm.2, q_wcode hK hcd, List.mem_singleton.mpr rfl⟩, hK.use hcd rfl args, hK.use hini rfl args, ⟨hy1, hy2⟩, q_lenOf hpd, hK.use hlk2 rfl args⟩, hK.use hin rfl args, hK.use hse rfl args⟩ hP rfl hn hl.1 hs (lv_room hW) hd hf) hF h1 hl kk
theorem v_callS {idx maxL n mc ms : Nat} {nest : Bool} {y : MethodName} {bytes : ByteArray} {rt : Option FieldType} {rm : Room} {As rest : List Value} (rv : Option Value) {st1 : List Value} {S' : q_S} {R' : q_HR} {I' : q_HI} (hX : q_C X cc nL own ret nm) (hM : q_MS own idx y bytes maxL rt n nest)
    (hc : ∀ (l : Launch) (D : va_G) (cy : Nat → ClassId) (B : Nat), Met l y [Cond.code y bytes maxL rt] rm (q_Pc B D cy As S R I) (q_Qc B D cy rv S' R' I') mc ms (fun q => B ≤ q)) (hrm : rm.cells = mc ∧ rm.slots = ms) (hRm : rm.frames + 1 ≤ Rm.frames ∧ 8 + (maxL + 11) + rm.locals ≤ Rm.locals) (hn : As.length = n) (hs : st = As.reverse ++ rest) (hW : (rest.map fun v => v.category).sum ≤ 8) (hf : cells + mc ≤ Rm.cells ∧ slots + ms ≤ Rm.slots) (hd : decode cc pc = .ok (.invokestatic idx, 3)) (h1 : rv.toList ++ rest = st1)
    (kk : q_V X Rm cc nL (cells + mc) (slots + ms) (pc + 3) lv st1 S' R' I') : q_V X Rm cc nL cells slots pc lv st S R I := by
  obtain ⟨p, l, e, s, m, args, below, meth, c, D, cy, B, Q⟩ := X
  obtain ⟨hx, hb, hml, hown, hK, hB, hlk, hrt, hnm⟩ := hX
  intro H locs ls hR hF hl
  obtain ⟨⟨hlk2, hini, hcd, hy1, hy2, hpd⟩, hst⟩ := hM
  have hP : PreS s H (q_Pc B D cy As S R I) As := ⟨q_blind, fun U hU hW => ⟨rfl, hK.warm hW, by rw [hU]; exact hR, hB, by rw [hU]; exact Nat.le_trans hF.2.2.2 hF.1⟩⟩
  cases nest with
  | false =>
    simp only [Bool.false_eq_true, if_false] at hlk2
    exact q_back (va_runS (Ts := []) ⟨hx, hb, hml, hown, fun w h => by cases h⟩ (hc l D cy B) ⟨⟨hrm.1, hrm.2, hRm.1, hRm.2, q_wcode hK hcd, List.mem_singleton.mpr rfl, hK.use hcd rfl args, hK.use hini rfl args, ⟨hy1, hy2⟩, q_lenOf hpd, hK.use hlk2 rfl args⟩, hK.use hst rfl args⟩ hP rfl hn hl.1 hs (lv_room hW) hd hf) hF h1 hl kk
  | true =>
    simp only [if_true] at hlk2
    obtain ⟨host, hlk2⟩ := hlk2
    exact q_back (va_runSN (Ts := []) ⟨hx, hb, hml, hown, fun w h => by cases h⟩ (hc l D cy B) ⟨⟨⟨hrm.1, hrm.2, hRm.1, hRm.2, q_wcode hK hcd, List.mem_singleton.mpr rfl⟩, hK.use hcd rfl args, hK.use hini rfl args, ⟨hy1, hy2⟩, q_lenOf hpd, hK.use hlk2 rfl args⟩, hK.use hst rfl args, trivial⟩ hP rfl hn hl.1 hs (lv_room hW) hd hf) hF h1 hl kk
theorem v_callI {idx maxL n b mc ms : Nat} {nest : Bool} {y : MethodName} {bytes : ByteArray} {rm : Room} {As rest : List Value} {S' : q_S} {R' : q_HR} {I' : q_HI} (hX : q_C X cc nL own ret nm) (hM : q_MI own idx y bytes maxL n nest)
    (hc : ∀ (l : Launch) (D : va_G) (cy : Nat → ClassId) (B : Nat), Met l y [Cond.code y bytes maxL none] rm (q_Pc B D cy (.ref b :: As) S R I) (q_Qc B D cy none S' R' I') mc ms (fun q => B ≤ q)) (hrm : rm.cells = mc ∧ rm.slots = ms) (hRm : rm.frames + 1 ≤ Rm.frames ∧ 8 + (maxL + 11) + rm.locals ≤ Rm.locals) (hn : As.length = n) (hs : st = As.reverse ++ .ref b :: rest) (hW : (rest.map fun v => v.category).sum ≤ 8) (hf : cells + mc ≤ Rm.cells ∧ slots + ms ≤ Rm.slots) (hd : decode cc pc = .ok (.invokespecial idx, 3))
    (kk : q_V X Rm cc nL (cells + mc) (slots + ms) (pc + 3) lv rest S' R' I') : q_V X Rm cc nL cells slots pc lv st S R I := by
  obtain ⟨p, l, e, s, m, args, below, meth, c, D, cy, B, Q⟩ := X
  obtain ⟨hx, hb, hml, hown, hK, hB, hlk, hrt, hnm⟩ := hX
  intro H locs ls hR hF hl
  obtain ⟨⟨hlk2, hini, hcd, hy1, hy2, hpd⟩, hin, hyn⟩ := hM
  have hP : PreS s H (q_Pc B D cy (.ref b :: As) S R I) (.ref b :: As) := ⟨q_blind, fun U hU hW => ⟨rfl, hK.warm hW, by rw [hU]; exact hR, hB, by rw [hU]; exact Nat.le_trans hF.2.2.2 hF.1⟩⟩
  cases nest with
  | false =>
    simp only [Bool.false_eq_true, if_false] at hlk2
    exact q_back (va_runI (Ts := []) ⟨hx, hb, hml, hown, fun w h => by cases h⟩ (hc l D cy B) ⟨⟨hrm.1, hrm.2, hRm.1, hRm.2, q_wcode hK hcd, List.mem_singleton.mpr rfl, hK.use hcd rfl args, hK.use hini rfl args, ⟨hy1, hy2⟩, q_lenOf hpd, hK.use hlk2 rfl args⟩, hyn, hK.use hin rfl args⟩ hP rfl hn hl.1 hs (lv_room hW) hd hf) hF rfl hl kk
  | true =>
    simp only [if_true] at hlk2
    obtain ⟨host, hlk2⟩ := hlk2
    exact q_back (va_runIN (Ts := []) ⟨hx, hb, hml, hown, fun w h => by cases h⟩ (hc l D cy B) ⟨⟨⟨hrm.1, hrm.2, hRm.1, hRm.2, q_wcode hK hcd, List.mem_singleton.mpr rfl⟩, hK.use hcd rfl args, hK.use hini rfl args, ⟨hy1, hy2⟩, q_lenOf hpd, hK.use hlk2 rfl args⟩, hyn, hK.use hin rfl args⟩ hP rfl hn hl.1 hs (lv_room hW) hd hf) hF rfl hl kk
theorem v_objInit {idx b : Nat} (hX : q_C X cc nL own ret nm) (w1 : Cond.methodLink own idx objectInit ∈ lw_tbl) (w2 : Cond.instanceMethod objectInit ∈ lw_tbl) (w3 : Cond.code objectInit ⟨#[0xb1]⟩ 1 none ∈ lw_tbl) (hf : 1 ≤ Rm.frames) (hW : (st.map fun v => v.category).sum + 12 ≤ Rm.locals) (hd : decode cc pc = .ok (.invokespecial idx, 3)) (kk : q_V X Rm cc nL cells slots (pc + 3) lv st S R I) : q_V X Rm cc nL cells slots pc lv (.ref b :: st) S R I := by
  obtain ⟨p, l, e, s, m, args, below, meth, c, D, cy, B, Q⟩ := X
  obtain ⟨hx, hb, hml, hown, hK, hB, hlk, hrt, hnm⟩ := hX
  intro H locs ls hR hF hl
  exact W.objInit hx hb hown (hK.use w1 rfl args) (hK.use w2 rfl args) (hK.use w3 rfl args) rfl (by rw [hml]; exact hl.1) rfl hd hf (by show 2 * 0 + _ + 12 ≤ _; omega) (kk H locs ls hR hF hl)
/-! RETURNS -/
theorem v_iret {mc ms : Nat} {z : Int} (hX : q_C X cc nL own (some .int) nm) (hE : q_E X mc ms (some (.int (q_i z))) S R I) (h1 : cells ≤ mc) (h2 : slots ≤ ms) (hd : decode cc pc = .ok (.ireturn, 1)) : q_V X Rm cc nL cells slots pc lv [.int (q_i z)] S R I := by
  obtain ⟨p, l, e, s, m, args, below, meth, c, D, cy, B, Q⟩ := X
  obtain ⟨hx, hb, hml, hown, hK, hB, hlk, hrt, hnm⟩ := hX
  intro H locs ls hR hF hl
  have hE' : Q = _ := hE
  rw [hE']
  refine W.widen h1 h2 ?_
  exact W.iret hx hb hrt (fun t ht hW => ⟨rfl, by rw [ht]; exact hR, by rw [ht]; exact hF.1, fun q hq => by rw [ht]; exact hF.2.1 q hq⟩) hF.2.2.1 hd hlk
theorem v_zret {mc ms : Nat} {z : Int} (hX : q_C X cc nL own (some .boolean) nm) (gz : z = 0 ∨ z = 1) (hE : q_E X mc ms (some (.int (q_i z))) S R I) (h1 : cells ≤ mc) (h2 : slots ≤ ms) (hd : decode cc pc = .ok (.ireturn, 1)) : q_V X Rm cc nL cells slots pc lv [.int (q_i z)] S R I := by
  obtain ⟨p, l, e, s, m, args, below, meth, c, D, cy, B, Q⟩ := X
  obtain ⟨hx, hb, hml, hown, hK, hB, hlk, hrt, hnm⟩ := hX
  intro H locs ls hR hF hl
  have hE' : Q = _ := hE
  rw [hE']
  refine W.widen h1 h2 ?_
  exact W.zret hx hb hrt (q_bz gz).1 (fun t ht hW => ⟨rfl, by rw [ht]; exact hR, by rw [ht]; exact hF.1, fun q hq => by rw [ht]; exact hF.2.1 q hq⟩) hF.2.2.1 hd hlk
theorem v_lret {mc ms : Nat} {z : Int} (hX : q_C X cc nL own (some .long) nm) (hE : q_E X mc ms (some (.long (q_l z))) S R I) (h1 : cells ≤ mc) (h2 : slots ≤ ms) (hd : decode cc pc = .ok (.lreturn, 1)) : q_V X Rm cc nL cells slots pc lv [.long (q_l z)] S R I := by
  obtain ⟨p, l, e, s, m, args, below, meth, c, D, cy, B, Q⟩ := X
  obtain ⟨hx, hb, hml, hown, hK, hB, hlk, hrt, hnm⟩ := hX
  intro H locs ls hR hF hl
  have hE' : Q = _ := hE
  rw [hE']
  refine W.widen h1 h2 ?_
  exact W.lret hx hb hrt (fun t ht hW => ⟨rfl, by rw [ht]; exact hR, by rw [ht]; exact hF.1, fun q hq => by rw [ht]; exact hF.2.1 q hq⟩) hF.2.2.1 hd hlk
theorem v_vret {mc ms : Nat} (hX : q_C X cc nL own none nm) (hE : q_E X mc ms none S R I) (h1 : cells ≤ mc) (h2 : slots ≤ ms) (hd : decode cc pc = .ok (.return_, 1)) : q_V X Rm cc nL cells slots pc lv [] S R I := by
  obtain ⟨p, l, e, s, m, args, below, meth, c, D, cy, B, Q⟩ := X
  obtain ⟨hx, hb, hml, hown, hK, hB, hlk, hrt, hnm⟩ := hX
  intro H locs ls hR hF hl
  have hE' : Q = _ := hE
  rw [hE']
  refine W.widen h1 h2 ?_
  exact W.vret hx hb hrt (fun t ht hW => ⟨rfl, by rw [ht]; exact hR, by rw [ht]; exact hF.1, fun q hq => by rw [ht]; exact hF.2.1 q hq⟩) hF.2.2.1 hd hlk
theorem v_aret {mc ms a : Nat} {C : String} (hX : q_C X cc nL own (some (.object C)) nm) (hE : q_E X mc ms (some (.ref a)) S R I) (h1 : cells ≤ mc) (h2 : slots ≤ ms) (hd : decode cc pc = .ok (.areturn, 1)) : q_V X Rm cc nL cells slots pc lv [.ref a] S R I := by
  obtain ⟨p, l, e, s, m, args, below, meth, c, D, cy, B, Q⟩ := X
  obtain ⟨hx, hb, hml, hown, hK, hB, hlk, hrt, hnm⟩ := hX
  intro H locs ls hR hF hl
  have hE' : Q = _ := hE
  rw [hE']
  refine W.widen h1 h2 ?_
  exact W.aret hx hb hrt (Or.inl ⟨C, rfl⟩) (Or.inr ⟨a, rfl⟩) (fun t ht hW => ⟨rfl, by rw [ht]; exact hR, by rw [ht]; exact hF.1, fun q hq => by rw [ht]; exact hF.2.1 q hq⟩) hF.2.2.1 hd hlk
end QN
/-! A METHOD'S CONTRACT out of its walk -/
theorem q_met {y : MethodName} {cc : ByteArray} {maxL mc ms : Nat} {rt : Option FieldType} {rm : Room} {As : List Value} {lv : List (Nat × Value)} {rv : Option Value} {S S' : q_S} {R R' : q_HR} {I I' : q_HI} {own nm : String} (hy : plainName y.cls = true) (ho : y.cls = own) (hn : y.name = nm) (hL : (lg_sl As).length ≤ maxL) (hlv : lv_args 0 As = lv)
    (body : ∀ X : q_X, q_C X cc maxL own rt nm → q_E X mc ms rv S' R' I' → q_V X rm cc maxL 0 0 0 lv [] S R I) (l : Launch) (D : va_G) (cy : Nat → ClassId) (B : Nat) : Met l y [Cond.code y cc maxL rt] rm (q_Pc B D cy As S R I) (q_Qc B D cy rv S' R' I') mc ms (fun q => B ≤ q) := by
  subst ho
  subst hn
  refine Met.ofW (cc := cc) (maxL := maxL) (ret := rt) hy rfl ?_
  intro p e s m args below meth c s₁ Bd hml hP
  obtain ⟨rfl, hK, hR, hB, hBs⟩ := hP
  have h := body (p, l, e, s, m, As.toArray, below, meth, c, D, cy, B, MQ below (q_Qc B D cy rv S' R' I') As.toArray s mc ms (fun q => B ≤ q)) ⟨Bd.exec, Bd.bytes, hml, findClass_of_methodNamed Bd.named, hK, hB, Bd.notSynchronized, Bd.returns, (name_of_methodNamed Bd.named Bd.method).1⟩ rfl
  have he := lv_entry As hL
  rw [hlv] at he
  rw [lg_entry_eq]
  exact h s.heap [] _ hR ⟨Nat.le_refl _, fun _ _ => rfl, fun _ h => (by cases h), hBs⟩ he
end
