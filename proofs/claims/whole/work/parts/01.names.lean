-- ===== PART A: goes FIRST, ahead of the names: the tables' words, and 'selects' of the private methods out of them =====
/-- a private method of a class that the tables say can be made, by its rows of tables_1 -/
def lw_okq (q : MethodName × Nat) : Prop := (q.1.cls ≠ "java/lang/invoke/MethodHandle" ∧ q.1.cls ≠ "java/lang/invoke/VarHandle") ∧ Cond.instantiable q.1.cls q.2 ∈ tables_1 ∧ Cond.privateMethod q.1 ∈ tables_1 ∧ Cond.instanceMethod q.1 ∈ tables_1
theorem lw_p0 : lw_okq (⟨"NextBest$Ranks", "settle", "(II)V"⟩, 4) := ⟨⟨by decide +kernel, by decide +kernel⟩, List.mem_of_getElem? (i := 78) (by decide +kernel), List.mem_of_getElem? (i := 359) (by decide +kernel), List.mem_of_getElem? (i := 360) (by decide +kernel)⟩
theorem lw_p1 : lw_okq (⟨"NextBest$Reader", "step", "()V"⟩, 8) := ⟨⟨by decide +kernel, by decide +kernel⟩, List.mem_of_getElem? (i := 147) (by decide +kernel), List.mem_of_getElem? (i := 454) (by decide +kernel), List.mem_of_getElem? (i := 455) (by decide +kernel)⟩
theorem lw_p2 : lw_okq (⟨"NextBest$Reader", "stepOverNumber", "()V"⟩, 8) := ⟨⟨by decide +kernel, by decide +kernel⟩, List.mem_of_getElem? (i := 147) (by decide +kernel), List.mem_of_getElem? (i := 468) (by decide +kernel), List.mem_of_getElem? (i := 469) (by decide +kernel)⟩
theorem lw_p3 : lw_okq (⟨"NextBest$Reader", "stepOverWord", "()V"⟩, 8) := ⟨⟨by decide +kernel, by decide +kernel⟩, List.mem_of_getElem? (i := 147) (by decide +kernel), List.mem_of_getElem? (i := 478) (by decide +kernel), List.mem_of_getElem? (i := 479) (by decide +kernel)⟩
theorem lw_p4 : lw_okq (⟨"NextBest$Reader", "spells", "(Ljava/lang/String;)Z"⟩, 8) := ⟨⟨by decide +kernel, by decide +kernel⟩, List.mem_of_getElem? (i := 147) (by decide +kernel), List.mem_of_getElem? (i := 483) (by decide +kernel), List.mem_of_getElem? (i := 484) (by decide +kernel)⟩
theorem lw_p5 : lw_okq (⟨"NextBest$Reader", "readJobs", "()Z"⟩, 8) := ⟨⟨by decide +kernel, by decide +kernel⟩, List.mem_of_getElem? (i := 147) (by decide +kernel), List.mem_of_getElem? (i := 540) (by decide +kernel), List.mem_of_getElem? (i := 541) (by decide +kernel)⟩
theorem lw_p6 : lw_okq (⟨"NextBest$Reader", "fail", "(I)Z"⟩, 8) := ⟨⟨by decide +kernel, by decide +kernel⟩, List.mem_of_getElem? (i := 147) (by decide +kernel), List.mem_of_getElem? (i := 544) (by decide +kernel), List.mem_of_getElem? (i := 545) (by decide +kernel)⟩
theorem lw_p7 : lw_okq (⟨"NextBest$Reader", "readWorker", "()Z"⟩, 8) := ⟨⟨by decide +kernel, by decide +kernel⟩, List.mem_of_getElem? (i := 147) (by decide +kernel), List.mem_of_getElem? (i := 548) (by decide +kernel), List.mem_of_getElem? (i := 549) (by decide +kernel)⟩
theorem lw_p8 : lw_okq (⟨"NextBest$Reader", "readCost", "(I)Z"⟩, 8) := ⟨⟨by decide +kernel, by decide +kernel⟩, List.mem_of_getElem? (i := 147) (by decide +kernel), List.mem_of_getElem? (i := 565) (by decide +kernel), List.mem_of_getElem? (i := 566) (by decide +kernel)⟩
theorem lw_p9 : lw_okq (⟨"NextBest", "changed", "()V"⟩, 15) := ⟨⟨by decide +kernel, by decide +kernel⟩, List.mem_of_getElem? (i := 21) (by decide +kernel), List.mem_of_getElem? (i := 578) (by decide +kernel), List.mem_of_getElem? (i := 579) (by decide +kernel)⟩
theorem lw_p10 : lw_okq (⟨"NextBest$Grid", "across", "(I)I"⟩, 3) := ⟨⟨by decide +kernel, by decide +kernel⟩, List.mem_of_getElem? (i := 45) (by decide +kernel), List.mem_of_getElem? (i := 602) (by decide +kernel), List.mem_of_getElem? (i := 603) (by decide +kernel)⟩
theorem lw_p11 : lw_okq (⟨"NextBest$Grid", "inLine", "(III)J"⟩, 3) := ⟨⟨by decide +kernel, by decide +kernel⟩, List.mem_of_getElem? (i := 45) (by decide +kernel), List.mem_of_getElem? (i := 606) (by decide +kernel), List.mem_of_getElem? (i := 607) (by decide +kernel)⟩
theorem lw_p12 : lw_okq (⟨"NextBest$Order", "list", "()V"⟩, 13) := ⟨⟨by decide +kernel, by decide +kernel⟩, List.mem_of_getElem? (i := 101) (by decide +kernel), List.mem_of_getElem? (i := 637) (by decide +kernel), List.mem_of_getElem? (i := 638) (by decide +kernel)⟩
theorem lw_p13 : lw_okq (⟨"NextBest$Order", "partOfSkipped", "(J)I"⟩, 13) := ⟨⟨by decide +kernel, by decide +kernel⟩, List.mem_of_getElem? (i := 101) (by decide +kernel), List.mem_of_getElem? (i := 648) (by decide +kernel), List.mem_of_getElem? (i := 649) (by decide +kernel)⟩
theorem lw_p14 : lw_okq (⟨"NextBest$Order", "addToPart", "(II)V"⟩, 13) := ⟨⟨by decide +kernel, by decide +kernel⟩, List.mem_of_getElem? (i := 101) (by decide +kernel), List.mem_of_getElem? (i := 657) (by decide +kernel), List.mem_of_getElem? (i := 658) (by decide +kernel)⟩
theorem lw_p15 : lw_okq (⟨"NextBest$Ranks", "between", "(IIJJ)I"⟩, 4) := ⟨⟨by decide +kernel, by decide +kernel⟩, List.mem_of_getElem? (i := 78) (by decide +kernel), List.mem_of_getElem? (i := 669) (by decide +kernel), List.mem_of_getElem? (i := 670) (by decide +kernel)⟩
def lw_privs_1 : List (MethodName × Nat) := [(⟨"NextBest$Ranks", "settle", "(II)V"⟩, 4), (⟨"NextBest$Reader", "step", "()V"⟩, 8), (⟨"NextBest$Reader", "stepOverNumber", "()V"⟩, 8), (⟨"NextBest$Reader", "stepOverWord", "()V"⟩, 8), (⟨"NextBest$Reader", "spells", "(Ljava/lang/String;)Z"⟩, 8), (⟨"NextBest$Reader", "readJobs", "()Z"⟩, 8), (⟨"NextBest$Reader", "fail", "(I)Z"⟩, 8), (⟨"NextBest$Reader", "readWorker", "()Z"⟩, 8), (⟨"NextBest$Reader", "readCost", "(I)Z"⟩, 8), (⟨"NextBest", "changed", "()V"⟩, 15), (⟨"NextBest$Grid", "across", "(I)I"⟩, 3), (⟨"NextBest$Grid", "inLine", "(III)J"⟩, 3), (⟨"NextBest$Order", "list", "()V"⟩, 13), (⟨"NextBest$Order", "partOfSkipped", "(J)I"⟩, 13), (⟨"NextBest$Order", "addToPart", "(II)V"⟩, 13), (⟨"NextBest$Ranks", "between", "(IIJJ)I"⟩, 4)]
theorem lw_r1 : ∀ q ∈ lw_privs_1, lw_okq q := List.forall_mem_cons.mpr ⟨lw_p0, List.forall_mem_cons.mpr ⟨lw_p1, List.forall_mem_cons.mpr ⟨lw_p2, List.forall_mem_cons.mpr ⟨lw_p3, List.forall_mem_cons.mpr ⟨lw_p4, List.forall_mem_cons.mpr ⟨lw_p5, List.forall_mem_cons.mpr ⟨lw_p6, List.forall_mem_cons.mpr ⟨lw_p7, List.forall_mem_cons.mpr ⟨lw_p8, List.forall_mem_cons.mpr ⟨lw_p9, List.forall_mem_cons.mpr ⟨lw_p10, List.forall_mem_cons.mpr ⟨lw_p11, List.forall_mem_cons.mpr ⟨lw_p12, List.forall_mem_cons.mpr ⟨lw_p13, List.forall_mem_cons.mpr ⟨lw_p14, List.forall_mem_cons.mpr ⟨lw_p15, fun _ h => absurd h List.not_mem_nil⟩⟩⟩⟩⟩⟩⟩⟩⟩⟩⟩⟩⟩⟩⟩⟩
theorem lw_p16 : lw_okq (⟨"NextBest$Order", "add", "(IJ)V"⟩, 13) := ⟨⟨by decide +kernel, by decide +kernel⟩, List.mem_of_getElem? (i := 101) (by decide +kernel), List.mem_of_getElem? (i := 679) (by decide +kernel), List.mem_of_getElem? (i := 680) (by decide +kernel)⟩
theorem lw_p17 : lw_okq (⟨"NextBest$Order", "belongs", "(J)Z"⟩, 13) := ⟨⟨by decide +kernel, by decide +kernel⟩, List.mem_of_getElem? (i := 101) (by decide +kernel), List.mem_of_getElem? (i := 683) (by decide +kernel), List.mem_of_getElem? (i := 684) (by decide +kernel)⟩
theorem lw_p18 : lw_okq (⟨"NextBest$Ranks", "leastGoingOn", "(II)I"⟩, 4) := ⟨⟨by decide +kernel, by decide +kernel⟩, List.mem_of_getElem? (i := 78) (by decide +kernel), List.mem_of_getElem? (i := 704) (by decide +kernel), List.mem_of_getElem? (i := 705) (by decide +kernel)⟩
theorem lw_p19 : lw_okq (⟨"NextBest$Ways", "follow", "(I[I[II)I"⟩, 5) := ⟨⟨by decide +kernel, by decide +kernel⟩, List.mem_of_getElem? (i := 323) (by decide +kernel), List.mem_of_getElem? (i := 785) (by decide +kernel), List.mem_of_getElem? (i := 786) (by decide +kernel)⟩
theorem lw_p20 : lw_okq (⟨"NextBest", "supposeForced", "(II)V"⟩, 15) := ⟨⟨by decide +kernel, by decide +kernel⟩, List.mem_of_getElem? (i := 21) (by decide +kernel), List.mem_of_getElem? (i := 802) (by decide +kernel), List.mem_of_getElem? (i := 803) (by decide +kernel)⟩
theorem lw_p21 : lw_okq (⟨"NextBest", "supposeCost", "(IIJ)V"⟩, 15) := ⟨⟨by decide +kernel, by decide +kernel⟩, List.mem_of_getElem? (i := 21) (by decide +kernel), List.mem_of_getElem? (i := 813) (by decide +kernel), List.mem_of_getElem? (i := 814) (by decide +kernel)⟩
theorem lw_p22 : lw_okq (⟨"NextBest$Rules", "lowestTop", "(J)J"⟩, 8) := ⟨⟨by decide +kernel, by decide +kernel⟩, List.mem_of_getElem? (i := 200) (by decide +kernel), List.mem_of_getElem? (i := 887) (by decide +kernel), List.mem_of_getElem? (i := 888) (by decide +kernel)⟩
theorem lw_p23 : lw_okq (⟨"NextBest$Rules", "supposeWithin", "(JJ)V"⟩, 8) := ⟨⟨by decide +kernel, by decide +kernel⟩, List.mem_of_getElem? (i := 200) (by decide +kernel), List.mem_of_getElem? (i := 896) (by decide +kernel), List.mem_of_getElem? (i := 897) (by decide +kernel)⟩
theorem lw_p24 : lw_okq (⟨"NextBest$Rules", "chooseEven", "()Z"⟩, 8) := ⟨⟨by decide +kernel, by decide +kernel⟩, List.mem_of_getElem? (i := 200) (by decide +kernel), List.mem_of_getElem? (i := 901) (by decide +kernel), List.mem_of_getElem? (i := 902) (by decide +kernel)⟩
theorem lw_p25 : lw_okq (⟨"NextBest$Rules", "tryBottom", "(J)V"⟩, 8) := ⟨⟨by decide +kernel, by decide +kernel⟩, List.mem_of_getElem? (i := 200) (by decide +kernel), List.mem_of_getElem? (i := 905) (by decide +kernel), List.mem_of_getElem? (i := 906) (by decide +kernel)⟩
theorem lw_p26 : lw_okq (⟨"NextBest$Rules", "triedComesFirst", "()Z"⟩, 8) := ⟨⟨by decide +kernel, by decide +kernel⟩, List.mem_of_getElem? (i := 200) (by decide +kernel), List.mem_of_getElem? (i := 912) (by decide +kernel), List.mem_of_getElem? (i := 913) (by decide +kernel)⟩
theorem lw_p27 : lw_okq (⟨"NextBest$Rules", "supposeWeighted", "(I)V"⟩, 8) := ⟨⟨by decide +kernel, by decide +kernel⟩, List.mem_of_getElem? (i := 200) (by decide +kernel), List.mem_of_getElem? (i := 916) (by decide +kernel), List.mem_of_getElem? (i := 917) (by decide +kernel)⟩
theorem lw_p28 : lw_okq (⟨"NextBest$Rules", "howManyAbove", "(I)J"⟩, 8) := ⟨⟨by decide +kernel, by decide +kernel⟩, List.mem_of_getElem? (i := 200) (by decide +kernel), List.mem_of_getElem? (i := 930) (by decide +kernel), List.mem_of_getElem? (i := 931) (by decide +kernel)⟩
theorem lw_p29 : lw_okq (⟨"NextBest$Greed", "takeLeast", "()Z"⟩, 9) := ⟨⟨by decide +kernel, by decide +kernel⟩, List.mem_of_getElem? (i := 232) (by decide +kernel), List.mem_of_getElem? (i := 947) (by decide +kernel), List.mem_of_getElem? (i := 948) (by decide +kernel)⟩
theorem lw_p30 : lw_okq (⟨"NextBest$Greed", "seat", "(II)V"⟩, 9) := ⟨⟨by decide +kernel, by decide +kernel⟩, List.mem_of_getElem? (i := 232) (by decide +kernel), List.mem_of_getElem? (i := 953) (by decide +kernel), List.mem_of_getElem? (i := 954) (by decide +kernel)⟩
theorem lw_p31 : lw_okq (⟨"NextBest$Greed", "findStep", "()Z"⟩, 9) := ⟨⟨by decide +kernel, by decide +kernel⟩, List.mem_of_getElem? (i := 232) (by decide +kernel), List.mem_of_getElem? (i := 971) (by decide +kernel), List.mem_of_getElem? (i := 972) (by decide +kernel)⟩
def lw_privs_2 : List (MethodName × Nat) := [(⟨"NextBest$Order", "add", "(IJ)V"⟩, 13), (⟨"NextBest$Order", "belongs", "(J)Z"⟩, 13), (⟨"NextBest$Ranks", "leastGoingOn", "(II)I"⟩, 4), (⟨"NextBest$Ways", "follow", "(I[I[II)I"⟩, 5), (⟨"NextBest", "supposeForced", "(II)V"⟩, 15), (⟨"NextBest", "supposeCost", "(IIJ)V"⟩, 15), (⟨"NextBest$Rules", "lowestTop", "(J)J"⟩, 8), (⟨"NextBest$Rules", "supposeWithin", "(JJ)V"⟩, 8), (⟨"NextBest$Rules", "chooseEven", "()Z"⟩, 8), (⟨"NextBest$Rules", "tryBottom", "(J)V"⟩, 8), (⟨"NextBest$Rules", "triedComesFirst", "()Z"⟩, 8), (⟨"NextBest$Rules", "supposeWeighted", "(I)V"⟩, 8), (⟨"NextBest$Rules", "howManyAbove", "(I)J"⟩, 8), (⟨"NextBest$Greed", "takeLeast", "()Z"⟩, 9), (⟨"NextBest$Greed", "seat", "(II)V"⟩, 9), (⟨"NextBest$Greed", "findStep", "()Z"⟩, 9)]
theorem lw_r2 : ∀ q ∈ lw_privs_2, lw_okq q := List.forall_mem_cons.mpr ⟨lw_p16, List.forall_mem_cons.mpr ⟨lw_p17, List.forall_mem_cons.mpr ⟨lw_p18, List.forall_mem_cons.mpr ⟨lw_p19, List.forall_mem_cons.mpr ⟨lw_p20, List.forall_mem_cons.mpr ⟨lw_p21, List.forall_mem_cons.mpr ⟨lw_p22, List.forall_mem_cons.mpr ⟨lw_p23, List.forall_mem_cons.mpr ⟨lw_p24, List.forall_mem_cons.mpr ⟨lw_p25, List.forall_mem_cons.mpr ⟨lw_p26, List.forall_mem_cons.mpr ⟨lw_p27, List.forall_mem_cons.mpr ⟨lw_p28, List.forall_mem_cons.mpr ⟨lw_p29, List.forall_mem_cons.mpr ⟨lw_p30, List.forall_mem_cons.mpr ⟨lw_p31, fun _ h => absurd h List.not_mem_nil⟩⟩⟩⟩⟩⟩⟩⟩⟩⟩⟩⟩⟩⟩⟩⟩
theorem lw_p32 : lw_okq (⟨"NextBest$Greed", "goingGain", "(II)J"⟩, 9) := ⟨⟨by decide +kernel, by decide +kernel⟩, List.mem_of_getElem? (i := 232) (by decide +kernel), List.mem_of_getElem? (i := 975) (by decide +kernel), List.mem_of_getElem? (i := 976) (by decide +kernel)⟩
theorem lw_p33 : lw_okq (⟨"NextBest$Greed", "weigh", "(IIJ)V"⟩, 9) := ⟨⟨by decide +kernel, by decide +kernel⟩, List.mem_of_getElem? (i := 232) (by decide +kernel), List.mem_of_getElem? (i := 980) (by decide +kernel), List.mem_of_getElem? (i := 981) (by decide +kernel)⟩
theorem lw_p34 : lw_okq (⟨"NextBest$Greed", "changingGain", "(II)J"⟩, 9) := ⟨⟨by decide +kernel, by decide +kernel⟩, List.mem_of_getElem? (i := 232) (by decide +kernel), List.mem_of_getElem? (i := 984) (by decide +kernel), List.mem_of_getElem? (i := 985) (by decide +kernel)⟩
theorem lw_p35 : lw_okq (⟨"NextBest$Greed", "doStep", "()V"⟩, 9) := ⟨⟨by decide +kernel, by decide +kernel⟩, List.mem_of_getElem? (i := 232) (by decide +kernel), List.mem_of_getElem? (i := 988) (by decide +kernel), List.mem_of_getElem? (i := 989) (by decide +kernel)⟩
theorem lw_p36 : lw_okq (⟨"NextBest$Sale", "open", "()V"⟩, 6) := ⟨⟨by decide +kernel, by decide +kernel⟩, List.mem_of_getElem? (i := 270) (by decide +kernel), List.mem_of_getElem? (i := 1003) (by decide +kernel), List.mem_of_getElem? (i := 1004) (by decide +kernel)⟩
theorem lw_p37 : lw_okq (⟨"NextBest$Sale", "bid", "(II)Z"⟩, 6) := ⟨⟨by decide +kernel, by decide +kernel⟩, List.mem_of_getElem? (i := 270) (by decide +kernel), List.mem_of_getElem? (i := 1007) (by decide +kernel), List.mem_of_getElem? (i := 1008) (by decide +kernel)⟩
theorem lw_p38 : lw_okq (⟨"NextBest$Sale", "leastNet", "(II)I"⟩, 6) := ⟨⟨by decide +kernel, by decide +kernel⟩, List.mem_of_getElem? (i := 270) (by decide +kernel), List.mem_of_getElem? (i := 1011) (by decide +kernel), List.mem_of_getElem? (i := 1012) (by decide +kernel)⟩
theorem lw_p39 : lw_okq (⟨"NextBest$Sale", "net", "(II)J"⟩, 6) := ⟨⟨by decide +kernel, by decide +kernel⟩, List.mem_of_getElem? (i := 270) (by decide +kernel), List.mem_of_getElem? (i := 1017) (by decide +kernel), List.mem_of_getElem? (i := 1018) (by decide +kernel)⟩
theorem lw_p40 : lw_okq (⟨"NextBest$Sale", "leaveQueue", "()V"⟩, 6) := ⟨⟨by decide +kernel, by decide +kernel⟩, List.mem_of_getElem? (i := 270) (by decide +kernel), List.mem_of_getElem? (i := 1022) (by decide +kernel), List.mem_of_getElem? (i := 1023) (by decide +kernel)⟩
theorem lw_p41 : lw_okq (⟨"NextBest$Sale", "ousted", "(I)V"⟩, 6) := ⟨⟨by decide +kernel, by decide +kernel⟩, List.mem_of_getElem? (i := 270) (by decide +kernel), List.mem_of_getElem? (i := 1026) (by decide +kernel), List.mem_of_getElem? (i := 1027) (by decide +kernel)⟩
theorem lw_p42 : lw_okq (⟨"NextBest$Moves", "shift", "(II)J"⟩, 5) := ⟨⟨by decide +kernel, by decide +kernel⟩, List.mem_of_getElem? (i := 299) (by decide +kernel), List.mem_of_getElem? (i := 1054) (by decide +kernel), List.mem_of_getElem? (i := 1055) (by decide +kernel)⟩
theorem lw_p43 : lw_okq (⟨"NextBest$Moves", "offer", "(IJJ)V"⟩, 5) := ⟨⟨by decide +kernel, by decide +kernel⟩, List.mem_of_getElem? (i := 299) (by decide +kernel), List.mem_of_getElem? (i := 1060) (by decide +kernel), List.mem_of_getElem? (i := 1061) (by decide +kernel)⟩
theorem lw_p44 : lw_okq (⟨"NextBest$Grid", "lessRow", "(II)J"⟩, 3) := ⟨⟨by decide +kernel, by decide +kernel⟩, List.mem_of_getElem? (i := 45) (by decide +kernel), List.mem_of_getElem? (i := 1090) (by decide +kernel), List.mem_of_getElem? (i := 1091) (by decide +kernel)⟩
theorem lw_p45 : lw_okq (⟨"NextBest", "changeCost", "(IIJ)I"⟩, 15) := ⟨⟨by decide +kernel, by decide +kernel⟩, List.mem_of_getElem? (i := 21) (by decide +kernel), List.mem_of_getElem? (i := 1103) (by decide +kernel), List.mem_of_getElem? (i := 1104) (by decide +kernel)⟩
theorem lw_p46 : lw_okq (⟨"NextBestModel", "next", "()V"⟩, 33) := ⟨⟨by decide +kernel, by decide +kernel⟩, List.mem_of_getElem? (i := 1170) (by decide +kernel), List.mem_of_getElem? (i := 1292) (by decide +kernel), List.mem_of_getElem? (i := 1293) (by decide +kernel)⟩
theorem lw_p47 : lw_okq (⟨"NextBestModel", "isAt", "(II)Z"⟩, 33) := ⟨⟨by decide +kernel, by decide +kernel⟩, List.mem_of_getElem? (i := 1170) (by decide +kernel), List.mem_of_getElem? (i := 1296) (by decide +kernel), List.mem_of_getElem? (i := 1297) (by decide +kernel)⟩
def lw_privs_3 : List (MethodName × Nat) := [(⟨"NextBest$Greed", "goingGain", "(II)J"⟩, 9), (⟨"NextBest$Greed", "weigh", "(IIJ)V"⟩, 9), (⟨"NextBest$Greed", "changingGain", "(II)J"⟩, 9), (⟨"NextBest$Greed", "doStep", "()V"⟩, 9), (⟨"NextBest$Sale", "open", "()V"⟩, 6), (⟨"NextBest$Sale", "bid", "(II)Z"⟩, 6), (⟨"NextBest$Sale", "leastNet", "(II)I"⟩, 6), (⟨"NextBest$Sale", "net", "(II)J"⟩, 6), (⟨"NextBest$Sale", "leaveQueue", "()V"⟩, 6), (⟨"NextBest$Sale", "ousted", "(I)V"⟩, 6), (⟨"NextBest$Moves", "shift", "(II)J"⟩, 5), (⟨"NextBest$Moves", "offer", "(IJJ)V"⟩, 5), (⟨"NextBest$Grid", "lessRow", "(II)J"⟩, 3), (⟨"NextBest", "changeCost", "(IIJ)I"⟩, 15), (⟨"NextBestModel", "next", "()V"⟩, 33), (⟨"NextBestModel", "isAt", "(II)Z"⟩, 33)]
theorem lw_r3 : ∀ q ∈ lw_privs_3, lw_okq q := List.forall_mem_cons.mpr ⟨lw_p32, List.forall_mem_cons.mpr ⟨lw_p33, List.forall_mem_cons.mpr ⟨lw_p34, List.forall_mem_cons.mpr ⟨lw_p35, List.forall_mem_cons.mpr ⟨lw_p36, List.forall_mem_cons.mpr ⟨lw_p37, List.forall_mem_cons.mpr ⟨lw_p38, List.forall_mem_cons.mpr ⟨lw_p39, List.forall_mem_cons.mpr ⟨lw_p40, List.forall_mem_cons.mpr ⟨lw_p41, List.forall_mem_cons.mpr ⟨lw_p42, List.forall_mem_cons.mpr ⟨lw_p43, List.forall_mem_cons.mpr ⟨lw_p44, List.forall_mem_cons.mpr ⟨lw_p45, List.forall_mem_cons.mpr ⟨lw_p46, List.forall_mem_cons.mpr ⟨lw_p47, fun _ h => absurd h List.not_mem_nil⟩⟩⟩⟩⟩⟩⟩⟩⟩⟩⟩⟩⟩⟩⟩⟩
theorem lw_p48 : lw_okq (⟨"NextBestModel", "readsJobs", "()V"⟩, 33) := ⟨⟨by decide +kernel, by decide +kernel⟩, List.mem_of_getElem? (i := 1170) (by decide +kernel), List.mem_of_getElem? (i := 1301) (by decide +kernel), List.mem_of_getElem? (i := 1302) (by decide +kernel)⟩
theorem lw_p49 : lw_okq (⟨"NextBestModel", "isWord", "(Ljava/lang/String;)Z"⟩, 33) := ⟨⟨by decide +kernel, by decide +kernel⟩, List.mem_of_getElem? (i := 1170) (by decide +kernel), List.mem_of_getElem? (i := 1306) (by decide +kernel), List.mem_of_getElem? (i := 1307) (by decide +kernel)⟩
theorem lw_p50 : lw_okq (⟨"NextBestModel", "faults", "(I)V"⟩, 33) := ⟨⟨by decide +kernel, by decide +kernel⟩, List.mem_of_getElem? (i := 1170) (by decide +kernel), List.mem_of_getElem? (i := 1312) (by decide +kernel), List.mem_of_getElem? (i := 1313) (by decide +kernel)⟩
theorem lw_p51 : lw_okq (⟨"NextBestModel", "passes", "()V"⟩, 33) := ⟨⟨by decide +kernel, by decide +kernel⟩, List.mem_of_getElem? (i := 1170) (by decide +kernel), List.mem_of_getElem? (i := 1316) (by decide +kernel), List.mem_of_getElem? (i := 1317) (by decide +kernel)⟩
theorem lw_p52 : lw_okq (⟨"NextBestModel", "number", "(II)I"⟩, 33) := ⟨⟨by decide +kernel, by decide +kernel⟩, List.mem_of_getElem? (i := 1170) (by decide +kernel), List.mem_of_getElem? (i := 1320) (by decide +kernel), List.mem_of_getElem? (i := 1321) (by decide +kernel)⟩
theorem lw_p53 : lw_okq (⟨"NextBestModel", "readsWorker", "()V"⟩, 33) := ⟨⟨by decide +kernel, by decide +kernel⟩, List.mem_of_getElem? (i := 1170) (by decide +kernel), List.mem_of_getElem? (i := 1324) (by decide +kernel), List.mem_of_getElem? (i := 1325) (by decide +kernel)⟩
theorem lw_p54 : lw_okq (⟨"NextBestModel", "readsCost", "(I)V"⟩, 33) := ⟨⟨by decide +kernel, by decide +kernel⟩, List.mem_of_getElem? (i := 1170) (by decide +kernel), List.mem_of_getElem? (i := 1329) (by decide +kernel), List.mem_of_getElem? (i := 1330) (by decide +kernel)⟩
theorem lw_p55 : lw_okq (⟨"NextBestModel", "workers", "()I"⟩, 33) := ⟨⟨by decide +kernel, by decide +kernel⟩, List.mem_of_getElem? (i := 1170) (by decide +kernel), List.mem_of_getElem? (i := 1338) (by decide +kernel), List.mem_of_getElem? (i := 1339) (by decide +kernel)⟩
theorem lw_p56 : lw_okq (⟨"NextBestModel", "jobs", "()I"⟩, 33) := ⟨⟨by decide +kernel, by decide +kernel⟩, List.mem_of_getElem? (i := 1170) (by decide +kernel), List.mem_of_getElem? (i := 1350) (by decide +kernel), List.mem_of_getElem? (i := 1351) (by decide +kernel)⟩
theorem lw_p57 : lw_okq (⟨"NextBestModel", "costOf", "(II)I"⟩, 33) := ⟨⟨by decide +kernel, by decide +kernel⟩, List.mem_of_getElem? (i := 1170) (by decide +kernel), List.mem_of_getElem? (i := 1354) (by decide +kernel), List.mem_of_getElem? (i := 1355) (by decide +kernel)⟩
theorem lw_p58 : lw_okq (⟨"NextBestModel", "goesAll", "()V"⟩, 33) := ⟨⟨by decide +kernel, by decide +kernel⟩, List.mem_of_getElem? (i := 1170) (by decide +kernel), List.mem_of_getElem? (i := 1358) (by decide +kernel), List.mem_of_getElem? (i := 1359) (by decide +kernel)⟩
theorem lw_p59 : lw_okq (⟨"NextBestModel", "allJobs", "()I"⟩, 33) := ⟨⟨by decide +kernel, by decide +kernel⟩, List.mem_of_getElem? (i := 1170) (by decide +kernel), List.mem_of_getElem? (i := 1362) (by decide +kernel), List.mem_of_getElem? (i := 1363) (by decide +kernel)⟩
theorem lw_p60 : lw_okq (⟨"NextBestModel", "goesThrough", "(II)V"⟩, 33) := ⟨⟨by decide +kernel, by decide +kernel⟩, List.mem_of_getElem? (i := 1170) (by decide +kernel), List.mem_of_getElem? (i := 1366) (by decide +kernel), List.mem_of_getElem? (i := 1367) (by decide +kernel)⟩
theorem lw_p61 : lw_okq (⟨"NextBestModel", "canTake", "(IIII)Z"⟩, 33) := ⟨⟨by decide +kernel, by decide +kernel⟩, List.mem_of_getElem? (i := 1170) (by decide +kernel), List.mem_of_getElem? (i := 1370) (by decide +kernel), List.mem_of_getElem? (i := 1371) (by decide +kernel)⟩
theorem lw_p62 : lw_okq (⟨"NextBestModel", "isWorker", "(I)Z"⟩, 33) := ⟨⟨by decide +kernel, by decide +kernel⟩, List.mem_of_getElem? (i := 1170) (by decide +kernel), List.mem_of_getElem? (i := 1381) (by decide +kernel), List.mem_of_getElem? (i := 1382) (by decide +kernel)⟩
theorem lw_p63 : lw_okq (⟨"NextBestModel", "isJob", "(I)Z"⟩, 33) := ⟨⟨by decide +kernel, by decide +kernel⟩, List.mem_of_getElem? (i := 1170) (by decide +kernel), List.mem_of_getElem? (i := 1385) (by decide +kernel), List.mem_of_getElem? (i := 1386) (by decide +kernel)⟩
def lw_privs_4 : List (MethodName × Nat) := [(⟨"NextBestModel", "readsJobs", "()V"⟩, 33), (⟨"NextBestModel", "isWord", "(Ljava/lang/String;)Z"⟩, 33), (⟨"NextBestModel", "faults", "(I)V"⟩, 33), (⟨"NextBestModel", "passes", "()V"⟩, 33), (⟨"NextBestModel", "number", "(II)I"⟩, 33), (⟨"NextBestModel", "readsWorker", "()V"⟩, 33), (⟨"NextBestModel", "readsCost", "(I)V"⟩, 33), (⟨"NextBestModel", "workers", "()I"⟩, 33), (⟨"NextBestModel", "jobs", "()I"⟩, 33), (⟨"NextBestModel", "costOf", "(II)I"⟩, 33), (⟨"NextBestModel", "goesAll", "()V"⟩, 33), (⟨"NextBestModel", "allJobs", "()I"⟩, 33), (⟨"NextBestModel", "goesThrough", "(II)V"⟩, 33), (⟨"NextBestModel", "canTake", "(IIII)Z"⟩, 33), (⟨"NextBestModel", "isWorker", "(I)Z"⟩, 33), (⟨"NextBestModel", "isJob", "(I)Z"⟩, 33)]
theorem lw_r4 : ∀ q ∈ lw_privs_4, lw_okq q := List.forall_mem_cons.mpr ⟨lw_p48, List.forall_mem_cons.mpr ⟨lw_p49, List.forall_mem_cons.mpr ⟨lw_p50, List.forall_mem_cons.mpr ⟨lw_p51, List.forall_mem_cons.mpr ⟨lw_p52, List.forall_mem_cons.mpr ⟨lw_p53, List.forall_mem_cons.mpr ⟨lw_p54, List.forall_mem_cons.mpr ⟨lw_p55, List.forall_mem_cons.mpr ⟨lw_p56, List.forall_mem_cons.mpr ⟨lw_p57, List.forall_mem_cons.mpr ⟨lw_p58, List.forall_mem_cons.mpr ⟨lw_p59, List.forall_mem_cons.mpr ⟨lw_p60, List.forall_mem_cons.mpr ⟨lw_p61, List.forall_mem_cons.mpr ⟨lw_p62, List.forall_mem_cons.mpr ⟨lw_p63, fun _ h => absurd h List.not_mem_nil⟩⟩⟩⟩⟩⟩⟩⟩⟩⟩⟩⟩⟩⟩⟩⟩
theorem lw_p64 : lw_okq (⟨"NextBestModel", "laysFirst", "()V"⟩, 33) := ⟨⟨by decide +kernel, by decide +kernel⟩, List.mem_of_getElem? (i := 1170) (by decide +kernel), List.mem_of_getElem? (i := 1398) (by decide +kernel), List.mem_of_getElem? (i := 1399) (by decide +kernel)⟩
theorem lw_p65 : lw_okq (⟨"NextBestModel", "isThere", "(I)Z"⟩, 33) := ⟨⟨by decide +kernel, by decide +kernel⟩, List.mem_of_getElem? (i := 1170) (by decide +kernel), List.mem_of_getElem? (i := 1402) (by decide +kernel), List.mem_of_getElem? (i := 1403) (by decide +kernel)⟩
theorem lw_p66 : lw_okq (⟨"NextBestModel", "jobOf", "(II)I"⟩, 33) := ⟨⟨by decide +kernel, by decide +kernel⟩, List.mem_of_getElem? (i := 1170) (by decide +kernel), List.mem_of_getElem? (i := 1414) (by decide +kernel), List.mem_of_getElem? (i := 1415) (by decide +kernel)⟩
theorem lw_p67 : lw_okq (⟨"NextBestModel", "leastBy", "(IIZ)J"⟩, 33) := ⟨⟨by decide +kernel, by decide +kernel⟩, List.mem_of_getElem? (i := 1170) (by decide +kernel), List.mem_of_getElem? (i := 1437) (by decide +kernel), List.mem_of_getElem? (i := 1438) (by decide +kernel)⟩
theorem lw_p68 : lw_okq (⟨"NextBestModel", "least", "()I"⟩, 33) := ⟨⟨by decide +kernel, by decide +kernel⟩, List.mem_of_getElem? (i := 1170) (by decide +kernel), List.mem_of_getElem? (i := 1449) (by decide +kernel), List.mem_of_getElem? (i := 1450) (by decide +kernel)⟩
theorem lw_p69 : lw_okq (⟨"NextBestModel", "leastWith", "(II)J"⟩, 33) := ⟨⟨by decide +kernel, by decide +kernel⟩, List.mem_of_getElem? (i := 1170) (by decide +kernel), List.mem_of_getElem? (i := 1470) (by decide +kernel), List.mem_of_getElem? (i := 1471) (by decide +kernel)⟩
theorem lw_p70 : lw_okq (⟨"NextBestModel", "firstBy", "(II)I"⟩, 33) := ⟨⟨by decide +kernel, by decide +kernel⟩, List.mem_of_getElem? (i := 1170) (by decide +kernel), List.mem_of_getElem? (i := 1487) (by decide +kernel), List.mem_of_getElem? (i := 1488) (by decide +kernel)⟩
theorem lw_p71 : lw_okq (⟨"NextBestModel", "measureOf", "(III)J"⟩, 33) := ⟨⟨by decide +kernel, by decide +kernel⟩, List.mem_of_getElem? (i := 1170) (by decide +kernel), List.mem_of_getElem? (i := 1491) (by decide +kernel), List.mem_of_getElem? (i := 1492) (by decide +kernel)⟩
theorem lw_p72 : lw_okq (⟨"NextBestModel", "laysGreedy", "()V"⟩, 33) := ⟨⟨by decide +kernel, by decide +kernel⟩, List.mem_of_getElem? (i := 1170) (by decide +kernel), List.mem_of_getElem? (i := 1505) (by decide +kernel), List.mem_of_getElem? (i := 1506) (by decide +kernel)⟩
theorem lw_p73 : lw_okq (⟨"NextBestModel", "isTaken", "(I)Z"⟩, 33) := ⟨⟨by decide +kernel, by decide +kernel⟩, List.mem_of_getElem? (i := 1170) (by decide +kernel), List.mem_of_getElem? (i := 1509) (by decide +kernel), List.mem_of_getElem? (i := 1510) (by decide +kernel)⟩
theorem lw_p74 : lw_okq (⟨"NextBestModel", "hasSum", "()J"⟩, 33) := ⟨⟨by decide +kernel, by decide +kernel⟩, List.mem_of_getElem? (i := 1170) (by decide +kernel), List.mem_of_getElem? (i := 1513) (by decide +kernel), List.mem_of_getElem? (i := 1514) (by decide +kernel)⟩
theorem lw_p75 : lw_okq (⟨"NextBestModel", "hasMany", "()I"⟩, 33) := ⟨⟨by decide +kernel, by decide +kernel⟩, List.mem_of_getElem? (i := 1170) (by decide +kernel), List.mem_of_getElem? (i := 1517) (by decide +kernel), List.mem_of_getElem? (i := 1518) (by decide +kernel)⟩
theorem lw_p76 : lw_okq (⟨"NextBestModel", "mends", "()Z"⟩, 33) := ⟨⟨by decide +kernel, by decide +kernel⟩, List.mem_of_getElem? (i := 1170) (by decide +kernel), List.mem_of_getElem? (i := 1529) (by decide +kernel), List.mem_of_getElem? (i := 1530) (by decide +kernel)⟩
theorem lw_p77 : lw_okq (⟨"NextBestModel", "offers", "(IIIZ)V"⟩, 33) := ⟨⟨by decide +kernel, by decide +kernel⟩, List.mem_of_getElem? (i := 1170) (by decide +kernel), List.mem_of_getElem? (i := 1533) (by decide +kernel), List.mem_of_getElem? (i := 1534) (by decide +kernel)⟩
theorem lw_p78 : lw_okq (⟨"NextBestModel", "laysAuction", "(I)V"⟩, 33) := ⟨⟨by decide +kernel, by decide +kernel⟩, List.mem_of_getElem? (i := 1170) (by decide +kernel), List.mem_of_getElem? (i := 1543) (by decide +kernel), List.mem_of_getElem? (i := 1544) (by decide +kernel)⟩
theorem lw_p79 : lw_okq (⟨"NextBestModel", "leastNet", "(II)I"⟩, 33) := ⟨⟨by decide +kernel, by decide +kernel⟩, List.mem_of_getElem? (i := 1170) (by decide +kernel), List.mem_of_getElem? (i := 1547) (by decide +kernel), List.mem_of_getElem? (i := 1548) (by decide +kernel)⟩
def lw_privs_5 : List (MethodName × Nat) := [(⟨"NextBestModel", "laysFirst", "()V"⟩, 33), (⟨"NextBestModel", "isThere", "(I)Z"⟩, 33), (⟨"NextBestModel", "jobOf", "(II)I"⟩, 33), (⟨"NextBestModel", "leastBy", "(IIZ)J"⟩, 33), (⟨"NextBestModel", "least", "()I"⟩, 33), (⟨"NextBestModel", "leastWith", "(II)J"⟩, 33), (⟨"NextBestModel", "firstBy", "(II)I"⟩, 33), (⟨"NextBestModel", "measureOf", "(III)J"⟩, 33), (⟨"NextBestModel", "laysGreedy", "()V"⟩, 33), (⟨"NextBestModel", "isTaken", "(I)Z"⟩, 33), (⟨"NextBestModel", "hasSum", "()J"⟩, 33), (⟨"NextBestModel", "hasMany", "()I"⟩, 33), (⟨"NextBestModel", "mends", "()Z"⟩, 33), (⟨"NextBestModel", "offers", "(IIIZ)V"⟩, 33), (⟨"NextBestModel", "laysAuction", "(I)V"⟩, 33), (⟨"NextBestModel", "leastNet", "(II)I"⟩, 33)]
theorem lw_r5 : ∀ q ∈ lw_privs_5, lw_okq q := List.forall_mem_cons.mpr ⟨lw_p64, List.forall_mem_cons.mpr ⟨lw_p65, List.forall_mem_cons.mpr ⟨lw_p66, List.forall_mem_cons.mpr ⟨lw_p67, List.forall_mem_cons.mpr ⟨lw_p68, List.forall_mem_cons.mpr ⟨lw_p69, List.forall_mem_cons.mpr ⟨lw_p70, List.forall_mem_cons.mpr ⟨lw_p71, List.forall_mem_cons.mpr ⟨lw_p72, List.forall_mem_cons.mpr ⟨lw_p73, List.forall_mem_cons.mpr ⟨lw_p74, List.forall_mem_cons.mpr ⟨lw_p75, List.forall_mem_cons.mpr ⟨lw_p76, List.forall_mem_cons.mpr ⟨lw_p77, List.forall_mem_cons.mpr ⟨lw_p78, List.forall_mem_cons.mpr ⟨lw_p79, fun _ h => absurd h List.not_mem_nil⟩⟩⟩⟩⟩⟩⟩⟩⟩⟩⟩⟩⟩⟩⟩⟩
theorem lw_p80 : lw_okq (⟨"NextBestModel", "leastOf", "(II)J"⟩, 33) := ⟨⟨by decide +kernel, by decide +kernel⟩, List.mem_of_getElem? (i := 1170) (by decide +kernel), List.mem_of_getElem? (i := 1570) (by decide +kernel), List.mem_of_getElem? (i := 1571) (by decide +kernel)⟩
theorem lw_p81 : lw_okq (⟨"NextBestModel", "laysRounds", "(II)V"⟩, 33) := ⟨⟨by decide +kernel, by decide +kernel⟩, List.mem_of_getElem? (i := 1170) (by decide +kernel), List.mem_of_getElem? (i := 1590) (by decide +kernel), List.mem_of_getElem? (i := 1591) (by decide +kernel)⟩
theorem lw_p82 : lw_okq (⟨"NextBestModel", "whoHad", "(II)I"⟩, 33) := ⟨⟨by decide +kernel, by decide +kernel⟩, List.mem_of_getElem? (i := 1170) (by decide +kernel), List.mem_of_getElem? (i := 1594) (by decide +kernel), List.mem_of_getElem? (i := 1595) (by decide +kernel)⟩
theorem lw_p83 : lw_okq (⟨"NextBestModel", "manyUpTo", "(I)I"⟩, 33) := ⟨⟨by decide +kernel, by decide +kernel⟩, List.mem_of_getElem? (i := 1170) (by decide +kernel), List.mem_of_getElem? (i := 1613) (by decide +kernel), List.mem_of_getElem? (i := 1614) (by decide +kernel)⟩
theorem lw_p84 : lw_okq (⟨"NextBestModel", "reducedOf", "(II)J"⟩, 33) := ⟨⟨by decide +kernel, by decide +kernel⟩, List.mem_of_getElem? (i := 1170) (by decide +kernel), List.mem_of_getElem? (i := 1630) (by decide +kernel), List.mem_of_getElem? (i := 1631) (by decide +kernel)⟩
theorem lw_p85 : lw_okq (⟨"NextBestModel", "lessOf", "(II)I"⟩, 33) := ⟨⟨by decide +kernel, by decide +kernel⟩, List.mem_of_getElem? (i := 1170) (by decide +kernel), List.mem_of_getElem? (i := 1634) (by decide +kernel), List.mem_of_getElem? (i := 1635) (by decide +kernel)⟩
theorem lw_p86 : lw_okq (⟨"NextBestModel", "becomes", "(III)I"⟩, 33) := ⟨⟨by decide +kernel, by decide +kernel⟩, List.mem_of_getElem? (i := 1170) (by decide +kernel), List.mem_of_getElem? (i := 1646) (by decide +kernel), List.mem_of_getElem? (i := 1647) (by decide +kernel)⟩
theorem lw_p87 : lw_okq (⟨"NextBestModel", "remembers", "()V"⟩, 33) := ⟨⟨by decide +kernel, by decide +kernel⟩, List.mem_of_getElem? (i := 1170) (by decide +kernel), List.mem_of_getElem? (i := 1650) (by decide +kernel), List.mem_of_getElem? (i := 1651) (by decide +kernel)⟩
theorem lw_p88 : lw_okq (⟨"NextBestModel", "keeps", "()Z"⟩, 33) := ⟨⟨by decide +kernel, by decide +kernel⟩, List.mem_of_getElem? (i := 1170) (by decide +kernel), List.mem_of_getElem? (i := 1654) (by decide +kernel), List.mem_of_getElem? (i := 1655) (by decide +kernel)⟩
def lw_privs_6 : List (MethodName × Nat) := [(⟨"NextBestModel", "leastOf", "(II)J"⟩, 33), (⟨"NextBestModel", "laysRounds", "(II)V"⟩, 33), (⟨"NextBestModel", "whoHad", "(II)I"⟩, 33), (⟨"NextBestModel", "manyUpTo", "(I)I"⟩, 33), (⟨"NextBestModel", "reducedOf", "(II)J"⟩, 33), (⟨"NextBestModel", "lessOf", "(II)I"⟩, 33), (⟨"NextBestModel", "becomes", "(III)I"⟩, 33), (⟨"NextBestModel", "remembers", "()V"⟩, 33), (⟨"NextBestModel", "keeps", "()Z"⟩, 33)]
theorem lw_r6 : ∀ q ∈ lw_privs_6, lw_okq q := List.forall_mem_cons.mpr ⟨lw_p80, List.forall_mem_cons.mpr ⟨lw_p81, List.forall_mem_cons.mpr ⟨lw_p82, List.forall_mem_cons.mpr ⟨lw_p83, List.forall_mem_cons.mpr ⟨lw_p84, List.forall_mem_cons.mpr ⟨lw_p85, List.forall_mem_cons.mpr ⟨lw_p86, List.forall_mem_cons.mpr ⟨lw_p87, List.forall_mem_cons.mpr ⟨lw_p88, fun _ h => absurd h List.not_mem_nil⟩⟩⟩⟩⟩⟩⟩⟩⟩
def lw_privs : List (MethodName × Nat) := lw_privs_1 ++ (lw_privs_2 ++ (lw_privs_3 ++ (lw_privs_4 ++ (lw_privs_5 ++ (lw_privs_6)))))
def lw_tbl : List Cond := k2_sels lw_privs ++ tables_1
theorem lw_privs_ok : ∀ q ∈ lw_privs, lw_okq q := by
  show ∀ q ∈ lw_privs_1 ++ (lw_privs_2 ++ (lw_privs_3 ++ (lw_privs_4 ++ (lw_privs_5 ++ (lw_privs_6))))), lw_okq q
  exact List.forall_mem_append.mpr ⟨lw_r1, List.forall_mem_append.mpr ⟨lw_r2, List.forall_mem_append.mpr ⟨lw_r3, List.forall_mem_append.mpr ⟨lw_r4, List.forall_mem_append.mpr ⟨lw_r5, lw_r6⟩⟩⟩⟩⟩

def RX0 : String := "NextBest$Greed"
def TX0 : u_T := fun k => match k with
  | 0 => ("NextBest$Greed", "grid", "LNextBest$Grid;", true)
  | 1 => ("NextBest$Greed", "jobOf", "[I", true)
  | 2 => ("NextBest$Greed", "workerOf", "[I", true)
  | 3 => ("NextBest$Greed", "total", "J", false)
  | 4 => ("NextBest$Greed", "placed", "I", false)
  | 5 => ("NextBest$Greed", "steps", "I", false)
  | 6 => ("NextBest$Greed", "bestGain", "J", false)
  | 7 => ("NextBest$Greed", "bestWorker", "I", false)
  | _ => ("NextBest$Greed", "bestJob", "I", false)
def tyX0 : Nat → FieldType := fun k => match k with
  | 0 => .object "NextBest$Grid"
  | 1 => .array .int
  | 2 => .array .int
  | 3 => .long
  | 4 => .int
  | 5 => .int
  | 6 => .long
  | 7 => .int
  | _ => .int
theorem nmX0 : ∀ a, a < 9 → ∀ b, b < 9 → a ≠ b → (TX0 a).2.1 ≠ (TX0 b).2.1 := by decide +kernel
theorem tyX0_ok : ∀ k, k < 9 → parseFieldDescriptor (TX0 k).2.2.1 = some (tyX0 k) := by decide +kernel
abbrev cX0_init : ByteArray := prog_2_method_1_code
def yX0_init : MethodName := ⟨RX0, "<init>", "(LNextBest$Grid;)V"⟩
abbrev cX0_take : ByteArray := prog_2_method_2_code
def yX0_take : MethodName := ⟨RX0, "take", "()V"⟩
abbrev cX0_takeLeast : ByteArray := prog_2_method_3_code
def yX0_takeLeast : MethodName := ⟨RX0, "takeLeast", "()Z"⟩
abbrev cX0_seat : ByteArray := prog_2_method_4_code
def yX0_seat : MethodName := ⟨RX0, "seat", "(II)V"⟩
abbrev cX0_mend : ByteArray := prog_2_method_5_code
def yX0_mend : MethodName := ⟨RX0, "mend", "()V"⟩
abbrev cX0_findStep : ByteArray := prog_2_method_6_code
def yX0_findStep : MethodName := ⟨RX0, "findStep", "()Z"⟩
abbrev cX0_goingGain : ByteArray := prog_2_method_7_code
def yX0_goingGain : MethodName := ⟨RX0, "goingGain", "(II)J"⟩
abbrev cX0_changingGain : ByteArray := prog_2_method_8_code
def yX0_changingGain : MethodName := ⟨RX0, "changingGain", "(II)J"⟩
abbrev cX0_weigh : ByteArray := prog_2_method_9_code
def yX0_weigh : MethodName := ⟨RX0, "weigh", "(IIJ)V"⟩
abbrev cX0_doStep : ByteArray := prog_2_method_10_code
def yX0_doStep : MethodName := ⟨RX0, "doStep", "()V"⟩
def RX1 : String := "NextBest$Grid"
def TX1 : u_T := fun k => match k with
  | 0 => ("NextBest$Grid", "costs", "[J", true)
  | 1 => ("NextBest$Grid", "workers", "I", false)
  | _ => ("NextBest$Grid", "jobs", "I", false)
def tyX1 : Nat → FieldType := fun k => match k with
  | 0 => .array .long
  | 1 => .int
  | _ => .int
theorem nmX1 : ∀ a, a < 3 → ∀ b, b < 3 → a ≠ b → (TX1 a).2.1 ≠ (TX1 b).2.1 := by decide +kernel
theorem tyX1_ok : ∀ k, k < 3 → parseFieldDescriptor (TX1 k).2.2.1 = some (tyX1 k) := by decide +kernel
abbrev cX1_init : ByteArray := prog_3_method_1_code
def yX1_init : MethodName := ⟨RX1, "<init>", "()V"⟩
abbrev cX1_clear : ByteArray := prog_3_method_2_code
def yX1_clear : MethodName := ⟨RX1, "clear", "()V"⟩
abbrev cX1_copy : ByteArray := prog_3_method_3_code
def yX1_copy : MethodName := ⟨RX1, "copy", "(LNextBest$Grid;)V"⟩
abbrev cX1_hasWorker : ByteArray := prog_3_method_4_code
def yX1_hasWorker : MethodName := ⟨RX1, "hasWorker", "(I)Z"⟩
abbrev cX1_hasJob : ByteArray := prog_3_method_5_code
def yX1_hasJob : MethodName := ⟨RX1, "hasJob", "(I)Z"⟩
abbrev cX1_has : ByteArray := prog_3_method_6_code
def yX1_has : MethodName := ⟨RX1, "has", "(II)Z"⟩
abbrev cX1_howMany : ByteArray := prog_3_method_7_code
def yX1_howMany : MethodName := ⟨RX1, "howMany", "(I)I"⟩
abbrev cX1_hasLine : ByteArray := prog_3_method_8_code
def yX1_hasLine : MethodName := ⟨RX1, "hasLine", "(II)Z"⟩
abbrev cX1_at : ByteArray := prog_3_method_9_code
def yX1_at : MethodName := ⟨RX1, "at", "(II)J"⟩
abbrev cX1_put : ByteArray := prog_3_method_10_code
def yX1_put : MethodName := ⟨RX1, "put", "(IIJ)V"⟩
abbrev cX1_across : ByteArray := prog_3_method_11_code
def yX1_across : MethodName := ⟨RX1, "across", "(I)I"⟩
abbrev cX1_inLine : ByteArray := prog_3_method_12_code
def yX1_inLine : MethodName := ⟨RX1, "inLine", "(III)J"⟩
abbrev cX1_barred : ByteArray := prog_3_method_13_code
def yX1_barred : MethodName := ⟨RX1, "barred", "()I"⟩
abbrev cX1_openIn : ByteArray := prog_3_method_14_code
def yX1_openIn : MethodName := ⟨RX1, "openIn", "(II)I"⟩
abbrev cX1_leastOf : ByteArray := prog_3_method_15_code
def yX1_leastOf : MethodName := ⟨RX1, "leastOf", "(II)J"⟩
abbrev cX1_bearsTilt : ByteArray := prog_3_method_16_code
def yX1_bearsTilt : MethodName := ⟨RX1, "bearsTilt", "(IJI)Z"⟩
abbrev cX1_tilt : ByteArray := prog_3_method_17_code
def yX1_tilt : MethodName := ⟨RX1, "tilt", "(IJI)V"⟩
abbrev cX1_addWorker : ByteArray := prog_3_method_18_code
def yX1_addWorker : MethodName := ⟨RX1, "addWorker", "(J)V"⟩
abbrev cX1_addJob : ByteArray := prog_3_method_19_code
def yX1_addJob : MethodName := ⟨RX1, "addJob", "(J)V"⟩
abbrev cX1_dropWorker : ByteArray := prog_3_method_20_code
def yX1_dropWorker : MethodName := ⟨RX1, "dropWorker", "(I)V"⟩
abbrev cX1_dropJob : ByteArray := prog_3_method_21_code
def yX1_dropJob : MethodName := ⟨RX1, "dropJob", "(I)V"⟩
abbrev cX1_barJob : ByteArray := prog_3_method_22_code
def yX1_barJob : MethodName := ⟨RX1, "barJob", "(I)V"⟩
abbrev cX1_sameCosts : ByteArray := prog_3_method_23_code
def yX1_sameCosts : MethodName := ⟨RX1, "sameCosts", "(II)Z"⟩
abbrev cX1_swap : ByteArray := prog_3_method_24_code
def yX1_swap : MethodName := ⟨RX1, "swap", "(II)V"⟩
abbrev cX1_jobsOpenTo : ByteArray := prog_3_method_25_code
def yX1_jobsOpenTo : MethodName := ⟨RX1, "jobsOpenTo", "(I)I"⟩
abbrev cX1_reducedAt : ByteArray := prog_3_method_26_code
def yX1_reducedAt : MethodName := ⟨RX1, "reducedAt", "(II)J"⟩
abbrev cX1_lessRow : ByteArray := prog_3_method_27_code
def yX1_lessRow : MethodName := ⟨RX1, "lessRow", "(II)J"⟩
abbrev cX1_sumOf : ByteArray := prog_3_method_28_code
def yX1_sumOf : MethodName := ⟨RX1, "sumOf", "([I)J"⟩
abbrev cX1_greatestOf : ByteArray := prog_3_method_29_code
def yX1_greatestOf : MethodName := ⟨RX1, "greatestOf", "([I)J"⟩
abbrev cX1_smallestOf : ByteArray := prog_3_method_30_code
def yX1_smallestOf : MethodName := ⟨RX1, "smallestOf", "([I)J"⟩
abbrev cX1_decode : ByteArray := prog_3_method_31_code
def yX1_decode : MethodName := ⟨RX1, "decode", "(I[I)Z"⟩
def RX2 : String := "NextBest$History"
def TX2 : u_T := fun k => match k with
  | 0 => ("NextBest$History", "kept", "[LNextBest$Grid;", true)
  | 1 => ("NextBest$History", "oldest", "I", false)
  | _ => ("NextBest$History", "size", "I", false)
def tyX2 : Nat → FieldType := fun k => match k with
  | 0 => .array (.object "NextBest$Grid")
  | 1 => .int
  | _ => .int
theorem nmX2 : ∀ a, a < 3 → ∀ b, b < 3 → a ≠ b → (TX2 a).2.1 ≠ (TX2 b).2.1 := by decide +kernel
theorem tyX2_ok : ∀ k, k < 3 → parseFieldDescriptor (TX2 k).2.2.1 = some (tyX2 k) := by decide +kernel
abbrev cX2_init : ByteArray := prog_4_method_1_code
def yX2_init : MethodName := ⟨RX2, "<init>", "()V"⟩
abbrev cX2_clear : ByteArray := prog_4_method_2_code
def yX2_clear : MethodName := ⟨RX2, "clear", "()V"⟩
abbrev cX2_keep : ByteArray := prog_4_method_3_code
def yX2_keep : MethodName := ⟨RX2, "keep", "(LNextBest$Grid;)V"⟩
abbrev cX2_restore : ByteArray := prog_4_method_4_code
def yX2_restore : MethodName := ⟨RX2, "restore", "(LNextBest$Grid;)Z"⟩
def RX3 : String := "NextBest$Moves"
def TX3 : u_T := fun k => match k with
  | 0 => ("NextBest$Moves", "grid", "LNextBest$Grid;", true)
  | 1 => ("NextBest$Moves", "jobOf", "[I", true)
  | 2 => ("NextBest$Moves", "taken", "I", false)
  | 3 => ("NextBest$Moves", "change", "J", false)
  | _ => ("NextBest$Moves", "movers", "I", false)
def tyX3 : Nat → FieldType := fun k => match k with
  | 0 => .object "NextBest$Grid"
  | 1 => .array .int
  | 2 => .int
  | 3 => .long
  | _ => .int
theorem nmX3 : ∀ a, a < 5 → ∀ b, b < 5 → a ≠ b → (TX3 a).2.1 ≠ (TX3 b).2.1 := by decide +kernel
theorem tyX3_ok : ∀ k, k < 5 → parseFieldDescriptor (TX3 k).2.2.1 = some (tyX3 k) := by decide +kernel
abbrev cX3_init : ByteArray := prog_5_method_1_code
def yX3_init : MethodName := ⟨RX3, "<init>", "(LNextBest$Grid;)V"⟩
abbrev cX3_search : ByteArray := prog_5_method_2_code
def yX3_search : MethodName := ⟨RX3, "search", "([I)Z"⟩
abbrev cX3_extend : ByteArray := prog_5_method_3_code
def yX3_extend : MethodName := ⟨RX3, "extend", "(LNextBest$Moves;IIIJ)V"⟩
abbrev cX3_shift : ByteArray := prog_5_method_4_code
def yX3_shift : MethodName := ⟨RX3, "shift", "(II)J"⟩
abbrev cX3_offer : ByteArray := prog_5_method_5_code
def yX3_offer : MethodName := ⟨RX3, "offer", "(IJJ)V"⟩
abbrev cX3_comesBefore : ByteArray := prog_5_method_6_code
def yX3_comesBefore : MethodName := ⟨RX3, "comesBefore", "(II)Z"⟩
def RX4 : String := "NextBest$Order"
def TX4 : u_T := fun k => match k with
  | 0 => ("NextBest$Order", "grid", "LNextBest$Grid;", true)
  | 1 => ("NextBest$Order", "ranks", "LNextBest$Ranks;", true)
  | 2 => ("NextBest$Order", "codes", "[I", true)
  | 3 => ("NextBest$Order", "sums", "[J", true)
  | 4 => ("NextBest$Order", "listed", "Z", false)
  | 5 => ("NextBest$Order", "size", "I", false)
  | 6 => ("NextBest$Order", "lastSum", "J", false)
  | 7 => ("NextBest$Order", "roomForLast", "I", false)
  | 8 => ("NextBest$Order", "parts", "[I", true)
  | 9 => ("NextBest$Order", "shift", "I", false)
  | 10 => ("NextBest$Order", "skip", "I", false)
  | 11 => ("NextBest$Order", "topPart", "I", false)
  | _ => ("NextBest$Order", "upToTop", "I", false)
def tyX4 : Nat → FieldType := fun k => match k with
  | 0 => .object "NextBest$Grid"
  | 1 => .object "NextBest$Ranks"
  | 2 => .array .int
  | 3 => .array .long
  | 4 => .boolean
  | 5 => .int
  | 6 => .long
  | 7 => .int
  | 8 => .array .int
  | 9 => .int
  | 10 => .int
  | 11 => .int
  | _ => .int
theorem nmX4 : ∀ a, a < 13 → ∀ b, b < 13 → a ≠ b → (TX4 a).2.1 ≠ (TX4 b).2.1 := by decide +kernel
theorem tyX4_ok : ∀ k, k < 13 → parseFieldDescriptor (TX4 k).2.2.1 = some (tyX4 k) := by decide +kernel
abbrev cX4_init : ByteArray := prog_6_method_1_code
def yX4_init : MethodName := ⟨RX4, "<init>", "(LNextBest$Grid;LNextBest$Ranks;)V"⟩
abbrev cX4_forget : ByteArray := prog_6_method_2_code
def yX4_forget : MethodName := ⟨RX4, "forget", "()V"⟩
abbrev cX4_sumOf : ByteArray := prog_6_method_3_code
def yX4_sumOf : MethodName := ⟨RX4, "sumOf", "(I)J"⟩
abbrev cX4_lay : ByteArray := prog_6_method_4_code
def yX4_lay : MethodName := ⟨RX4, "lay", "(I[I)Z"⟩
abbrev cX4_with : ByteArray := prog_6_method_5_code
def yX4_with : MethodName := ⟨RX4, "with", "(III)I"⟩
abbrev cX4_sumAt : ByteArray := prog_6_method_6_code
def yX4_sumAt : MethodName := ⟨RX4, "sumAt", "(I)J"⟩
abbrev cX4_partOfSkipped : ByteArray := prog_6_method_7_code
def yX4_partOfSkipped : MethodName := ⟨RX4, "partOfSkipped", "(J)I"⟩
abbrev cX4_spread : ByteArray := prog_6_method_8_code
def yX4_spread : MethodName := ⟨RX4, "spread", "(LNextBest$Order;IIJ)V"⟩
abbrev cX4_addToPart : ByteArray := prog_6_method_9_code
def yX4_addToPart : MethodName := ⟨RX4, "addToPart", "(II)V"⟩
abbrev cX4_list : ByteArray := prog_6_method_10_code
def yX4_list : MethodName := ⟨RX4, "list", "()V"⟩
abbrev cX4_collect : ByteArray := prog_6_method_11_code
def yX4_collect : MethodName := ⟨RX4, "collect", "(LNextBest$Order;IIJI)V"⟩
abbrev cX4_belongs : ByteArray := prog_6_method_12_code
def yX4_belongs : MethodName := ⟨RX4, "belongs", "(J)Z"⟩
abbrev cX4_add : ByteArray := prog_6_method_13_code
def yX4_add : MethodName := ⟨RX4, "add", "(IJ)V"⟩
def RX5 : String := "NextBest$Ranks"
def TX5 : u_T := fun k => match k with
  | 0 => ("NextBest$Ranks", "grid", "LNextBest$Grid;", true)
  | 1 => ("NextBest$Ranks", "many", "[I", true)
  | 2 => ("NextBest$Ranks", "low", "[J", true)
  | _ => ("NextBest$Ranks", "high", "[J", true)
def tyX5 : Nat → FieldType := fun k => match k with
  | 0 => .object "NextBest$Grid"
  | 1 => .array .int
  | 2 => .array .long
  | _ => .array .long
theorem nmX5 : ∀ a, a < 4 → ∀ b, b < 4 → a ≠ b → (TX5 a).2.1 ≠ (TX5 b).2.1 := by decide +kernel
theorem tyX5_ok : ∀ k, k < 4 → parseFieldDescriptor (TX5 k).2.2.1 = some (tyX5 k) := by decide +kernel
abbrev cX5_init : ByteArray := prog_7_method_1_code
def yX5_init : MethodName := ⟨RX5, "<init>", "(LNextBest$Grid;)V"⟩
abbrev cX5_refresh : ByteArray := prog_7_method_2_code
def yX5_refresh : MethodName := ⟨RX5, "refresh", "()V"⟩
abbrev cX5_settle : ByteArray := prog_7_method_3_code
def yX5_settle : MethodName := ⟨RX5, "settle", "(II)V"⟩
abbrev cX5_all : ByteArray := prog_7_method_4_code
def yX5_all : MethodName := ⟨RX5, "all", "()I"⟩
abbrev cX5_leastSum : ByteArray := prog_7_method_5_code
def yX5_leastSum : MethodName := ⟨RX5, "leastSum", "()J"⟩
abbrev cX5_upTo : ByteArray := prog_7_method_6_code
def yX5_upTo : MethodName := ⟨RX5, "upTo", "(J)I"⟩
abbrev cX5_alike : ByteArray := prog_7_method_7_code
def yX5_alike : MethodName := ⟨RX5, "alike", "(J)I"⟩
abbrev cX5_between : ByteArray := prog_7_method_8_code
def yX5_between : MethodName := ⟨RX5, "between", "(IIJJ)I"⟩
abbrev cX5_search : ByteArray := prog_7_method_9_code
def yX5_search : MethodName := ⟨RX5, "search", "(LNextBest$Ranks;IIJJ)I"⟩
abbrev cX5_before : ByteArray := prog_7_method_10_code
def yX5_before : MethodName := ⟨RX5, "before", "([I)I"⟩
abbrev cX5_findFirst : ByteArray := prog_7_method_11_code
def yX5_findFirst : MethodName := ⟨RX5, "findFirst", "([I)Z"⟩
abbrev cX5_leastGoingOn : ByteArray := prog_7_method_12_code
def yX5_leastGoingOn : MethodName := ⟨RX5, "leastGoingOn", "(II)I"⟩
def RX6 : String := "NextBest$Reader"
def TX6 : u_T := fun k => match k with
  | 0 => ("NextBest$Reader", "tape", "LNextBest$Tape;", true)
  | 1 => ("NextBest$Reader", "grid", "LNextBest$Grid;", true)
  | 2 => ("NextBest$Reader", "kind", "I", false)
  | 3 => ("NextBest$Reader", "from", "I", false)
  | 4 => ("NextBest$Reader", "next", "I", false)
  | 5 => ("NextBest$Reader", "value", "I", false)
  | 6 => ("NextBest$Reader", "found", "I", false)
  | _ => ("NextBest$Reader", "foundAt", "I", false)
def tyX6 : Nat → FieldType := fun k => match k with
  | 0 => .object "NextBest$Tape"
  | 1 => .object "NextBest$Grid"
  | 2 => .int
  | 3 => .int
  | 4 => .int
  | 5 => .int
  | 6 => .int
  | _ => .int
theorem nmX6 : ∀ a, a < 8 → ∀ b, b < 8 → a ≠ b → (TX6 a).2.1 ≠ (TX6 b).2.1 := by decide +kernel
theorem tyX6_ok : ∀ k, k < 8 → parseFieldDescriptor (TX6 k).2.2.1 = some (tyX6 k) := by decide +kernel
abbrev cX6_init : ByteArray := prog_8_method_1_code
def yX6_init : MethodName := ⟨RX6, "<init>", "(LNextBest$Tape;LNextBest$Grid;)V"⟩
abbrev cX6_read : ByteArray := prog_8_method_2_code
def yX6_read : MethodName := ⟨RX6, "read", "()Z"⟩
abbrev cX6_fail : ByteArray := prog_8_method_3_code
def yX6_fail : MethodName := ⟨RX6, "fail", "(I)Z"⟩
abbrev cX6_readJobs : ByteArray := prog_8_method_4_code
def yX6_readJobs : MethodName := ⟨RX6, "readJobs", "()Z"⟩
abbrev cX6_readWorker : ByteArray := prog_8_method_5_code
def yX6_readWorker : MethodName := ⟨RX6, "readWorker", "()Z"⟩
abbrev cX6_readCost : ByteArray := prog_8_method_6_code
def yX6_readCost : MethodName := ⟨RX6, "readCost", "(I)Z"⟩
abbrev cX6_step : ByteArray := prog_8_method_7_code
def yX6_step : MethodName := ⟨RX6, "step", "()V"⟩
abbrev cX6_stepOverNumber : ByteArray := prog_8_method_8_code
def yX6_stepOverNumber : MethodName := ⟨RX6, "stepOverNumber", "()V"⟩
abbrev cX6_stepOverWord : ByteArray := prog_8_method_9_code
def yX6_stepOverWord : MethodName := ⟨RX6, "stepOverWord", "()V"⟩
abbrev cX6_spells : ByteArray := prog_8_method_10_code
def yX6_spells : MethodName := ⟨RX6, "spells", "(Ljava/lang/String;)Z"⟩
abbrev cX6_kindOfSign : ByteArray := prog_8_method_11_code
def yX6_kindOfSign : MethodName := ⟨RX6, "kindOfSign", "(I)I"⟩
abbrev cX6_isBlank : ByteArray := prog_8_method_12_code
def yX6_isBlank : MethodName := ⟨RX6, "isBlank", "(I)Z"⟩
abbrev cX6_isDigit : ByteArray := prog_8_method_13_code
def yX6_isDigit : MethodName := ⟨RX6, "isDigit", "(I)Z"⟩
abbrev cX6_isLetter : ByteArray := prog_8_method_14_code
def yX6_isLetter : MethodName := ⟨RX6, "isLetter", "(I)Z"⟩
def RX7 : String := "NextBest$Rules"
def TX7 : u_T := fun k => match k with
  | 0 => ("NextBest$Rules", "grid", "LNextBest$Grid;", true)
  | 1 => ("NextBest$Rules", "draft", "LNextBest$Grid;", true)
  | 2 => ("NextBest$Rules", "supposed", "LNextBest$Ranks;", true)
  | 3 => ("NextBest$Rules", "tops", "[J", true)
  | 4 => ("NextBest$Rules", "chosen", "[I", true)
  | 5 => ("NextBest$Rules", "tried", "[I", true)
  | 6 => ("NextBest$Rules", "bestSpread", "J", false)
  | _ => ("NextBest$Rules", "bestSum", "J", false)
def tyX7 : Nat → FieldType := fun k => match k with
  | 0 => .object "NextBest$Grid"
  | 1 => .object "NextBest$Grid"
  | 2 => .object "NextBest$Ranks"
  | 3 => .array .long
  | 4 => .array .int
  | 5 => .array .int
  | 6 => .long
  | _ => .long
theorem nmX7 : ∀ a, a < 8 → ∀ b, b < 8 → a ≠ b → (TX7 a).2.1 ≠ (TX7 b).2.1 := by decide +kernel
theorem tyX7_ok : ∀ k, k < 8 → parseFieldDescriptor (TX7 k).2.2.1 = some (tyX7 k) := by decide +kernel
abbrev cX7_init : ByteArray := prog_9_method_1_code
def yX7_init : MethodName := ⟨RX7, "<init>", "(LNextBest$Grid;LNextBest$Grid;LNextBest$Ranks;)V"⟩
abbrev cX7_choose : ByteArray := prog_9_method_2_code
def yX7_choose : MethodName := ⟨RX7, "choose", "(II)Z"⟩
abbrev cX7_measure : ByteArray := prog_9_method_3_code
def yX7_measure : MethodName := ⟨RX7, "measure", "(II)J"⟩
abbrev cX7_howManyAbove : ByteArray := prog_9_method_4_code
def yX7_howManyAbove : MethodName := ⟨RX7, "howManyAbove", "(I)J"⟩
abbrev cX7_supposeWithin : ByteArray := prog_9_method_5_code
def yX7_supposeWithin : MethodName := ⟨RX7, "supposeWithin", "(JJ)V"⟩
abbrev cX7_supposeWeighted : ByteArray := prog_9_method_6_code
def yX7_supposeWeighted : MethodName := ⟨RX7, "supposeWeighted", "(I)V"⟩
abbrev cX7_chooseEven : ByteArray := prog_9_method_7_code
def yX7_chooseEven : MethodName := ⟨RX7, "chooseEven", "()Z"⟩
abbrev cX7_tryBottom : ByteArray := prog_9_method_8_code
def yX7_tryBottom : MethodName := ⟨RX7, "tryBottom", "(J)V"⟩
abbrev cX7_triedComesFirst : ByteArray := prog_9_method_9_code
def yX7_triedComesFirst : MethodName := ⟨RX7, "triedComesFirst", "()Z"⟩
abbrev cX7_lowestTop : ByteArray := prog_9_method_10_code
def yX7_lowestTop : MethodName := ⟨RX7, "lowestTop", "(J)J"⟩
def RX8 : String := "NextBest$Sale"
def TX8 : u_T := fun k => match k with
  | 0 => ("NextBest$Sale", "grid", "LNextBest$Grid;", true)
  | 1 => ("NextBest$Sale", "prices", "[J", true)
  | 2 => ("NextBest$Sale", "jobOf", "[I", true)
  | 3 => ("NextBest$Sale", "waiting", "[I", true)
  | 4 => ("NextBest$Sale", "waits", "I", false)
  | _ => ("NextBest$Sale", "bids", "I", false)
def tyX8 : Nat → FieldType := fun k => match k with
  | 0 => .object "NextBest$Grid"
  | 1 => .array .long
  | 2 => .array .int
  | 3 => .array .int
  | 4 => .int
  | _ => .int
theorem nmX8 : ∀ a, a < 6 → ∀ b, b < 6 → a ≠ b → (TX8 a).2.1 ≠ (TX8 b).2.1 := by decide +kernel
theorem tyX8_ok : ∀ k, k < 6 → parseFieldDescriptor (TX8 k).2.2.1 = some (tyX8 k) := by decide +kernel
abbrev cX8_init : ByteArray := prog_10_method_1_code
def yX8_init : MethodName := ⟨RX8, "<init>", "(LNextBest$Grid;)V"⟩
abbrev cX8_hold : ByteArray := prog_10_method_2_code
def yX8_hold : MethodName := ⟨RX8, "hold", "(I)V"⟩
abbrev cX8_open : ByteArray := prog_10_method_3_code
def yX8_open : MethodName := ⟨RX8, "open", "()V"⟩
abbrev cX8_bid : ByteArray := prog_10_method_4_code
def yX8_bid : MethodName := ⟨RX8, "bid", "(II)Z"⟩
abbrev cX8_net : ByteArray := prog_10_method_5_code
def yX8_net : MethodName := ⟨RX8, "net", "(II)J"⟩
abbrev cX8_leastNet : ByteArray := prog_10_method_6_code
def yX8_leastNet : MethodName := ⟨RX8, "leastNet", "(II)I"⟩
abbrev cX8_leaveQueue : ByteArray := prog_10_method_7_code
def yX8_leaveQueue : MethodName := ⟨RX8, "leaveQueue", "()V"⟩
abbrev cX8_ousted : ByteArray := prog_10_method_8_code
def yX8_ousted : MethodName := ⟨RX8, "ousted", "(I)V"⟩
abbrev cX8_total : ByteArray := prog_10_method_9_code
def yX8_total : MethodName := ⟨RX8, "total", "()J"⟩
def RX9 : String := "NextBest$Tape"
def TX9 : u_T := fun k => match k with
  | 0 => ("NextBest$Tape", "bytes", "[B", true)
  | _ => ("NextBest$Tape", "length", "I", false)
def tyX9 : Nat → FieldType := fun k => match k with
  | 0 => .array .byte
  | _ => .int
theorem nmX9 : ∀ a, a < 2 → ∀ b, b < 2 → a ≠ b → (TX9 a).2.1 ≠ (TX9 b).2.1 := by decide +kernel
theorem tyX9_ok : ∀ k, k < 2 → parseFieldDescriptor (TX9 k).2.2.1 = some (tyX9 k) := by decide +kernel
abbrev cX9_init : ByteArray := prog_11_method_1_code
def yX9_init : MethodName := ⟨RX9, "<init>", "()V"⟩
abbrev cX9_hasRoom : ByteArray := prog_11_method_2_code
def yX9_hasRoom : MethodName := ⟨RX9, "hasRoom", "(I)Z"⟩
abbrev cX9_addNumber : ByteArray := prog_11_method_3_code
def yX9_addNumber : MethodName := ⟨RX9, "addNumber", "(I)V"⟩
abbrev cX9_cut : ByteArray := prog_11_method_4_code
def yX9_cut : MethodName := ⟨RX9, "cut", "(I)Z"⟩
abbrev cX9_at : ByteArray := prog_11_method_5_code
def yX9_at : MethodName := ⟨RX9, "at", "(I)I"⟩
def RX10 : String := "NextBest$Ways"
def TX10 : u_T := fun k => match k with
  | 0 => ("NextBest$Ways", "rings", "I", false)
  | 1 => ("NextBest$Ways", "chains", "I", false)
  | 2 => ("NextBest$Ways", "longest", "I", false)
  | 3 => ("NextBest$Ways", "steps", "I", false)
  | _ => ("NextBest$Ways", "seen", "I", false)
def tyX10 : Nat → FieldType := fun k => match k with
  | 0 => .int
  | 1 => .int
  | 2 => .int
  | 3 => .int
  | _ => .int
theorem nmX10 : ∀ a, a < 5 → ∀ b, b < 5 → a ≠ b → (TX10 a).2.1 ≠ (TX10 b).2.1 := by decide +kernel
theorem tyX10_ok : ∀ k, k < 5 → parseFieldDescriptor (TX10 k).2.2.1 = some (tyX10 k) := by decide +kernel
abbrev cX10_init : ByteArray := prog_12_method_1_code
def yX10_init : MethodName := ⟨RX10, "<init>", "()V"⟩
abbrev cX10_trace : ByteArray := prog_12_method_2_code
def yX10_trace : MethodName := ⟨RX10, "trace", "([I[II)V"⟩
abbrev cX10_follow : ByteArray := prog_12_method_3_code
def yX10_follow : MethodName := ⟨RX10, "follow", "(I[I[II)I"⟩
abbrev cX10_holder : ByteArray := prog_12_method_4_code
def yX10_holder : MethodName := ⟨RX10, "holder", "([III)I"⟩
def RX11 : String := "NextBest"
def TX11 : u_T := fun k => match k with
  | 0 => ("NextBest", "tape", "LNextBest$Tape;", true)
  | 1 => ("NextBest", "grid", "LNextBest$Grid;", true)
  | 2 => ("NextBest", "ranks", "LNextBest$Ranks;", true)
  | 3 => ("NextBest", "order", "LNextBest$Order;", true)
  | 4 => ("NextBest", "draft", "LNextBest$Grid;", true)
  | 5 => ("NextBest", "supposed", "LNextBest$Ranks;", true)
  | 6 => ("NextBest", "reader", "LNextBest$Reader;", true)
  | 7 => ("NextBest", "history", "LNextBest$History;", true)
  | 8 => ("NextBest", "rules", "LNextBest$Rules;", true)
  | 9 => ("NextBest", "greed", "LNextBest$Greed;", true)
  | 10 => ("NextBest", "sale", "LNextBest$Sale;", true)
  | 11 => ("NextBest", "moves", "LNextBest$Moves;", true)
  | 12 => ("NextBest", "ways", "LNextBest$Ways;", true)
  | 13 => ("NextBest", "row", "[I", true)
  | _ => ("NextBest", "otherRow", "[I", true)
def tyX11 : Nat → FieldType := fun k => match k with
  | 0 => .object "NextBest$Tape"
  | 1 => .object "NextBest$Grid"
  | 2 => .object "NextBest$Ranks"
  | 3 => .object "NextBest$Order"
  | 4 => .object "NextBest$Grid"
  | 5 => .object "NextBest$Ranks"
  | 6 => .object "NextBest$Reader"
  | 7 => .object "NextBest$History"
  | 8 => .object "NextBest$Rules"
  | 9 => .object "NextBest$Greed"
  | 10 => .object "NextBest$Sale"
  | 11 => .object "NextBest$Moves"
  | 12 => .object "NextBest$Ways"
  | 13 => .array .int
  | _ => .array .int
theorem nmX11 : ∀ a, a < 15 → ∀ b, b < 15 → a ≠ b → (TX11 a).2.1 ≠ (TX11 b).2.1 := by decide +kernel
theorem tyX11_ok : ∀ k, k < 15 → parseFieldDescriptor (TX11 k).2.2.1 = some (tyX11 k) := by decide +kernel
abbrev cX11_init : ByteArray := prog_1_method_1_code
def yX11_init : MethodName := ⟨RX11, "<init>", "()V"⟩
abbrev cX11_feed : ByteArray := prog_1_method_2_code
def yX11_feed : MethodName := ⟨RX11, "feed", "(IIIII)I"⟩
abbrev cX11_end : ByteArray := prog_1_method_3_code
def yX11_end : MethodName := ⟨RX11, "end", "(I)I"⟩
abbrev cX11_table : ByteArray := prog_1_method_4_code
def yX11_table : MethodName := ⟨RX11, "table", "()I"⟩
abbrev cX11_fault : ByteArray := prog_1_method_5_code
def yX11_fault : MethodName := ⟨RX11, "fault", "(I)I"⟩
abbrev cX11_count : ByteArray := prog_1_method_6_code
def yX11_count : MethodName := ⟨RX11, "count", "(I)I"⟩
abbrev cX11_cost : ByteArray := prog_1_method_7_code
def yX11_cost : MethodName := ⟨RX11, "cost", "(II)J"⟩
abbrev cX11_sum : ByteArray := prog_1_method_8_code
def yX11_sum : MethodName := ⟨RX11, "sum", "(I)J"⟩
abbrev cX11_job : ByteArray := prog_1_method_9_code
def yX11_job : MethodName := ⟨RX11, "job", "(II)I"⟩
abbrev cX11_ties : ByteArray := prog_1_method_10_code
def yX11_ties : MethodName := ⟨RX11, "ties", "(I)I"⟩
abbrev cX11_under : ByteArray := prog_1_method_11_code
def yX11_under : MethodName := ⟨RX11, "under", "(J)I"⟩
abbrev cX11_place : ByteArray := prog_1_method_12_code
def yX11_place : MethodName := ⟨RX11, "place", "(I)I"⟩
abbrev cX11_drawn : ByteArray := prog_1_method_13_code
def yX11_drawn : MethodName := ⟨RX11, "drawn", "(J)I"⟩
abbrev cX11_middle : ByteArray := prog_1_method_14_code
def yX11_middle : MethodName := ⟨RX11, "middle", "()J"⟩
abbrev cX11_loss : ByteArray := prog_1_method_15_code
def yX11_loss : MethodName := ⟨RX11, "loss", "(I)J"⟩
abbrev cX11_dearest : ByteArray := prog_1_method_16_code
def yX11_dearest : MethodName := ⟨RX11, "dearest", "(I)J"⟩
abbrev cX11_apart : ByteArray := prog_1_method_17_code
def yX11_apart : MethodName := ⟨RX11, "apart", "(II)I"⟩
abbrev cX11_rounds : ByteArray := prog_1_method_18_code
def yX11_rounds : MethodName := ⟨RX11, "rounds", "(III)I"⟩
abbrev cX11_often : ByteArray := prog_1_method_19_code
def yX11_often : MethodName := ⟨RX11, "often", "(III)I"⟩
abbrev cX11_forced : ByteArray := prog_1_method_20_code
def yX11_forced : MethodName := ⟨RX11, "forced", "(II)J"⟩
abbrev cX11_without : ByteArray := prog_1_method_21_code
def yX11_without : MethodName := ⟨RX11, "without", "(II)J"⟩
abbrev cX11_stays : ByteArray := prog_1_method_22_code
def yX11_stays : MethodName := ⟨RX11, "stays", "(III)J"⟩
abbrev cX11_would : ByteArray := prog_1_method_23_code
def yX11_would : MethodName := ⟨RX11, "would", "(III)J"⟩
abbrev cX11_ever : ByteArray := prog_1_method_24_code
def yX11_ever : MethodName := ⟨RX11, "ever", "(I)I"⟩
abbrev cX11_only : ByteArray := prog_1_method_25_code
def yX11_only : MethodName := ⟨RX11, "only", "(I)J"⟩
abbrev cX11_blocked : ByteArray := prog_1_method_26_code
def yX11_blocked : MethodName := ⟨RX11, "blocked", "()I"⟩
abbrev cX11_price : ByteArray := prog_1_method_27_code
def yX11_price : MethodName := ⟨RX11, "price", "(I)J"⟩
abbrev cX11_pay : ByteArray := prog_1_method_28_code
def yX11_pay : MethodName := ⟨RX11, "pay", "(I)J"⟩
abbrev cX11_first : ByteArray := prog_1_method_29_code
def yX11_first : MethodName := ⟨RX11, "first", "(III)J"⟩
abbrev cX11_firstJob : ByteArray := prog_1_method_30_code
def yX11_firstJob : MethodName := ⟨RX11, "firstJob", "(III)I"⟩
abbrev cX11_greedy : ByteArray := prog_1_method_31_code
def yX11_greedy : MethodName := ⟨RX11, "greedy", "(I)J"⟩
abbrev cX11_greedyJob : ByteArray := prog_1_method_32_code
def yX11_greedyJob : MethodName := ⟨RX11, "greedyJob", "(I)I"⟩
abbrev cX11_mended : ByteArray := prog_1_method_33_code
def yX11_mended : MethodName := ⟨RX11, "mended", "(I)J"⟩
abbrev cX11_auction : ByteArray := prog_1_method_34_code
def yX11_auction : MethodName := ⟨RX11, "auction", "(II)J"⟩
abbrev cX11_auctionPrice : ByteArray := prog_1_method_35_code
def yX11_auctionPrice : MethodName := ⟨RX11, "auctionPrice", "(II)I"⟩
abbrev cX11_auctionJob : ByteArray := prog_1_method_36_code
def yX11_auctionJob : MethodName := ⟨RX11, "auctionJob", "(II)I"⟩
abbrev cX11_move : ByteArray := prog_1_method_37_code
def yX11_move : MethodName := ⟨RX11, "move", "(II)J"⟩
abbrev cX11_least : ByteArray := prog_1_method_38_code
def yX11_least : MethodName := ⟨RX11, "least", "(II)J"⟩
abbrev cX11_reduced : ByteArray := prog_1_method_39_code
def yX11_reduced : MethodName := ⟨RX11, "reduced", "(II)J"⟩
abbrev cX11_noughts : ByteArray := prog_1_method_40_code
def yX11_noughts : MethodName := ⟨RX11, "noughts", "()I"⟩
abbrev cX11_sets : ByteArray := prog_1_method_41_code
def yX11_sets : MethodName := ⟨RX11, "sets", "(III)I"⟩
abbrev cX11_bars : ByteArray := prog_1_method_42_code
def yX11_bars : MethodName := ⟨RX11, "bars", "(II)I"⟩
abbrev cX11_tilts : ByteArray := prog_1_method_43_code
def yX11_tilts : MethodName := ⟨RX11, "tilts", "(III)I"⟩
abbrev cX11_comes : ByteArray := prog_1_method_44_code
def yX11_comes : MethodName := ⟨RX11, "comes", "(II)I"⟩
abbrev cX11_goes : ByteArray := prog_1_method_45_code
def yX11_goes : MethodName := ⟨RX11, "goes", "(II)I"⟩
abbrev cX11_turn : ByteArray := prog_1_method_46_code
def yX11_turn : MethodName := ⟨RX11, "turn", "(II)I"⟩
abbrev cX11_undo : ByteArray := prog_1_method_47_code
def yX11_undo : MethodName := ⟨RX11, "undo", "()I"⟩
abbrev cX11_isRank : ByteArray := prog_1_method_48_code
def yX11_isRank : MethodName := ⟨RX11, "isRank", "(I)Z"⟩
abbrev cX11_isRule : ByteArray := prog_1_method_49_code
def yX11_isRule : MethodName := ⟨RX11, "isRule", "(I)Z"⟩
abbrev cX11_isStep : ByteArray := prog_1_method_50_code
def yX11_isStep : MethodName := ⟨RX11, "isStep", "(I)Z"⟩
abbrev cX11_isKind : ByteArray := prog_1_method_51_code
def yX11_isKind : MethodName := ⟨RX11, "isKind", "(I)Z"⟩
abbrev cX11_isCost : ByteArray := prog_1_method_52_code
def yX11_isCost : MethodName := ⟨RX11, "isCost", "(J)Z"⟩
abbrev cX11_difference : ByteArray := prog_1_method_53_code
def yX11_difference : MethodName := ⟨RX11, "difference", "(JJ)J"⟩
abbrev cX11_changed : ByteArray := prog_1_method_54_code
def yX11_changed : MethodName := ⟨RX11, "changed", "()V"⟩
abbrev cX11_supposeCost : ByteArray := prog_1_method_55_code
def yX11_supposeCost : MethodName := ⟨RX11, "supposeCost", "(IIJ)V"⟩
abbrev cX11_supposeForced : ByteArray := prog_1_method_56_code
def yX11_supposeForced : MethodName := ⟨RX11, "supposeForced", "(II)V"⟩
abbrev cX11_changeCost : ByteArray := prog_1_method_57_code
def yX11_changeCost : MethodName := ⟨RX11, "changeCost", "(IIJ)I"⟩
def RX12 : String := "NextBestModel"
def TX12 : u_T := fun k => match k with
  | 0 => ("NextBestModel", "table", "[I", true)
  | 1 => ("NextBestModel", "kept", "[I", true)
  | 2 => ("NextBestModel", "keptMany", "I", false)
  | 3 => ("NextBestModel", "tape", "[I", true)
  | 4 => ("NextBestModel", "taped", "I", false)
  | 5 => ("NextBestModel", "faultKind", "I", false)
  | 6 => ("NextBestModel", "faultPlace", "I", false)
  | 7 => ("NextBestModel", "made", "[I", true)
  | 8 => ("NextBestModel", "at", "I", false)
  | 9 => ("NextBestModel", "begin", "I", false)
  | 10 => ("NextBestModel", "token", "I", false)
  | 11 => ("NextBestModel", "value", "I", false)
  | 12 => ("NextBestModel", "bad", "Z", false)
  | 13 => ("NextBestModel", "row", "[I", true)
  | 14 => ("NextBestModel", "sums", "[I", true)
  | 15 => ("NextBestModel", "all", "I", false)
  | 16 => ("NextBestModel", "now", "[I", true)
  | 17 => ("NextBestModel", "first", "[I", true)
  | 18 => ("NextBestModel", "firstMany", "I", false)
  | 19 => ("NextBestModel", "has", "[I", true)
  | 20 => ("NextBestModel", "gain", "I", false)
  | 21 => ("NextBestModel", "goer", "I", false)
  | 22 => ("NextBestModel", "goal", "I", false)
  | 23 => ("NextBestModel", "isChange", "Z", false)
  | 24 => ("NextBestModel", "price", "[J", true)
  | 25 => ("NextBestModel", "queue", "[I", true)
  | 26 => ("NextBestModel", "bids", "I", false)
  | 27 => ("NextBestModel", "rings", "I", false)
  | 28 => ("NextBestModel", "chains", "I", false)
  | 29 => ("NextBestModel", "longest", "I", false)
  | 30 => ("NextBestModel", "moves", "I", false)
  | 31 => ("NextBestModel", "movers", "I", false)
  | _ => ("NextBestModel", "was", "[I", true)
def tyX12 : Nat → FieldType := fun k => match k with
  | 0 => .array .int
  | 1 => .array .int
  | 2 => .int
  | 3 => .array .int
  | 4 => .int
  | 5 => .int
  | 6 => .int
  | 7 => .array .int
  | 8 => .int
  | 9 => .int
  | 10 => .int
  | 11 => .int
  | 12 => .boolean
  | 13 => .array .int
  | 14 => .array .int
  | 15 => .int
  | 16 => .array .int
  | 17 => .array .int
  | 18 => .int
  | 19 => .array .int
  | 20 => .int
  | 21 => .int
  | 22 => .int
  | 23 => .boolean
  | 24 => .array .long
  | 25 => .array .int
  | 26 => .int
  | 27 => .int
  | 28 => .int
  | 29 => .int
  | 30 => .int
  | 31 => .int
  | _ => .array .int
theorem nmX12 : ∀ a, a < 33 → ∀ b, b < 33 → a ≠ b → (TX12 a).2.1 ≠ (TX12 b).2.1 := by decide +kernel
theorem tyX12_ok : ∀ k, k < 33 → parseFieldDescriptor (TX12 k).2.2.1 = some (tyX12 k) := by decide +kernel
abbrev cX12_in : ByteArray := prog_14_method_1_code
def yX12_in : MethodName := ⟨RX12, "in", "(JJJ)Z"⟩
abbrev cX12_has : ByteArray := prog_14_method_2_code
def yX12_has : MethodName := ⟨RX12, "has", "(II)Z"⟩
abbrev cX12_init : ByteArray := prog_14_method_3_code
def yX12_init : MethodName := ⟨RX12, "<init>", "()V"⟩
abbrev cX12_workers : ByteArray := prog_14_method_4_code
def yX12_workers : MethodName := ⟨RX12, "workers", "()I"⟩
abbrev cX12_jobs : ByteArray := prog_14_method_5_code
def yX12_jobs : MethodName := ⟨RX12, "jobs", "()I"⟩
abbrev cX12_placeOf : ByteArray := prog_14_method_6_code
def yX12_placeOf : MethodName := ⟨RX12, "placeOf", "(II)I"⟩
abbrev cX12_costOf : ByteArray := prog_14_method_7_code
def yX12_costOf : MethodName := ⟨RX12, "costOf", "(II)I"⟩
abbrev cX12_isWorker : ByteArray := prog_14_method_8_code
def yX12_isWorker : MethodName := ⟨RX12, "isWorker", "(I)Z"⟩
abbrev cX12_isJob : ByteArray := prog_14_method_9_code
def yX12_isJob : MethodName := ⟨RX12, "isJob", "(I)Z"⟩
abbrev cX12_isCost : ByteArray := prog_14_method_10_code
def yX12_isCost : MethodName := ⟨RX12, "isCost", "(J)Z"⟩
abbrev cX12_feed : ByteArray := prog_14_method_11_code
def yX12_feed : MethodName := ⟨RX12, "feed", "(IIIII)I"⟩
abbrev cX12_end : ByteArray := prog_14_method_12_code
def yX12_end : MethodName := ⟨RX12, "end", "(I)I"⟩
abbrev cX12_isAt : ByteArray := prog_14_method_13_code
def yX12_isAt : MethodName := ⟨RX12, "isAt", "(II)Z"⟩
abbrev cX12_next : ByteArray := prog_14_method_14_code
def yX12_next : MethodName := ⟨RX12, "next", "()V"⟩
abbrev cX12_faults : ByteArray := prog_14_method_15_code
def yX12_faults : MethodName := ⟨RX12, "faults", "(I)V"⟩
abbrev cX12_passes : ByteArray := prog_14_method_16_code
def yX12_passes : MethodName := ⟨RX12, "passes", "()V"⟩
abbrev cX12_isWord : ByteArray := prog_14_method_17_code
def yX12_isWord : MethodName := ⟨RX12, "isWord", "(Ljava/lang/String;)Z"⟩
abbrev cX12_number : ByteArray := prog_14_method_18_code
def yX12_number : MethodName := ⟨RX12, "number", "(II)I"⟩
abbrev cX12_readsCost : ByteArray := prog_14_method_19_code
def yX12_readsCost : MethodName := ⟨RX12, "readsCost", "(I)V"⟩
abbrev cX12_readsWorker : ByteArray := prog_14_method_20_code
def yX12_readsWorker : MethodName := ⟨RX12, "readsWorker", "()V"⟩
abbrev cX12_readsJobs : ByteArray := prog_14_method_21_code
def yX12_readsJobs : MethodName := ⟨RX12, "readsJobs", "()V"⟩
abbrev cX12_table : ByteArray := prog_14_method_22_code
def yX12_table : MethodName := ⟨RX12, "table", "()I"⟩
abbrev cX12_fault : ByteArray := prog_14_method_23_code
def yX12_fault : MethodName := ⟨RX12, "fault", "(I)I"⟩
abbrev cX12_digit : ByteArray := prog_14_method_24_code
def yX12_digit : MethodName := ⟨RX12, "digit", "(III)I"⟩
abbrev cX12_jobOf : ByteArray := prog_14_method_25_code
def yX12_jobOf : MethodName := ⟨RX12, "jobOf", "(II)I"⟩
abbrev cX12_goesThrough : ByteArray := prog_14_method_26_code
def yX12_goesThrough : MethodName := ⟨RX12, "goesThrough", "(II)V"⟩
abbrev cX12_canTake : ByteArray := prog_14_method_27_code
def yX12_canTake : MethodName := ⟨RX12, "canTake", "(IIII)Z"⟩
abbrev cX12_allJobs : ByteArray := prog_14_method_28_code
def yX12_allJobs : MethodName := ⟨RX12, "allJobs", "()I"⟩
abbrev cX12_goesAll : ByteArray := prog_14_method_29_code
def yX12_goesAll : MethodName := ⟨RX12, "goesAll", "()V"⟩
abbrev cX12_least : ByteArray := prog_14_method_30_code
def yX12_least : MethodName := ⟨RX12, "least", "()I"⟩
abbrev cX12_laysFirst : ByteArray := prog_14_method_31_code
def yX12_laysFirst : MethodName := ⟨RX12, "laysFirst", "()V"⟩
abbrev cX12_isRank : ByteArray := prog_14_method_32_code
def yX12_isRank : MethodName := ⟨RX12, "isRank", "(I)Z"⟩
abbrev cX12_isThere : ByteArray := prog_14_method_33_code
def yX12_isThere : MethodName := ⟨RX12, "isThere", "(I)Z"⟩
abbrev cX12_count : ByteArray := prog_14_method_34_code
def yX12_count : MethodName := ⟨RX12, "count", "(I)I"⟩
abbrev cX12_told : ByteArray := prog_14_method_35_code
def yX12_told : MethodName := ⟨RX12, "told", "(I)J"⟩
abbrev cX12_cost : ByteArray := prog_14_method_36_code
def yX12_cost : MethodName := ⟨RX12, "cost", "(II)J"⟩
abbrev cX12_sum : ByteArray := prog_14_method_37_code
def yX12_sum : MethodName := ⟨RX12, "sum", "(I)J"⟩
abbrev cX12_job : ByteArray := prog_14_method_38_code
def yX12_job : MethodName := ⟨RX12, "job", "(II)I"⟩
abbrev cX12_ties : ByteArray := prog_14_method_39_code
def yX12_ties : MethodName := ⟨RX12, "ties", "(I)I"⟩
abbrev cX12_under : ByteArray := prog_14_method_40_code
def yX12_under : MethodName := ⟨RX12, "under", "(J)I"⟩
abbrev cX12_place : ByteArray := prog_14_method_41_code
def yX12_place : MethodName := ⟨RX12, "place", "(I)I"⟩
abbrev cX12_leastBy : ByteArray := prog_14_method_42_code
def yX12_leastBy : MethodName := ⟨RX12, "leastBy", "(IIZ)J"⟩
abbrev cX12_forced : ByteArray := prog_14_method_43_code
def yX12_forced : MethodName := ⟨RX12, "forced", "(II)J"⟩
abbrev cX12_without : ByteArray := prog_14_method_44_code
def yX12_without : MethodName := ⟨RX12, "without", "(II)J"⟩
abbrev cX12_stays : ByteArray := prog_14_method_45_code
def yX12_stays : MethodName := ⟨RX12, "stays", "(III)J"⟩
abbrev cX12_would : ByteArray := prog_14_method_46_code
def yX12_would : MethodName := ⟨RX12, "would", "(III)J"⟩
abbrev cX12_ever : ByteArray := prog_14_method_47_code
def yX12_ever : MethodName := ⟨RX12, "ever", "(I)I"⟩
abbrev cX12_leastWith : ByteArray := prog_14_method_48_code
def yX12_leastWith : MethodName := ⟨RX12, "leastWith", "(II)J"⟩
abbrev cX12_price : ByteArray := prog_14_method_49_code
def yX12_price : MethodName := ⟨RX12, "price", "(I)J"⟩
abbrev cX12_pay : ByteArray := prog_14_method_50_code
def yX12_pay : MethodName := ⟨RX12, "pay", "(I)J"⟩
abbrev cX12_only : ByteArray := prog_14_method_51_code
def yX12_only : MethodName := ⟨RX12, "only", "(I)J"⟩
abbrev cX12_measureOf : ByteArray := prog_14_method_52_code
def yX12_measureOf : MethodName := ⟨RX12, "measureOf", "(III)J"⟩
abbrev cX12_firstBy : ByteArray := prog_14_method_53_code
def yX12_firstBy : MethodName := ⟨RX12, "firstBy", "(II)I"⟩
abbrev cX12_first : ByteArray := prog_14_method_54_code
def yX12_first : MethodName := ⟨RX12, "first", "(III)J"⟩
abbrev cX12_firstJob : ByteArray := prog_14_method_55_code
def yX12_firstJob : MethodName := ⟨RX12, "firstJob", "(III)I"⟩
abbrev cX12_isTaken : ByteArray := prog_14_method_56_code
def yX12_isTaken : MethodName := ⟨RX12, "isTaken", "(I)Z"⟩
abbrev cX12_laysGreedy : ByteArray := prog_14_method_57_code
def yX12_laysGreedy : MethodName := ⟨RX12, "laysGreedy", "()V"⟩
abbrev cX12_hasMany : ByteArray := prog_14_method_58_code
def yX12_hasMany : MethodName := ⟨RX12, "hasMany", "()I"⟩
abbrev cX12_hasSum : ByteArray := prog_14_method_59_code
def yX12_hasSum : MethodName := ⟨RX12, "hasSum", "()J"⟩
abbrev cX12_greedy : ByteArray := prog_14_method_60_code
def yX12_greedy : MethodName := ⟨RX12, "greedy", "(I)J"⟩
abbrev cX12_greedyJob : ByteArray := prog_14_method_61_code
def yX12_greedyJob : MethodName := ⟨RX12, "greedyJob", "(I)I"⟩
abbrev cX12_offers : ByteArray := prog_14_method_62_code
def yX12_offers : MethodName := ⟨RX12, "offers", "(IIIZ)V"⟩
abbrev cX12_mends : ByteArray := prog_14_method_63_code
def yX12_mends : MethodName := ⟨RX12, "mends", "()Z"⟩
abbrev cX12_mended : ByteArray := prog_14_method_64_code
def yX12_mended : MethodName := ⟨RX12, "mended", "(I)J"⟩
abbrev cX12_leastNet : ByteArray := prog_14_method_65_code
def yX12_leastNet : MethodName := ⟨RX12, "leastNet", "(II)I"⟩
abbrev cX12_laysAuction : ByteArray := prog_14_method_66_code
def yX12_laysAuction : MethodName := ⟨RX12, "laysAuction", "(I)V"⟩
abbrev cX12_auction : ByteArray := prog_14_method_67_code
def yX12_auction : MethodName := ⟨RX12, "auction", "(II)J"⟩
abbrev cX12_auctionPrice : ByteArray := prog_14_method_68_code
def yX12_auctionPrice : MethodName := ⟨RX12, "auctionPrice", "(II)I"⟩
abbrev cX12_auctionJob : ByteArray := prog_14_method_69_code
def yX12_auctionJob : MethodName := ⟨RX12, "auctionJob", "(II)I"⟩
abbrev cX12_drawn : ByteArray := prog_14_method_70_code
def yX12_drawn : MethodName := ⟨RX12, "drawn", "(J)I"⟩
abbrev cX12_leastOf : ByteArray := prog_14_method_71_code
def yX12_leastOf : MethodName := ⟨RX12, "leastOf", "(II)J"⟩
abbrev cX12_least_ : ByteArray := prog_14_method_72_code
def yX12_least_ : MethodName := ⟨RX12, "least", "(II)J"⟩
abbrev cX12_loss : ByteArray := prog_14_method_73_code
def yX12_loss : MethodName := ⟨RX12, "loss", "(I)J"⟩
abbrev cX12_dearest : ByteArray := prog_14_method_74_code
def yX12_dearest : MethodName := ⟨RX12, "dearest", "(I)J"⟩
abbrev cX12_apart : ByteArray := prog_14_method_75_code
def yX12_apart : MethodName := ⟨RX12, "apart", "(II)I"⟩
abbrev cX12_whoHad : ByteArray := prog_14_method_76_code
def yX12_whoHad : MethodName := ⟨RX12, "whoHad", "(II)I"⟩
abbrev cX12_laysRounds : ByteArray := prog_14_method_77_code
def yX12_laysRounds : MethodName := ⟨RX12, "laysRounds", "(II)V"⟩
abbrev cX12_rounds : ByteArray := prog_14_method_78_code
def yX12_rounds : MethodName := ⟨RX12, "rounds", "(III)I"⟩
abbrev cX12_move : ByteArray := prog_14_method_79_code
def yX12_move : MethodName := ⟨RX12, "move", "(II)J"⟩
abbrev cX12_manyUpTo : ByteArray := prog_14_method_80_code
def yX12_manyUpTo : MethodName := ⟨RX12, "manyUpTo", "(I)I"⟩
abbrev cX12_middle : ByteArray := prog_14_method_81_code
def yX12_middle : MethodName := ⟨RX12, "middle", "()J"⟩
abbrev cX12_often : ByteArray := prog_14_method_82_code
def yX12_often : MethodName := ⟨RX12, "often", "(III)I"⟩
abbrev cX12_bits : ByteArray := prog_14_method_83_code
def yX12_bits : MethodName := ⟨RX12, "bits", "(I)I"⟩
abbrev cX12_blocked : ByteArray := prog_14_method_84_code
def yX12_blocked : MethodName := ⟨RX12, "blocked", "()I"⟩
abbrev cX12_lessOf : ByteArray := prog_14_method_85_code
def yX12_lessOf : MethodName := ⟨RX12, "lessOf", "(II)I"⟩
abbrev cX12_reducedOf : ByteArray := prog_14_method_86_code
def yX12_reducedOf : MethodName := ⟨RX12, "reducedOf", "(II)J"⟩
abbrev cX12_reduced : ByteArray := prog_14_method_87_code
def yX12_reduced : MethodName := ⟨RX12, "reduced", "(II)J"⟩
abbrev cX12_noughts : ByteArray := prog_14_method_88_code
def yX12_noughts : MethodName := ⟨RX12, "noughts", "()I"⟩
abbrev cX12_remembers : ByteArray := prog_14_method_89_code
def yX12_remembers : MethodName := ⟨RX12, "remembers", "()V"⟩
abbrev cX12_keeps : ByteArray := prog_14_method_90_code
def yX12_keeps : MethodName := ⟨RX12, "keeps", "()Z"⟩
abbrev cX12_becomes : ByteArray := prog_14_method_91_code
def yX12_becomes : MethodName := ⟨RX12, "becomes", "(III)I"⟩
abbrev cX12_sets : ByteArray := prog_14_method_92_code
def yX12_sets : MethodName := ⟨RX12, "sets", "(III)I"⟩
abbrev cX12_bars : ByteArray := prog_14_method_93_code
def yX12_bars : MethodName := ⟨RX12, "bars", "(II)I"⟩
abbrev cX12_tilts : ByteArray := prog_14_method_94_code
def yX12_tilts : MethodName := ⟨RX12, "tilts", "(III)I"⟩
abbrev cX12_comes : ByteArray := prog_14_method_95_code
def yX12_comes : MethodName := ⟨RX12, "comes", "(II)I"⟩
abbrev cX12_goes : ByteArray := prog_14_method_96_code
def yX12_goes : MethodName := ⟨RX12, "goes", "(II)I"⟩
abbrev cX12_turn : ByteArray := prog_14_method_97_code
def yX12_turn : MethodName := ⟨RX12, "turn", "(II)I"⟩
abbrev cX12_undo : ByteArray := prog_14_method_98_code
def yX12_undo : MethodName := ⟨RX12, "undo", "()I"⟩
def RJ6 : String := "java/lang/Integer"
def TJ6 : u_T := fun k => match k with
  | _ => ("", "", "", false)
def tyJ6 : Nat → FieldType := fun k => match k with
  | _ => .int
theorem nmJ6 : ∀ a, a < 0 → ∀ b, b < 0 → a ≠ b → (TJ6 a).2.1 ≠ (TJ6 b).2.1 := by decide +kernel
theorem tyJ6_ok : ∀ k, k < 0 → parseFieldDescriptor (TJ6 k).2.2.1 = some (tyJ6 k) := by decide +kernel
abbrev cJ6_bitCount_0f7a4 : ByteArray := prog_15_method_49_code
def yJ6_bitCount_0f7a4 : MethodName := ⟨RJ6, "bitCount", "(I)I"⟩
def RJ9 : String := "java/lang/Math"
def TJ9 : u_T := fun k => match k with
  | _ => ("", "", "", false)
def tyJ9 : Nat → FieldType := fun k => match k with
  | _ => .int
theorem nmJ9 : ∀ a, a < 0 → ∀ b, b < 0 → a ≠ b → (TJ9 a).2.1 ≠ (TJ9 b).2.1 := by decide +kernel
theorem tyJ9_ok : ∀ k, k < 0 → parseFieldDescriptor (TJ9 k).2.2.1 = some (tyJ9 k) := by decide +kernel
abbrev cJ9_floorDiv_7cf53 : ByteArray := prog_16_method_47_code
def yJ9_floorDiv_7cf53 : MethodName := ⟨RJ9, "floorDiv", "(II)I"⟩
abbrev cJ9_max_7cf53 : ByteArray := prog_16_method_65_code
def yJ9_max_7cf53 : MethodName := ⟨RJ9, "max", "(II)I"⟩
abbrev cJ9_max_f86c9 : ByteArray := prog_16_method_66_code
def yJ9_max_f86c9 : MethodName := ⟨RJ9, "max", "(JJ)J"⟩
abbrev cJ9_min_7cf53 : ByteArray := prog_16_method_69_code
def yJ9_min_7cf53 : MethodName := ⟨RJ9, "min", "(II)I"⟩
abbrev cJ9_min_f86c9 : ByteArray := prog_16_method_70_code
def yJ9_min_f86c9 : MethodName := ⟨RJ9, "min", "(JJ)J"⟩
def RJ0 : String := "java/lang/String"
def TJ0 : u_T := fun k => match k with
  | _ => ("", "", "", false)
def tyJ0 : Nat → FieldType := fun k => match k with
  | _ => .int
theorem nmJ0 : ∀ a, a < 0 → ∀ b, b < 0 → a ≠ b → (TJ0 a).2.1 ≠ (TJ0 b).2.1 := by decide +kernel
theorem tyJ0_ok : ∀ k, k < 0 → parseFieldDescriptor (TJ0 k).2.2.1 = some (tyJ0 k) := by decide +kernel
abbrev cJ0_length_8abf5 : ByteArray := prog_17_method_54_code
def yJ0_length_8abf5 : MethodName := ⟨RJ0, "length", "()I"⟩
abbrev cJ0_charAt_5068e : ByteArray := prog_17_method_56_code
def yJ0_charAt_5068e : MethodName := ⟨RJ0, "charAt", "(I)C"⟩
abbrev cJ0_coder_7d493 : ByteArray := prog_17_method_152_code
def yJ0_coder_7d493 : MethodName := ⟨RJ0, "coder", "()B"⟩
abbrev cJ0_isLatin1_aae02 : ByteArray := prog_17_method_154_code
def yJ0_isLatin1_aae02 : MethodName := ⟨RJ0, "isLatin1", "()Z"⟩
abbrev cJ0_checkIndex_df160 : ByteArray := prog_17_method_155_code
def yJ0_checkIndex_df160 : MethodName := ⟨RJ0, "checkIndex", "(II)V"⟩
def RJ1 : String := "java/lang/StringLatin1"
def TJ1 : u_T := fun k => match k with
  | _ => ("", "", "", false)
def tyJ1 : Nat → FieldType := fun k => match k with
  | _ => .int
theorem nmJ1 : ∀ a, a < 0 → ∀ b, b < 0 → a ≠ b → (TJ1 a).2.1 ≠ (TJ1 b).2.1 := by decide +kernel
theorem tyJ1_ok : ∀ k, k < 0 → parseFieldDescriptor (TJ1 k).2.2.1 = some (tyJ1 k) := by decide +kernel
abbrev cJ1_charAt_3b067 : ByteArray := prog_18_method_2_code
def yJ1_charAt_3b067 : MethodName := ⟨RJ1, "charAt", "([BI)C"⟩
def RJ2 : String := "java/lang/StringUTF16"
def TJ2 : u_T := fun k => match k with
  | _ => ("", "", "", false)
def tyJ2 : Nat → FieldType := fun k => match k with
  | _ => .int
theorem nmJ2 : ∀ a, a < 0 → ∀ b, b < 0 → a ≠ b → (TJ2 a).2.1 ≠ (TJ2 b).2.1 := by decide +kernel
theorem tyJ2_ok : ∀ k, k < 0 → parseFieldDescriptor (TJ2 k).2.2.1 = some (tyJ2 k) := by decide +kernel
abbrev cJ2_getChar_3b067 : ByteArray := prog_19_method_5_code
def yJ2_getChar_3b067 : MethodName := ⟨RJ2, "getChar", "([BI)C"⟩
abbrev cJ2_length_9d52b : ByteArray := prog_19_method_6_code
def yJ2_length_9d52b : MethodName := ⟨RJ2, "length", "([B)I"⟩
abbrev cJ2_charAt_3b067 : ByteArray := prog_19_method_83_code
def yJ2_charAt_3b067 : MethodName := ⟨RJ2, "charAt", "([BI)C"⟩
abbrev cJ2_checkIndex_2214a : ByteArray := prog_19_method_91_code
def yJ2_checkIndex_2214a : MethodName := ⟨RJ2, "checkIndex", "(I[B)V"⟩
def RJ3 : String := "jdk/internal/util/Preconditions"
def TJ3 : u_T := fun k => match k with
  | _ => ("", "", "", false)
def tyJ3 : Nat → FieldType := fun k => match k with
  | _ => .int
theorem nmJ3 : ∀ a, a < 0 → ∀ b, b < 0 → a ≠ b → (TJ3 a).2.1 ≠ (TJ3 b).2.1 := by decide +kernel
theorem tyJ3_ok : ∀ k, k < 0 → parseFieldDescriptor (TJ3 k).2.2.1 = some (tyJ3 k) := by decide +kernel
abbrev cJ3_checkIndex_8e157 : ByteArray := prog_20_method_11_code
def yJ3_checkIndex_8e157 : MethodName := ⟨RJ3, "checkIndex", "(IILjava/util/function/BiFunction;)I"⟩
def RL : String := "NextBestLaw"
abbrev cL_law : ByteArray := code
def yL_law : MethodName := ⟨RL, "law", "([I)Z"⟩
abbrev vwCl : List vw_C := [(RX0, TX0, 9), (RX1, TX1, 3), (RX2, TX2, 3), (RX3, TX3, 5), (RX4, TX4, 13), (RX5, TX5, 4), (RX6, TX6, 8), (RX7, TX7, 8), (RX8, TX8, 6), (RX9, TX9, 2), (RX10, TX10, 5), (RX11, TX11, 15), (RX12, TX12, 33)]
