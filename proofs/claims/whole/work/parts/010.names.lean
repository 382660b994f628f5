-- ===== PART A: goes FIRST, ahead of the names: the tables' words, and 'selects' of the private methods out of them =====
/-- a private method of a class that the tables say can be made, by its rows of tables_1 -/
def lw_okq (q : MethodName × Nat) : Prop := (q.1.cls ≠ "java/lang/invoke/MethodHandle" ∧ q.1.cls ≠ "java/lang/invoke/VarHandle") ∧ Cond.instantiable q.1.cls q.2 ∈ tables_1 ∧ Cond.privateMethod q.1 ∈ tables_1 ∧ Cond.instanceMethod q.1 ∈ tables_1
theorem lw_p0 : lw_okq (⟨"SummerHouses", "putWord", "(I)V"⟩, 17) := ⟨⟨by decide +kernel, by decide +kernel⟩, List.mem_of_getElem? (i := 23) (by decide +kernel), List.mem_of_getElem? (i := 434) (by decide +kernel), List.mem_of_getElem? (i := 435) (by decide +kernel)⟩
theorem lw_p1 : lw_okq (⟨"SummerHouses$Tokens", "putToken", "([BII)V"⟩, 5) := ⟨⟨by decide +kernel, by decide +kernel⟩, List.mem_of_getElem? (i := 37) (by decide +kernel), List.mem_of_getElem? (i := 469) (by decide +kernel), List.mem_of_getElem? (i := 470) (by decide +kernel)⟩
theorem lw_p2 : lw_okq (⟨"SummerHouses$Tokens", "kindOfName", "(J)I"⟩, 5) := ⟨⟨by decide +kernel, by decide +kernel⟩, List.mem_of_getElem? (i := 37) (by decide +kernel), List.mem_of_getElem? (i := 476) (by decide +kernel), List.mem_of_getElem? (i := 477) (by decide +kernel)⟩
theorem lw_p3 : lw_okq (⟨"SummerHouses$Reader", "tellOne", "()Z"⟩, 6) := ⟨⟨by decide +kernel, by decide +kernel⟩, List.mem_of_getElem? (i := 31) (by decide +kernel), List.mem_of_getElem? (i := 545) (by decide +kernel), List.mem_of_getElem? (i := 546) (by decide +kernel)⟩
theorem lw_p4 : lw_okq (⟨"SummerHouses$Reader", "tellHouse", "()Z"⟩, 6) := ⟨⟨by decide +kernel, by decide +kernel⟩, List.mem_of_getElem? (i := 31) (by decide +kernel), List.mem_of_getElem? (i := 549) (by decide +kernel), List.mem_of_getElem? (i := 550) (by decide +kernel)⟩
theorem lw_p5 : lw_okq (⟨"SummerHouses$Reader", "refuse", "(I)Z"⟩, 6) := ⟨⟨by decide +kernel, by decide +kernel⟩, List.mem_of_getElem? (i := 31) (by decide +kernel), List.mem_of_getElem? (i := 553) (by decide +kernel), List.mem_of_getElem? (i := 554) (by decide +kernel)⟩
theorem lw_p6 : lw_okq (⟨"SummerHouses$Reader", "take", "(I)Z"⟩, 6) := ⟨⟨by decide +kernel, by decide +kernel⟩, List.mem_of_getElem? (i := 31) (by decide +kernel), List.mem_of_getElem? (i := 557) (by decide +kernel), List.mem_of_getElem? (i := 558) (by decide +kernel)⟩
theorem lw_p7 : lw_okq (⟨"SummerHouses$Reader", "isToldAlready", "(J)Z"⟩, 6) := ⟨⟨by decide +kernel, by decide +kernel⟩, List.mem_of_getElem? (i := 31) (by decide +kernel), List.mem_of_getElem? (i := 561) (by decide +kernel), List.mem_of_getElem? (i := 562) (by decide +kernel)⟩
theorem lw_p8 : lw_okq (⟨"SummerHouses$Reader", "note", "(I)V"⟩, 6) := ⟨⟨by decide +kernel, by decide +kernel⟩, List.mem_of_getElem? (i := 31) (by decide +kernel), List.mem_of_getElem? (i := 565) (by decide +kernel), List.mem_of_getElem? (i := 566) (by decide +kernel)⟩
theorem lw_p9 : lw_okq (⟨"SummerHouses$Reader", "numberHere", "(I)I"⟩, 6) := ⟨⟨by decide +kernel, by decide +kernel⟩, List.mem_of_getElem? (i := 31) (by decide +kernel), List.mem_of_getElem? (i := 569) (by decide +kernel), List.mem_of_getElem? (i := 570) (by decide +kernel)⟩
theorem lw_p10 : lw_okq (⟨"SummerHouses$Reader", "tellLaw", "(I)Z"⟩, 6) := ⟨⟨by decide +kernel, by decide +kernel⟩, List.mem_of_getElem? (i := 31) (by decide +kernel), List.mem_of_getElem? (i := 581) (by decide +kernel), List.mem_of_getElem? (i := 582) (by decide +kernel)⟩
theorem lw_p11 : lw_okq (⟨"SummerHouses$Reader", "sum", "(I)Z"⟩, 6) := ⟨⟨by decide +kernel, by decide +kernel⟩, List.mem_of_getElem? (i := 31) (by decide +kernel), List.mem_of_getElem? (i := 586) (by decide +kernel), List.mem_of_getElem? (i := 587) (by decide +kernel)⟩
theorem lw_p12 : lw_okq (⟨"SummerHouses$Reader", "product", "(I)Z"⟩, 6) := ⟨⟨by decide +kernel, by decide +kernel⟩, List.mem_of_getElem? (i := 31) (by decide +kernel), List.mem_of_getElem? (i := 590) (by decide +kernel), List.mem_of_getElem? (i := 591) (by decide +kernel)⟩
theorem lw_p13 : lw_okq (⟨"SummerHouses$Reader", "unit", "(I)Z"⟩, 6) := ⟨⟨by decide +kernel, by decide +kernel⟩, List.mem_of_getElem? (i := 31) (by decide +kernel), List.mem_of_getElem? (i := 594) (by decide +kernel), List.mem_of_getElem? (i := 595) (by decide +kernel)⟩
theorem lw_p14 : lw_okq (⟨"SummerHouses$Reader", "tellNumber", "(I)Z"⟩, 6) := ⟨⟨by decide +kernel, by decide +kernel⟩, List.mem_of_getElem? (i := 31) (by decide +kernel), List.mem_of_getElem? (i := 603) (by decide +kernel), List.mem_of_getElem? (i := 604) (by decide +kernel)⟩
theorem lw_p15 : lw_okq (⟨"SummerHouses", "isHouse", "(I)Z"⟩, 17) := ⟨⟨by decide +kernel, by decide +kernel⟩, List.mem_of_getElem? (i := 23) (by decide +kernel), List.mem_of_getElem? (i := 643) (by decide +kernel), List.mem_of_getElem? (i := 644) (by decide +kernel)⟩
def lw_privs_1 : List (MethodName × Nat) := [(⟨"SummerHouses", "putWord", "(I)V"⟩, 17), (⟨"SummerHouses$Tokens", "putToken", "([BII)V"⟩, 5), (⟨"SummerHouses$Tokens", "kindOfName", "(J)I"⟩, 5), (⟨"SummerHouses$Reader", "tellOne", "()Z"⟩, 6), (⟨"SummerHouses$Reader", "tellHouse", "()Z"⟩, 6), (⟨"SummerHouses$Reader", "refuse", "(I)Z"⟩, 6), (⟨"SummerHouses$Reader", "take", "(I)Z"⟩, 6), (⟨"SummerHouses$Reader", "isToldAlready", "(J)Z"⟩, 6), (⟨"SummerHouses$Reader", "note", "(I)V"⟩, 6), (⟨"SummerHouses$Reader", "numberHere", "(I)I"⟩, 6), (⟨"SummerHouses$Reader", "tellLaw", "(I)Z"⟩, 6), (⟨"SummerHouses$Reader", "sum", "(I)Z"⟩, 6), (⟨"SummerHouses$Reader", "product", "(I)Z"⟩, 6), (⟨"SummerHouses$Reader", "unit", "(I)Z"⟩, 6), (⟨"SummerHouses$Reader", "tellNumber", "(I)Z"⟩, 6), (⟨"SummerHouses", "isHouse", "(I)Z"⟩, 17)]
theorem lw_r1 : ∀ q ∈ lw_privs_1, lw_okq q := List.forall_mem_cons.mpr ⟨lw_p0, List.forall_mem_cons.mpr ⟨lw_p1, List.forall_mem_cons.mpr ⟨lw_p2, List.forall_mem_cons.mpr ⟨lw_p3, List.forall_mem_cons.mpr ⟨lw_p4, List.forall_mem_cons.mpr ⟨lw_p5, List.forall_mem_cons.mpr ⟨lw_p6, List.forall_mem_cons.mpr ⟨lw_p7, List.forall_mem_cons.mpr ⟨lw_p8, List.forall_mem_cons.mpr ⟨lw_p9, List.forall_mem_cons.mpr ⟨lw_p10, List.forall_mem_cons.mpr ⟨lw_p11, List.forall_mem_cons.mpr ⟨lw_p12, List.forall_mem_cons.mpr ⟨lw_p13, List.forall_mem_cons.mpr ⟨lw_p14, List.forall_mem_cons.mpr ⟨lw_p15, fun _ h => absurd h List.not_mem_nil⟩⟩⟩⟩⟩⟩⟩⟩⟩⟩⟩⟩⟩⟩⟩⟩
theorem lw_p16 : lw_okq (⟨"SummerHouses", "lossOfAll", "()I"⟩, 17) := ⟨⟨by decide +kernel, by decide +kernel⟩, List.mem_of_getElem? (i := 23) (by decide +kernel), List.mem_of_getElem? (i := 715) (by decide +kernel), List.mem_of_getElem? (i := 716) (by decide +kernel)⟩
theorem lw_p17 : lw_okq (⟨"SummerHouses", "lossWith", "(II)I"⟩, 17) := ⟨⟨by decide +kernel, by decide +kernel⟩, List.mem_of_getElem? (i := 23) (by decide +kernel), List.mem_of_getElem? (i := 819) (by decide +kernel), List.mem_of_getElem? (i := 820) (by decide +kernel)⟩
theorem lw_p18 : lw_okq (⟨"SummerHouses$Shares", "fewestBest", "(II)I"⟩, 6) := ⟨⟨by decide +kernel, by decide +kernel⟩, List.mem_of_getElem? (i := 279) (by decide +kernel), List.mem_of_getElem? (i := 836) (by decide +kernel), List.mem_of_getElem? (i := 837) (by decide +kernel)⟩
theorem lw_p19 : lw_okq (⟨"SummerHouses", "coalsNeeded", "(LSummerHouses$State;I)I"⟩, 17) := ⟨⟨by decide +kernel, by decide +kernel⟩, List.mem_of_getElem? (i := 23) (by decide +kernel), List.mem_of_getElem? (i := 856) (by decide +kernel), List.mem_of_getElem? (i := 857) (by decide +kernel)⟩
theorem lw_p20 : lw_okq (⟨"SummerHouses", "keptByPlan", "(II)I"⟩, 17) := ⟨⟨by decide +kernel, by decide +kernel⟩, List.mem_of_getElem? (i := 23) (by decide +kernel), List.mem_of_getElem? (i := 869) (by decide +kernel), List.mem_of_getElem? (i := 870) (by decide +kernel)⟩
theorem lw_p21 : lw_okq (⟨"SummerHouses", "daysTillNothing", "(II)I"⟩, 17) := ⟨⟨by decide +kernel, by decide +kernel⟩, List.mem_of_getElem? (i := 23) (by decide +kernel), List.mem_of_getElem? (i := 886) (by decide +kernel), List.mem_of_getElem? (i := 887) (by decide +kernel)⟩
theorem lw_p22 : lw_okq (⟨"SummerHouses", "savedByOne", "(I)I"⟩, 17) := ⟨⟨by decide +kernel, by decide +kernel⟩, List.mem_of_getElem? (i := 23) (by decide +kernel), List.mem_of_getElem? (i := 899) (by decide +kernel), List.mem_of_getElem? (i := 900) (by decide +kernel)⟩
theorem lw_p23 : lw_okq (⟨"SummerHouses", "lookAhead", "(III)V"⟩, 17) := ⟨⟨by decide +kernel, by decide +kernel⟩, List.mem_of_getElem? (i := 23) (by decide +kernel), List.mem_of_getElem? (i := 917) (by decide +kernel), List.mem_of_getElem? (i := 918) (by decide +kernel)⟩
theorem lw_p24 : lw_okq (⟨"SummerHouses$Way", "goOn", "(LSummerHouses$Quarter;III)V"⟩, 3) := ⟨⟨by decide +kernel, by decide +kernel⟩, List.mem_of_getElem? (i := 308) (by decide +kernel), List.mem_of_getElem? (i := 949) (by decide +kernel), List.mem_of_getElem? (i := 950) (by decide +kernel)⟩
theorem lw_p25 : lw_okq (⟨"SummerHouses", "nearestToJoined", "(I)I"⟩, 17) := ⟨⟨by decide +kernel, by decide +kernel⟩, List.mem_of_getElem? (i := 23) (by decide +kernel), List.mem_of_getElem? (i := 963) (by decide +kernel), List.mem_of_getElem? (i := 964) (by decide +kernel)⟩
theorem lw_p26 : lw_okq (⟨"SummerHouses", "distanceToJoined", "(II)I"⟩, 17) := ⟨⟨by decide +kernel, by decide +kernel⟩, List.mem_of_getElem? (i := 23) (by decide +kernel), List.mem_of_getElem? (i := 968) (by decide +kernel), List.mem_of_getElem? (i := 969) (by decide +kernel)⟩
theorem lw_p27 : lw_okq (⟨"SummerHouses$Roofs", "coverFrom", "(LSummerHouses$State;LSummerHouses$Quarter;III)Z"⟩, 2) := ⟨⟨by decide +kernel, by decide +kernel⟩, List.mem_of_getElem? (i := 326) (by decide +kernel), List.mem_of_getElem? (i := 994) (by decide +kernel), List.mem_of_getElem? (i := 995) (by decide +kernel)⟩
theorem lw_p28 : lw_okq (⟨"SummerHouses$Pairs", "pairFrom", "(LSummerHouses$State;IIII)V"⟩, 3) := ⟨⟨by decide +kernel, by decide +kernel⟩, List.mem_of_getElem? (i := 340) (by decide +kernel), List.mem_of_getElem? (i := 1008) (by decide +kernel), List.mem_of_getElem? (i := 1009) (by decide +kernel)⟩
theorem lw_p29 : lw_okq (⟨"SummerHousesModel", "plain", "(I)V"⟩, 69) := ⟨⟨by decide +kernel, by decide +kernel⟩, List.mem_of_getElem? (i := 1063) (by decide +kernel), List.mem_of_getElem? (i := 1069) (by decide +kernel), List.mem_of_getElem? (i := 1070) (by decide +kernel)⟩
theorem lw_p30 : lw_okq (⟨"SummerHousesModel", "begins", "()V"⟩, 69) := ⟨⟨by decide +kernel, by decide +kernel⟩, List.mem_of_getElem? (i := 1063) (by decide +kernel), List.mem_of_getElem? (i := 1080) (by decide +kernel), List.mem_of_getElem? (i := 1081) (by decide +kernel)⟩
theorem lw_p31 : lw_okq (⟨"SummerHousesModel", "many", "()I"⟩, 69) := ⟨⟨by decide +kernel, by decide +kernel⟩, List.mem_of_getElem? (i := 1063) (by decide +kernel), List.mem_of_getElem? (i := 1084) (by decide +kernel), List.mem_of_getElem? (i := 1085) (by decide +kernel)⟩
def lw_privs_2 : List (MethodName × Nat) := [(⟨"SummerHouses", "lossOfAll", "()I"⟩, 17), (⟨"SummerHouses", "lossWith", "(II)I"⟩, 17), (⟨"SummerHouses$Shares", "fewestBest", "(II)I"⟩, 6), (⟨"SummerHouses", "coalsNeeded", "(LSummerHouses$State;I)I"⟩, 17), (⟨"SummerHouses", "keptByPlan", "(II)I"⟩, 17), (⟨"SummerHouses", "daysTillNothing", "(II)I"⟩, 17), (⟨"SummerHouses", "savedByOne", "(I)I"⟩, 17), (⟨"SummerHouses", "lookAhead", "(III)V"⟩, 17), (⟨"SummerHouses$Way", "goOn", "(LSummerHouses$Quarter;III)V"⟩, 3), (⟨"SummerHouses", "nearestToJoined", "(I)I"⟩, 17), (⟨"SummerHouses", "distanceToJoined", "(II)I"⟩, 17), (⟨"SummerHouses$Roofs", "coverFrom", "(LSummerHouses$State;LSummerHouses$Quarter;III)Z"⟩, 2), (⟨"SummerHouses$Pairs", "pairFrom", "(LSummerHouses$State;IIII)V"⟩, 3), (⟨"SummerHousesModel", "plain", "(I)V"⟩, 69), (⟨"SummerHousesModel", "begins", "()V"⟩, 69), (⟨"SummerHousesModel", "many", "()I"⟩, 69)]
theorem lw_r2 : ∀ q ∈ lw_privs_2, lw_okq q := List.forall_mem_cons.mpr ⟨lw_p16, List.forall_mem_cons.mpr ⟨lw_p17, List.forall_mem_cons.mpr ⟨lw_p18, List.forall_mem_cons.mpr ⟨lw_p19, List.forall_mem_cons.mpr ⟨lw_p20, List.forall_mem_cons.mpr ⟨lw_p21, List.forall_mem_cons.mpr ⟨lw_p22, List.forall_mem_cons.mpr ⟨lw_p23, List.forall_mem_cons.mpr ⟨lw_p24, List.forall_mem_cons.mpr ⟨lw_p25, List.forall_mem_cons.mpr ⟨lw_p26, List.forall_mem_cons.mpr ⟨lw_p27, List.forall_mem_cons.mpr ⟨lw_p28, List.forall_mem_cons.mpr ⟨lw_p29, List.forall_mem_cons.mpr ⟨lw_p30, List.forall_mem_cons.mpr ⟨lw_p31, fun _ h => absurd h List.not_mem_nil⟩⟩⟩⟩⟩⟩⟩⟩⟩⟩⟩⟩⟩⟩⟩⟩
theorem lw_p32 : lw_okq (⟨"SummerHousesModel", "keepsRow", "()V"⟩, 69) := ⟨⟨by decide +kernel, by decide +kernel⟩, List.mem_of_getElem? (i := 1063) (by decide +kernel), List.mem_of_getElem? (i := 1088) (by decide +kernel), List.mem_of_getElem? (i := 1089) (by decide +kernel)⟩
theorem lw_p33 : lw_okq (⟨"SummerHousesModel", "put", "(I)V"⟩, 69) := ⟨⟨by decide +kernel, by decide +kernel⟩, List.mem_of_getElem? (i := 1063) (by decide +kernel), List.mem_of_getElem? (i := 1303) (by decide +kernel), List.mem_of_getElem? (i := 1304) (by decide +kernel)⟩
theorem lw_p34 : lw_okq (⟨"SummerHousesModel", "cutsUp", "()V"⟩, 69) := ⟨⟨by decide +kernel, by decide +kernel⟩, List.mem_of_getElem? (i := 1063) (by decide +kernel), List.mem_of_getElem? (i := 1315) (by decide +kernel), List.mem_of_getElem? (i := 1316) (by decide +kernel)⟩
theorem lw_p35 : lw_okq (⟨"SummerHousesModel", "byteAt", "(I)I"⟩, 69) := ⟨⟨by decide +kernel, by decide +kernel⟩, List.mem_of_getElem? (i := 1063) (by decide +kernel), List.mem_of_getElem? (i := 1319) (by decide +kernel), List.mem_of_getElem? (i := 1320) (by decide +kernel)⟩
theorem lw_p36 : lw_okq (⟨"SummerHousesModel", "token", "(IIIJ)V"⟩, 69) := ⟨⟨by decide +kernel, by decide +kernel⟩, List.mem_of_getElem? (i := 1063) (by decide +kernel), List.mem_of_getElem? (i := 1323) (by decide +kernel), List.mem_of_getElem? (i := 1324) (by decide +kernel)⟩
theorem lw_p37 : lw_okq (⟨"SummerHousesModel", "sign", "(III)I"⟩, 69) := ⟨⟨by decide +kernel, by decide +kernel⟩, List.mem_of_getElem? (i := 1063) (by decide +kernel), List.mem_of_getElem? (i := 1333) (by decide +kernel), List.mem_of_getElem? (i := 1334) (by decide +kernel)⟩
theorem lw_p38 : lw_okq (⟨"SummerHousesModel", "is", "(I)Z"⟩, 69) := ⟨⟨by decide +kernel, by decide +kernel⟩, List.mem_of_getElem? (i := 1063) (by decide +kernel), List.mem_of_getElem? (i := 1337) (by decide +kernel), List.mem_of_getElem? (i := 1338) (by decide +kernel)⟩
theorem lw_p39 : lw_okq (⟨"SummerHousesModel", "tellOne", "()V"⟩, 69) := ⟨⟨by decide +kernel, by decide +kernel⟩, List.mem_of_getElem? (i := 1063) (by decide +kernel), List.mem_of_getElem? (i := 1341) (by decide +kernel), List.mem_of_getElem? (i := 1342) (by decide +kernel)⟩
theorem lw_p40 : lw_okq (⟨"SummerHousesModel", "fail", "(I)V"⟩, 69) := ⟨⟨by decide +kernel, by decide +kernel⟩, List.mem_of_getElem? (i := 1063) (by decide +kernel), List.mem_of_getElem? (i := 1345) (by decide +kernel), List.mem_of_getElem? (i := 1346) (by decide +kernel)⟩
theorem lw_p41 : lw_okq (⟨"SummerHousesModel", "tellHouse", "()V"⟩, 69) := ⟨⟨by decide +kernel, by decide +kernel⟩, List.mem_of_getElem? (i := 1063) (by decide +kernel), List.mem_of_getElem? (i := 1349) (by decide +kernel), List.mem_of_getElem? (i := 1350) (by decide +kernel)⟩
theorem lw_p42 : lw_okq (⟨"SummerHousesModel", "goesOn", "()V"⟩, 69) := ⟨⟨by decide +kernel, by decide +kernel⟩, List.mem_of_getElem? (i := 1063) (by decide +kernel), List.mem_of_getElem? (i := 1353) (by decide +kernel), List.mem_of_getElem? (i := 1354) (by decide +kernel)⟩
theorem lw_p43 : lw_okq (⟨"SummerHousesModel", "must", "(I)V"⟩, 69) := ⟨⟨by decide +kernel, by decide +kernel⟩, List.mem_of_getElem? (i := 1063) (by decide +kernel), List.mem_of_getElem? (i := 1357) (by decide +kernel), List.mem_of_getElem? (i := 1358) (by decide +kernel)⟩
theorem lw_p44 : lw_okq (⟨"SummerHousesModel", "wrong", "(II)V"⟩, 69) := ⟨⟨by decide +kernel, by decide +kernel⟩, List.mem_of_getElem? (i := 1063) (by decide +kernel), List.mem_of_getElem? (i := 1361) (by decide +kernel), List.mem_of_getElem? (i := 1362) (by decide +kernel)⟩
theorem lw_p45 : lw_okq (⟨"SummerHousesModel", "bounded", "(II)I"⟩, 69) := ⟨⟨by decide +kernel, by decide +kernel⟩, List.mem_of_getElem? (i := 1063) (by decide +kernel), List.mem_of_getElem? (i := 1365) (by decide +kernel), List.mem_of_getElem? (i := 1366) (by decide +kernel)⟩
theorem lw_p46 : lw_okq (⟨"SummerHousesModel", "toldInt", "(II)I"⟩, 69) := ⟨⟨by decide +kernel, by decide +kernel⟩, List.mem_of_getElem? (i := 1063) (by decide +kernel), List.mem_of_getElem? (i := 1369) (by decide +kernel), List.mem_of_getElem? (i := 1370) (by decide +kernel)⟩
theorem lw_p47 : lw_okq (⟨"SummerHousesModel", "tellLaw", "(I)V"⟩, 69) := ⟨⟨by decide +kernel, by decide +kernel⟩, List.mem_of_getElem? (i := 1063) (by decide +kernel), List.mem_of_getElem? (i := 1373) (by decide +kernel), List.mem_of_getElem? (i := 1374) (by decide +kernel)⟩
def lw_privs_3 : List (MethodName × Nat) := [(⟨"SummerHousesModel", "keepsRow", "()V"⟩, 69), (⟨"SummerHousesModel", "put", "(I)V"⟩, 69), (⟨"SummerHousesModel", "cutsUp", "()V"⟩, 69), (⟨"SummerHousesModel", "byteAt", "(I)I"⟩, 69), (⟨"SummerHousesModel", "token", "(IIIJ)V"⟩, 69), (⟨"SummerHousesModel", "sign", "(III)I"⟩, 69), (⟨"SummerHousesModel", "is", "(I)Z"⟩, 69), (⟨"SummerHousesModel", "tellOne", "()V"⟩, 69), (⟨"SummerHousesModel", "fail", "(I)V"⟩, 69), (⟨"SummerHousesModel", "tellHouse", "()V"⟩, 69), (⟨"SummerHousesModel", "goesOn", "()V"⟩, 69), (⟨"SummerHousesModel", "must", "(I)V"⟩, 69), (⟨"SummerHousesModel", "wrong", "(II)V"⟩, 69), (⟨"SummerHousesModel", "bounded", "(II)I"⟩, 69), (⟨"SummerHousesModel", "toldInt", "(II)I"⟩, 69), (⟨"SummerHousesModel", "tellLaw", "(I)V"⟩, 69)]
theorem lw_r3 : ∀ q ∈ lw_privs_3, lw_okq q := List.forall_mem_cons.mpr ⟨lw_p32, List.forall_mem_cons.mpr ⟨lw_p33, List.forall_mem_cons.mpr ⟨lw_p34, List.forall_mem_cons.mpr ⟨lw_p35, List.forall_mem_cons.mpr ⟨lw_p36, List.forall_mem_cons.mpr ⟨lw_p37, List.forall_mem_cons.mpr ⟨lw_p38, List.forall_mem_cons.mpr ⟨lw_p39, List.forall_mem_cons.mpr ⟨lw_p40, List.forall_mem_cons.mpr ⟨lw_p41, List.forall_mem_cons.mpr ⟨lw_p42, List.forall_mem_cons.mpr ⟨lw_p43, List.forall_mem_cons.mpr ⟨lw_p44, List.forall_mem_cons.mpr ⟨lw_p45, List.forall_mem_cons.mpr ⟨lw_p46, List.forall_mem_cons.mpr ⟨lw_p47, fun _ h => absurd h List.not_mem_nil⟩⟩⟩⟩⟩⟩⟩⟩⟩⟩⟩⟩⟩⟩⟩⟩
theorem lw_p48 : lw_okq (⟨"SummerHousesModel", "expression", "()V"⟩, 69) := ⟨⟨by decide +kernel, by decide +kernel⟩, List.mem_of_getElem? (i := 1063) (by decide +kernel), List.mem_of_getElem? (i := 1377) (by decide +kernel), List.mem_of_getElem? (i := 1378) (by decide +kernel)⟩
theorem lw_p49 : lw_okq (⟨"SummerHousesModel", "unit", "()V"⟩, 69) := ⟨⟨by decide +kernel, by decide +kernel⟩, List.mem_of_getElem? (i := 1063) (by decide +kernel), List.mem_of_getElem? (i := 1381) (by decide +kernel), List.mem_of_getElem? (i := 1382) (by decide +kernel)⟩
theorem lw_p50 : lw_okq (⟨"SummerHousesModel", "emit", "(II)V"⟩, 69) := ⟨⟨by decide +kernel, by decide +kernel⟩, List.mem_of_getElem? (i := 1063) (by decide +kernel), List.mem_of_getElem? (i := 1385) (by decide +kernel), List.mem_of_getElem? (i := 1386) (by decide +kernel)⟩
theorem lw_p51 : lw_okq (⟨"SummerHousesModel", "comesOut", "(Z)V"⟩, 69) := ⟨⟨by decide +kernel, by decide +kernel⟩, List.mem_of_getElem? (i := 1063) (by decide +kernel), List.mem_of_getElem? (i := 1389) (by decide +kernel), List.mem_of_getElem? (i := 1390) (by decide +kernel)⟩
theorem lw_p52 : lw_okq (⟨"SummerHousesModel", "term", "()V"⟩, 69) := ⟨⟨by decide +kernel, by decide +kernel⟩, List.mem_of_getElem? (i := 1063) (by decide +kernel), List.mem_of_getElem? (i := 1393) (by decide +kernel), List.mem_of_getElem? (i := 1394) (by decide +kernel)⟩
theorem lw_p53 : lw_okq (⟨"SummerHousesModel", "isHouse", "(I)Z"⟩, 69) := ⟨⟨by decide +kernel, by decide +kernel⟩, List.mem_of_getElem? (i := 1063) (by decide +kernel), List.mem_of_getElem? (i := 1405) (by decide +kernel), List.mem_of_getElem? (i := 1406) (by decide +kernel)⟩
theorem lw_p54 : lw_okq (⟨"SummerHousesModel", "copies", "()V"⟩, 69) := ⟨⟨by decide +kernel, by decide +kernel⟩, List.mem_of_getElem? (i := 1063) (by decide +kernel), List.mem_of_getElem? (i := 1412) (by decide +kernel), List.mem_of_getElem? (i := 1413) (by decide +kernel)⟩
theorem lw_p55 : lw_okq (⟨"SummerHousesModel", "panesAt", "(I)I"⟩, 69) := ⟨⟨by decide +kernel, by decide +kernel⟩, List.mem_of_getElem? (i := 1063) (by decide +kernel), List.mem_of_getElem? (i := 1416) (by decide +kernel), List.mem_of_getElem? (i := 1417) (by decide +kernel)⟩
theorem lw_p56 : lw_okq (⟨"SummerHousesModel", "coolsOf", "(I)I"⟩, 69) := ⟨⟨by decide +kernel, by decide +kernel⟩, List.mem_of_getElem? (i := 1063) (by decide +kernel), List.mem_of_getElem? (i := 1420) (by decide +kernel), List.mem_of_getElem? (i := 1421) (by decide +kernel)⟩
theorem lw_p57 : lw_okq (⟨"SummerHousesModel", "lawOf", "(IIII)I"⟩, 69) := ⟨⟨by decide +kernel, by decide +kernel⟩, List.mem_of_getElem? (i := 1063) (by decide +kernel), List.mem_of_getElem? (i := 1424) (by decide +kernel), List.mem_of_getElem? (i := 1425) (by decide +kernel)⟩
theorem lw_p58 : lw_okq (⟨"SummerHousesModel", "lawTells", "(II)I"⟩, 69) := ⟨⟨by decide +kernel, by decide +kernel⟩, List.mem_of_getElem? (i := 1063) (by decide +kernel), List.mem_of_getElem? (i := 1428) (by decide +kernel), List.mem_of_getElem? (i := 1429) (by decide +kernel)⟩
theorem lw_p59 : lw_okq (⟨"SummerHousesModel", "termOf", "(II)I"⟩, 69) := ⟨⟨by decide +kernel, by decide +kernel⟩, List.mem_of_getElem? (i := 1063) (by decide +kernel), List.mem_of_getElem? (i := 1432) (by decide +kernel), List.mem_of_getElem? (i := 1433) (by decide +kernel)⟩
theorem lw_p60 : lw_okq (⟨"SummerHousesModel", "warmsOf", "(I)I"⟩, 69) := ⟨⟨by decide +kernel, by decide +kernel⟩, List.mem_of_getElem? (i := 1063) (by decide +kernel), List.mem_of_getElem? (i := 1439) (by decide +kernel), List.mem_of_getElem? (i := 1440) (by decide +kernel)⟩
theorem lw_p61 : lw_okq (⟨"SummerHousesModel", "fadesOf", "(I)I"⟩, 69) := ⟨⟨by decide +kernel, by decide +kernel⟩, List.mem_of_getElem? (i := 1063) (by decide +kernel), List.mem_of_getElem? (i := 1443) (by decide +kernel), List.mem_of_getElem? (i := 1444) (by decide +kernel)⟩
theorem lw_p62 : lw_okq (⟨"SummerHousesModel", "mendsOf", "(I)I"⟩, 69) := ⟨⟨by decide +kernel, by decide +kernel⟩, List.mem_of_getElem? (i := 1063) (by decide +kernel), List.mem_of_getElem? (i := 1447) (by decide +kernel), List.mem_of_getElem? (i := 1448) (by decide +kernel)⟩
theorem lw_p63 : lw_okq (⟨"SummerHousesModel", "burns", "(II)V"⟩, 69) := ⟨⟨by decide +kernel, by decide +kernel⟩, List.mem_of_getElem? (i := 1063) (by decide +kernel), List.mem_of_getElem? (i := 1455) (by decide +kernel), List.mem_of_getElem? (i := 1456) (by decide +kernel)⟩
def lw_privs_4 : List (MethodName × Nat) := [(⟨"SummerHousesModel", "expression", "()V"⟩, 69), (⟨"SummerHousesModel", "unit", "()V"⟩, 69), (⟨"SummerHousesModel", "emit", "(II)V"⟩, 69), (⟨"SummerHousesModel", "comesOut", "(Z)V"⟩, 69), (⟨"SummerHousesModel", "term", "()V"⟩, 69), (⟨"SummerHousesModel", "isHouse", "(I)Z"⟩, 69), (⟨"SummerHousesModel", "copies", "()V"⟩, 69), (⟨"SummerHousesModel", "panesAt", "(I)I"⟩, 69), (⟨"SummerHousesModel", "coolsOf", "(I)I"⟩, 69), (⟨"SummerHousesModel", "lawOf", "(IIII)I"⟩, 69), (⟨"SummerHousesModel", "lawTells", "(II)I"⟩, 69), (⟨"SummerHousesModel", "termOf", "(II)I"⟩, 69), (⟨"SummerHousesModel", "warmsOf", "(I)I"⟩, 69), (⟨"SummerHousesModel", "fadesOf", "(I)I"⟩, 69), (⟨"SummerHousesModel", "mendsOf", "(I)I"⟩, 69), (⟨"SummerHousesModel", "burns", "(II)V"⟩, 69)]
theorem lw_r4 : ∀ q ∈ lw_privs_4, lw_okq q := List.forall_mem_cons.mpr ⟨lw_p48, List.forall_mem_cons.mpr ⟨lw_p49, List.forall_mem_cons.mpr ⟨lw_p50, List.forall_mem_cons.mpr ⟨lw_p51, List.forall_mem_cons.mpr ⟨lw_p52, List.forall_mem_cons.mpr ⟨lw_p53, List.forall_mem_cons.mpr ⟨lw_p54, List.forall_mem_cons.mpr ⟨lw_p55, List.forall_mem_cons.mpr ⟨lw_p56, List.forall_mem_cons.mpr ⟨lw_p57, List.forall_mem_cons.mpr ⟨lw_p58, List.forall_mem_cons.mpr ⟨lw_p59, List.forall_mem_cons.mpr ⟨lw_p60, List.forall_mem_cons.mpr ⟨lw_p61, List.forall_mem_cons.mpr ⟨lw_p62, List.forall_mem_cons.mpr ⟨lw_p63, fun _ h => absurd h List.not_mem_nil⟩⟩⟩⟩⟩⟩⟩⟩⟩⟩⟩⟩⟩⟩⟩⟩
theorem lw_p64 : lw_okq (⟨"SummerHousesModel", "burnsOne", "(I)V"⟩, 69) := ⟨⟨by decide +kernel, by decide +kernel⟩, List.mem_of_getElem? (i := 1063) (by decide +kernel), List.mem_of_getElem? (i := 1459) (by decide +kernel), List.mem_of_getElem? (i := 1460) (by decide +kernel)⟩
theorem lw_p65 : lw_okq (⟨"SummerHousesModel", "records", "()V"⟩, 69) := ⟨⟨by decide +kernel, by decide +kernel⟩, List.mem_of_getElem? (i := 1063) (by decide +kernel), List.mem_of_getElem? (i := 1463) (by decide +kernel), List.mem_of_getElem? (i := 1464) (by decide +kernel)⟩
theorem lw_p66 : lw_okq (⟨"SummerHousesModel", "goes", "(I)V"⟩, 69) := ⟨⟨by decide +kernel, by decide +kernel⟩, List.mem_of_getElem? (i := 1063) (by decide +kernel), List.mem_of_getElem? (i := 1490) (by decide +kernel), List.mem_of_getElem? (i := 1491) (by decide +kernel)⟩
theorem lw_p67 : lw_okq (⟨"SummerHousesModel", "dayGoes", "()V"⟩, 69) := ⟨⟨by decide +kernel, by decide +kernel⟩, List.mem_of_getElem? (i := 1063) (by decide +kernel), List.mem_of_getElem? (i := 1494) (by decide +kernel), List.mem_of_getElem? (i := 1495) (by decide +kernel)⟩
theorem lw_p68 : lw_okq (⟨"SummerHousesModel", "chillOf", "(I)I"⟩, 69) := ⟨⟨by decide +kernel, by decide +kernel⟩, List.mem_of_getElem? (i := 1063) (by decide +kernel), List.mem_of_getElem? (i := 1498) (by decide +kernel), List.mem_of_getElem? (i := 1499) (by decide +kernel)⟩
theorem lw_p69 : lw_okq (⟨"SummerHousesModel", "isHail", "()Z"⟩, 69) := ⟨⟨by decide +kernel, by decide +kernel⟩, List.mem_of_getElem? (i := 1063) (by decide +kernel), List.mem_of_getElem? (i := 1502) (by decide +kernel), List.mem_of_getElem? (i := 1503) (by decide +kernel)⟩
theorem lw_p70 : lw_okq (⟨"SummerHousesModel", "lotOf", "(II)I"⟩, 69) := ⟨⟨by decide +kernel, by decide +kernel⟩, List.mem_of_getElem? (i := 1063) (by decide +kernel), List.mem_of_getElem? (i := 1506) (by decide +kernel), List.mem_of_getElem? (i := 1507) (by decide +kernel)⟩
theorem lw_p71 : lw_okq (⟨"SummerHousesModel", "fillsShare", "(I)V"⟩, 69) := ⟨⟨by decide +kernel, by decide +kernel⟩, List.mem_of_getElem? (i := 1063) (by decide +kernel), List.mem_of_getElem? (i := 1529) (by decide +kernel), List.mem_of_getElem? (i := 1530) (by decide +kernel)⟩
theorem lw_p72 : lw_okq (⟨"SummerHousesModel", "fillsLoss", "(I)V"⟩, 69) := ⟨⟨by decide +kernel, by decide +kernel⟩, List.mem_of_getElem? (i := 1063) (by decide +kernel), List.mem_of_getElem? (i := 1533) (by decide +kernel), List.mem_of_getElem? (i := 1534) (by decide +kernel)⟩
theorem lw_p73 : lw_okq (⟨"SummerHousesModel", "lossWith", "(III)I"⟩, 69) := ⟨⟨by decide +kernel, by decide +kernel⟩, List.mem_of_getElem? (i := 1063) (by decide +kernel), List.mem_of_getElem? (i := 1537) (by decide +kernel), List.mem_of_getElem? (i := 1538) (by decide +kernel)⟩
theorem lw_p74 : lw_okq (⟨"SummerHousesModel", "shareFor", "(II)I"⟩, 69) := ⟨⟨by decide +kernel, by decide +kernel⟩, List.mem_of_getElem? (i := 1063) (by decide +kernel), List.mem_of_getElem? (i := 1541) (by decide +kernel), List.mem_of_getElem? (i := 1542) (by decide +kernel)⟩
theorem lw_p75 : lw_okq (⟨"SummerHousesModel", "needsOf", "(I)I"⟩, 69) := ⟨⟨by decide +kernel, by decide +kernel⟩, List.mem_of_getElem? (i := 1063) (by decide +kernel), List.mem_of_getElem? (i := 1549) (by decide +kernel), List.mem_of_getElem? (i := 1550) (by decide +kernel)⟩
theorem lw_p76 : lw_okq (⟨"SummerHousesModel", "copiesStill", "()V"⟩, 69) := ⟨⟨by decide +kernel, by decide +kernel⟩, List.mem_of_getElem? (i := 1063) (by decide +kernel), List.mem_of_getElem? (i := 1557) (by decide +kernel), List.mem_of_getElem? (i := 1558) (by decide +kernel)⟩
theorem lw_p77 : lw_okq (⟨"SummerHousesModel", "burnsShared", "(I)V"⟩, 69) := ⟨⟨by decide +kernel, by decide +kernel⟩, List.mem_of_getElem? (i := 1063) (by decide +kernel), List.mem_of_getElem? (i := 1561) (by decide +kernel), List.mem_of_getElem? (i := 1562) (by decide +kernel)⟩
theorem lw_p78 : lw_okq (⟨"SummerHousesModel", "keptAll", "()I"⟩, 69) := ⟨⟨by decide +kernel, by decide +kernel⟩, List.mem_of_getElem? (i := 1063) (by decide +kernel), List.mem_of_getElem? (i := 1565) (by decide +kernel), List.mem_of_getElem? (i := 1566) (by decide +kernel)⟩
theorem lw_p79 : lw_okq (⟨"SummerHousesModel", "runsOut", "()Z"⟩, 69) := ⟨⟨by decide +kernel, by decide +kernel⟩, List.mem_of_getElem? (i := 1063) (by decide +kernel), List.mem_of_getElem? (i := 1577) (by decide +kernel), List.mem_of_getElem? (i := 1578) (by decide +kernel)⟩
def lw_privs_5 : List (MethodName × Nat) := [(⟨"SummerHousesModel", "burnsOne", "(I)V"⟩, 69), (⟨"SummerHousesModel", "records", "()V"⟩, 69), (⟨"SummerHousesModel", "goes", "(I)V"⟩, 69), (⟨"SummerHousesModel", "dayGoes", "()V"⟩, 69), (⟨"SummerHousesModel", "chillOf", "(I)I"⟩, 69), (⟨"SummerHousesModel", "isHail", "()Z"⟩, 69), (⟨"SummerHousesModel", "lotOf", "(II)I"⟩, 69), (⟨"SummerHousesModel", "fillsShare", "(I)V"⟩, 69), (⟨"SummerHousesModel", "fillsLoss", "(I)V"⟩, 69), (⟨"SummerHousesModel", "lossWith", "(III)I"⟩, 69), (⟨"SummerHousesModel", "shareFor", "(II)I"⟩, 69), (⟨"SummerHousesModel", "needsOf", "(I)I"⟩, 69), (⟨"SummerHousesModel", "copiesStill", "()V"⟩, 69), (⟨"SummerHousesModel", "burnsShared", "(I)V"⟩, 69), (⟨"SummerHousesModel", "keptAll", "()I"⟩, 69), (⟨"SummerHousesModel", "runsOut", "()Z"⟩, 69)]
theorem lw_r5 : ∀ q ∈ lw_privs_5, lw_okq q := List.forall_mem_cons.mpr ⟨lw_p64, List.forall_mem_cons.mpr ⟨lw_p65, List.forall_mem_cons.mpr ⟨lw_p66, List.forall_mem_cons.mpr ⟨lw_p67, List.forall_mem_cons.mpr ⟨lw_p68, List.forall_mem_cons.mpr ⟨lw_p69, List.forall_mem_cons.mpr ⟨lw_p70, List.forall_mem_cons.mpr ⟨lw_p71, List.forall_mem_cons.mpr ⟨lw_p72, List.forall_mem_cons.mpr ⟨lw_p73, List.forall_mem_cons.mpr ⟨lw_p74, List.forall_mem_cons.mpr ⟨lw_p75, List.forall_mem_cons.mpr ⟨lw_p76, List.forall_mem_cons.mpr ⟨lw_p77, List.forall_mem_cons.mpr ⟨lw_p78, List.forall_mem_cons.mpr ⟨lw_p79, fun _ h => absurd h List.not_mem_nil⟩⟩⟩⟩⟩⟩⟩⟩⟩⟩⟩⟩⟩⟩⟩⟩
theorem lw_p80 : lw_okq (⟨"SummerHousesModel", "needsNow", "(I)I"⟩, 69) := ⟨⟨by decide +kernel, by decide +kernel⟩, List.mem_of_getElem? (i := 1063) (by decide +kernel), List.mem_of_getElem? (i := 1581) (by decide +kernel), List.mem_of_getElem? (i := 1582) (by decide +kernel)⟩
theorem lw_p81 : lw_okq (⟨"SummerHousesModel", "behindNone", "(I)I"⟩, 69) := ⟨⟨by decide +kernel, by decide +kernel⟩, List.mem_of_getElem? (i := 1063) (by decide +kernel), List.mem_of_getElem? (i := 1589) (by decide +kernel), List.mem_of_getElem? (i := 1590) (by decide +kernel)⟩
theorem lw_p82 : lw_okq (⟨"SummerHousesModel", "savesOf", "(I)I"⟩, 69) := ⟨⟨by decide +kernel, by decide +kernel⟩, List.mem_of_getElem? (i := 1063) (by decide +kernel), List.mem_of_getElem? (i := 1601) (by decide +kernel), List.mem_of_getElem? (i := 1602) (by decide +kernel)⟩
theorem lw_p83 : lw_okq (⟨"SummerHousesModel", "lossOf", "(II)I"⟩, 69) := ⟨⟨by decide +kernel, by decide +kernel⟩, List.mem_of_getElem? (i := 1063) (by decide +kernel), List.mem_of_getElem? (i := 1605) (by decide +kernel), List.mem_of_getElem? (i := 1606) (by decide +kernel)⟩
theorem lw_p84 : lw_okq (⟨"SummerHousesModel", "farOf", "(II)I"⟩, 69) := ⟨⟨by decide +kernel, by decide +kernel⟩, List.mem_of_getElem? (i := 1063) (by decide +kernel), List.mem_of_getElem? (i := 1618) (by decide +kernel), List.mem_of_getElem? (i := 1619) (by decide +kernel)⟩
theorem lw_p85 : lw_okq (⟨"SummerHousesModel", "fillsRest", "()V"⟩, 69) := ⟨⟨by decide +kernel, by decide +kernel⟩, List.mem_of_getElem? (i := 1063) (by decide +kernel), List.mem_of_getElem? (i := 1629) (by decide +kernel), List.mem_of_getElem? (i := 1630) (by decide +kernel)⟩
theorem lw_p86 : lw_okq (⟨"SummerHousesModel", "restWith", "(III)I"⟩, 69) := ⟨⟨by decide +kernel, by decide +kernel⟩, List.mem_of_getElem? (i := 1063) (by decide +kernel), List.mem_of_getElem? (i := 1633) (by decide +kernel), List.mem_of_getElem? (i := 1634) (by decide +kernel)⟩
theorem lw_p87 : lw_okq (⟨"SummerHousesModel", "nearestIn", "(II)I"⟩, 69) := ⟨⟨by decide +kernel, by decide +kernel⟩, List.mem_of_getElem? (i := 1063) (by decide +kernel), List.mem_of_getElem? (i := 1645) (by decide +kernel), List.mem_of_getElem? (i := 1646) (by decide +kernel)⟩
theorem lw_p88 : lw_okq (⟨"SummerHousesModel", "unlike", "(II)I"⟩, 69) := ⟨⟨by decide +kernel, by decide +kernel⟩, List.mem_of_getElem? (i := 1063) (by decide +kernel), List.mem_of_getElem? (i := 1657) (by decide +kernel), List.mem_of_getElem? (i := 1658) (by decide +kernel)⟩
theorem lw_p89 : lw_okq (⟨"SummerHousesModel", "roofsBy", "(I)I"⟩, 69) := ⟨⟨by decide +kernel, by decide +kernel⟩, List.mem_of_getElem? (i := 1063) (by decide +kernel), List.mem_of_getElem? (i := 1669) (by decide +kernel), List.mem_of_getElem? (i := 1670) (by decide +kernel)⟩
theorem lw_p90 : lw_okq (⟨"SummerHousesModel", "fillsPaired", "()V"⟩, 69) := ⟨⟨by decide +kernel, by decide +kernel⟩, List.mem_of_getElem? (i := 1063) (by decide +kernel), List.mem_of_getElem? (i := 1677) (by decide +kernel), List.mem_of_getElem? (i := 1678) (by decide +kernel)⟩
theorem lw_p91 : lw_okq (⟨"SummerHousesModel", "pairedWith", "(III)I"⟩, 69) := ⟨⟨by decide +kernel, by decide +kernel⟩, List.mem_of_getElem? (i := 1063) (by decide +kernel), List.mem_of_getElem? (i := 1684) (by decide +kernel), List.mem_of_getElem? (i := 1685) (by decide +kernel)⟩
theorem lw_p92 : lw_okq (⟨"SummerHousesModel", "pairedOf", "(I)I"⟩, 69) := ⟨⟨by decide +kernel, by decide +kernel⟩, List.mem_of_getElem? (i := 1063) (by decide +kernel), List.mem_of_getElem? (i := 1688) (by decide +kernel), List.mem_of_getElem? (i := 1689) (by decide +kernel)⟩
theorem lw_p93 : lw_okq (⟨"SummerHousesModel", "whoseBits", "(I)I"⟩, 69) := ⟨⟨by decide +kernel, by decide +kernel⟩, List.mem_of_getElem? (i := 1063) (by decide +kernel), List.mem_of_getElem? (i := 1716) (by decide +kernel), List.mem_of_getElem? (i := 1717) (by decide +kernel)⟩
theorem lw_p94 : lw_okq (⟨"SummerHousesModel", "markOf", "(II)I"⟩, 69) := ⟨⟨by decide +kernel, by decide +kernel⟩, List.mem_of_getElem? (i := 1063) (by decide +kernel), List.mem_of_getElem? (i := 1720) (by decide +kernel), List.mem_of_getElem? (i := 1721) (by decide +kernel)⟩
theorem lw_p95 : lw_okq (⟨"SummerHousesModel", "sumNow", "(I)I"⟩, 69) := ⟨⟨by decide +kernel, by decide +kernel⟩, List.mem_of_getElem? (i := 1063) (by decide +kernel), List.mem_of_getElem? (i := 1743) (by decide +kernel), List.mem_of_getElem? (i := 1744) (by decide +kernel)⟩
def lw_privs_6 : List (MethodName × Nat) := [(⟨"SummerHousesModel", "needsNow", "(I)I"⟩, 69), (⟨"SummerHousesModel", "behindNone", "(I)I"⟩, 69), (⟨"SummerHousesModel", "savesOf", "(I)I"⟩, 69), (⟨"SummerHousesModel", "lossOf", "(II)I"⟩, 69), (⟨"SummerHousesModel", "farOf", "(II)I"⟩, 69), (⟨"SummerHousesModel", "fillsRest", "()V"⟩, 69), (⟨"SummerHousesModel", "restWith", "(III)I"⟩, 69), (⟨"SummerHousesModel", "nearestIn", "(II)I"⟩, 69), (⟨"SummerHousesModel", "unlike", "(II)I"⟩, 69), (⟨"SummerHousesModel", "roofsBy", "(I)I"⟩, 69), (⟨"SummerHousesModel", "fillsPaired", "()V"⟩, 69), (⟨"SummerHousesModel", "pairedWith", "(III)I"⟩, 69), (⟨"SummerHousesModel", "pairedOf", "(I)I"⟩, 69), (⟨"SummerHousesModel", "whoseBits", "(I)I"⟩, 69), (⟨"SummerHousesModel", "markOf", "(II)I"⟩, 69), (⟨"SummerHousesModel", "sumNow", "(I)I"⟩, 69)]
theorem lw_r6 : ∀ q ∈ lw_privs_6, lw_okq q := List.forall_mem_cons.mpr ⟨lw_p80, List.forall_mem_cons.mpr ⟨lw_p81, List.forall_mem_cons.mpr ⟨lw_p82, List.forall_mem_cons.mpr ⟨lw_p83, List.forall_mem_cons.mpr ⟨lw_p84, List.forall_mem_cons.mpr ⟨lw_p85, List.forall_mem_cons.mpr ⟨lw_p86, List.forall_mem_cons.mpr ⟨lw_p87, List.forall_mem_cons.mpr ⟨lw_p88, List.forall_mem_cons.mpr ⟨lw_p89, List.forall_mem_cons.mpr ⟨lw_p90, List.forall_mem_cons.mpr ⟨lw_p91, List.forall_mem_cons.mpr ⟨lw_p92, List.forall_mem_cons.mpr ⟨lw_p93, List.forall_mem_cons.mpr ⟨lw_p94, List.forall_mem_cons.mpr ⟨lw_p95, fun _ h => absurd h List.not_mem_nil⟩⟩⟩⟩⟩⟩⟩⟩⟩⟩⟩⟩⟩⟩⟩⟩
theorem lw_p96 : lw_okq (⟨"SummerHousesModel", "noneBits", "(I)I"⟩, 69) := ⟨⟨by decide +kernel, by decide +kernel⟩, List.mem_of_getElem? (i := 1063) (by decide +kernel), List.mem_of_getElem? (i := 1747) (by decide +kernel), List.mem_of_getElem? (i := 1748) (by decide +kernel)⟩
def lw_privs_7 : List (MethodName × Nat) := [(⟨"SummerHousesModel", "noneBits", "(I)I"⟩, 69)]
theorem lw_r7 : ∀ q ∈ lw_privs_7, lw_okq q := List.forall_mem_cons.mpr ⟨lw_p96, fun _ h => absurd h List.not_mem_nil⟩
def lw_privs : List (MethodName × Nat) := lw_privs_1 ++ (lw_privs_2 ++ (lw_privs_3 ++ (lw_privs_4 ++ (lw_privs_5 ++ (lw_privs_6 ++ (lw_privs_7))))))
def lw_tbl : List Cond := k2_sels lw_privs ++ tables_1
theorem lw_privs_ok : ∀ q ∈ lw_privs, lw_okq q := by
  show ∀ q ∈ lw_privs_1 ++ (lw_privs_2 ++ (lw_privs_3 ++ (lw_privs_4 ++ (lw_privs_5 ++ (lw_privs_6 ++ (lw_privs_7)))))), lw_okq q
  exact List.forall_mem_append.mpr ⟨lw_r1, List.forall_mem_append.mpr ⟨lw_r2, List.forall_mem_append.mpr ⟨lw_r3, List.forall_mem_append.mpr ⟨lw_r4, List.forall_mem_append.mpr ⟨lw_r5, List.forall_mem_append.mpr ⟨lw_r6, lw_r7⟩⟩⟩⟩⟩⟩
-- ===== end of PART A; then your names; then what follows =====
def RX0 : String := "SummerHouses$History"
def TX0 : u_T := fun k => match k with
  | 0 => ("SummerHouses$History", "past", "[LSummerHouses$State;", true)
  | 1 => ("SummerHouses$History", "slots", "[LSummerHouses$State;", true)
  | 2 => ("SummerHouses$History", "held", "[Z", true)
  | 3 => ("SummerHouses$History", "newest", "I", false)
  | _ => ("SummerHouses$History", "undoable", "I", false)
def tyX0 : Nat → FieldType := fun k => match k with
  | 0 => .array (.object "SummerHouses$State")
  | 1 => .array (.object "SummerHouses$State")
  | 2 => .array .boolean
  | 3 => .int
  | _ => .int
abbrev wsX00 : List Cond := u_ws RX0 TX0 5
theorem nmX0 : ∀ a, a < 5 → ∀ b, b < 5 → a ≠ b → (TX0 a).2.1 ≠ (TX0 b).2.1 := by decide +kernel
theorem tyX0_ok : ∀ k, k < 5 → parseFieldDescriptor (TX0 k).2.2.1 = some (tyX0 k) := by decide +kernel
abbrev cX0_init : ByteArray := prog_2_method_1_code
def yX0_init : MethodName := ⟨RX0, "<init>", "()V"⟩
abbrev cX0_push : ByteArray := prog_2_method_2_code
def yX0_push : MethodName := ⟨RX0, "push", "(LSummerHouses$State;)V"⟩
abbrev cX0_pop : ByteArray := prog_2_method_3_code
def yX0_pop : MethodName := ⟨RX0, "pop", "(LSummerHouses$State;)Z"⟩
abbrev cX0_keep : ByteArray := prog_2_method_4_code
def yX0_keep : MethodName := ⟨RX0, "keep", "(ILSummerHouses$State;)Z"⟩
abbrev cX0_fetch : ByteArray := prog_2_method_5_code
def yX0_fetch : MethodName := ⟨RX0, "fetch", "(ILSummerHouses$State;)Z"⟩
abbrev cX0_heldSlots : ByteArray := prog_2_method_6_code
def yX0_heldSlots : MethodName := ⟨RX0, "heldSlots", "()I"⟩
abbrev cX0_clearAll : ByteArray := prog_2_method_7_code
def yX0_clearAll : MethodName := ⟨RX0, "clearAll", "()V"⟩
def RX1 : String := "SummerHouses$Laws"
def TX1 : u_T := fun k => match k with
  | 0 => ("SummerHouses$Laws", "steps", "[I", true)
  | 1 => ("SummerHouses$Laws", "operands", "[I", true)
  | 2 => ("SummerHouses$Laws", "starts", "[I", true)
  | 3 => ("SummerHouses$Laws", "stack", "[I", true)
  | _ => ("SummerHouses$Laws", "size", "I", false)
def tyX1 : Nat → FieldType := fun k => match k with
  | 0 => .array .int
  | 1 => .array .int
  | 2 => .array .int
  | 3 => .array .int
  | _ => .int
abbrev wsX10 : List Cond := u_ws RX1 TX1 5
theorem nmX1 : ∀ a, a < 5 → ∀ b, b < 5 → a ≠ b → (TX1 a).2.1 ≠ (TX1 b).2.1 := by decide +kernel
theorem tyX1_ok : ∀ k, k < 5 → parseFieldDescriptor (TX1 k).2.2.1 = some (tyX1 k) := by decide +kernel
abbrev cX1_init : ByteArray := prog_3_method_1_code
def yX1_init : MethodName := ⟨RX1, "<init>", "()V"⟩
abbrev cX1_setUntold : ByteArray := prog_3_method_2_code
def yX1_setUntold : MethodName := ⟨RX1, "setUntold", "()V"⟩
abbrev cX1_begin : ByteArray := prog_3_method_3_code
def yX1_begin : MethodName := ⟨RX1, "begin", "(I)V"⟩
abbrev cX1_append : ByteArray := prog_3_method_4_code
def yX1_append : MethodName := ⟨RX1, "append", "(II)V"⟩
abbrev cX1_aimHere : ByteArray := prog_3_method_5_code
def yX1_aimHere : MethodName := ⟨RX1, "aimHere", "(I)V"⟩
abbrev cX1_copyFrom : ByteArray := prog_3_method_6_code
def yX1_copyFrom : MethodName := ⟨RX1, "copyFrom", "(LSummerHouses$Laws;)V"⟩
abbrev cX1_valueOf : ByteArray := prog_3_method_7_code
def yX1_valueOf : MethodName := ⟨RX1, "valueOf", "(ILSummerHouses$State;I)I"⟩
abbrev cX1_joined : ByteArray := prog_3_method_8_code
def yX1_joined : MethodName := ⟨RX1, "joined", "(III)I"⟩
def RX2 : String := "SummerHouses$Pairs"
def TX2 : u_T := fun k => match k with
  | 0 => ("SummerHouses$Pairs", "with", "[I", true)
  | 1 => ("SummerHouses$Pairs", "best", "[I", true)
  | _ => ("SummerHouses$Pairs", "least", "I", false)
def tyX2 : Nat → FieldType := fun k => match k with
  | 0 => .array .int
  | 1 => .array .int
  | _ => .int
abbrev wsX20 : List Cond := u_ws RX2 TX2 3
theorem nmX2 : ∀ a, a < 3 → ∀ b, b < 3 → a ≠ b → (TX2 a).2.1 ≠ (TX2 b).2.1 := by decide +kernel
theorem tyX2_ok : ∀ k, k < 3 → parseFieldDescriptor (TX2 k).2.2.1 = some (tyX2 k) := by decide +kernel
abbrev cX2_init : ByteArray := prog_4_method_1_code
def yX2_init : MethodName := ⟨RX2, "<init>", "()V"⟩
abbrev cX2_search : ByteArray := prog_4_method_2_code
def yX2_search : MethodName := ⟨RX2, "search", "(LSummerHouses$State;I)V"⟩
abbrev cX2_pairFrom : ByteArray := prog_4_method_3_code
def yX2_pairFrom : MethodName := ⟨RX2, "pairFrom", "(LSummerHouses$State;IIII)V"⟩
abbrev cX2_mayStayAlone : ByteArray := prog_4_method_4_code
def yX2_mayStayAlone : MethodName := ⟨RX2, "mayStayAlone", "(III)Z"⟩
def RX3 : String := "SummerHouses$Quarter"
def TX3 : u_T := fun k => match k with
  | 0 => ("SummerHouses$Quarter", "numbers", "[I", true)
  | 1 => ("SummerHouses$Quarter", "laws", "LSummerHouses$Laws;", true)
  | 2 => ("SummerHouses$Quarter", "houses", "I", false)
  | 3 => ("SummerHouses$Quarter", "coals", "I", false)
  | 4 => ("SummerHouses$Quarter", "roof", "I", false)
  | 5 => ("SummerHouses$Quarter", "hail", "I", false)
  | _ => ("SummerHouses$Quarter", "seed", "I", false)
def tyX3 : Nat → FieldType := fun k => match k with
  | 0 => .array .int
  | 1 => .object "SummerHouses$Laws"
  | 2 => .int
  | 3 => .int
  | 4 => .int
  | 5 => .int
  | _ => .int
abbrev wsX30 : List Cond := u_ws RX3 TX3 7
theorem nmX3 : ∀ a, a < 7 → ∀ b, b < 7 → a ≠ b → (TX3 a).2.1 ≠ (TX3 b).2.1 := by decide +kernel
theorem tyX3_ok : ∀ k, k < 7 → parseFieldDescriptor (TX3 k).2.2.1 = some (tyX3 k) := by decide +kernel
abbrev cX3_init : ByteArray := prog_5_method_1_code
def yX3_init : MethodName := ⟨RX3, "<init>", "()V"⟩
abbrev cX3_setUntold : ByteArray := prog_5_method_2_code
def yX3_setUntold : MethodName := ⟨RX3, "setUntold", "()V"⟩
abbrev cX3_copyFrom : ByteArray := prog_5_method_3_code
def yX3_copyFrom : MethodName := ⟨RX3, "copyFrom", "(LSummerHouses$Quarter;)V"⟩
abbrev cX3_begin : ByteArray := prog_5_method_4_code
def yX3_begin : MethodName := ⟨RX3, "begin", "(LSummerHouses$State;)V"⟩
abbrev cX3_number : ByteArray := prog_5_method_5_code
def yX3_number : MethodName := ⟨RX3, "number", "(II)I"⟩
abbrev cX3_setNumber : ByteArray := prog_5_method_6_code
def yX3_setNumber : MethodName := ⟨RX3, "setNumber", "(III)V"⟩
abbrev cX3_xOf : ByteArray := prog_5_method_7_code
def yX3_xOf : MethodName := ⟨RX3, "xOf", "(I)I"⟩
abbrev cX3_yOf : ByteArray := prog_5_method_8_code
def yX3_yOf : MethodName := ⟨RX3, "yOf", "(I)I"⟩
abbrev cX3_distance : ByteArray := prog_5_method_9_code
def yX3_distance : MethodName := ⟨RX3, "distance", "(II)I"⟩
abbrev cX3_cools : ByteArray := prog_5_method_10_code
def yX3_cools : MethodName := ⟨RX3, "cools", "(LSummerHouses$State;I)I"⟩
abbrev cX3_warms : ByteArray := prog_5_method_11_code
def yX3_warms : MethodName := ⟨RX3, "warms", "(LSummerHouses$State;I)I"⟩
abbrev cX3_mends : ByteArray := prog_5_method_12_code
def yX3_mends : MethodName := ⟨RX3, "mends", "(LSummerHouses$State;I)I"⟩
abbrev cX3_fades : ByteArray := prog_5_method_13_code
def yX3_fades : MethodName := ⟨RX3, "fades", "(LSummerHouses$State;I)I"⟩
abbrev cX3_burnIn : ByteArray := prog_5_method_14_code
def yX3_burnIn : MethodName := ⟨RX3, "burnIn", "(LSummerHouses$State;II)V"⟩
abbrev cX3_timesCooled : ByteArray := prog_5_method_15_code
def yX3_timesCooled : MethodName := ⟨RX3, "timesCooled", "(LSummerHouses$State;I)I"⟩
abbrev cX3_passHouse : ByteArray := prog_5_method_16_code
def yX3_passHouse : MethodName := ⟨RX3, "passHouse", "(LSummerHouses$State;I)V"⟩
abbrev cX3_passDay : ByteArray := prog_5_method_17_code
def yX3_passDay : MethodName := ⟨RX3, "passDay", "(LSummerHouses$State;)V"⟩
abbrev cX3_hailOn : ByteArray := prog_5_method_18_code
def yX3_hailOn : MethodName := ⟨RX3, "hailOn", "(LSummerHouses$State;)V"⟩
abbrev cX3_breakPane : ByteArray := prog_5_method_19_code
def yX3_breakPane : MethodName := ⟨RX3, "breakPane", "(LSummerHouses$State;I)V"⟩
abbrev cX3_hails : ByteArray := prog_5_method_20_code
def yX3_hails : MethodName := ⟨RX3, "hails", "(II)Z"⟩
abbrev cX3_struckHouse : ByteArray := prog_5_method_21_code
def yX3_struckHouse : MethodName := ⟨RX3, "struckHouse", "(II)I"⟩
abbrev cX3_lot : ByteArray := prog_5_method_22_code
def yX3_lot : MethodName := ⟨RX3, "lot", "(III)I"⟩
abbrev cX3_mixed : ByteArray := prog_5_method_23_code
def yX3_mixed : MethodName := ⟨RX3, "mixed", "(II)I"⟩
def RX4 : String := "SummerHouses$Reader"
def TX4 : u_T := fun k => match k with
  | 0 => ("SummerHouses$Reader", "tokens", "LSummerHouses$Tokens;", true)
  | 1 => ("SummerHouses$Reader", "draft", "LSummerHouses$Quarter;", true)
  | 2 => ("SummerHouses$Reader", "at", "I", false)
  | 3 => ("SummerHouses$Reader", "fault", "I", false)
  | 4 => ("SummerHouses$Reader", "faultPlace", "I", false)
  | _ => ("SummerHouses$Reader", "names", "[J", true)
def tyX4 : Nat → FieldType := fun k => match k with
  | 0 => .object "SummerHouses$Tokens"
  | 1 => .object "SummerHouses$Quarter"
  | 2 => .int
  | 3 => .int
  | 4 => .int
  | _ => .array .long
abbrev wsX40 : List Cond := u_ws RX4 TX4 6
theorem nmX4 : ∀ a, a < 6 → ∀ b, b < 6 → a ≠ b → (TX4 a).2.1 ≠ (TX4 b).2.1 := by decide +kernel
theorem tyX4_ok : ∀ k, k < 6 → parseFieldDescriptor (TX4 k).2.2.1 = some (tyX4 k) := by decide +kernel
abbrev cX4_init : ByteArray := prog_6_method_1_code
def yX4_init : MethodName := ⟨RX4, "<init>", "()V"⟩
abbrev cX4_readText : ByteArray := prog_6_method_2_code
def yX4_readText : MethodName := ⟨RX4, "readText", "([BI)I"⟩
abbrev cX4_tellOne : ByteArray := prog_6_method_3_code
def yX4_tellOne : MethodName := ⟨RX4, "tellOne", "()Z"⟩
abbrev cX4_tellHouse : ByteArray := prog_6_method_4_code
def yX4_tellHouse : MethodName := ⟨RX4, "tellHouse", "()Z"⟩
abbrev cX4_isToldAlready : ByteArray := prog_6_method_5_code
def yX4_isToldAlready : MethodName := ⟨RX4, "isToldAlready", "(J)Z"⟩
abbrev cX4_tellNumber : ByteArray := prog_6_method_6_code
def yX4_tellNumber : MethodName := ⟨RX4, "tellNumber", "(I)Z"⟩
abbrev cX4_numberHere : ByteArray := prog_6_method_7_code
def yX4_numberHere : MethodName := ⟨RX4, "numberHere", "(I)I"⟩
abbrev cX4_tellLaw : ByteArray := prog_6_method_8_code
def yX4_tellLaw : MethodName := ⟨RX4, "tellLaw", "(I)Z"⟩
abbrev cX4_sum : ByteArray := prog_6_method_9_code
def yX4_sum : MethodName := ⟨RX4, "sum", "(I)Z"⟩
abbrev cX4_product : ByteArray := prog_6_method_10_code
def yX4_product : MethodName := ⟨RX4, "product", "(I)Z"⟩
abbrev cX4_unit : ByteArray := prog_6_method_11_code
def yX4_unit : MethodName := ⟨RX4, "unit", "(I)Z"⟩
abbrev cX4_note : ByteArray := prog_6_method_12_code
def yX4_note : MethodName := ⟨RX4, "note", "(I)V"⟩
abbrev cX4_refuse : ByteArray := prog_6_method_13_code
def yX4_refuse : MethodName := ⟨RX4, "refuse", "(I)Z"⟩
abbrev cX4_take : ByteArray := prog_6_method_14_code
def yX4_take : MethodName := ⟨RX4, "take", "(I)Z"⟩
def RX5 : String := "SummerHouses$Roofs"
def TX5 : u_T := fun k => match k with
  | 0 => ("SummerHouses$Roofs", "over", "[I", true)
  | _ => ("SummerHouses$Roofs", "panes", "[I", true)
def tyX5 : Nat → FieldType := fun k => match k with
  | 0 => .array .int
  | _ => .array .int
abbrev wsX50 : List Cond := u_ws RX5 TX5 2
theorem nmX5 : ∀ a, a < 2 → ∀ b, b < 2 → a ≠ b → (TX5 a).2.1 ≠ (TX5 b).2.1 := by decide +kernel
theorem tyX5_ok : ∀ k, k < 2 → parseFieldDescriptor (TX5 k).2.2.1 = some (tyX5 k) := by decide +kernel
abbrev cX5_init : ByteArray := prog_7_method_1_code
def yX5_init : MethodName := ⟨RX5, "<init>", "()V"⟩
abbrev cX5_search : ByteArray := prog_7_method_2_code
def yX5_search : MethodName := ⟨RX5, "search", "(LSummerHouses$State;LSummerHouses$Quarter;)I"⟩
abbrev cX5_coverFrom : ByteArray := prog_7_method_3_code
def yX5_coverFrom : MethodName := ⟨RX5, "coverFrom", "(LSummerHouses$State;LSummerHouses$Quarter;III)Z"⟩
def RX6 : String := "SummerHouses$Shares"
def TX6 : u_T := fun k => match k with
  | 0 => ("SummerHouses$Shares", "most", "I", true)
  | 1 => ("SummerHouses$Shares", "trial", "LSummerHouses$State;", true)
  | 2 => ("SummerHouses$Shares", "losses", "[[I", true)
  | 3 => ("SummerHouses$Shares", "least", "[[I", true)
  | 4 => ("SummerHouses$Shares", "given", "[I", true)
  | _ => ("SummerHouses$Shares", "houses", "I", false)
def tyX6 : Nat → FieldType := fun k => match k with
  | 0 => .int
  | 1 => .object "SummerHouses$State"
  | 2 => .array (.array .int)
  | 3 => .array (.array .int)
  | 4 => .array .int
  | _ => .int
abbrev wsX60 : List Cond := u_ws RX6 TX6 6
theorem nmX6 : ∀ a, a < 6 → ∀ b, b < 6 → a ≠ b → (TX6 a).2.1 ≠ (TX6 b).2.1 := by decide +kernel
theorem tyX6_ok : ∀ k, k < 6 → parseFieldDescriptor (TX6 k).2.2.1 = some (tyX6 k) := by decide +kernel
abbrev cX6_init : ByteArray := prog_8_method_1_code
def yX6_init : MethodName := ⟨RX6, "<init>", "(I)V"⟩
abbrev cX6_weigh : ByteArray := prog_8_method_2_code
def yX6_weigh : MethodName := ⟨RX6, "weigh", "(LSummerHouses$Quarter;LSummerHouses$State;I)V"⟩
abbrev cX6_fewestBest : ByteArray := prog_8_method_3_code
def yX6_fewestBest : MethodName := ⟨RX6, "fewestBest", "(II)I"⟩
abbrev cX6_leastLoss : ByteArray := prog_8_method_4_code
def yX6_leastLoss : MethodName := ⟨RX6, "leastLoss", "(I)I"⟩
abbrev cX6_shareOut : ByteArray := prog_8_method_5_code
def yX6_shareOut : MethodName := ⟨RX6, "shareOut", "(I)V"⟩
abbrev cX6_givenTo : ByteArray := prog_8_method_6_code
def yX6_givenTo : MethodName := ⟨RX6, "givenTo", "(I)I"⟩
abbrev cX6_burnGiven : ByteArray := prog_8_method_7_code
def yX6_burnGiven : MethodName := ⟨RX6, "burnGiven", "(LSummerHouses$Quarter;LSummerHouses$State;LSummerHouses$State;)V"⟩
def RX7 : String := "SummerHouses$State"
def TX7 : u_T := fun k => match k with
  | 0 => ("SummerHouses$State", "cells", "[I", true)
  | 1 => ("SummerHouses$State", "day", "I", false)
  | 2 => ("SummerHouses$State", "coals", "I", false)
  | 3 => ("SummerHouses$State", "burntSoFar", "I", false)
  | _ => ("SummerHouses$State", "cuttings", "I", false)
def tyX7 : Nat → FieldType := fun k => match k with
  | 0 => .array .int
  | 1 => .int
  | 2 => .int
  | 3 => .int
  | _ => .int
abbrev wsX70 : List Cond := u_ws RX7 TX7 5
theorem nmX7 : ∀ a, a < 5 → ∀ b, b < 5 → a ≠ b → (TX7 a).2.1 ≠ (TX7 b).2.1 := by decide +kernel
theorem tyX7_ok : ∀ k, k < 5 → parseFieldDescriptor (TX7 k).2.2.1 = some (tyX7 k) := by decide +kernel
abbrev cX7_init : ByteArray := prog_9_method_1_code
def yX7_init : MethodName := ⟨RX7, "<init>", "()V"⟩
abbrev cX7_get : ByteArray := prog_9_method_2_code
def yX7_get : MethodName := ⟨RX7, "get", "(II)I"⟩
abbrev cX7_set : ByteArray := prog_9_method_3_code
def yX7_set : MethodName := ⟨RX7, "set", "(III)V"⟩
abbrev cX7_copyFrom : ByteArray := prog_9_method_4_code
def yX7_copyFrom : MethodName := ⟨RX7, "copyFrom", "(LSummerHouses$State;)V"⟩
abbrev cX7_sumOf : ByteArray := prog_9_method_5_code
def yX7_sumOf : MethodName := ⟨RX7, "sumOf", "(I)I"⟩
abbrev cX7_bitsOf : ByteArray := prog_9_method_6_code
def yX7_bitsOf : MethodName := ⟨RX7, "bitsOf", "(III)I"⟩
abbrev cX7_keptApart : ByteArray := prog_9_method_7_code
def yX7_keptApart : MethodName := ⟨RX7, "keptApart", "(II)I"⟩
def RX8 : String := "SummerHouses$Tokens"
def TX8 : u_T := fun k => match k with
  | 0 => ("SummerHouses$Tokens", "words", "[J", true)
  | 1 => ("SummerHouses$Tokens", "kinds", "[I", true)
  | 2 => ("SummerHouses$Tokens", "values", "[J", true)
  | 3 => ("SummerHouses$Tokens", "places", "[I", true)
  | _ => ("SummerHouses$Tokens", "size", "I", false)
def tyX8 : Nat → FieldType := fun k => match k with
  | 0 => .array .long
  | 1 => .array .int
  | 2 => .array .long
  | 3 => .array .int
  | _ => .int
abbrev wsX80 : List Cond := u_ws RX8 TX8 5
theorem nmX8 : ∀ a, a < 5 → ∀ b, b < 5 → a ≠ b → (TX8 a).2.1 ≠ (TX8 b).2.1 := by decide +kernel
theorem tyX8_ok : ∀ k, k < 5 → parseFieldDescriptor (TX8 k).2.2.1 = some (tyX8 k) := by decide +kernel
abbrev cX8_init : ByteArray := prog_10_method_1_code
def yX8_init : MethodName := ⟨RX8, "<init>", "()V"⟩
abbrev cX8_split : ByteArray := prog_10_method_2_code
def yX8_split : MethodName := ⟨RX8, "split", "([BI)V"⟩
abbrev cX8_endOfBlanks : ByteArray := prog_10_method_3_code
def yX8_endOfBlanks : MethodName := ⟨RX8, "endOfBlanks", "([BII)I"⟩
abbrev cX8_endOfRun : ByteArray := prog_10_method_4_code
def yX8_endOfRun : MethodName := ⟨RX8, "endOfRun", "([BII)I"⟩
abbrev cX8_putToken : ByteArray := prog_10_method_5_code
def yX8_putToken : MethodName := ⟨RX8, "putToken", "([BII)V"⟩
abbrev cX8_nameOf : ByteArray := prog_10_method_6_code
def yX8_nameOf : MethodName := ⟨RX8, "nameOf", "([BII)J"⟩
abbrev cX8_numberOf : ByteArray := prog_10_method_7_code
def yX8_numberOf : MethodName := ⟨RX8, "numberOf", "([BII)J"⟩
abbrev cX8_kindOfName : ByteArray := prog_10_method_8_code
def yX8_kindOfName : MethodName := ⟨RX8, "kindOfName", "(J)I"⟩
abbrev cX8_isBlank : ByteArray := prog_10_method_9_code
def yX8_isBlank : MethodName := ⟨RX8, "isBlank", "(B)Z"⟩
abbrev cX8_isLetter : ByteArray := prog_10_method_10_code
def yX8_isLetter : MethodName := ⟨RX8, "isLetter", "(B)Z"⟩
abbrev cX8_isDigit : ByteArray := prog_10_method_11_code
def yX8_isDigit : MethodName := ⟨RX8, "isDigit", "(B)Z"⟩
def RX9 : String := "SummerHouses$Told"
def TX9 : u_T := fun k => match k with
  | 0 => ("SummerHouses$Told", "marks", "[I", true)
  | 1 => ("SummerHouses$Told", "values", "[I", true)
  | 2 => ("SummerHouses$Told", "so", "[Z", true)
  | _ => ("SummerHouses$Told", "size", "I", false)
def tyX9 : Nat → FieldType := fun k => match k with
  | 0 => .array .int
  | 1 => .array .int
  | 2 => .array .boolean
  | _ => .int
abbrev wsX90 : List Cond := u_ws RX9 TX9 4
theorem nmX9 : ∀ a, a < 4 → ∀ b, b < 4 → a ≠ b → (TX9 a).2.1 ≠ (TX9 b).2.1 := by decide +kernel
theorem tyX9_ok : ∀ k, k < 4 → parseFieldDescriptor (TX9 k).2.2.1 = some (tyX9 k) := by decide +kernel
abbrev cX9_init : ByteArray := prog_11_method_1_code
def yX9_init : MethodName := ⟨RX9, "<init>", "()V"⟩
abbrev cX9_add : ByteArray := prog_11_method_2_code
def yX9_add : MethodName := ⟨RX9, "add", "(IIZ)I"⟩
abbrev cX9_isAtLeast : ByteArray := prog_11_method_3_code
def yX9_isAtLeast : MethodName := ⟨RX9, "isAtLeast", "(LSummerHouses$State;III)Z"⟩
abbrev cX9_fitting : ByteArray := prog_11_method_4_code
def yX9_fitting : MethodName := ⟨RX9, "fitting", "(LSummerHouses$State;II)I"⟩
abbrev cX9_bestMark : ByteArray := prog_11_method_5_code
def yX9_bestMark : MethodName := ⟨RX9, "bestMark", "(LSummerHouses$State;II)I"⟩
abbrev cX9_leftAtWorst : ByteArray := prog_11_method_6_code
def yX9_leftAtWorst : MethodName := ⟨RX9, "leftAtWorst", "(LSummerHouses$State;III)I"⟩
def RX10 : String := "SummerHouses$Way"
def TX10 : u_T := fun k => match k with
  | 0 => ("SummerHouses$Way", "going", "[I", true)
  | 1 => ("SummerHouses$Way", "best", "[I", true)
  | _ => ("SummerHouses$Way", "shortest", "I", false)
def tyX10 : Nat → FieldType := fun k => match k with
  | 0 => .array .int
  | 1 => .array .int
  | _ => .int
abbrev wsX100 : List Cond := u_ws RX10 TX10 3
theorem nmX10 : ∀ a, a < 3 → ∀ b, b < 3 → a ≠ b → (TX10 a).2.1 ≠ (TX10 b).2.1 := by decide +kernel
theorem tyX10_ok : ∀ k, k < 3 → parseFieldDescriptor (TX10 k).2.2.1 = some (tyX10 k) := by decide +kernel
abbrev cX10_init : ByteArray := prog_12_method_1_code
def yX10_init : MethodName := ⟨RX10, "<init>", "()V"⟩
abbrev cX10_search : ByteArray := prog_12_method_2_code
def yX10_search : MethodName := ⟨RX10, "search", "(LSummerHouses$Quarter;I)V"⟩
abbrev cX10_goOn : ByteArray := prog_12_method_3_code
def yX10_goOn : MethodName := ⟨RX10, "goOn", "(LSummerHouses$Quarter;III)V"⟩
def RX11 : String := "SummerHouses"
def TX11 : u_T := fun k => match k with
  | 0 => ("SummerHouses", "tape", "[B", true)
  | 1 => ("SummerHouses", "reader", "LSummerHouses$Reader;", true)
  | 2 => ("SummerHouses", "quarter", "LSummerHouses$Quarter;", true)
  | 3 => ("SummerHouses", "now", "LSummerHouses$State;", true)
  | 4 => ("SummerHouses", "ahead", "LSummerHouses$State;", true)
  | 5 => ("SummerHouses", "further", "LSummerHouses$State;", true)
  | 6 => ("SummerHouses", "history", "LSummerHouses$History;", true)
  | 7 => ("SummerHouses", "today", "LSummerHouses$Shares;", true)
  | 8 => ("SummerHouses", "tomorrow", "LSummerHouses$Shares;", true)
  | 9 => ("SummerHouses", "lastDay", "LSummerHouses$Shares;", true)
  | 10 => ("SummerHouses", "way", "LSummerHouses$Way;", true)
  | 11 => ("SummerHouses", "cover", "LSummerHouses$Roofs;", true)
  | 12 => ("SummerHouses", "pairs", "LSummerHouses$Pairs;", true)
  | 13 => ("SummerHouses", "told", "LSummerHouses$Told;", true)
  | 14 => ("SummerHouses", "planned", "[I", true)
  | 15 => ("SummerHouses", "tapeSize", "I", false)
  | _ => ("SummerHouses", "faultPlace", "I", false)
def tyX11 : Nat → FieldType := fun k => match k with
  | 0 => .array .byte
  | 1 => .object "SummerHouses$Reader"
  | 2 => .object "SummerHouses$Quarter"
  | 3 => .object "SummerHouses$State"
  | 4 => .object "SummerHouses$State"
  | 5 => .object "SummerHouses$State"
  | 6 => .object "SummerHouses$History"
  | 7 => .object "SummerHouses$Shares"
  | 8 => .object "SummerHouses$Shares"
  | 9 => .object "SummerHouses$Shares"
  | 10 => .object "SummerHouses$Way"
  | 11 => .object "SummerHouses$Roofs"
  | 12 => .object "SummerHouses$Pairs"
  | 13 => .object "SummerHouses$Told"
  | 14 => .array .int
  | 15 => .int
  | _ => .int
abbrev wsX110 : List Cond := u_ws RX11 TX11 17
theorem nmX11 : ∀ a, a < 17 → ∀ b, b < 17 → a ≠ b → (TX11 a).2.1 ≠ (TX11 b).2.1 := by decide +kernel
theorem tyX11_ok : ∀ k, k < 17 → parseFieldDescriptor (TX11 k).2.2.1 = some (tyX11 k) := by decide +kernel
abbrev cX11_init : ByteArray := prog_1_method_1_code
def yX11_init : MethodName := ⟨RX11, "<init>", "()V"⟩
abbrev cX11_feed : ByteArray := prog_1_method_2_code
def yX11_feed : MethodName := ⟨RX11, "feed", "(IIIII)I"⟩
abbrev cX11_putWord : ByteArray := prog_1_method_3_code
def yX11_putWord : MethodName := ⟨RX11, "putWord", "(I)V"⟩
abbrev cX11_back : ByteArray := prog_1_method_4_code
def yX11_back : MethodName := ⟨RX11, "back", "(I)I"⟩
abbrev cX11_read : ByteArray := prog_1_method_5_code
def yX11_read : MethodName := ⟨RX11, "read", "()I"⟩
abbrev cX11_place : ByteArray := prog_1_method_6_code
def yX11_place : MethodName := ⟨RX11, "place", "()I"⟩
abbrev cX11_house : ByteArray := prog_1_method_7_code
def yX11_house : MethodName := ⟨RX11, "house", "(II)I"⟩
abbrev cX11_isHouse : ByteArray := prog_1_method_8_code
def yX11_isHouse : MethodName := ⟨RX11, "isHouse", "(I)Z"⟩
abbrev cX11_count : ByteArray := prog_1_method_9_code
def yX11_count : MethodName := ⟨RX11, "count", "(I)I"⟩
abbrev cX11_lossOfAll : ByteArray := prog_1_method_10_code
def yX11_lossOfAll : MethodName := ⟨RX11, "lossOfAll", "()I"⟩
abbrev cX11_summers : ByteArray := prog_1_method_11_code
def yX11_summers : MethodName := ⟨RX11, "summers", "(I)I"⟩
abbrev cX11_burn : ByteArray := prog_1_method_12_code
def yX11_burn : MethodName := ⟨RX11, "burn", "(II)I"⟩
abbrev cX11_door : ByteArray := prog_1_method_13_code
def yX11_door : MethodName := ⟨RX11, "door", "(IZ)Z"⟩
abbrev cX11_mend : ByteArray := prog_1_method_14_code
def yX11_mend : MethodName := ⟨RX11, "mend", "(I)I"⟩
abbrev cX11_cut : ByteArray := prog_1_method_15_code
def yX11_cut : MethodName := ⟨RX11, "cut", "(II)I"⟩
abbrev cX11_bring : ByteArray := prog_1_method_16_code
def yX11_bring : MethodName := ⟨RX11, "bring", "(I)I"⟩
abbrev cX11_days : ByteArray := prog_1_method_17_code
def yX11_days : MethodName := ⟨RX11, "days", "(I)I"⟩
abbrev cX11_undo : ByteArray := prog_1_method_18_code
def yX11_undo : MethodName := ⟨RX11, "undo", "()Z"⟩
abbrev cX11_hold : ByteArray := prog_1_method_19_code
def yX11_hold : MethodName := ⟨RX11, "hold", "(I)Z"⟩
abbrev cX11_restore : ByteArray := prog_1_method_20_code
def yX11_restore : MethodName := ⟨RX11, "restore", "(I)Z"⟩
abbrev cX11_loss : ByteArray := prog_1_method_21_code
def yX11_loss : MethodName := ⟨RX11, "loss", "(II)I"⟩
abbrev cX11_lossWith : ByteArray := prog_1_method_22_code
def yX11_lossWith : MethodName := ⟨RX11, "lossWith", "(II)I"⟩
abbrev cX11_share : ByteArray := prog_1_method_23_code
def yX11_share : MethodName := ⟨RX11, "share", "(II)I"⟩
abbrev cX11_enough : ByteArray := prog_1_method_24_code
def yX11_enough : MethodName := ⟨RX11, "enough", "()I"⟩
abbrev cX11_coalsNeeded : ByteArray := prog_1_method_25_code
def yX11_coalsNeeded : MethodName := ⟨RX11, "coalsNeeded", "(LSummerHouses$State;I)I"⟩
abbrev cX11_plan : ByteArray := prog_1_method_26_code
def yX11_plan : MethodName := ⟨RX11, "plan", "(II)I"⟩
abbrev cX11_keptByPlan : ByteArray := prog_1_method_27_code
def yX11_keptByPlan : MethodName := ⟨RX11, "keptByPlan", "(II)I"⟩
abbrev cX11_worst : ByteArray := prog_1_method_28_code
def yX11_worst : MethodName := ⟨RX11, "worst", "(I)I"⟩
abbrev cX11_lasts : ByteArray := prog_1_method_29_code
def yX11_lasts : MethodName := ⟨RX11, "lasts", "()I"⟩
abbrev cX11_gone : ByteArray := prog_1_method_30_code
def yX11_gone : MethodName := ⟨RX11, "gone", "(I)I"⟩
abbrev cX11_cold : ByteArray := prog_1_method_31_code
def yX11_cold : MethodName := ⟨RX11, "cold", "(I)I"⟩
abbrev cX11_daysTillNothing : ByteArray := prog_1_method_32_code
def yX11_daysTillNothing : MethodName := ⟨RX11, "daysTillNothing", "(II)I"⟩
abbrev cX11_saves : ByteArray := prog_1_method_33_code
def yX11_saves : MethodName := ⟨RX11, "saves", "(I)I"⟩
abbrev cX11_savedByOne : ByteArray := prog_1_method_34_code
def yX11_savedByOne : MethodName := ⟨RX11, "savedByOne", "(I)I"⟩
abbrev cX11_first : ByteArray := prog_1_method_35_code
def yX11_first : MethodName := ⟨RX11, "first", "()I"⟩
abbrev cX11_draughty : ByteArray := prog_1_method_36_code
def yX11_draughty : MethodName := ⟨RX11, "draughty", "(I)I"⟩
abbrev cX11_then : ByteArray := prog_1_method_37_code
def yX11_then : MethodName := ⟨RX11, "then", "(III)I"⟩
abbrev cX11_lookAhead : ByteArray := prog_1_method_38_code
def yX11_lookAhead : MethodName := ⟨RX11, "lookAhead", "(III)V"⟩
abbrev cX11_year : ByteArray := prog_1_method_39_code
def yX11_year : MethodName := ⟨RX11, "year", "(III)I"⟩
abbrev cX11_far : ByteArray := prog_1_method_40_code
def yX11_far : MethodName := ⟨RX11, "far", "(II)I"⟩
abbrev cX11_round : ByteArray := prog_1_method_41_code
def yX11_round : MethodName := ⟨RX11, "round", "(I)I"⟩
abbrev cX11_next : ByteArray := prog_1_method_42_code
def yX11_next : MethodName := ⟨RX11, "next", "(II)I"⟩
abbrev cX11_pipes : ByteArray := prog_1_method_43_code
def yX11_pipes : MethodName := ⟨RX11, "pipes", "()I"⟩
abbrev cX11_nearestToJoined : ByteArray := prog_1_method_44_code
def yX11_nearestToJoined : MethodName := ⟨RX11, "nearestToJoined", "(I)I"⟩
abbrev cX11_distanceToJoined : ByteArray := prog_1_method_45_code
def yX11_distanceToJoined : MethodName := ⟨RX11, "distanceToJoined", "(II)I"⟩
abbrev cX11_nearest : ByteArray := prog_1_method_46_code
def yX11_nearest : MethodName := ⟨RX11, "nearest", "(I)I"⟩
abbrev cX11_twins : ByteArray := prog_1_method_47_code
def yX11_twins : MethodName := ⟨RX11, "twins", "(I)I"⟩
abbrev cX11_roofs : ByteArray := prog_1_method_48_code
def yX11_roofs : MethodName := ⟨RX11, "roofs", "(I)I"⟩
abbrev cX11_paired : ByteArray := prog_1_method_49_code
def yX11_paired : MethodName := ⟨RX11, "paired", "(I)I"⟩
abbrev cX11_tell : ByteArray := prog_1_method_50_code
def yX11_tell : MethodName := ⟨RX11, "tell", "(IIZ)I"⟩
abbrev cX11_forget : ByteArray := prog_1_method_51_code
def yX11_forget : MethodName := ⟨RX11, "forget", "()I"⟩
abbrev cX11_whose : ByteArray := prog_1_method_52_code
def yX11_whose : MethodName := ⟨RX11, "whose", "(II)I"⟩
abbrev cX11_look : ByteArray := prog_1_method_53_code
def yX11_look : MethodName := ⟨RX11, "look", "(II)I"⟩
def RX12 : String := "SummerHousesModel"
def TX12 : u_T := fun k => match k with
  | 0 => ("SummerHousesModel", "thrown", "I", false)
  | 1 => ("SummerHousesModel", "tape", "[B", true)
  | 2 => ("SummerHousesModel", "taped", "I", false)
  | 3 => ("SummerHousesModel", "text", "[B", true)
  | 4 => ("SummerHousesModel", "size", "I", false)
  | 5 => ("SummerHousesModel", "tKind", "[I", true)
  | 6 => ("SummerHousesModel", "tPlace", "[I", true)
  | 7 => ("SummerHousesModel", "tValue", "[I", true)
  | 8 => ("SummerHousesModel", "tName", "[J", true)
  | 9 => ("SummerHousesModel", "keys", "[J", true)
  | 10 => ("SummerHousesModel", "tokens", "I", false)
  | 11 => ("SummerHousesModel", "t", "I", false)
  | 12 => ("SummerHousesModel", "open", "I", false)
  | 13 => ("SummerHousesModel", "fault", "I", false)
  | 14 => ("SummerHousesModel", "faultPlace", "I", false)
  | 15 => ("SummerHousesModel", "worst", "I", false)
  | 16 => ("SummerHousesModel", "worstPlace", "I", false)
  | 17 => ("SummerHousesModel", "place", "I", false)
  | 18 => ("SummerHousesModel", "live", "I", false)
  | 19 => ("SummerHousesModel", "side", "I", false)
  | 20 => ("SummerHousesModel", "nameOf", "[J", true)
  | 21 => ("SummerHousesModel", "houses", "[I", true)
  | 22 => ("SummerHousesModel", "panesOf", "[I", true)
  | 23 => ("SummerHousesModel", "heatTold", "[I", true)
  | 24 => ("SummerHousesModel", "keptTold", "[I", true)
  | 25 => ("SummerHousesModel", "xOf", "[I", true)
  | 26 => ("SummerHousesModel", "yOf", "[I", true)
  | 27 => ("SummerHousesModel", "coalsTold", "[I", true)
  | 28 => ("SummerHousesModel", "roof", "[I", true)
  | 29 => ("SummerHousesModel", "hail", "[I", true)
  | 30 => ("SummerHousesModel", "seed", "[I", true)
  | 31 => ("SummerHousesModel", "lawFirst", "[I", true)
  | 32 => ("SummerHousesModel", "lawLast", "[I", true)
  | 33 => ("SummerHousesModel", "branches", "I", false)
  | 34 => ("SummerHousesModel", "hasTest", "[Z", true)
  | 35 => ("SummerHousesModel", "testFrom", "[I", true)
  | 36 => ("SummerHousesModel", "testMid", "[I", true)
  | 37 => ("SummerHousesModel", "testTo", "[I", true)
  | 38 => ("SummerHousesModel", "termTo", "[I", true)
  | 39 => ("SummerHousesModel", "codes", "I", false)
  | 40 => ("SummerHousesModel", "code", "[I", true)
  | 41 => ("SummerHousesModel", "codeInt", "[I", true)
  | 42 => ("SummerHousesModel", "waits", "[I", true)
  | 43 => ("SummerHousesModel", "waiting", "I", false)
  | 44 => ("SummerHousesModel", "variables", "[I", true)
  | 45 => ("SummerHousesModel", "pile", "[I", true)
  | 46 => ("SummerHousesModel", "isBroken", "Z", false)
  | 47 => ("SummerHousesModel", "now", "[I", true)
  | 48 => ("SummerHousesModel", "row", "[I", true)
  | 49 => ("SummerHousesModel", "lots", "I", false)
  | 50 => ("SummerHousesModel", "isStill", "Z", false)
  | 51 => ("SummerHousesModel", "fadesNow", "[I", true)
  | 52 => ("SummerHousesModel", "chillNow", "[I", true)
  | 53 => ("SummerHousesModel", "undos", "I", false)
  | 54 => ("SummerHousesModel", "history", "[I", true)
  | 55 => ("SummerHousesModel", "lossBy", "[I", true)
  | 56 => ("SummerHousesModel", "leastBy", "[I", true)
  | 57 => ("SummerHousesModel", "dayOne", "[I", true)
  | 58 => ("SummerHousesModel", "restBy", "[I", true)
  | 59 => ("SummerHousesModel", "roofOf", "[I", true)
  | 60 => ("SummerHousesModel", "bestRoof", "[I", true)
  | 61 => ("SummerHousesModel", "panesUnder", "[I", true)
  | 62 => ("SummerHousesModel", "pairedBy", "[I", true)
  | 63 => ("SummerHousesModel", "tolds", "I", false)
  | 64 => ("SummerHousesModel", "toldMark", "[I", true)
  | 65 => ("SummerHousesModel", "toldBy", "[I", true)
  | 66 => ("SummerHousesModel", "toldSo", "[Z", true)
  | 67 => ("SummerHousesModel", "isHeld", "[Z", true)
  | _ => ("SummerHousesModel", "heldRows", "[I", true)
def tyX12 : Nat → FieldType := fun k => match k with
  | 0 => .int
  | 1 => .array .byte
  | 2 => .int
  | 3 => .array .byte
  | 4 => .int
  | 5 => .array .int
  | 6 => .array .int
  | 7 => .array .int
  | 8 => .array .long
  | 9 => .array .long
  | 10 => .int
  | 11 => .int
  | 12 => .int
  | 13 => .int
  | 14 => .int
  | 15 => .int
  | 16 => .int
  | 17 => .int
  | 18 => .int
  | 19 => .int
  | 20 => .array .long
  | 21 => .array .int
  | 22 => .array .int
  | 23 => .array .int
  | 24 => .array .int
  | 25 => .array .int
  | 26 => .array .int
  | 27 => .array .int
  | 28 => .array .int
  | 29 => .array .int
  | 30 => .array .int
  | 31 => .array .int
  | 32 => .array .int
  | 33 => .int
  | 34 => .array .boolean
  | 35 => .array .int
  | 36 => .array .int
  | 37 => .array .int
  | 38 => .array .int
  | 39 => .int
  | 40 => .array .int
  | 41 => .array .int
  | 42 => .array .int
  | 43 => .int
  | 44 => .array .int
  | 45 => .array .int
  | 46 => .boolean
  | 47 => .array .int
  | 48 => .array .int
  | 49 => .int
  | 50 => .boolean
  | 51 => .array .int
  | 52 => .array .int
  | 53 => .int
  | 54 => .array .int
  | 55 => .array .int
  | 56 => .array .int
  | 57 => .array .int
  | 58 => .array .int
  | 59 => .array .int
  | 60 => .array .int
  | 61 => .array .int
  | 62 => .array .int
  | 63 => .int
  | 64 => .array .int
  | 65 => .array .int
  | 66 => .array .boolean
  | 67 => .array .boolean
  | _ => .array .int
abbrev wsX120 : List Cond := u_ws RX12 TX12 69
theorem nmX12 : ∀ a, a < 69 → ∀ b, b < 69 → a ≠ b → (TX12 a).2.1 ≠ (TX12 b).2.1 := by decide +kernel
theorem tyX12_ok : ∀ k, k < 69 → parseFieldDescriptor (TX12 k).2.2.1 = some (tyX12 k) := by decide +kernel
abbrev cX12_init : ByteArray := prog_14_method_2_code
def yX12_init : MethodName := ⟨RX12, "<init>", "()V"⟩
abbrev cX12_feed : ByteArray := prog_14_method_3_code
def yX12_feed : MethodName := ⟨RX12, "feed", "(IIIII)I"⟩
abbrev cX12_put : ByteArray := prog_14_method_4_code
def yX12_put : MethodName := ⟨RX12, "put", "(I)V"⟩
abbrev cX12_back : ByteArray := prog_14_method_5_code
def yX12_back : MethodName := ⟨RX12, "back", "(I)I"⟩
abbrev cX12_byteAt : ByteArray := prog_14_method_6_code
def yX12_byteAt : MethodName := ⟨RX12, "byteAt", "(I)I"⟩
abbrev cX12_isDigit : ByteArray := prog_14_method_7_code
def yX12_isDigit : MethodName := ⟨RX12, "isDigit", "(I)Z"⟩
abbrev cX12_isLetter : ByteArray := prog_14_method_8_code
def yX12_isLetter : MethodName := ⟨RX12, "isLetter", "(I)Z"⟩
abbrev cX12_appends : ByteArray := prog_14_method_9_code
def yX12_appends : MethodName := ⟨RX12, "appends", "(JI)J"⟩
abbrev cX12_word : ByteArray := prog_14_method_10_code
def yX12_word : MethodName := ⟨RX12, "word", "(IIIIIII)J"⟩
abbrev cX12_token : ByteArray := prog_14_method_11_code
def yX12_token : MethodName := ⟨RX12, "token", "(IIIJ)V"⟩
abbrev cX12_cutsUp : ByteArray := prog_14_method_12_code
def yX12_cutsUp : MethodName := ⟨RX12, "cutsUp", "()V"⟩
abbrev cX12_sign : ByteArray := prog_14_method_13_code
def yX12_sign : MethodName := ⟨RX12, "sign", "(III)I"⟩
abbrev cX12_is : ByteArray := prog_14_method_14_code
def yX12_is : MethodName := ⟨RX12, "is", "(I)Z"⟩
abbrev cX12_fail : ByteArray := prog_14_method_15_code
def yX12_fail : MethodName := ⟨RX12, "fail", "(I)V"⟩
abbrev cX12_wrong : ByteArray := prog_14_method_16_code
def yX12_wrong : MethodName := ⟨RX12, "wrong", "(II)V"⟩
abbrev cX12_goesOn : ByteArray := prog_14_method_17_code
def yX12_goesOn : MethodName := ⟨RX12, "goesOn", "()V"⟩
abbrev cX12_must : ByteArray := prog_14_method_18_code
def yX12_must : MethodName := ⟨RX12, "must", "(I)V"⟩
abbrev cX12_plain : ByteArray := prog_14_method_19_code
def yX12_plain : MethodName := ⟨RX12, "plain", "(I)V"⟩
abbrev cX12_read : ByteArray := prog_14_method_20_code
def yX12_read : MethodName := ⟨RX12, "read", "()I"⟩
abbrev cX12_place : ByteArray := prog_14_method_21_code
def yX12_place : MethodName := ⟨RX12, "place", "()I"⟩
abbrev cX12_toldInt : ByteArray := prog_14_method_22_code
def yX12_toldInt : MethodName := ⟨RX12, "toldInt", "(II)I"⟩
abbrev cX12_tellOne : ByteArray := prog_14_method_23_code
def yX12_tellOne : MethodName := ⟨RX12, "tellOne", "()V"⟩
abbrev cX12_bounded : ByteArray := prog_14_method_24_code
def yX12_bounded : MethodName := ⟨RX12, "bounded", "(II)I"⟩
abbrev cX12_tellHouse : ByteArray := prog_14_method_25_code
def yX12_tellHouse : MethodName := ⟨RX12, "tellHouse", "()V"⟩
abbrev cX12_tellLaw : ByteArray := prog_14_method_26_code
def yX12_tellLaw : MethodName := ⟨RX12, "tellLaw", "(I)V"⟩
abbrev cX12_term : ByteArray := prog_14_method_27_code
def yX12_term : MethodName := ⟨RX12, "term", "()V"⟩
abbrev cX12_emit : ByteArray := prog_14_method_28_code
def yX12_emit : MethodName := ⟨RX12, "emit", "(II)V"⟩
abbrev cX12_comesOut : ByteArray := prog_14_method_29_code
def yX12_comesOut : MethodName := ⟨RX12, "comesOut", "(Z)V"⟩
abbrev cX12_expression : ByteArray := prog_14_method_30_code
def yX12_expression : MethodName := ⟨RX12, "expression", "()V"⟩
abbrev cX12_unit : ByteArray := prog_14_method_31_code
def yX12_unit : MethodName := ⟨RX12, "unit", "()V"⟩
abbrev cX12_termOf : ByteArray := prog_14_method_32_code
def yX12_termOf : MethodName := ⟨RX12, "termOf", "(II)I"⟩
abbrev cX12_in : ByteArray := prog_14_method_33_code
def yX12_in : MethodName := ⟨RX12, "in", "(III)Z"⟩
abbrev cX12_within : ByteArray := prog_14_method_34_code
def yX12_within : MethodName := ⟨RX12, "within", "(III)I"⟩
abbrev cX12_bits : ByteArray := prog_14_method_35_code
def yX12_bits : MethodName := ⟨RX12, "bits", "(I)I"⟩
abbrev cX12_off : ByteArray := prog_14_method_36_code
def yX12_off : MethodName := ⟨RX12, "off", "(II)I"⟩
abbrev cX12_many : ByteArray := prog_14_method_37_code
def yX12_many : MethodName := ⟨RX12, "many", "()I"⟩
abbrev cX12_isHouse : ByteArray := prog_14_method_38_code
def yX12_isHouse : MethodName := ⟨RX12, "isHouse", "(I)Z"⟩
abbrev cX12_panesAt : ByteArray := prog_14_method_39_code
def yX12_panesAt : MethodName := ⟨RX12, "panesAt", "(I)I"⟩
abbrev cX12_begins : ByteArray := prog_14_method_40_code
def yX12_begins : MethodName := ⟨RX12, "begins", "()V"⟩
abbrev cX12_keepsRow : ByteArray := prog_14_method_41_code
def yX12_keepsRow : MethodName := ⟨RX12, "keepsRow", "()V"⟩
abbrev cX12_copies : ByteArray := prog_14_method_42_code
def yX12_copies : MethodName := ⟨RX12, "copies", "()V"⟩
abbrev cX12_copiesStill : ByteArray := prog_14_method_43_code
def yX12_copiesStill : MethodName := ⟨RX12, "copiesStill", "()V"⟩
abbrev cX12_mixed : ByteArray := prog_14_method_44_code
def yX12_mixed : MethodName := ⟨RX12, "mixed", "(II)I"⟩
abbrev cX12_lotOf : ByteArray := prog_14_method_45_code
def yX12_lotOf : MethodName := ⟨RX12, "lotOf", "(II)I"⟩
abbrev cX12_isHail : ByteArray := prog_14_method_46_code
def yX12_isHail : MethodName := ⟨RX12, "isHail", "()Z"⟩
abbrev cX12_lawTells : ByteArray := prog_14_method_47_code
def yX12_lawTells : MethodName := ⟨RX12, "lawTells", "(II)I"⟩
abbrev cX12_lawOf : ByteArray := prog_14_method_48_code
def yX12_lawOf : MethodName := ⟨RX12, "lawOf", "(IIII)I"⟩
abbrev cX12_coolsOf : ByteArray := prog_14_method_49_code
def yX12_coolsOf : MethodName := ⟨RX12, "coolsOf", "(I)I"⟩
abbrev cX12_warmsOf : ByteArray := prog_14_method_50_code
def yX12_warmsOf : MethodName := ⟨RX12, "warmsOf", "(I)I"⟩
abbrev cX12_fadesOf : ByteArray := prog_14_method_51_code
def yX12_fadesOf : MethodName := ⟨RX12, "fadesOf", "(I)I"⟩
abbrev cX12_mendsOf : ByteArray := prog_14_method_52_code
def yX12_mendsOf : MethodName := ⟨RX12, "mendsOf", "(I)I"⟩
abbrev cX12_chillOf : ByteArray := prog_14_method_53_code
def yX12_chillOf : MethodName := ⟨RX12, "chillOf", "(I)I"⟩
abbrev cX12_burnsOne : ByteArray := prog_14_method_54_code
def yX12_burnsOne : MethodName := ⟨RX12, "burnsOne", "(I)V"⟩
abbrev cX12_burns : ByteArray := prog_14_method_55_code
def yX12_burns : MethodName := ⟨RX12, "burns", "(II)V"⟩
abbrev cX12_dayGoes : ByteArray := prog_14_method_56_code
def yX12_dayGoes : MethodName := ⟨RX12, "dayGoes", "()V"⟩
abbrev cX12_goes : ByteArray := prog_14_method_57_code
def yX12_goes : MethodName := ⟨RX12, "goes", "(I)V"⟩
abbrev cX12_house : ByteArray := prog_14_method_58_code
def yX12_house : MethodName := ⟨RX12, "house", "(II)I"⟩
abbrev cX12_records : ByteArray := prog_14_method_59_code
def yX12_records : MethodName := ⟨RX12, "records", "()V"⟩
abbrev cX12_burn : ByteArray := prog_14_method_60_code
def yX12_burn : MethodName := ⟨RX12, "burn", "(II)I"⟩
abbrev cX12_door : ByteArray := prog_14_method_61_code
def yX12_door : MethodName := ⟨RX12, "door", "(IZ)Z"⟩
abbrev cX12_mend : ByteArray := prog_14_method_62_code
def yX12_mend : MethodName := ⟨RX12, "mend", "(I)I"⟩
abbrev cX12_cut : ByteArray := prog_14_method_63_code
def yX12_cut : MethodName := ⟨RX12, "cut", "(II)I"⟩
abbrev cX12_bring : ByteArray := prog_14_method_64_code
def yX12_bring : MethodName := ⟨RX12, "bring", "(I)I"⟩
abbrev cX12_isLong : ByteArray := prog_14_method_65_code
def yX12_isLong : MethodName := ⟨RX12, "isLong", "(I)Z"⟩
abbrev cX12_days : ByteArray := prog_14_method_66_code
def yX12_days : MethodName := ⟨RX12, "days", "(I)I"⟩
abbrev cX12_undo : ByteArray := prog_14_method_67_code
def yX12_undo : MethodName := ⟨RX12, "undo", "()Z"⟩
abbrev cX12_fillsLoss : ByteArray := prog_14_method_68_code
def yX12_fillsLoss : MethodName := ⟨RX12, "fillsLoss", "(I)V"⟩
abbrev cX12_lossWith : ByteArray := prog_14_method_69_code
def yX12_lossWith : MethodName := ⟨RX12, "lossWith", "(III)I"⟩
abbrev cX12_fillsShare : ByteArray := prog_14_method_70_code
def yX12_fillsShare : MethodName := ⟨RX12, "fillsShare", "(I)V"⟩
abbrev cX12_shareFor : ByteArray := prog_14_method_71_code
def yX12_shareFor : MethodName := ⟨RX12, "shareFor", "(II)I"⟩
abbrev cX12_isSmall : ByteArray := prog_14_method_72_code
def yX12_isSmall : MethodName := ⟨RX12, "isSmall", "(I)Z"⟩
abbrev cX12_loss : ByteArray := prog_14_method_73_code
def yX12_loss : MethodName := ⟨RX12, "loss", "(II)I"⟩
abbrev cX12_share : ByteArray := prog_14_method_74_code
def yX12_share : MethodName := ⟨RX12, "share", "(II)I"⟩
abbrev cX12_needsOf : ByteArray := prog_14_method_75_code
def yX12_needsOf : MethodName := ⟨RX12, "needsOf", "(I)I"⟩
abbrev cX12_enough : ByteArray := prog_14_method_76_code
def yX12_enough : MethodName := ⟨RX12, "enough", "()I"⟩
abbrev cX12_keptAll : ByteArray := prog_14_method_77_code
def yX12_keptAll : MethodName := ⟨RX12, "keptAll", "()I"⟩
abbrev cX12_burnsShared : ByteArray := prog_14_method_78_code
def yX12_burnsShared : MethodName := ⟨RX12, "burnsShared", "(I)V"⟩
abbrev cX12_plan : ByteArray := prog_14_method_79_code
def yX12_plan : MethodName := ⟨RX12, "plan", "(II)I"⟩
abbrev cX12_worst : ByteArray := prog_14_method_80_code
def yX12_worst : MethodName := ⟨RX12, "worst", "(I)I"⟩
abbrev cX12_needsNow : ByteArray := prog_14_method_81_code
def yX12_needsNow : MethodName := ⟨RX12, "needsNow", "(I)I"⟩
abbrev cX12_runsOut : ByteArray := prog_14_method_82_code
def yX12_runsOut : MethodName := ⟨RX12, "runsOut", "()Z"⟩
abbrev cX12_lasts : ByteArray := prog_14_method_83_code
def yX12_lasts : MethodName := ⟨RX12, "lasts", "()I"⟩
abbrev cX12_behindNone : ByteArray := prog_14_method_84_code
def yX12_behindNone : MethodName := ⟨RX12, "behindNone", "(I)I"⟩
abbrev cX12_gone : ByteArray := prog_14_method_85_code
def yX12_gone : MethodName := ⟨RX12, "gone", "(I)I"⟩
abbrev cX12_cold : ByteArray := prog_14_method_86_code
def yX12_cold : MethodName := ⟨RX12, "cold", "(I)I"⟩
abbrev cX12_lossOf : ByteArray := prog_14_method_87_code
def yX12_lossOf : MethodName := ⟨RX12, "lossOf", "(II)I"⟩
abbrev cX12_savesOf : ByteArray := prog_14_method_88_code
def yX12_savesOf : MethodName := ⟨RX12, "savesOf", "(I)I"⟩
abbrev cX12_saves : ByteArray := prog_14_method_89_code
def yX12_saves : MethodName := ⟨RX12, "saves", "(I)I"⟩
abbrev cX12_first : ByteArray := prog_14_method_90_code
def yX12_first : MethodName := ⟨RX12, "first", "()I"⟩
abbrev cX12_farOf : ByteArray := prog_14_method_91_code
def yX12_farOf : MethodName := ⟨RX12, "farOf", "(II)I"⟩
abbrev cX12_far : ByteArray := prog_14_method_92_code
def yX12_far : MethodName := ⟨RX12, "far", "(II)I"⟩
abbrev cX12_restWith : ByteArray := prog_14_method_93_code
def yX12_restWith : MethodName := ⟨RX12, "restWith", "(III)I"⟩
abbrev cX12_fillsRest : ByteArray := prog_14_method_94_code
def yX12_fillsRest : MethodName := ⟨RX12, "fillsRest", "()V"⟩
abbrev cX12_round : ByteArray := prog_14_method_95_code
def yX12_round : MethodName := ⟨RX12, "round", "(I)I"⟩
abbrev cX12_next : ByteArray := prog_14_method_96_code
def yX12_next : MethodName := ⟨RX12, "next", "(II)I"⟩
abbrev cX12_nearestIn : ByteArray := prog_14_method_97_code
def yX12_nearestIn : MethodName := ⟨RX12, "nearestIn", "(II)I"⟩
abbrev cX12_pipes : ByteArray := prog_14_method_98_code
def yX12_pipes : MethodName := ⟨RX12, "pipes", "()I"⟩
abbrev cX12_nearest : ByteArray := prog_14_method_99_code
def yX12_nearest : MethodName := ⟨RX12, "nearest", "(I)I"⟩
abbrev cX12_unlike : ByteArray := prog_14_method_100_code
def yX12_unlike : MethodName := ⟨RX12, "unlike", "(II)I"⟩
abbrev cX12_twins : ByteArray := prog_14_method_101_code
def yX12_twins : MethodName := ⟨RX12, "twins", "(I)I"⟩
abbrev cX12_draughty : ByteArray := prog_14_method_102_code
def yX12_draughty : MethodName := ⟨RX12, "draughty", "(I)I"⟩
abbrev cX12_roofsBy : ByteArray := prog_14_method_103_code
def yX12_roofsBy : MethodName := ⟨RX12, "roofsBy", "(I)I"⟩
abbrev cX12_roofs : ByteArray := prog_14_method_104_code
def yX12_roofs : MethodName := ⟨RX12, "roofs", "(I)I"⟩
abbrev cX12_lowestOf : ByteArray := prog_14_method_105_code
def yX12_lowestOf : MethodName := ⟨RX12, "lowestOf", "(I)I"⟩
abbrev cX12_pairedWith : ByteArray := prog_14_method_106_code
def yX12_pairedWith : MethodName := ⟨RX12, "pairedWith", "(III)I"⟩
abbrev cX12_fillsPaired : ByteArray := prog_14_method_107_code
def yX12_fillsPaired : MethodName := ⟨RX12, "fillsPaired", "()V"⟩
abbrev cX12_pairedOf : ByteArray := prog_14_method_108_code
def yX12_pairedOf : MethodName := ⟨RX12, "pairedOf", "(I)I"⟩
abbrev cX12_paired : ByteArray := prog_14_method_109_code
def yX12_paired : MethodName := ⟨RX12, "paired", "(I)I"⟩
abbrev cX12_summers : ByteArray := prog_14_method_110_code
def yX12_summers : MethodName := ⟨RX12, "summers", "(I)I"⟩
abbrev cX12_then : ByteArray := prog_14_method_111_code
def yX12_then : MethodName := ⟨RX12, "then", "(III)I"⟩
abbrev cX12_year : ByteArray := prog_14_method_112_code
def yX12_year : MethodName := ⟨RX12, "year", "(III)I"⟩
abbrev cX12_tell : ByteArray := prog_14_method_113_code
def yX12_tell : MethodName := ⟨RX12, "tell", "(IIZ)I"⟩
abbrev cX12_forget : ByteArray := prog_14_method_114_code
def yX12_forget : MethodName := ⟨RX12, "forget", "()I"⟩
abbrev cX12_markOf : ByteArray := prog_14_method_115_code
def yX12_markOf : MethodName := ⟨RX12, "markOf", "(II)I"⟩
abbrev cX12_whoseBits : ByteArray := prog_14_method_116_code
def yX12_whoseBits : MethodName := ⟨RX12, "whoseBits", "(I)I"⟩
abbrev cX12_whose : ByteArray := prog_14_method_117_code
def yX12_whose : MethodName := ⟨RX12, "whose", "(II)I"⟩
abbrev cX12_look : ByteArray := prog_14_method_118_code
def yX12_look : MethodName := ⟨RX12, "look", "(II)I"⟩
abbrev cX12_hold : ByteArray := prog_14_method_119_code
def yX12_hold : MethodName := ⟨RX12, "hold", "(I)Z"⟩
abbrev cX12_restore : ByteArray := prog_14_method_120_code
def yX12_restore : MethodName := ⟨RX12, "restore", "(I)Z"⟩
abbrev cX12_sumNow : ByteArray := prog_14_method_121_code
def yX12_sumNow : MethodName := ⟨RX12, "sumNow", "(I)I"⟩
abbrev cX12_noneBits : ByteArray := prog_14_method_122_code
def yX12_noneBits : MethodName := ⟨RX12, "noneBits", "(I)I"⟩
abbrev cX12_count : ByteArray := prog_14_method_123_code
def yX12_count : MethodName := ⟨RX12, "count", "(I)I"⟩
def RJ11 : String := "java/lang/Character"
def TJ11 : u_T := fun k => match k with
  | _ => ("", "", "", false)
def tyJ11 : Nat → FieldType := fun k => match k with
  | _ => .int
abbrev wsJ110 : List Cond := u_ws RJ11 TJ11 0
theorem nmJ11 : ∀ a, a < 0 → ∀ b, b < 0 → a ≠ b → (TJ11 a).2.1 ≠ (TJ11 b).2.1 := by decide +kernel
theorem tyJ11_ok : ∀ k, k < 0 → parseFieldDescriptor (TJ11 k).2.2.1 = some (tyJ11 k) := by decide +kernel
abbrev cJ11_isValidCodePoint_9a6ad : ByteArray := prog_15_method_11_code
def yJ11_isValidCodePoint_9a6ad : MethodName := ⟨RJ11, "isValidCodePoint", "(I)Z"⟩
abbrev cJ11_highSurrogate_5068e : ByteArray := prog_15_method_28_code
def yJ11_highSurrogate_5068e : MethodName := ⟨RJ11, "highSurrogate", "(I)C"⟩
abbrev cJ11_lowSurrogate_5068e : ByteArray := prog_15_method_29_code
def yJ11_lowSurrogate_5068e : MethodName := ⟨RJ11, "lowSurrogate", "(I)C"⟩
def RJ6 : String := "java/lang/Integer"
def TJ6 : u_T := fun k => match k with
  | _ => ("", "", "", false)
def tyJ6 : Nat → FieldType := fun k => match k with
  | _ => .int
abbrev wsJ60 : List Cond := u_ws RJ6 TJ6 0
theorem nmJ6 : ∀ a, a < 0 → ∀ b, b < 0 → a ≠ b → (TJ6 a).2.1 ≠ (TJ6 b).2.1 := by decide +kernel
theorem tyJ6_ok : ∀ k, k < 0 → parseFieldDescriptor (TJ6 k).2.2.1 = some (tyJ6 k) := by decide +kernel
abbrev cJ6_bitCount_0f7a4 : ByteArray := prog_16_method_49_code
def yJ6_bitCount_0f7a4 : MethodName := ⟨RJ6, "bitCount", "(I)I"⟩
def RJ9 : String := "java/lang/Math"
def TJ9 : u_T := fun k => match k with
  | _ => ("", "", "", false)
def tyJ9 : Nat → FieldType := fun k => match k with
  | _ => .int
abbrev wsJ90 : List Cond := u_ws RJ9 TJ9 0
theorem nmJ9 : ∀ a, a < 0 → ∀ b, b < 0 → a ≠ b → (TJ9 a).2.1 ≠ (TJ9 b).2.1 := by decide +kernel
theorem tyJ9_ok : ∀ k, k < 0 → parseFieldDescriptor (TJ9 k).2.2.1 = some (tyJ9 k) := by decide +kernel
abbrev cJ9_abs_0f7a4 : ByteArray := prog_17_method_59_code
def yJ9_abs_0f7a4 : MethodName := ⟨RJ9, "abs", "(I)I"⟩
abbrev cJ9_max_7cf53 : ByteArray := prog_17_method_65_code
def yJ9_max_7cf53 : MethodName := ⟨RJ9, "max", "(II)I"⟩
abbrev cJ9_min_7cf53 : ByteArray := prog_17_method_69_code
def yJ9_min_7cf53 : MethodName := ⟨RJ9, "min", "(II)I"⟩
def RJ0 : String := "java/lang/String"
def TJ0 : u_T := fun k => match k with
  | _ => ("", "", "", false)
def tyJ0 : Nat → FieldType := fun k => match k with
  | _ => .int
abbrev wsJ00 : List Cond := u_ws RJ0 TJ0 0
theorem nmJ0 : ∀ a, a < 0 → ∀ b, b < 0 → a ≠ b → (TJ0 a).2.1 ≠ (TJ0 b).2.1 := by decide +kernel
theorem tyJ0_ok : ∀ k, k < 0 → parseFieldDescriptor (TJ0 k).2.2.1 = some (tyJ0 k) := by decide +kernel
abbrev cJ0_length_8abf5 : ByteArray := prog_18_method_54_code
def yJ0_length_8abf5 : MethodName := ⟨RJ0, "length", "()I"⟩
abbrev cJ0_charAt_5068e : ByteArray := prog_18_method_56_code
def yJ0_charAt_5068e : MethodName := ⟨RJ0, "charAt", "(I)C"⟩
abbrev cJ0_indexOf_0f7a4 : ByteArray := prog_18_method_79_code
def yJ0_indexOf_0f7a4 : MethodName := ⟨RJ0, "indexOf", "(I)I"⟩
abbrev cJ0_indexOf_7cf53 : ByteArray := prog_18_method_80_code
def yJ0_indexOf_7cf53 : MethodName := ⟨RJ0, "indexOf", "(II)I"⟩
abbrev cJ0_coder_7d493 : ByteArray := prog_18_method_152_code
def yJ0_coder_7d493 : MethodName := ⟨RJ0, "coder", "()B"⟩
abbrev cJ0_isLatin1_aae02 : ByteArray := prog_18_method_154_code
def yJ0_isLatin1_aae02 : MethodName := ⟨RJ0, "isLatin1", "()Z"⟩
abbrev cJ0_checkIndex_df160 : ByteArray := prog_18_method_155_code
def yJ0_checkIndex_df160 : MethodName := ⟨RJ0, "checkIndex", "(II)V"⟩
abbrev cJ0_checkBoundsBeginEnd_23922 : ByteArray := prog_18_method_158_code
def yJ0_checkBoundsBeginEnd_23922 : MethodName := ⟨RJ0, "checkBoundsBeginEnd", "(III)V"⟩
def RJ1 : String := "java/lang/StringLatin1"
def TJ1 : u_T := fun k => match k with
  | _ => ("", "", "", false)
def tyJ1 : Nat → FieldType := fun k => match k with
  | _ => .int
abbrev wsJ10 : List Cond := u_ws RJ1 TJ1 0
theorem nmJ1 : ∀ a, a < 0 → ∀ b, b < 0 → a ≠ b → (TJ1 a).2.1 ≠ (TJ1 b).2.1 := by decide +kernel
theorem tyJ1_ok : ∀ k, k < 0 → parseFieldDescriptor (TJ1 k).2.2.1 = some (tyJ1 k) := by decide +kernel
abbrev cJ1_charAt_3b067 : ByteArray := prog_19_method_2_code
def yJ1_charAt_3b067 : MethodName := ⟨RJ1, "charAt", "([BI)C"⟩
abbrev cJ1_canEncode_9a6ad : ByteArray := prog_19_method_4_code
def yJ1_canEncode_9a6ad : MethodName := ⟨RJ1, "canEncode", "(I)Z"⟩
abbrev cJ1_indexOf_4cfef : ByteArray := prog_19_method_22_code
def yJ1_indexOf_4cfef : MethodName := ⟨RJ1, "indexOf", "([BIII)I"⟩
abbrev cJ1_indexOfChar_4cfef : ByteArray := prog_19_method_23_code
def yJ1_indexOfChar_4cfef : MethodName := ⟨RJ1, "indexOfChar", "([BIII)I"⟩
def RJ2 : String := "java/lang/StringUTF16"
def TJ2 : u_T := fun k => match k with
  | _ => ("", "", "", false)
def tyJ2 : Nat → FieldType := fun k => match k with
  | _ => .int
abbrev wsJ20 : List Cond := u_ws RJ2 TJ2 0
theorem nmJ2 : ∀ a, a < 0 → ∀ b, b < 0 → a ≠ b → (TJ2 a).2.1 ≠ (TJ2 b).2.1 := by decide +kernel
theorem tyJ2_ok : ∀ k, k < 0 → parseFieldDescriptor (TJ2 k).2.2.1 = some (tyJ2 k) := by decide +kernel
abbrev cJ2_getChar_3b067 : ByteArray := prog_20_method_5_code
def yJ2_getChar_3b067 : MethodName := ⟨RJ2, "getChar", "([BI)C"⟩
abbrev cJ2_length_9d52b : ByteArray := prog_20_method_6_code
def yJ2_length_9d52b : MethodName := ⟨RJ2, "length", "([B)I"⟩
abbrev cJ2_indexOf_4cfef : ByteArray := prog_20_method_40_code
def yJ2_indexOf_4cfef : MethodName := ⟨RJ2, "indexOf", "([BIII)I"⟩
abbrev cJ2_indexOfChar_4cfef : ByteArray := prog_20_method_47_code
def yJ2_indexOfChar_4cfef : MethodName := ⟨RJ2, "indexOfChar", "([BIII)I"⟩
abbrev cJ2_indexOfCharUnsafe_4cfef : ByteArray := prog_20_method_48_code
def yJ2_indexOfCharUnsafe_4cfef : MethodName := ⟨RJ2, "indexOfCharUnsafe", "([BIII)I"⟩
abbrev cJ2_indexOfSupplementary_4cfef : ByteArray := prog_20_method_49_code
def yJ2_indexOfSupplementary_4cfef : MethodName := ⟨RJ2, "indexOfSupplementary", "([BIII)I"⟩
abbrev cJ2_charAt_3b067 : ByteArray := prog_20_method_83_code
def yJ2_charAt_3b067 : MethodName := ⟨RJ2, "charAt", "([BI)C"⟩
abbrev cJ2_checkIndex_2214a : ByteArray := prog_20_method_91_code
def yJ2_checkIndex_2214a : MethodName := ⟨RJ2, "checkIndex", "(I[B)V"⟩
abbrev cJ2_checkBoundsBeginEnd_d044e : ByteArray := prog_20_method_93_code
def yJ2_checkBoundsBeginEnd_d044e : MethodName := ⟨RJ2, "checkBoundsBeginEnd", "(II[B)V"⟩
def RJ10 : String := "java/lang/System"
def TJ10 : u_T := fun k => match k with
  | _ => ("", "", "", false)
def tyJ10 : Nat → FieldType := fun k => match k with
  | _ => .int
abbrev wsJ100 : List Cond := u_ws RJ10 TJ10 0
theorem nmJ10 : ∀ a, a < 0 → ∀ b, b < 0 → a ≠ b → (TJ10 a).2.1 ≠ (TJ10 b).2.1 := by decide +kernel
theorem tyJ10_ok : ∀ k, k < 0 → parseFieldDescriptor (TJ10 k).2.2.1 = some (tyJ10 k) := by decide +kernel
def RJ3 : String := "jdk/internal/util/Preconditions"
def TJ3 : u_T := fun k => match k with
  | _ => ("", "", "", false)
def tyJ3 : Nat → FieldType := fun k => match k with
  | _ => .int
abbrev wsJ30 : List Cond := u_ws RJ3 TJ3 0
theorem nmJ3 : ∀ a, a < 0 → ∀ b, b < 0 → a ≠ b → (TJ3 a).2.1 ≠ (TJ3 b).2.1 := by decide +kernel
theorem tyJ3_ok : ∀ k, k < 0 → parseFieldDescriptor (TJ3 k).2.2.1 = some (tyJ3 k) := by decide +kernel
abbrev cJ3_checkIndex_8e157 : ByteArray := prog_22_method_11_code
def yJ3_checkIndex_8e157 : MethodName := ⟨RJ3, "checkIndex", "(IILjava/util/function/BiFunction;)I"⟩
abbrev cJ3_checkFromToIndex_8c36e : ByteArray := prog_22_method_12_code
def yJ3_checkFromToIndex_8c36e : MethodName := ⟨RJ3, "checkFromToIndex", "(IIILjava/util/function/BiFunction;)I"⟩
def RL : String := "SummerHousesLaw"
abbrev cL_law : ByteArray := code
def yL_law : MethodName := ⟨RL, "law", "([I)Z"⟩
