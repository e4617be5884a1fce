section
-- ===== PART A: goes FIRST, ahead of the names: the tables' words, and 'selects' of the private methods out of them =====
/-- a private method of a class that the tables say can be made, by its rows of tables_1 -/
def lw_okq (q : MethodName × Nat) : Prop := (q.1.cls ≠ "java/lang/invoke/MethodHandle" ∧ q.1.cls ≠ "java/lang/invoke/VarHandle") ∧ Cond.instantiable q.1.cls q.2 ∈ tables_1 ∧ Cond.privateMethod q.1 ∈ tables_1 ∧ Cond.instanceMethod q.1 ∈ tables_1
theorem lw_p0 : lw_okq (⟨"BellPullHouse", "refuse", "(I)Z"⟩, 20) := ⟨⟨by decide +kernel, by decide +kernel⟩, List.mem_of_getElem? (i := 22) (by decide +kernel), List.mem_of_getElem? (i := 488) (by decide +kernel), List.mem_of_getElem? (i := 489) (by decide +kernel)⟩
theorem lw_p1 : lw_okq (⟨"BellPullHouse", "agree", "()Z"⟩, 20) := ⟨⟨by decide +kernel, by decide +kernel⟩, List.mem_of_getElem? (i := 22) (by decide +kernel), List.mem_of_getElem? (i := 499) (by decide +kernel), List.mem_of_getElem? (i := 500) (by decide +kernel)⟩
theorem lw_p2 : lw_okq (⟨"BellPullHouse", "wrongPlace", "(II)I"⟩, 20) := ⟨⟨by decide +kernel, by decide +kernel⟩, List.mem_of_getElem? (i := 22) (by decide +kernel), List.mem_of_getElem? (i := 507) (by decide +kernel), List.mem_of_getElem? (i := 508) (by decide +kernel)⟩
theorem lw_p3 : lw_okq (⟨"BellPullHouse$Tray", "cutToWidth", "(J)J"⟩, 4) := ⟨⟨by decide +kernel, by decide +kernel⟩, List.mem_of_getElem? (i := 386) (by decide +kernel), List.mem_of_getElem? (i := 520) (by decide +kernel), List.mem_of_getElem? (i := 521) (by decide +kernel)⟩
theorem lw_p4 : lw_okq (⟨"BellPullHouse", "fail", "(I)I"⟩, 20) := ⟨⟨by decide +kernel, by decide +kernel⟩, List.mem_of_getElem? (i := 22) (by decide +kernel), List.mem_of_getElem? (i := 528) (by decide +kernel), List.mem_of_getElem? (i := 529) (by decide +kernel)⟩
theorem lw_p5 : lw_okq (⟨"BellPullHouse$Tokens", "scanWord", "()V"⟩, 13) := ⟨⟨by decide +kernel, by decide +kernel⟩, List.mem_of_getElem? (i := 32) (by decide +kernel), List.mem_of_getElem? (i := 576) (by decide +kernel), List.mem_of_getElem? (i := 577) (by decide +kernel)⟩
theorem lw_p6 : lw_okq (⟨"BellPullHouse$Tokens", "scanNumber", "()V"⟩, 13) := ⟨⟨by decide +kernel, by decide +kernel⟩, List.mem_of_getElem? (i := 32) (by decide +kernel), List.mem_of_getElem? (i := 583) (by decide +kernel), List.mem_of_getElem? (i := 584) (by decide +kernel)⟩
theorem lw_p7 : lw_okq (⟨"BellPullHouse$House", "findName", "(IIJ)I"⟩, 20) := ⟨⟨by decide +kernel, by decide +kernel⟩, List.mem_of_getElem? (i := 140) (by decide +kernel), List.mem_of_getElem? (i := 633) (by decide +kernel), List.mem_of_getElem? (i := 634) (by decide +kernel)⟩
theorem lw_p8 : lw_okq (⟨"BellPullHouse", "keepFault", "()V"⟩, 20) := ⟨⟨by decide +kernel, by decide +kernel⟩, List.mem_of_getElem? (i := 22) (by decide +kernel), List.mem_of_getElem? (i := 662) (by decide +kernel), List.mem_of_getElem? (i := 663) (by decide +kernel)⟩
theorem lw_p9 : lw_okq (⟨"BellPullHouse", "answer", "(I)I"⟩, 20) := ⟨⟨by decide +kernel, by decide +kernel⟩, List.mem_of_getElem? (i := 22) (by decide +kernel), List.mem_of_getElem? (i := 675) (by decide +kernel), List.mem_of_getElem? (i := 676) (by decide +kernel)⟩
theorem lw_p10 : lw_okq (⟨"BellPullHouse$House", "measure", "()V"⟩, 20) := ⟨⟨by decide +kernel, by decide +kernel⟩, List.mem_of_getElem? (i := 140) (by decide +kernel), List.mem_of_getElem? (i := 757) (by decide +kernel), List.mem_of_getElem? (i := 758) (by decide +kernel)⟩
theorem lw_p11 : lw_okq (⟨"BellPullHouse$Days", "alikeDays", "(LBellPullHouse$House;I)I"⟩, 1) := ⟨⟨by decide +kernel, by decide +kernel⟩, List.mem_of_getElem? (i := 316) (by decide +kernel), List.mem_of_getElem? (i := 820) (by decide +kernel), List.mem_of_getElem? (i := 821) (by decide +kernel)⟩
theorem lw_p12 : lw_okq (⟨"BellPullHouse$Days", "lossOf", "(I)I"⟩, 1) := ⟨⟨by decide +kernel, by decide +kernel⟩, List.mem_of_getElem? (i := 316) (by decide +kernel), List.mem_of_getElem? (i := 829) (by decide +kernel), List.mem_of_getElem? (i := 830) (by decide +kernel)⟩
theorem lw_p13 : lw_okq (⟨"BellPullHouse$Days", "loveThrough", "(LBellPullHouse$House;I)I"⟩, 1) := ⟨⟨by decide +kernel, by decide +kernel⟩, List.mem_of_getElem? (i := 316) (by decide +kernel), List.mem_of_getElem? (i := 835) (by decide +kernel), List.mem_of_getElem? (i := 836) (by decide +kernel)⟩
theorem lw_p14 : lw_okq (⟨"BellPullHouse$House", "shortestWire", "(II)I"⟩, 20) := ⟨⟨by decide +kernel, by decide +kernel⟩, List.mem_of_getElem? (i := 140) (by decide +kernel), List.mem_of_getElem? (i := 929) (by decide +kernel), List.mem_of_getElem? (i := 930) (by decide +kernel)⟩
theorem lw_p15 : lw_okq (⟨"BellPullHouse", "lookAhead", "(I)V"⟩, 20) := ⟨⟨by decide +kernel, by decide +kernel⟩, List.mem_of_getElem? (i := 22) (by decide +kernel), List.mem_of_getElem? (i := 945) (by decide +kernel), List.mem_of_getElem? (i := 946) (by decide +kernel)⟩
def lw_privs_1 : List (MethodName × Nat) := [(⟨"BellPullHouse", "refuse", "(I)Z"⟩, 20), (⟨"BellPullHouse", "agree", "()Z"⟩, 20), (⟨"BellPullHouse", "wrongPlace", "(II)I"⟩, 20), (⟨"BellPullHouse$Tray", "cutToWidth", "(J)J"⟩, 4), (⟨"BellPullHouse", "fail", "(I)I"⟩, 20), (⟨"BellPullHouse$Tokens", "scanWord", "()V"⟩, 13), (⟨"BellPullHouse$Tokens", "scanNumber", "()V"⟩, 13), (⟨"BellPullHouse$House", "findName", "(IIJ)I"⟩, 20), (⟨"BellPullHouse", "keepFault", "()V"⟩, 20), (⟨"BellPullHouse", "answer", "(I)I"⟩, 20), (⟨"BellPullHouse$House", "measure", "()V"⟩, 20), (⟨"BellPullHouse$Days", "alikeDays", "(LBellPullHouse$House;I)I"⟩, 1), (⟨"BellPullHouse$Days", "lossOf", "(I)I"⟩, 1), (⟨"BellPullHouse$Days", "loveThrough", "(LBellPullHouse$House;I)I"⟩, 1), (⟨"BellPullHouse$House", "shortestWire", "(II)I"⟩, 20), (⟨"BellPullHouse", "lookAhead", "(I)V"⟩, 20)]
theorem lw_r1 : ∀ q ∈ lw_privs_1, lw_okq q := List.forall_mem_cons.mpr ⟨lw_p0, List.forall_mem_cons.mpr ⟨lw_p1, List.forall_mem_cons.mpr ⟨lw_p2, List.forall_mem_cons.mpr ⟨lw_p3, List.forall_mem_cons.mpr ⟨lw_p4, List.forall_mem_cons.mpr ⟨lw_p5, List.forall_mem_cons.mpr ⟨lw_p6, List.forall_mem_cons.mpr ⟨lw_p7, List.forall_mem_cons.mpr ⟨lw_p8, List.forall_mem_cons.mpr ⟨lw_p9, List.forall_mem_cons.mpr ⟨lw_p10, List.forall_mem_cons.mpr ⟨lw_p11, List.forall_mem_cons.mpr ⟨lw_p12, List.forall_mem_cons.mpr ⟨lw_p13, List.forall_mem_cons.mpr ⟨lw_p14, List.forall_mem_cons.mpr ⟨lw_p15, fun _ h => absurd h List.not_mem_nil⟩⟩⟩⟩⟩⟩⟩⟩⟩⟩⟩⟩⟩⟩⟩⟩
theorem lw_p16 : lw_okq (⟨"BellPullHouse", "fewestMends", "(I)I"⟩, 20) := ⟨⟨by decide +kernel, by decide +kernel⟩, List.mem_of_getElem? (i := 22) (by decide +kernel), List.mem_of_getElem? (i := 968) (by decide +kernel), List.mem_of_getElem? (i := 969) (by decide +kernel)⟩
theorem lw_p17 : lw_okq (⟨"BellPullHouse$Wiring", "allRung", "(LBellPullHouse$House;III)Z"⟩, 3) := ⟨⟨by decide +kernel, by decide +kernel⟩, List.mem_of_getElem? (i := 326) (by decide +kernel), List.mem_of_getElem? (i := 980) (by decide +kernel), List.mem_of_getElem? (i := 981) (by decide +kernel)⟩
theorem lw_p18 : lw_okq (⟨"BellPullHouse$Wiring", "carries", "(LBellPullHouse$House;IIII)Z"⟩, 3) := ⟨⟨by decide +kernel, by decide +kernel⟩, List.mem_of_getElem? (i := 326) (by decide +kernel), List.mem_of_getElem? (i := 984) (by decide +kernel), List.mem_of_getElem? (i := 985) (by decide +kernel)⟩
theorem lw_p19 : lw_okq (⟨"BellPullHouse$Wiring", "relax", "(III)Z"⟩, 3) := ⟨⟨by decide +kernel, by decide +kernel⟩, List.mem_of_getElem? (i := 326) (by decide +kernel), List.mem_of_getElem? (i := 990) (by decide +kernel), List.mem_of_getElem? (i := 991) (by decide +kernel)⟩
theorem lw_p20 : lw_okq (⟨"BellPullHouse", "fewestCuts", "(II)I"⟩, 20) := ⟨⟨by decide +kernel, by decide +kernel⟩, List.mem_of_getElem? (i := 22) (by decide +kernel), List.mem_of_getElem? (i := 1009) (by decide +kernel), List.mem_of_getElem? (i := 1010) (by decide +kernel)⟩
theorem lw_p21 : lw_okq (⟨"BellPullHouse$Wiring", "hangsOn", "(LBellPullHouse$House;II)Z"⟩, 3) := ⟨⟨by decide +kernel, by decide +kernel⟩, List.mem_of_getElem? (i := 326) (by decide +kernel), List.mem_of_getElem? (i := 1030) (by decide +kernel), List.mem_of_getElem? (i := 1031) (by decide +kernel)⟩
theorem lw_p22 : lw_okq (⟨"BellPullHouse$Pairs", "askOnce", "(LBellPullHouse$House;)V"⟩, 3) := ⟨⟨by decide +kernel, by decide +kernel⟩, List.mem_of_getElem? (i := 344) (by decide +kernel), List.mem_of_getElem? (i := 1065) (by decide +kernel), List.mem_of_getElem? (i := 1066) (by decide +kernel)⟩
theorem lw_p23 : lw_okq (⟨"BellPullHouse$Pairs", "nextToAsk", "(LBellPullHouse$House;I)I"⟩, 3) := ⟨⟨by decide +kernel, by decide +kernel⟩, List.mem_of_getElem? (i := 344) (by decide +kernel), List.mem_of_getElem? (i := 1069) (by decide +kernel), List.mem_of_getElem? (i := 1070) (by decide +kernel)⟩
theorem lw_p24 : lw_okq (⟨"BellPullHouse$Pairs", "propose", "(LBellPullHouse$House;II)V"⟩, 3) := ⟨⟨by decide +kernel, by decide +kernel⟩, List.mem_of_getElem? (i := 344) (by decide +kernel), List.mem_of_getElem? (i := 1074) (by decide +kernel), List.mem_of_getElem? (i := 1075) (by decide +kernel)⟩
theorem lw_p25 : lw_okq (⟨"BellPullHouse$Wiring", "countRung", "(LBellPullHouse$House;II)I"⟩, 3) := ⟨⟨by decide +kernel, by decide +kernel⟩, List.mem_of_getElem? (i := 326) (by decide +kernel), List.mem_of_getElem? (i := 1090) (by decide +kernel), List.mem_of_getElem? (i := 1091) (by decide +kernel)⟩
theorem lw_p26 : lw_okq (⟨"BellPullHouse$Wiring", "wiremanPlays", "(LBellPullHouse$House;IIIII)I"⟩, 3) := ⟨⟨by decide +kernel, by decide +kernel⟩, List.mem_of_getElem? (i := 326) (by decide +kernel), List.mem_of_getElem? (i := 1094) (by decide +kernel), List.mem_of_getElem? (i := 1095) (by decide +kernel)⟩
theorem lw_p27 : lw_okq (⟨"BellPullHouse$Wiring", "mousePlays", "(LBellPullHouse$House;IIIII)I"⟩, 3) := ⟨⟨by decide +kernel, by decide +kernel⟩, List.mem_of_getElem? (i := 326) (by decide +kernel), List.mem_of_getElem? (i := 1098) (by decide +kernel), List.mem_of_getElem? (i := 1099) (by decide +kernel)⟩
theorem lw_p28 : lw_okq (⟨"BellPullHouse", "tell", "(JJ)V"⟩, 20) := ⟨⟨by decide +kernel, by decide +kernel⟩, List.mem_of_getElem? (i := 22) (by decide +kernel), List.mem_of_getElem? (i := 1120) (by decide +kernel), List.mem_of_getElem? (i := 1121) (by decide +kernel)⟩
theorem lw_p29 : lw_okq (⟨"BellPullHouse$Life", "passEnd", "(LBellPullHouse$Years;I)I"⟩, 5) := ⟨⟨by decide +kernel, by decide +kernel⟩, List.mem_of_getElem? (i := 361) (by decide +kernel), List.mem_of_getElem? (i := 1141) (by decide +kernel), List.mem_of_getElem? (i := 1142) (by decide +kernel)⟩
theorem lw_p30 : lw_okq (⟨"BellPullHouse$Life", "doStep", "(LBellPullHouse$House;LBellPullHouse$Years;I)I"⟩, 5) := ⟨⟨by decide +kernel, by decide +kernel⟩, List.mem_of_getElem? (i := 361) (by decide +kernel), List.mem_of_getElem? (i := 1145) (by decide +kernel), List.mem_of_getElem? (i := 1146) (by decide +kernel)⟩
theorem lw_p31 : lw_okq (⟨"BellPullHouse$Life", "isSo", "(LBellPullHouse$House;LBellPullHouse$Years;I)Z"⟩, 5) := ⟨⟨by decide +kernel, by decide +kernel⟩, List.mem_of_getElem? (i := 361) (by decide +kernel), List.mem_of_getElem? (i := 1149) (by decide +kernel), List.mem_of_getElem? (i := 1150) (by decide +kernel)⟩
def lw_privs_2 : List (MethodName × Nat) := [(⟨"BellPullHouse", "fewestMends", "(I)I"⟩, 20), (⟨"BellPullHouse$Wiring", "allRung", "(LBellPullHouse$House;III)Z"⟩, 3), (⟨"BellPullHouse$Wiring", "carries", "(LBellPullHouse$House;IIII)Z"⟩, 3), (⟨"BellPullHouse$Wiring", "relax", "(III)Z"⟩, 3), (⟨"BellPullHouse", "fewestCuts", "(II)I"⟩, 20), (⟨"BellPullHouse$Wiring", "hangsOn", "(LBellPullHouse$House;II)Z"⟩, 3), (⟨"BellPullHouse$Pairs", "askOnce", "(LBellPullHouse$House;)V"⟩, 3), (⟨"BellPullHouse$Pairs", "nextToAsk", "(LBellPullHouse$House;I)I"⟩, 3), (⟨"BellPullHouse$Pairs", "propose", "(LBellPullHouse$House;II)V"⟩, 3), (⟨"BellPullHouse$Wiring", "countRung", "(LBellPullHouse$House;II)I"⟩, 3), (⟨"BellPullHouse$Wiring", "wiremanPlays", "(LBellPullHouse$House;IIIII)I"⟩, 3), (⟨"BellPullHouse$Wiring", "mousePlays", "(LBellPullHouse$House;IIIII)I"⟩, 3), (⟨"BellPullHouse", "tell", "(JJ)V"⟩, 20), (⟨"BellPullHouse$Life", "passEnd", "(LBellPullHouse$Years;I)I"⟩, 5), (⟨"BellPullHouse$Life", "doStep", "(LBellPullHouse$House;LBellPullHouse$Years;I)I"⟩, 5), (⟨"BellPullHouse$Life", "isSo", "(LBellPullHouse$House;LBellPullHouse$Years;I)Z"⟩, 5)]
theorem lw_r2 : ∀ q ∈ lw_privs_2, lw_okq q := List.forall_mem_cons.mpr ⟨lw_p16, List.forall_mem_cons.mpr ⟨lw_p17, List.forall_mem_cons.mpr ⟨lw_p18, List.forall_mem_cons.mpr ⟨lw_p19, List.forall_mem_cons.mpr ⟨lw_p20, List.forall_mem_cons.mpr ⟨lw_p21, List.forall_mem_cons.mpr ⟨lw_p22, List.forall_mem_cons.mpr ⟨lw_p23, List.forall_mem_cons.mpr ⟨lw_p24, List.forall_mem_cons.mpr ⟨lw_p25, List.forall_mem_cons.mpr ⟨lw_p26, List.forall_mem_cons.mpr ⟨lw_p27, List.forall_mem_cons.mpr ⟨lw_p28, List.forall_mem_cons.mpr ⟨lw_p29, List.forall_mem_cons.mpr ⟨lw_p30, List.forall_mem_cons.mpr ⟨lw_p31, fun _ h => absurd h List.not_mem_nil⟩⟩⟩⟩⟩⟩⟩⟩⟩⟩⟩⟩⟩⟩⟩⟩
theorem lw_p32 : lw_okq (⟨"BellPullHouse$Life", "cutOne", "(LBellPullHouse$House;I)Z"⟩, 5) := ⟨⟨by decide +kernel, by decide +kernel⟩, List.mem_of_getElem? (i := 361) (by decide +kernel), List.mem_of_getElem? (i := 1170) (by decide +kernel), List.mem_of_getElem? (i := 1171) (by decide +kernel)⟩
theorem lw_p33 : lw_okq (⟨"BellPullHouse$Life", "hurtAny", "(LBellPullHouse$House;)Z"⟩, 5) := ⟨⟨by decide +kernel, by decide +kernel⟩, List.mem_of_getElem? (i := 361) (by decide +kernel), List.mem_of_getElem? (i := 1176) (by decide +kernel), List.mem_of_getElem? (i := 1177) (by decide +kernel)⟩
theorem lw_p34 : lw_okq (⟨"BellPullHouse$Life", "drawBy", "(I)I"⟩, 5) := ⟨⟨by decide +kernel, by decide +kernel⟩, List.mem_of_getElem? (i := 361) (by decide +kernel), List.mem_of_getElem? (i := 1180) (by decide +kernel), List.mem_of_getElem? (i := 1181) (by decide +kernel)⟩
theorem lw_p35 : lw_okq (⟨"BellPullHouseModel", "empties", "(I)V"⟩, 43) := ⟨⟨by decide +kernel, by decide +kernel⟩, List.mem_of_getElem? (i := 1202) (by decide +kernel), List.mem_of_getElem? (i := 1208) (by decide +kernel), List.mem_of_getElem? (i := 1209) (by decide +kernel)⟩
theorem lw_p36 : lw_okq (⟨"BellPullHouseModel", "no", "(I)Z"⟩, 43) := ⟨⟨by decide +kernel, by decide +kernel⟩, List.mem_of_getElem? (i := 1202) (by decide +kernel), List.mem_of_getElem? (i := 1358) (by decide +kernel), List.mem_of_getElem? (i := 1359) (by decide +kernel)⟩
theorem lw_p37 : lw_okq (⟨"BellPullHouseModel", "placed", "(II)I"⟩, 43) := ⟨⟨by decide +kernel, by decide +kernel⟩, List.mem_of_getElem? (i := 1202) (by decide +kernel), List.mem_of_getElem? (i := 1366) (by decide +kernel), List.mem_of_getElem? (i := 1367) (by decide +kernel)⟩
theorem lw_p38 : lw_okq (⟨"BellPullHouseModel", "trayed", "(I)I"⟩, 43) := ⟨⟨by decide +kernel, by decide +kernel⟩, List.mem_of_getElem? (i := 1202) (by decide +kernel), List.mem_of_getElem? (i := 1370) (by decide +kernel), List.mem_of_getElem? (i := 1371) (by decide +kernel)⟩
theorem lw_p39 : lw_okq (⟨"BellPullHouseModel", "lay", "(I)V"⟩, 43) := ⟨⟨by decide +kernel, by decide +kernel⟩, List.mem_of_getElem? (i := 1202) (by decide +kernel), List.mem_of_getElem? (i := 1390) (by decide +kernel), List.mem_of_getElem? (i := 1391) (by decide +kernel)⟩
theorem lw_p40 : lw_okq (⟨"BellPullHouseModel", "starts", "(II)Z"⟩, 43) := ⟨⟨by decide +kernel, by decide +kernel⟩, List.mem_of_getElem? (i := 1202) (by decide +kernel), List.mem_of_getElem? (i := 1402) (by decide +kernel), List.mem_of_getElem? (i := 1403) (by decide +kernel)⟩
theorem lw_p41 : lw_okq (⟨"BellPullHouseModel", "advance", "()V"⟩, 43) := ⟨⟨by decide +kernel, by decide +kernel⟩, List.mem_of_getElem? (i := 1202) (by decide +kernel), List.mem_of_getElem? (i := 1406) (by decide +kernel), List.mem_of_getElem? (i := 1407) (by decide +kernel)⟩
theorem lw_p42 : lw_okq (⟨"BellPullHouseModel", "look2", "(I)I"⟩, 43) := ⟨⟨by decide +kernel, by decide +kernel⟩, List.mem_of_getElem? (i := 1202) (by decide +kernel), List.mem_of_getElem? (i := 1410) (by decide +kernel), List.mem_of_getElem? (i := 1411) (by decide +kernel)⟩
theorem lw_p43 : lw_okq (⟨"BellPullHouseModel", "isSignByte", "(I)Z"⟩, 43) := ⟨⟨by decide +kernel, by decide +kernel⟩, List.mem_of_getElem? (i := 1202) (by decide +kernel), List.mem_of_getElem? (i := 1422) (by decide +kernel), List.mem_of_getElem? (i := 1423) (by decide +kernel)⟩
theorem lw_p44 : lw_okq (⟨"BellPullHouseModel", "readPart", "()V"⟩, 43) := ⟨⟨by decide +kernel, by decide +kernel⟩, List.mem_of_getElem? (i := 1202) (by decide +kernel), List.mem_of_getElem? (i := 1426) (by decide +kernel), List.mem_of_getElem? (i := 1427) (by decide +kernel)⟩
theorem lw_p45 : lw_okq (⟨"BellPullHouseModel", "isPower", "()Z"⟩, 43) := ⟨⟨by decide +kernel, by decide +kernel⟩, List.mem_of_getElem? (i := 1202) (by decide +kernel), List.mem_of_getElem? (i := 1430) (by decide +kernel), List.mem_of_getElem? (i := 1431) (by decide +kernel)⟩
theorem lw_p46 : lw_okq (⟨"BellPullHouseModel", "isWord", "(J)Z"⟩, 43) := ⟨⟨by decide +kernel, by decide +kernel⟩, List.mem_of_getElem? (i := 1202) (by decide +kernel), List.mem_of_getElem? (i := 1437) (by decide +kernel), List.mem_of_getElem? (i := 1438) (by decide +kernel)⟩
theorem lw_p47 : lw_okq (⟨"BellPullHouseModel", "readOnce", "(III)V"⟩, 43) := ⟨⟨by decide +kernel, by decide +kernel⟩, List.mem_of_getElem? (i := 1202) (by decide +kernel), List.mem_of_getElem? (i := 1441) (by decide +kernel), List.mem_of_getElem? (i := 1442) (by decide +kernel)⟩
def lw_privs_3 : List (MethodName × Nat) := [(⟨"BellPullHouse$Life", "cutOne", "(LBellPullHouse$House;I)Z"⟩, 5), (⟨"BellPullHouse$Life", "hurtAny", "(LBellPullHouse$House;)Z"⟩, 5), (⟨"BellPullHouse$Life", "drawBy", "(I)I"⟩, 5), (⟨"BellPullHouseModel", "empties", "(I)V"⟩, 43), (⟨"BellPullHouseModel", "no", "(I)Z"⟩, 43), (⟨"BellPullHouseModel", "placed", "(II)I"⟩, 43), (⟨"BellPullHouseModel", "trayed", "(I)I"⟩, 43), (⟨"BellPullHouseModel", "lay", "(I)V"⟩, 43), (⟨"BellPullHouseModel", "starts", "(II)Z"⟩, 43), (⟨"BellPullHouseModel", "advance", "()V"⟩, 43), (⟨"BellPullHouseModel", "look2", "(I)I"⟩, 43), (⟨"BellPullHouseModel", "isSignByte", "(I)Z"⟩, 43), (⟨"BellPullHouseModel", "readPart", "()V"⟩, 43), (⟨"BellPullHouseModel", "isPower", "()Z"⟩, 43), (⟨"BellPullHouseModel", "isWord", "(J)Z"⟩, 43), (⟨"BellPullHouseModel", "readOnce", "(III)V"⟩, 43)]
theorem lw_r3 : ∀ q ∈ lw_privs_3, lw_okq q := List.forall_mem_cons.mpr ⟨lw_p32, List.forall_mem_cons.mpr ⟨lw_p33, List.forall_mem_cons.mpr ⟨lw_p34, List.forall_mem_cons.mpr ⟨lw_p35, List.forall_mem_cons.mpr ⟨lw_p36, List.forall_mem_cons.mpr ⟨lw_p37, List.forall_mem_cons.mpr ⟨lw_p38, List.forall_mem_cons.mpr ⟨lw_p39, List.forall_mem_cons.mpr ⟨lw_p40, List.forall_mem_cons.mpr ⟨lw_p41, List.forall_mem_cons.mpr ⟨lw_p42, List.forall_mem_cons.mpr ⟨lw_p43, List.forall_mem_cons.mpr ⟨lw_p44, List.forall_mem_cons.mpr ⟨lw_p45, List.forall_mem_cons.mpr ⟨lw_p46, List.forall_mem_cons.mpr ⟨lw_p47, fun _ h => absurd h List.not_mem_nil⟩⟩⟩⟩⟩⟩⟩⟩⟩⟩⟩⟩⟩⟩⟩⟩
theorem lw_p48 : lw_okq (⟨"BellPullHouseModel", "fail", "(II)V"⟩, 43) := ⟨⟨by decide +kernel, by decide +kernel⟩, List.mem_of_getElem? (i := 1202) (by decide +kernel), List.mem_of_getElem? (i := 1448) (by decide +kernel), List.mem_of_getElem? (i := 1449) (by decide +kernel)⟩
theorem lw_p49 : lw_okq (⟨"BellPullHouseModel", "count", "(II)I"⟩, 43) := ⟨⟨by decide +kernel, by decide +kernel⟩, List.mem_of_getElem? (i := 1202) (by decide +kernel), List.mem_of_getElem? (i := 1452) (by decide +kernel), List.mem_of_getElem? (i := 1453) (by decide +kernel)⟩
theorem lw_p50 : lw_okq (⟨"BellPullHouseModel", "amiss", "()V"⟩, 43) := ⟨⟨by decide +kernel, by decide +kernel⟩, List.mem_of_getElem? (i := 1202) (by decide +kernel), List.mem_of_getElem? (i := 1456) (by decide +kernel), List.mem_of_getElem? (i := 1457) (by decide +kernel)⟩
theorem lw_p51 : lw_okq (⟨"BellPullHouseModel", "isOdds", "()Z"⟩, 43) := ⟨⟨by decide +kernel, by decide +kernel⟩, List.mem_of_getElem? (i := 1202) (by decide +kernel), List.mem_of_getElem? (i := 1463) (by decide +kernel), List.mem_of_getElem? (i := 1464) (by decide +kernel)⟩
theorem lw_p52 : lw_okq (⟨"BellPullHouseModel", "isRoom", "()Z"⟩, 43) := ⟨⟨by decide +kernel, by decide +kernel⟩, List.mem_of_getElem? (i := 1202) (by decide +kernel), List.mem_of_getElem? (i := 1467) (by decide +kernel), List.mem_of_getElem? (i := 1468) (by decide +kernel)⟩
theorem lw_p53 : lw_okq (⟨"BellPullHouseModel", "readRoom", "()V"⟩, 43) := ⟨⟨by decide +kernel, by decide +kernel⟩, List.mem_of_getElem? (i := 1202) (by decide +kernel), List.mem_of_getElem? (i := 1471) (by decide +kernel), List.mem_of_getElem? (i := 1472) (by decide +kernel)⟩
theorem lw_p54 : lw_okq (⟨"BellPullHouseModel", "readNew", "(II)I"⟩, 43) := ⟨⟨by decide +kernel, by decide +kernel⟩, List.mem_of_getElem? (i := 1202) (by decide +kernel), List.mem_of_getElem? (i := 1475) (by decide +kernel), List.mem_of_getElem? (i := 1476) (by decide +kernel)⟩
theorem lw_p55 : lw_okq (⟨"BellPullHouseModel", "isName", "()Z"⟩, 43) := ⟨⟨by decide +kernel, by decide +kernel⟩, List.mem_of_getElem? (i := 1202) (by decide +kernel), List.mem_of_getElem? (i := 1479) (by decide +kernel), List.mem_of_getElem? (i := 1480) (by decide +kernel)⟩
theorem lw_p56 : lw_okq (⟨"BellPullHouseModel", "isKept", "()Z"⟩, 43) := ⟨⟨by decide +kernel, by decide +kernel⟩, List.mem_of_getElem? (i := 1202) (by decide +kernel), List.mem_of_getElem? (i := 1483) (by decide +kernel), List.mem_of_getElem? (i := 1484) (by decide +kernel)⟩
theorem lw_p57 : lw_okq (⟨"BellPullHouseModel", "isWire", "()Z"⟩, 43) := ⟨⟨by decide +kernel, by decide +kernel⟩, List.mem_of_getElem? (i := 1202) (by decide +kernel), List.mem_of_getElem? (i := 1487) (by decide +kernel), List.mem_of_getElem? (i := 1488) (by decide +kernel)⟩
theorem lw_p58 : lw_okq (⟨"BellPullHouseModel", "isFrom", "()Z"⟩, 43) := ⟨⟨by decide +kernel, by decide +kernel⟩, List.mem_of_getElem? (i := 1202) (by decide +kernel), List.mem_of_getElem? (i := 1491) (by decide +kernel), List.mem_of_getElem? (i := 1492) (by decide +kernel)⟩
theorem lw_p59 : lw_okq (⟨"BellPullHouseModel", "isTo", "()Z"⟩, 43) := ⟨⟨by decide +kernel, by decide +kernel⟩, List.mem_of_getElem? (i := 1202) (by decide +kernel), List.mem_of_getElem? (i := 1495) (by decide +kernel), List.mem_of_getElem? (i := 1496) (by decide +kernel)⟩
theorem lw_p60 : lw_okq (⟨"BellPullHouseModel", "isSlack", "()Z"⟩, 43) := ⟨⟨by decide +kernel, by decide +kernel⟩, List.mem_of_getElem? (i := 1202) (by decide +kernel), List.mem_of_getElem? (i := 1499) (by decide +kernel), List.mem_of_getElem? (i := 1500) (by decide +kernel)⟩
theorem lw_p61 : lw_okq (⟨"BellPullHouseModel", "isCouple", "()Z"⟩, 43) := ⟨⟨by decide +kernel, by decide +kernel⟩, List.mem_of_getElem? (i := 1202) (by decide +kernel), List.mem_of_getElem? (i := 1503) (by decide +kernel), List.mem_of_getElem? (i := 1504) (by decide +kernel)⟩
theorem lw_p62 : lw_okq (⟨"BellPullHouseModel", "isHe", "()Z"⟩, 43) := ⟨⟨by decide +kernel, by decide +kernel⟩, List.mem_of_getElem? (i := 1202) (by decide +kernel), List.mem_of_getElem? (i := 1507) (by decide +kernel), List.mem_of_getElem? (i := 1508) (by decide +kernel)⟩
theorem lw_p63 : lw_okq (⟨"BellPullHouseModel", "isShe", "()Z"⟩, 43) := ⟨⟨by decide +kernel, by decide +kernel⟩, List.mem_of_getElem? (i := 1202) (by decide +kernel), List.mem_of_getElem? (i := 1511) (by decide +kernel), List.mem_of_getElem? (i := 1512) (by decide +kernel)⟩
def lw_privs_4 : List (MethodName × Nat) := [(⟨"BellPullHouseModel", "fail", "(II)V"⟩, 43), (⟨"BellPullHouseModel", "count", "(II)I"⟩, 43), (⟨"BellPullHouseModel", "amiss", "()V"⟩, 43), (⟨"BellPullHouseModel", "isOdds", "()Z"⟩, 43), (⟨"BellPullHouseModel", "isRoom", "()Z"⟩, 43), (⟨"BellPullHouseModel", "readRoom", "()V"⟩, 43), (⟨"BellPullHouseModel", "readNew", "(II)I"⟩, 43), (⟨"BellPullHouseModel", "isName", "()Z"⟩, 43), (⟨"BellPullHouseModel", "isKept", "()Z"⟩, 43), (⟨"BellPullHouseModel", "isWire", "()Z"⟩, 43), (⟨"BellPullHouseModel", "isFrom", "()Z"⟩, 43), (⟨"BellPullHouseModel", "isTo", "()Z"⟩, 43), (⟨"BellPullHouseModel", "isSlack", "()Z"⟩, 43), (⟨"BellPullHouseModel", "isCouple", "()Z"⟩, 43), (⟨"BellPullHouseModel", "isHe", "()Z"⟩, 43), (⟨"BellPullHouseModel", "isShe", "()Z"⟩, 43)]
theorem lw_r4 : ∀ q ∈ lw_privs_4, lw_okq q := List.forall_mem_cons.mpr ⟨lw_p48, List.forall_mem_cons.mpr ⟨lw_p49, List.forall_mem_cons.mpr ⟨lw_p50, List.forall_mem_cons.mpr ⟨lw_p51, List.forall_mem_cons.mpr ⟨lw_p52, List.forall_mem_cons.mpr ⟨lw_p53, List.forall_mem_cons.mpr ⟨lw_p54, List.forall_mem_cons.mpr ⟨lw_p55, List.forall_mem_cons.mpr ⟨lw_p56, List.forall_mem_cons.mpr ⟨lw_p57, List.forall_mem_cons.mpr ⟨lw_p58, List.forall_mem_cons.mpr ⟨lw_p59, List.forall_mem_cons.mpr ⟨lw_p60, List.forall_mem_cons.mpr ⟨lw_p61, List.forall_mem_cons.mpr ⟨lw_p62, List.forall_mem_cons.mpr ⟨lw_p63, fun _ h => absurd h List.not_mem_nil⟩⟩⟩⟩⟩⟩⟩⟩⟩⟩⟩⟩⟩⟩⟩⟩
theorem lw_p64 : lw_okq (⟨"BellPullHouseModel", "stepWord", "()I"⟩, 43) := ⟨⟨by decide +kernel, by decide +kernel⟩, List.mem_of_getElem? (i := 1202) (by decide +kernel), List.mem_of_getElem? (i := 1515) (by decide +kernel), List.mem_of_getElem? (i := 1516) (by decide +kernel)⟩
theorem lw_p65 : lw_okq (⟨"BellPullHouseModel", "testWord", "()I"⟩, 43) := ⟨⟨by decide +kernel, by decide +kernel⟩, List.mem_of_getElem? (i := 1202) (by decide +kernel), List.mem_of_getElem? (i := 1519) (by decide +kernel), List.mem_of_getElem? (i := 1520) (by decide +kernel)⟩
theorem lw_p66 : lw_okq (⟨"BellPullHouseModel", "isLove", "()Z"⟩, 43) := ⟨⟨by decide +kernel, by decide +kernel⟩, List.mem_of_getElem? (i := 1202) (by decide +kernel), List.mem_of_getElem? (i := 1523) (by decide +kernel), List.mem_of_getElem? (i := 1524) (by decide +kernel)⟩
theorem lw_p67 : lw_okq (⟨"BellPullHouseModel", "isEnd", "()Z"⟩, 43) := ⟨⟨by decide +kernel, by decide +kernel⟩, List.mem_of_getElem? (i := 1202) (by decide +kernel), List.mem_of_getElem? (i := 1527) (by decide +kernel), List.mem_of_getElem? (i := 1528) (by decide +kernel)⟩
theorem lw_p68 : lw_okq (⟨"BellPullHouseModel", "named", "(II)I"⟩, 43) := ⟨⟨by decide +kernel, by decide +kernel⟩, List.mem_of_getElem? (i := 1202) (by decide +kernel), List.mem_of_getElem? (i := 1531) (by decide +kernel), List.mem_of_getElem? (i := 1532) (by decide +kernel)⟩
theorem lw_p69 : lw_okq (⟨"BellPullHouseModel", "readWire", "()V"⟩, 43) := ⟨⟨by decide +kernel, by decide +kernel⟩, List.mem_of_getElem? (i := 1202) (by decide +kernel), List.mem_of_getElem? (i := 1538) (by decide +kernel), List.mem_of_getElem? (i := 1539) (by decide +kernel)⟩
theorem lw_p70 : lw_okq (⟨"BellPullHouseModel", "must", "(Z)V"⟩, 43) := ⟨⟨by decide +kernel, by decide +kernel⟩, List.mem_of_getElem? (i := 1202) (by decide +kernel), List.mem_of_getElem? (i := 1542) (by decide +kernel), List.mem_of_getElem? (i := 1543) (by decide +kernel)⟩
theorem lw_p71 : lw_okq (⟨"BellPullHouseModel", "readTold", "(II)I"⟩, 43) := ⟨⟨by decide +kernel, by decide +kernel⟩, List.mem_of_getElem? (i := 1202) (by decide +kernel), List.mem_of_getElem? (i := 1546) (by decide +kernel), List.mem_of_getElem? (i := 1547) (by decide +kernel)⟩
theorem lw_p72 : lw_okq (⟨"BellPullHouseModel", "told", "(II)I"⟩, 43) := ⟨⟨by decide +kernel, by decide +kernel⟩, List.mem_of_getElem? (i := 1202) (by decide +kernel), List.mem_of_getElem? (i := 1550) (by decide +kernel), List.mem_of_getElem? (i := 1551) (by decide +kernel)⟩
theorem lw_p73 : lw_okq (⟨"BellPullHouseModel", "perhaps", "(Z)Z"⟩, 43) := ⟨⟨by decide +kernel, by decide +kernel⟩, List.mem_of_getElem? (i := 1202) (by decide +kernel), List.mem_of_getElem? (i := 1555) (by decide +kernel), List.mem_of_getElem? (i := 1556) (by decide +kernel)⟩
theorem lw_p74 : lw_okq (⟨"BellPullHouseModel", "strings", "(IIIII)V"⟩, 43) := ⟨⟨by decide +kernel, by decide +kernel⟩, List.mem_of_getElem? (i := 1202) (by decide +kernel), List.mem_of_getElem? (i := 1559) (by decide +kernel), List.mem_of_getElem? (i := 1560) (by decide +kernel)⟩
theorem lw_p75 : lw_okq (⟨"BellPullHouseModel", "readCouple", "()V"⟩, 43) := ⟨⟨by decide +kernel, by decide +kernel⟩, List.mem_of_getElem? (i := 1202) (by decide +kernel), List.mem_of_getElem? (i := 1563) (by decide +kernel), List.mem_of_getElem? (i := 1564) (by decide +kernel)⟩
theorem lw_p76 : lw_okq (⟨"BellPullHouseModel", "behindWord", "(ZII)I"⟩, 43) := ⟨⟨by decide +kernel, by decide +kernel⟩, List.mem_of_getElem? (i := 1202) (by decide +kernel), List.mem_of_getElem? (i := 1567) (by decide +kernel), List.mem_of_getElem? (i := 1568) (by decide +kernel)⟩
theorem lw_p77 : lw_okq (⟨"BellPullHouseModel", "isSign", "(I)Z"⟩, 43) := ⟨⟨by decide +kernel, by decide +kernel⟩, List.mem_of_getElem? (i := 1202) (by decide +kernel), List.mem_of_getElem? (i := 1571) (by decide +kernel), List.mem_of_getElem? (i := 1572) (by decide +kernel)⟩
theorem lw_p78 : lw_okq (⟨"BellPullHouseModel", "isWell", "()Z"⟩, 43) := ⟨⟨by decide +kernel, by decide +kernel⟩, List.mem_of_getElem? (i := 1202) (by decide +kernel), List.mem_of_getElem? (i := 1575) (by decide +kernel), List.mem_of_getElem? (i := 1576) (by decide +kernel)⟩
theorem lw_p79 : lw_okq (⟨"BellPullHouseModel", "copy", "(II)V"⟩, 43) := ⟨⟨by decide +kernel, by decide +kernel⟩, List.mem_of_getElem? (i := 1202) (by decide +kernel), List.mem_of_getElem? (i := 1579) (by decide +kernel), List.mem_of_getElem? (i := 1580) (by decide +kernel)⟩
def lw_privs_5 : List (MethodName × Nat) := [(⟨"BellPullHouseModel", "stepWord", "()I"⟩, 43), (⟨"BellPullHouseModel", "testWord", "()I"⟩, 43), (⟨"BellPullHouseModel", "isLove", "()Z"⟩, 43), (⟨"BellPullHouseModel", "isEnd", "()Z"⟩, 43), (⟨"BellPullHouseModel", "named", "(II)I"⟩, 43), (⟨"BellPullHouseModel", "readWire", "()V"⟩, 43), (⟨"BellPullHouseModel", "must", "(Z)V"⟩, 43), (⟨"BellPullHouseModel", "readTold", "(II)I"⟩, 43), (⟨"BellPullHouseModel", "told", "(II)I"⟩, 43), (⟨"BellPullHouseModel", "perhaps", "(Z)Z"⟩, 43), (⟨"BellPullHouseModel", "strings", "(IIIII)V"⟩, 43), (⟨"BellPullHouseModel", "readCouple", "()V"⟩, 43), (⟨"BellPullHouseModel", "behindWord", "(ZII)I"⟩, 43), (⟨"BellPullHouseModel", "isSign", "(I)Z"⟩, 43), (⟨"BellPullHouseModel", "isWell", "()Z"⟩, 43), (⟨"BellPullHouseModel", "copy", "(II)V"⟩, 43)]
theorem lw_r5 : ∀ q ∈ lw_privs_5, lw_okq q := List.forall_mem_cons.mpr ⟨lw_p64, List.forall_mem_cons.mpr ⟨lw_p65, List.forall_mem_cons.mpr ⟨lw_p66, List.forall_mem_cons.mpr ⟨lw_p67, List.forall_mem_cons.mpr ⟨lw_p68, List.forall_mem_cons.mpr ⟨lw_p69, List.forall_mem_cons.mpr ⟨lw_p70, List.forall_mem_cons.mpr ⟨lw_p71, List.forall_mem_cons.mpr ⟨lw_p72, List.forall_mem_cons.mpr ⟨lw_p73, List.forall_mem_cons.mpr ⟨lw_p74, List.forall_mem_cons.mpr ⟨lw_p75, List.forall_mem_cons.mpr ⟨lw_p76, List.forall_mem_cons.mpr ⟨lw_p77, List.forall_mem_cons.mpr ⟨lw_p78, List.forall_mem_cons.mpr ⟨lw_p79, fun _ h => absurd h List.not_mem_nil⟩⟩⟩⟩⟩⟩⟩⟩⟩⟩⟩⟩⟩⟩⟩⟩
theorem lw_p80 : lw_okq (⟨"BellPullHouseModel", "readStep", "(I)V"⟩, 43) := ⟨⟨by decide +kernel, by decide +kernel⟩, List.mem_of_getElem? (i := 1202) (by decide +kernel), List.mem_of_getElem? (i := 1587) (by decide +kernel), List.mem_of_getElem? (i := 1588) (by decide +kernel)⟩
theorem lw_p81 : lw_okq (⟨"BellPullHouseModel", "readRest", "(I)V"⟩, 43) := ⟨⟨by decide +kernel, by decide +kernel⟩, List.mem_of_getElem? (i := 1202) (by decide +kernel), List.mem_of_getElem? (i := 1591) (by decide +kernel), List.mem_of_getElem? (i := 1592) (by decide +kernel)⟩
theorem lw_p82 : lw_okq (⟨"BellPullHouseModel", "readTest", "(I)V"⟩, 43) := ⟨⟨by decide +kernel, by decide +kernel⟩, List.mem_of_getElem? (i := 1202) (by decide +kernel), List.mem_of_getElem? (i := 1595) (by decide +kernel), List.mem_of_getElem? (i := 1596) (by decide +kernel)⟩
theorem lw_p83 : lw_okq (⟨"BellPullHouseModel", "refuse", "(I)I"⟩, 43) := ⟨⟨by decide +kernel, by decide +kernel⟩, List.mem_of_getElem? (i := 1202) (by decide +kernel), List.mem_of_getElem? (i := 1604) (by decide +kernel), List.mem_of_getElem? (i := 1605) (by decide +kernel)⟩
theorem lw_p84 : lw_okq (⟨"BellPullHouseModel", "setOf", "(II)I"⟩, 43) := ⟨⟨by decide +kernel, by decide +kernel⟩, List.mem_of_getElem? (i := 1202) (by decide +kernel), List.mem_of_getElem? (i := 1608) (by decide +kernel), List.mem_of_getElem? (i := 1609) (by decide +kernel)⟩
theorem lw_p85 : lw_okq (⟨"BellPullHouseModel", "rung", "()I"⟩, 43) := ⟨⟨by decide +kernel, by decide +kernel⟩, List.mem_of_getElem? (i := 1202) (by decide +kernel), List.mem_of_getElem? (i := 1612) (by decide +kernel), List.mem_of_getElem? (i := 1613) (by decide +kernel)⟩
theorem lw_p86 : lw_okq (⟨"BellPullHouseModel", "laysFar", "()V"⟩, 43) := ⟨⟨by decide +kernel, by decide +kernel⟩, List.mem_of_getElem? (i := 1202) (by decide +kernel), List.mem_of_getElem? (i := 1616) (by decide +kernel), List.mem_of_getElem? (i := 1617) (by decide +kernel)⟩
theorem lw_p87 : lw_okq (⟨"BellPullHouseModel", "isRungNow", "(I)Z"⟩, 43) := ⟨⟨by decide +kernel, by decide +kernel⟩, List.mem_of_getElem? (i := 1202) (by decide +kernel), List.mem_of_getElem? (i := 1621) (by decide +kernel), List.mem_of_getElem? (i := 1622) (by decide +kernel)⟩
theorem lw_p88 : lw_okq (⟨"BellPullHouseModel", "isHeard", "(II)Z"⟩, 43) := ⟨⟨by decide +kernel, by decide +kernel⟩, List.mem_of_getElem? (i := 1202) (by decide +kernel), List.mem_of_getElem? (i := 1625) (by decide +kernel), List.mem_of_getElem? (i := 1626) (by decide +kernel)⟩
theorem lw_p89 : lw_okq (⟨"BellPullHouseModel", "farOf", "(II)I"⟩, 43) := ⟨⟨by decide +kernel, by decide +kernel⟩, List.mem_of_getElem? (i := 1202) (by decide +kernel), List.mem_of_getElem? (i := 1629) (by decide +kernel), List.mem_of_getElem? (i := 1630) (by decide +kernel)⟩
theorem lw_p90 : lw_okq (⟨"BellPullHouseModel", "allLove", "()I"⟩, 43) := ⟨⟨by decide +kernel, by decide +kernel⟩, List.mem_of_getElem? (i := 1202) (by decide +kernel), List.mem_of_getElem? (i := 1633) (by decide +kernel), List.mem_of_getElem? (i := 1634) (by decide +kernel)⟩
theorem lw_p91 : lw_okq (⟨"BellPullHouseModel", "isWireAt", "(I)Z"⟩, 43) := ⟨⟨by decide +kernel, by decide +kernel⟩, List.mem_of_getElem? (i := 1202) (by decide +kernel), List.mem_of_getElem? (i := 1641) (by decide +kernel), List.mem_of_getElem? (i := 1642) (by decide +kernel)⟩
theorem lw_p92 : lw_okq (⟨"BellPullHouseModel", "isCoupleAt", "(I)Z"⟩, 43) := ⟨⟨by decide +kernel, by decide +kernel⟩, List.mem_of_getElem? (i := 1202) (by decide +kernel), List.mem_of_getElem? (i := 1650) (by decide +kernel), List.mem_of_getElem? (i := 1651) (by decide +kernel)⟩
theorem lw_p93 : lw_okq (⟨"BellPullHouseModel", "isTray", "(I)Z"⟩, 43) := ⟨⟨by decide +kernel, by decide +kernel⟩, List.mem_of_getElem? (i := 1202) (by decide +kernel), List.mem_of_getElem? (i := 1659) (by decide +kernel), List.mem_of_getElem? (i := 1660) (by decide +kernel)⟩
theorem lw_p94 : lw_okq (⟨"BellPullHouseModel", "goesDay", "()I"⟩, 43) := ⟨⟨by decide +kernel, by decide +kernel⟩, List.mem_of_getElem? (i := 1202) (by decide +kernel), List.mem_of_getElem? (i := 1669) (by decide +kernel), List.mem_of_getElem? (i := 1670) (by decide +kernel)⟩
theorem lw_p95 : lw_okq (⟨"BellPullHouseModel", "answerOf", "(I)I"⟩, 43) := ⟨⟨by decide +kernel, by decide +kernel⟩, List.mem_of_getElem? (i := 1202) (by decide +kernel), List.mem_of_getElem? (i := 1673) (by decide +kernel), List.mem_of_getElem? (i := 1674) (by decide +kernel)⟩
def lw_privs_6 : List (MethodName × Nat) := [(⟨"BellPullHouseModel", "readStep", "(I)V"⟩, 43), (⟨"BellPullHouseModel", "readRest", "(I)V"⟩, 43), (⟨"BellPullHouseModel", "readTest", "(I)V"⟩, 43), (⟨"BellPullHouseModel", "refuse", "(I)I"⟩, 43), (⟨"BellPullHouseModel", "setOf", "(II)I"⟩, 43), (⟨"BellPullHouseModel", "rung", "()I"⟩, 43), (⟨"BellPullHouseModel", "laysFar", "()V"⟩, 43), (⟨"BellPullHouseModel", "isRungNow", "(I)Z"⟩, 43), (⟨"BellPullHouseModel", "isHeard", "(II)Z"⟩, 43), (⟨"BellPullHouseModel", "farOf", "(II)I"⟩, 43), (⟨"BellPullHouseModel", "allLove", "()I"⟩, 43), (⟨"BellPullHouseModel", "isWireAt", "(I)Z"⟩, 43), (⟨"BellPullHouseModel", "isCoupleAt", "(I)Z"⟩, 43), (⟨"BellPullHouseModel", "isTray", "(I)Z"⟩, 43), (⟨"BellPullHouseModel", "goesDay", "()I"⟩, 43), (⟨"BellPullHouseModel", "answerOf", "(I)I"⟩, 43)]
theorem lw_r6 : ∀ q ∈ lw_privs_6, lw_okq q := List.forall_mem_cons.mpr ⟨lw_p80, List.forall_mem_cons.mpr ⟨lw_p81, List.forall_mem_cons.mpr ⟨lw_p82, List.forall_mem_cons.mpr ⟨lw_p83, List.forall_mem_cons.mpr ⟨lw_p84, List.forall_mem_cons.mpr ⟨lw_p85, List.forall_mem_cons.mpr ⟨lw_p86, List.forall_mem_cons.mpr ⟨lw_p87, List.forall_mem_cons.mpr ⟨lw_p88, List.forall_mem_cons.mpr ⟨lw_p89, List.forall_mem_cons.mpr ⟨lw_p90, List.forall_mem_cons.mpr ⟨lw_p91, List.forall_mem_cons.mpr ⟨lw_p92, List.forall_mem_cons.mpr ⟨lw_p93, List.forall_mem_cons.mpr ⟨lw_p94, List.forall_mem_cons.mpr ⟨lw_p95, fun _ h => absurd h List.not_mem_nil⟩⟩⟩⟩⟩⟩⟩⟩⟩⟩⟩⟩⟩⟩⟩⟩
theorem lw_p96 : lw_okq (⟨"BellPullHouseModel", "loves", "(II)V"⟩, 43) := ⟨⟨by decide +kernel, by decide +kernel⟩, List.mem_of_getElem? (i := 1202) (by decide +kernel), List.mem_of_getElem? (i := 1677) (by decide +kernel), List.mem_of_getElem? (i := 1678) (by decide +kernel)⟩
theorem lw_p97 : lw_okq (⟨"BellPullHouseModel", "becomes", "(II)Z"⟩, 43) := ⟨⟨by decide +kernel, by decide +kernel⟩, List.mem_of_getElem? (i := 1202) (by decide +kernel), List.mem_of_getElem? (i := 1685) (by decide +kernel), List.mem_of_getElem? (i := 1686) (by decide +kernel)⟩
theorem lw_p98 : lw_okq (⟨"BellPullHouseModel", "canMend", "(I)Z"⟩, 43) := ⟨⟨by decide +kernel, by decide +kernel⟩, List.mem_of_getElem? (i := 1202) (by decide +kernel), List.mem_of_getElem? (i := 1697) (by decide +kernel), List.mem_of_getElem? (i := 1698) (by decide +kernel)⟩
theorem lw_p99 : lw_okq (⟨"BellPullHouseModel", "repairs", "(I)I"⟩, 43) := ⟨⟨by decide +kernel, by decide +kernel⟩, List.mem_of_getElem? (i := 1202) (by decide +kernel), List.mem_of_getElem? (i := 1701) (by decide +kernel), List.mem_of_getElem? (i := 1702) (by decide +kernel)⟩
theorem lw_p100 : lw_okq (⟨"BellPullHouseModel", "isRoomAt", "(I)Z"⟩, 43) := ⟨⟨by decide +kernel, by decide +kernel⟩, List.mem_of_getElem? (i := 1202) (by decide +kernel), List.mem_of_getElem? (i := 1714) (by decide +kernel), List.mem_of_getElem? (i := 1715) (by decide +kernel)⟩
theorem lw_p101 : lw_okq (⟨"BellPullHouseModel", "heardIn", "(I)I"⟩, 43) := ⟨⟨by decide +kernel, by decide +kernel⟩, List.mem_of_getElem? (i := 1202) (by decide +kernel), List.mem_of_getElem? (i := 1744) (by decide +kernel), List.mem_of_getElem? (i := 1745) (by decide +kernel)⟩
theorem lw_p102 : lw_okq (⟨"BellPullHouseModel", "nextOn", "(II)I"⟩, 43) := ⟨⟨by decide +kernel, by decide +kernel⟩, List.mem_of_getElem? (i := 1202) (by decide +kernel), List.mem_of_getElem? (i := 1760) (by decide +kernel), List.mem_of_getElem? (i := 1761) (by decide +kernel)⟩
theorem lw_p103 : lw_okq (⟨"BellPullHouseModel", "joins", "(III)Z"⟩, 43) := ⟨⟨by decide +kernel, by decide +kernel⟩, List.mem_of_getElem? (i := 1202) (by decide +kernel), List.mem_of_getElem? (i := 1764) (by decide +kernel), List.mem_of_getElem? (i := 1765) (by decide +kernel)⟩
theorem lw_p104 : lw_okq (⟨"BellPullHouseModel", "puts", "()V"⟩, 43) := ⟨⟨by decide +kernel, by decide +kernel⟩, List.mem_of_getElem? (i := 1202) (by decide +kernel), List.mem_of_getElem? (i := 1780) (by decide +kernel), List.mem_of_getElem? (i := 1781) (by decide +kernel)⟩
theorem lw_p105 : lw_okq (⟨"BellPullHouseModel", "gives", "()V"⟩, 43) := ⟨⟨by decide +kernel, by decide +kernel⟩, List.mem_of_getElem? (i := 1202) (by decide +kernel), List.mem_of_getElem? (i := 1784) (by decide +kernel), List.mem_of_getElem? (i := 1785) (by decide +kernel)⟩
theorem lw_p106 : lw_okq (⟨"BellPullHouseModel", "areCouples", "(I)Z"⟩, 43) := ⟨⟨by decide +kernel, by decide +kernel⟩, List.mem_of_getElem? (i := 1202) (by decide +kernel), List.mem_of_getElem? (i := 1804) (by decide +kernel), List.mem_of_getElem? (i := 1805) (by decide +kernel)⟩
theorem lw_p107 : lw_okq (⟨"BellPullHouseModel", "mending", "(I)I"⟩, 43) := ⟨⟨by decide +kernel, by decide +kernel⟩, List.mem_of_getElem? (i := 1202) (by decide +kernel), List.mem_of_getElem? (i := 1808) (by decide +kernel), List.mem_of_getElem? (i := 1809) (by decide +kernel)⟩
theorem lw_p108 : lw_okq (⟨"BellPullHouseModel", "whyNoCuts", "(II)I"⟩, 43) := ⟨⟨by decide +kernel, by decide +kernel⟩, List.mem_of_getElem? (i := 1202) (by decide +kernel), List.mem_of_getElem? (i := 1823) (by decide +kernel), List.mem_of_getElem? (i := 1824) (by decide +kernel)⟩
theorem lw_p109 : lw_okq (⟨"BellPullHouseModel", "cutting", "(II)I"⟩, 43) := ⟨⟨by decide +kernel, by decide +kernel⟩, List.mem_of_getElem? (i := 1202) (by decide +kernel), List.mem_of_getElem? (i := 1827) (by decide +kernel), List.mem_of_getElem? (i := 1828) (by decide +kernel)⟩
theorem lw_p110 : lw_okq (⟨"BellPullHouseModel", "lostBy", "(I)I"⟩, 43) := ⟨⟨by decide +kernel, by decide +kernel⟩, List.mem_of_getElem? (i := 1202) (by decide +kernel), List.mem_of_getElem? (i := 1839) (by decide +kernel), List.mem_of_getElem? (i := 1840) (by decide +kernel)⟩
theorem lw_p111 : lw_okq (⟨"BellPullHouseModel", "laysPairs", "()V"⟩, 43) := ⟨⟨by decide +kernel, by decide +kernel⟩, List.mem_of_getElem? (i := 1202) (by decide +kernel), List.mem_of_getElem? (i := 1859) (by decide +kernel), List.mem_of_getElem? (i := 1860) (by decide +kernel)⟩
def lw_privs_7 : List (MethodName × Nat) := [(⟨"BellPullHouseModel", "loves", "(II)V"⟩, 43), (⟨"BellPullHouseModel", "becomes", "(II)Z"⟩, 43), (⟨"BellPullHouseModel", "canMend", "(I)Z"⟩, 43), (⟨"BellPullHouseModel", "repairs", "(I)I"⟩, 43), (⟨"BellPullHouseModel", "isRoomAt", "(I)Z"⟩, 43), (⟨"BellPullHouseModel", "heardIn", "(I)I"⟩, 43), (⟨"BellPullHouseModel", "nextOn", "(II)I"⟩, 43), (⟨"BellPullHouseModel", "joins", "(III)Z"⟩, 43), (⟨"BellPullHouseModel", "puts", "()V"⟩, 43), (⟨"BellPullHouseModel", "gives", "()V"⟩, 43), (⟨"BellPullHouseModel", "areCouples", "(I)Z"⟩, 43), (⟨"BellPullHouseModel", "mending", "(I)I"⟩, 43), (⟨"BellPullHouseModel", "whyNoCuts", "(II)I"⟩, 43), (⟨"BellPullHouseModel", "cutting", "(II)I"⟩, 43), (⟨"BellPullHouseModel", "lostBy", "(I)I"⟩, 43), (⟨"BellPullHouseModel", "laysPairs", "()V"⟩, 43)]
theorem lw_r7 : ∀ q ∈ lw_privs_7, lw_okq q := List.forall_mem_cons.mpr ⟨lw_p96, List.forall_mem_cons.mpr ⟨lw_p97, List.forall_mem_cons.mpr ⟨lw_p98, List.forall_mem_cons.mpr ⟨lw_p99, List.forall_mem_cons.mpr ⟨lw_p100, List.forall_mem_cons.mpr ⟨lw_p101, List.forall_mem_cons.mpr ⟨lw_p102, List.forall_mem_cons.mpr ⟨lw_p103, List.forall_mem_cons.mpr ⟨lw_p104, List.forall_mem_cons.mpr ⟨lw_p105, List.forall_mem_cons.mpr ⟨lw_p106, List.forall_mem_cons.mpr ⟨lw_p107, List.forall_mem_cons.mpr ⟨lw_p108, List.forall_mem_cons.mpr ⟨lw_p109, List.forall_mem_cons.mpr ⟨lw_p110, List.forall_mem_cons.mpr ⟨lw_p111, fun _ h => absurd h List.not_mem_nil⟩⟩⟩⟩⟩⟩⟩⟩⟩⟩⟩⟩⟩⟩⟩⟩
theorem lw_p112 : lw_okq (⟨"BellPullHouseModel", "asker", "()I"⟩, 43) := ⟨⟨by decide +kernel, by decide +kernel⟩, List.mem_of_getElem? (i := 1202) (by decide +kernel), List.mem_of_getElem? (i := 1863) (by decide +kernel), List.mem_of_getElem? (i := 1864) (by decide +kernel)⟩
theorem lw_p113 : lw_okq (⟨"BellPullHouseModel", "nextAsked", "(I)I"⟩, 43) := ⟨⟨by decide +kernel, by decide +kernel⟩, List.mem_of_getElem? (i := 1202) (by decide +kernel), List.mem_of_getElem? (i := 1867) (by decide +kernel), List.mem_of_getElem? (i := 1868) (by decide +kernel)⟩
theorem lw_p114 : lw_okq (⟨"BellPullHouseModel", "plays", "(II)I"⟩, 43) := ⟨⟨by decide +kernel, by decide +kernel⟩, List.mem_of_getElem? (i := 1202) (by decide +kernel), List.mem_of_getElem? (i := 1879) (by decide +kernel), List.mem_of_getElem? (i := 1880) (by decide +kernel)⟩
theorem lw_p115 : lw_okq (⟨"BellPullHouseModel", "fraction", "(JJ)Z"⟩, 43) := ⟨⟨by decide +kernel, by decide +kernel⟩, List.mem_of_getElem? (i := 1202) (by decide +kernel), List.mem_of_getElem? (i := 1891) (by decide +kernel), List.mem_of_getElem? (i := 1892) (by decide +kernel)⟩
theorem lw_p116 : lw_okq (⟨"BellPullHouseModel", "runsYears", "(I)V"⟩, 43) := ⟨⟨by decide +kernel, by decide +kernel⟩, List.mem_of_getElem? (i := 1202) (by decide +kernel), List.mem_of_getElem? (i := 1907) (by decide +kernel), List.mem_of_getElem? (i := 1908) (by decide +kernel)⟩
theorem lw_p117 : lw_okq (⟨"BellPullHouseModel", "doAll", "(II)V"⟩, 43) := ⟨⟨by decide +kernel, by decide +kernel⟩, List.mem_of_getElem? (i := 1202) (by decide +kernel), List.mem_of_getElem? (i := 1911) (by decide +kernel), List.mem_of_getElem? (i := 1912) (by decide +kernel)⟩
theorem lw_p118 : lw_okq (⟨"BellPullHouseModel", "doOne", "(I)V"⟩, 43) := ⟨⟨by decide +kernel, by decide +kernel⟩, List.mem_of_getElem? (i := 1202) (by decide +kernel), List.mem_of_getElem? (i := 1915) (by decide +kernel), List.mem_of_getElem? (i := 1916) (by decide +kernel)⟩
theorem lw_p119 : lw_okq (⟨"BellPullHouseModel", "does", "(I)Z"⟩, 43) := ⟨⟨by decide +kernel, by decide +kernel⟩, List.mem_of_getElem? (i := 1202) (by decide +kernel), List.mem_of_getElem? (i := 1919) (by decide +kernel), List.mem_of_getElem? (i := 1920) (by decide +kernel)⟩
theorem lw_p120 : lw_okq (⟨"BellPullHouseModel", "anyDays", "(I)Z"⟩, 43) := ⟨⟨by decide +kernel, by decide +kernel⟩, List.mem_of_getElem? (i := 1202) (by decide +kernel), List.mem_of_getElem? (i := 1923) (by decide +kernel), List.mem_of_getElem? (i := 1924) (by decide +kernel)⟩
theorem lw_p121 : lw_okq (⟨"BellPullHouseModel", "isMended", "(I)Z"⟩, 43) := ⟨⟨by decide +kernel, by decide +kernel⟩, List.mem_of_getElem? (i := 1202) (by decide +kernel), List.mem_of_getElem? (i := 1927) (by decide +kernel), List.mem_of_getElem? (i := 1928) (by decide +kernel)⟩
theorem lw_p122 : lw_okq (⟨"BellPullHouseModel", "isCut", "(I)Z"⟩, 43) := ⟨⟨by decide +kernel, by decide +kernel⟩, List.mem_of_getElem? (i := 1202) (by decide +kernel), List.mem_of_getElem? (i := 1931) (by decide +kernel), List.mem_of_getElem? (i := 1932) (by decide +kernel)⟩
theorem lw_p123 : lw_okq (⟨"BellPullHouseModel", "isAny", "()Z"⟩, 43) := ⟨⟨by decide +kernel, by decide +kernel⟩, List.mem_of_getElem? (i := 1202) (by decide +kernel), List.mem_of_getElem? (i := 1935) (by decide +kernel), List.mem_of_getElem? (i := 1936) (by decide +kernel)⟩
theorem lw_p124 : lw_okq (⟨"BellPullHouseModel", "draw", "(I)I"⟩, 43) := ⟨⟨by decide +kernel, by decide +kernel⟩, List.mem_of_getElem? (i := 1202) (by decide +kernel), List.mem_of_getElem? (i := 1939) (by decide +kernel), List.mem_of_getElem? (i := 1940) (by decide +kernel)⟩
theorem lw_p125 : lw_okq (⟨"BellPullHouseModel", "isSo", "(I)Z"⟩, 43) := ⟨⟨by decide +kernel, by decide +kernel⟩, List.mem_of_getElem? (i := 1202) (by decide +kernel), List.mem_of_getElem? (i := 1944) (by decide +kernel), List.mem_of_getElem? (i := 1945) (by decide +kernel)⟩
def lw_privs_8 : List (MethodName × Nat) := [(⟨"BellPullHouseModel", "asker", "()I"⟩, 43), (⟨"BellPullHouseModel", "nextAsked", "(I)I"⟩, 43), (⟨"BellPullHouseModel", "plays", "(II)I"⟩, 43), (⟨"BellPullHouseModel", "fraction", "(JJ)Z"⟩, 43), (⟨"BellPullHouseModel", "runsYears", "(I)V"⟩, 43), (⟨"BellPullHouseModel", "doAll", "(II)V"⟩, 43), (⟨"BellPullHouseModel", "doOne", "(I)V"⟩, 43), (⟨"BellPullHouseModel", "does", "(I)Z"⟩, 43), (⟨"BellPullHouseModel", "anyDays", "(I)Z"⟩, 43), (⟨"BellPullHouseModel", "isMended", "(I)Z"⟩, 43), (⟨"BellPullHouseModel", "isCut", "(I)Z"⟩, 43), (⟨"BellPullHouseModel", "isAny", "()Z"⟩, 43), (⟨"BellPullHouseModel", "draw", "(I)I"⟩, 43), (⟨"BellPullHouseModel", "isSo", "(I)Z"⟩, 43)]
theorem lw_r8 : ∀ q ∈ lw_privs_8, lw_okq q := List.forall_mem_cons.mpr ⟨lw_p112, List.forall_mem_cons.mpr ⟨lw_p113, List.forall_mem_cons.mpr ⟨lw_p114, List.forall_mem_cons.mpr ⟨lw_p115, List.forall_mem_cons.mpr ⟨lw_p116, List.forall_mem_cons.mpr ⟨lw_p117, List.forall_mem_cons.mpr ⟨lw_p118, List.forall_mem_cons.mpr ⟨lw_p119, List.forall_mem_cons.mpr ⟨lw_p120, List.forall_mem_cons.mpr ⟨lw_p121, List.forall_mem_cons.mpr ⟨lw_p122, List.forall_mem_cons.mpr ⟨lw_p123, List.forall_mem_cons.mpr ⟨lw_p124, List.forall_mem_cons.mpr ⟨lw_p125, fun _ h => absurd h List.not_mem_nil⟩⟩⟩⟩⟩⟩⟩⟩⟩⟩⟩⟩⟩⟩
def lw_privs : List (MethodName × Nat) := lw_privs_1 ++ (lw_privs_2 ++ (lw_privs_3 ++ (lw_privs_4 ++ (lw_privs_5 ++ (lw_privs_6 ++ (lw_privs_7 ++ (lw_privs_8)))))))
def lw_tbl : List Cond := k2_sels lw_privs ++ tables_1
theorem lw_privs_ok : ∀ q ∈ lw_privs, lw_okq q := by
  show ∀ q ∈ lw_privs_1 ++ (lw_privs_2 ++ (lw_privs_3 ++ (lw_privs_4 ++ (lw_privs_5 ++ (lw_privs_6 ++ (lw_privs_7 ++ (lw_privs_8))))))), lw_okq q
  exact List.forall_mem_append.mpr ⟨lw_r1, List.forall_mem_append.mpr ⟨lw_r2, List.forall_mem_append.mpr ⟨lw_r3, List.forall_mem_append.mpr ⟨lw_r4, List.forall_mem_append.mpr ⟨lw_r5, List.forall_mem_append.mpr ⟨lw_r6, List.forall_mem_append.mpr ⟨lw_r7, lw_r8⟩⟩⟩⟩⟩⟩⟩
-- names of classes, fields, methods
def RX0 : String := "BellPullHouse$Days"
def TX0 : u_T := fun k => match k with
  | _ => ("BellPullHouse$Days", "whom", "[I", true)
def tyX0 : Nat → FieldType := fun k => match k with
  | _ => .array .int
theorem nmX0 : ∀ a, a < 1 → ∀ b, b < 1 → a ≠ b → (TX0 a).2.1 ≠ (TX0 b).2.1 := by decide +kernel
theorem tyX0_ok : ∀ k, k < 1 → parseFieldDescriptor (TX0 k).2.2.1 = some (tyX0 k) := by decide +kernel
abbrev cX0_init : ByteArray := prog_2_method_1_code
def yX0_init : MethodName := ⟨RX0, "<init>", "()V"⟩
abbrev cX0_pass : ByteArray := prog_2_method_2_code
def yX0_pass : MethodName := ⟨RX0, "pass", "(LBellPullHouse$House;I)I"⟩
abbrev cX0_passSpan : ByteArray := prog_2_method_3_code
def yX0_passSpan : MethodName := ⟨RX0, "passSpan", "(LBellPullHouse$House;I)I"⟩
abbrev cX0_alikeDays : ByteArray := prog_2_method_4_code
def yX0_alikeDays : MethodName := ⟨RX0, "alikeDays", "(LBellPullHouse$House;I)I"⟩
abbrev cX0_lossOf : ByteArray := prog_2_method_5_code
def yX0_lossOf : MethodName := ⟨RX0, "lossOf", "(I)I"⟩
abbrev cX0_loveThrough : ByteArray := prog_2_method_6_code
def yX0_loveThrough : MethodName := ⟨RX0, "loveThrough", "(LBellPullHouse$House;I)I"⟩
def RX1 : String := "BellPullHouse$House"
def TX1 : u_T := fun k => match k with
  | 0 => ("BellPullHouse$House", "power", "I", false)
  | 1 => ("BellPullHouse$House", "odds", "I", false)
  | 2 => ("BellPullHouse$House", "rooms", "I", false)
  | 3 => ("BellPullHouse$House", "wires", "I", false)
  | 4 => ("BellPullHouse$House", "couples", "I", false)
  | 5 => ("BellPullHouse$House", "day", "I", false)
  | 6 => ("BellPullHouse$House", "damp", "Z", false)
  | 7 => ("BellPullHouse$House", "whole", "I", false)
  | 8 => ("BellPullHouse$House", "holds", "I", false)
  | 9 => ("BellPullHouse$House", "from", "[I", true)
  | 10 => ("BellPullHouse$House", "to", "[I", true)
  | 11 => ("BellPullHouse$House", "slack", "[I", true)
  | 12 => ("BellPullHouse$House", "he", "[I", true)
  | 13 => ("BellPullHouse$House", "she", "[I", true)
  | 14 => ("BellPullHouse$House", "love", "[I", true)
  | 15 => ("BellPullHouse$House", "ownDays", "[I", true)
  | 16 => ("BellPullHouse$House", "otherDays", "[I", true)
  | 17 => ("BellPullHouse$House", "names", "[J", true)
  | 18 => ("BellPullHouse$House", "lengths", "[I", true)
  | _ => ("BellPullHouse$House", "measured", "Z", false)
def tyX1 : Nat → FieldType := fun k => match k with
  | 0 => .int
  | 1 => .int
  | 2 => .int
  | 3 => .int
  | 4 => .int
  | 5 => .int
  | 6 => .boolean
  | 7 => .int
  | 8 => .int
  | 9 => .array .int
  | 10 => .array .int
  | 11 => .array .int
  | 12 => .array .int
  | 13 => .array .int
  | 14 => .array .int
  | 15 => .array .int
  | 16 => .array .int
  | 17 => .array .long
  | 18 => .array .int
  | _ => .boolean
theorem nmX1 : ∀ a, a < 20 → ∀ b, b < 20 → a ≠ b → (TX1 a).2.1 ≠ (TX1 b).2.1 := by decide +kernel
theorem tyX1_ok : ∀ k, k < 20 → parseFieldDescriptor (TX1 k).2.2.1 = some (tyX1 k) := by decide +kernel
abbrev cX1_init : ByteArray := prog_3_method_1_code
def yX1_init : MethodName := ⟨RX1, "<init>", "()V"⟩
abbrev cX1_clear : ByteArray := prog_3_method_2_code
def yX1_clear : MethodName := ⟨RX1, "clear", "()V"⟩
abbrev cX1_copyFrom : ByteArray := prog_3_method_3_code
def yX1_copyFrom : MethodName := ⟨RX1, "copyFrom", "(LBellPullHouse$House;)V"⟩
abbrev cX1_isRoom : ByteArray := prog_3_method_4_code
def yX1_isRoom : MethodName := ⟨RX1, "isRoom", "(I)Z"⟩
abbrev cX1_isWire : ByteArray := prog_3_method_5_code
def yX1_isWire : MethodName := ⟨RX1, "isWire", "(I)Z"⟩
abbrev cX1_isCouple : ByteArray := prog_3_method_6_code
def yX1_isCouple : MethodName := ⟨RX1, "isCouple", "(I)Z"⟩
abbrev cX1_isWhole : ByteArray := prog_3_method_7_code
def yX1_isWhole : MethodName := ⟨RX1, "isWhole", "(I)Z"⟩
abbrev cX1_isMendable : ByteArray := prog_3_method_8_code
def yX1_isMendable : MethodName := ⟨RX1, "isMendable", "(I)Z"⟩
abbrev cX1_isHolding : ByteArray := prog_3_method_9_code
def yX1_isHolding : MethodName := ⟨RX1, "isHolding", "(I)Z"⟩
abbrev cX1_isTaken : ByteArray := prog_3_method_10_code
def yX1_isTaken : MethodName := ⟨RX1, "isTaken", "(J)Z"⟩
abbrev cX1_findRoom : ByteArray := prog_3_method_11_code
def yX1_findRoom : MethodName := ⟨RX1, "findRoom", "(J)I"⟩
abbrev cX1_findWire : ByteArray := prog_3_method_12_code
def yX1_findWire : MethodName := ⟨RX1, "findWire", "(J)I"⟩
abbrev cX1_findCouple : ByteArray := prog_3_method_13_code
def yX1_findCouple : MethodName := ⟨RX1, "findCouple", "(J)I"⟩
abbrev cX1_findName : ByteArray := prog_3_method_14_code
def yX1_findName : MethodName := ⟨RX1, "findName", "(IIJ)I"⟩
abbrev cX1_addWire : ByteArray := prog_3_method_15_code
def yX1_addWire : MethodName := ⟨RX1, "addWire", "(III)V"⟩
abbrev cX1_addCouple : ByteArray := prog_3_method_16_code
def yX1_addCouple : MethodName := ⟨RX1, "addCouple", "(III)V"⟩
abbrev cX1_cutWire : ByteArray := prog_3_method_17_code
def yX1_cutWire : MethodName := ⟨RX1, "cutWire", "(I)V"⟩
abbrev cX1_mendWire : ByteArray := prog_3_method_18_code
def yX1_mendWire : MethodName := ⟨RX1, "mendWire", "(I)V"⟩
abbrev cX1_setSlack : ByteArray := prog_3_method_19_code
def yX1_setSlack : MethodName := ⟨RX1, "setSlack", "(II)V"⟩
abbrev cX1_distance : ByteArray := prog_3_method_20_code
def yX1_distance : MethodName := ⟨RX1, "distance", "(II)I"⟩
abbrev cX1_measure : ByteArray := prog_3_method_21_code
def yX1_measure : MethodName := ⟨RX1, "measure", "()V"⟩
abbrev cX1_nextOnWay : ByteArray := prog_3_method_22_code
def yX1_nextOnWay : MethodName := ⟨RX1, "nextOnWay", "(II)I"⟩
abbrev cX1_shortestWire : ByteArray := prog_3_method_23_code
def yX1_shortestWire : MethodName := ⟨RX1, "shortestWire", "(II)I"⟩
abbrev cX1_isFirstOfPart : ByteArray := prog_3_method_24_code
def yX1_isFirstOfPart : MethodName := ⟨RX1, "isFirstOfPart", "(I)Z"⟩
abbrev cX1_heardSet : ByteArray := prog_3_method_25_code
def yX1_heardSet : MethodName := ⟨RX1, "heardSet", "(I)I"⟩
abbrev cX1_isRung : ByteArray := prog_3_method_26_code
def yX1_isRung : MethodName := ⟨RX1, "isRung", "(I)Z"⟩
abbrev cX1_rungSet : ByteArray := prog_3_method_27_code
def yX1_rungSet : MethodName := ⟨RX1, "rungSet", "()I"⟩
abbrev cX1_loveTogether : ByteArray := prog_3_method_28_code
def yX1_loveTogether : MethodName := ⟨RX1, "loveTogether", "()I"⟩
abbrev cX1_answerOf : ByteArray := prog_3_method_29_code
def yX1_answerOf : MethodName := ⟨RX1, "answerOf", "(I)I"⟩
abbrev cX1_answersAnother : ByteArray := prog_3_method_30_code
def yX1_answersAnother : MethodName := ⟨RX1, "answersAnother", "(I)Z"⟩
abbrev cX1_isStretching : ByteArray := prog_3_method_31_code
def yX1_isStretching : MethodName := ⟨RX1, "isStretching", "()Z"⟩
abbrev cX1_stretchAll : ByteArray := prog_3_method_32_code
def yX1_stretchAll : MethodName := ⟨RX1, "stretchAll", "()V"⟩
def RX2 : String := "BellPullHouse$HouseReader"
def TX2 : u_T := fun k => match k with
  | _ => ("", "", "", false)
def tyX2 : Nat → FieldType := fun k => match k with
  | _ => .int
theorem nmX2 : ∀ a, a < 0 → ∀ b, b < 0 → a ≠ b → (TX2 a).2.1 ≠ (TX2 b).2.1 := by decide +kernel
theorem tyX2_ok : ∀ k, k < 0 → parseFieldDescriptor (TX2 k).2.2.1 = some (tyX2 k) := by decide +kernel
abbrev cX2_readHouse : ByteArray := prog_4_method_2_code
def yX2_readHouse : MethodName := ⟨RX2, "readHouse", "(LBellPullHouse$Tokens;LBellPullHouse$House;I)Z"⟩
abbrev cX2_readPart : ByteArray := prog_4_method_3_code
def yX2_readPart : MethodName := ⟨RX2, "readPart", "(LBellPullHouse$Tokens;LBellPullHouse$House;)Z"⟩
abbrev cX2_readPower : ByteArray := prog_4_method_4_code
def yX2_readPower : MethodName := ⟨RX2, "readPower", "(LBellPullHouse$Tokens;LBellPullHouse$House;)Z"⟩
abbrev cX2_readOdds : ByteArray := prog_4_method_5_code
def yX2_readOdds : MethodName := ⟨RX2, "readOdds", "(LBellPullHouse$Tokens;LBellPullHouse$House;)Z"⟩
abbrev cX2_readRoom : ByteArray := prog_4_method_6_code
def yX2_readRoom : MethodName := ⟨RX2, "readRoom", "(LBellPullHouse$Tokens;LBellPullHouse$House;)Z"⟩
abbrev cX2_readWire : ByteArray := prog_4_method_7_code
def yX2_readWire : MethodName := ⟨RX2, "readWire", "(LBellPullHouse$Tokens;LBellPullHouse$House;)Z"⟩
abbrev cX2_readCouple : ByteArray := prog_4_method_8_code
def yX2_readCouple : MethodName := ⟨RX2, "readCouple", "(LBellPullHouse$Tokens;LBellPullHouse$House;)Z"⟩
abbrev cX2_takeNewName : ByteArray := prog_4_method_9_code
def yX2_takeNewName : MethodName := ⟨RX2, "takeNewName", "(LBellPullHouse$Tokens;LBellPullHouse$House;I)Z"⟩
abbrev cX2_takeRoom : ByteArray := prog_4_method_10_code
def yX2_takeRoom : MethodName := ⟨RX2, "takeRoom", "(LBellPullHouse$Tokens;LBellPullHouse$House;I)I"⟩
def RX3 : String := "BellPullHouse$Life"
def TX3 : u_T := fun k => match k with
  | 0 => ("BellPullHouse$Life", "steps", "I", false)
  | 1 => ("BellPullHouse$Life", "told", "[I", true)
  | 2 => ("BellPullHouse$Life", "turnsLeft", "[I", true)
  | 3 => ("BellPullHouse$Life", "days", "LBellPullHouse$Days;", true)
  | _ => ("BellPullHouse$Life", "drawn", "I", false)
def tyX3 : Nat → FieldType := fun k => match k with
  | 0 => .int
  | 1 => .array .int
  | 2 => .array .int
  | 3 => .object "BellPullHouse$Days"
  | _ => .int
theorem nmX3 : ∀ a, a < 5 → ∀ b, b < 5 → a ≠ b → (TX3 a).2.1 ≠ (TX3 b).2.1 := by decide +kernel
theorem tyX3_ok : ∀ k, k < 5 → parseFieldDescriptor (TX3 k).2.2.1 = some (tyX3 k) := by decide +kernel
abbrev cX3_init : ByteArray := prog_5_method_1_code
def yX3_init : MethodName := ⟨RX3, "<init>", "()V"⟩
abbrev cX3_lead : ByteArray := prog_5_method_2_code
def yX3_lead : MethodName := ⟨RX3, "lead", "(LBellPullHouse$House;LBellPullHouse$Years;I)V"⟩
abbrev cX3_passEnd : ByteArray := prog_5_method_3_code
def yX3_passEnd : MethodName := ⟨RX3, "passEnd", "(LBellPullHouse$Years;I)I"⟩
abbrev cX3_doStep : ByteArray := prog_5_method_4_code
def yX3_doStep : MethodName := ⟨RX3, "doStep", "(LBellPullHouse$House;LBellPullHouse$Years;I)I"⟩
abbrev cX3_isSo : ByteArray := prog_5_method_5_code
def yX3_isSo : MethodName := ⟨RX3, "isSo", "(LBellPullHouse$House;LBellPullHouse$Years;I)Z"⟩
abbrev cX3_compares : ByteArray := prog_5_method_6_code
def yX3_compares : MethodName := ⟨RX3, "compares", "(III)Z"⟩
abbrev cX3_turnDamp : ByteArray := prog_5_method_7_code
def yX3_turnDamp : MethodName := ⟨RX3, "turnDamp", "(LBellPullHouse$House;Z)Z"⟩
abbrev cX3_mendOne : ByteArray := prog_5_method_8_code
def yX3_mendOne : MethodName := ⟨RX3, "mendOne", "(LBellPullHouse$House;I)Z"⟩
abbrev cX3_cutOne : ByteArray := prog_5_method_9_code
def yX3_cutOne : MethodName := ⟨RX3, "cutOne", "(LBellPullHouse$House;I)Z"⟩
abbrev cX3_hurtAny : ByteArray := prog_5_method_10_code
def yX3_hurtAny : MethodName := ⟨RX3, "hurtAny", "(LBellPullHouse$House;)Z"⟩
abbrev cX3_drawBy : ByteArray := prog_5_method_11_code
def yX3_drawBy : MethodName := ⟨RX3, "drawBy", "(I)I"⟩
def RX4 : String := "BellPullHouse$Pairs"
def TX4 : u_T := fun k => match k with
  | 0 => ("BellPullHouse$Pairs", "sheOf", "[I", true)
  | 1 => ("BellPullHouse$Pairs", "heOf", "[I", true)
  | _ => ("BellPullHouse$Pairs", "asked", "[I", true)
def tyX4 : Nat → FieldType := fun k => match k with
  | 0 => .array .int
  | 1 => .array .int
  | _ => .array .int
theorem nmX4 : ∀ a, a < 3 → ∀ b, b < 3 → a ≠ b → (TX4 a).2.1 ≠ (TX4 b).2.1 := by decide +kernel
theorem tyX4_ok : ∀ k, k < 3 → parseFieldDescriptor (TX4 k).2.2.1 = some (tyX4 k) := by decide +kernel
abbrev cX4_init : ByteArray := prog_6_method_1_code
def yX4_init : MethodName := ⟨RX4, "<init>", "()V"⟩
abbrev cX4_findAll : ByteArray := prog_6_method_2_code
def yX4_findAll : MethodName := ⟨RX4, "findAll", "(LBellPullHouse$House;)V"⟩
abbrev cX4_askOnce : ByteArray := prog_6_method_3_code
def yX4_askOnce : MethodName := ⟨RX4, "askOnce", "(LBellPullHouse$House;)V"⟩
abbrev cX4_nextToAsk : ByteArray := prog_6_method_4_code
def yX4_nextToAsk : MethodName := ⟨RX4, "nextToAsk", "(LBellPullHouse$House;I)I"⟩
abbrev cX4_propose : ByteArray := prog_6_method_5_code
def yX4_propose : MethodName := ⟨RX4, "propose", "(LBellPullHouse$House;II)V"⟩
def RX5 : String := "BellPullHouse$Tokens"
def TX5 : u_T := fun k => match k with
  | 0 => ("BellPullHouse$Tokens", "kind", "I", false)
  | 1 => ("BellPullHouse$Tokens", "place", "I", false)
  | 2 => ("BellPullHouse$Tokens", "word", "J", false)
  | 3 => ("BellPullHouse$Tokens", "keyword", "I", false)
  | 4 => ("BellPullHouse$Tokens", "value", "I", false)
  | 5 => ("BellPullHouse$Tokens", "fault", "I", false)
  | 6 => ("BellPullHouse$Tokens", "faultPlace", "I", false)
  | 7 => ("BellPullHouse$Tokens", "fed", "I", false)
  | 8 => ("BellPullHouse$Tokens", "letters", "I", false)
  | 9 => ("BellPullHouse$Tokens", "text", "[B", true)
  | 10 => ("BellPullHouse$Tokens", "length", "I", false)
  | 11 => ("BellPullHouse$Tokens", "at", "I", false)
  | _ => ("BellPullHouse$Tokens", "keywords", "[J", true)
def tyX5 : Nat → FieldType := fun k => match k with
  | 0 => .int
  | 1 => .int
  | 2 => .long
  | 3 => .int
  | 4 => .int
  | 5 => .int
  | 6 => .int
  | 7 => .int
  | 8 => .int
  | 9 => .array .byte
  | 10 => .int
  | 11 => .int
  | _ => .array .long
theorem nmX5 : ∀ a, a < 13 → ∀ b, b < 13 → a ≠ b → (TX5 a).2.1 ≠ (TX5 b).2.1 := by decide +kernel
theorem tyX5_ok : ∀ k, k < 13 → parseFieldDescriptor (TX5 k).2.2.1 = some (tyX5 k) := by decide +kernel
abbrev cX5_init : ByteArray := prog_7_method_1_code
def yX5_init : MethodName := ⟨RX5, "<init>", "()V"⟩
abbrev cX5_feedInt : ByteArray := prog_7_method_2_code
def yX5_feedInt : MethodName := ⟨RX5, "feedInt", "(I)V"⟩
abbrev cX5_start : ByteArray := prog_7_method_3_code
def yX5_start : MethodName := ⟨RX5, "start", "(I)V"⟩
abbrev cX5_advance : ByteArray := prog_7_method_4_code
def yX5_advance : MethodName := ⟨RX5, "advance", "()V"⟩
abbrev cX5_scanWord : ByteArray := prog_7_method_5_code
def yX5_scanWord : MethodName := ⟨RX5, "scanWord", "()V"⟩
abbrev cX5_scanNumber : ByteArray := prog_7_method_6_code
def yX5_scanNumber : MethodName := ⟨RX5, "scanNumber", "()V"⟩
abbrev cX5_isLetter : ByteArray := prog_7_method_7_code
def yX5_isLetter : MethodName := ⟨RX5, "isLetter", "(I)Z"⟩
abbrev cX5_isDigit : ByteArray := prog_7_method_8_code
def yX5_isDigit : MethodName := ⟨RX5, "isDigit", "(I)Z"⟩
abbrev cX5_refuse : ByteArray := prog_7_method_9_code
def yX5_refuse : MethodName := ⟨RX5, "refuse", "(I)Z"⟩
abbrev cX5_isName : ByteArray := prog_7_method_10_code
def yX5_isName : MethodName := ⟨RX5, "isName", "()Z"⟩
abbrev cX5_isSign : ByteArray := prog_7_method_11_code
def yX5_isSign : MethodName := ⟨RX5, "isSign", "(I)Z"⟩
abbrev cX5_takeKeyword : ByteArray := prog_7_method_12_code
def yX5_takeKeyword : MethodName := ⟨RX5, "takeKeyword", "(I)Z"⟩
abbrev cX5_takeSemicolon : ByteArray := prog_7_method_13_code
def yX5_takeSemicolon : MethodName := ⟨RX5, "takeSemicolon", "()Z"⟩
abbrev cX5_takeNumber : ByteArray := prog_7_method_14_code
def yX5_takeNumber : MethodName := ⟨RX5, "takeNumber", "(II)I"⟩
def RX6 : String := "BellPullHouse$Tray"
def TX6 : u_T := fun k => match k with
  | 0 => ("BellPullHouse$Tray", "row", "[J", true)
  | 1 => ("BellPullHouse$Tray", "made", "Z", false)
  | 2 => ("BellPullHouse$Tray", "sort", "I", false)
  | _ => ("BellPullHouse$Tray", "length", "I", false)
def tyX6 : Nat → FieldType := fun k => match k with
  | 0 => .array .long
  | 1 => .boolean
  | 2 => .int
  | _ => .int
theorem nmX6 : ∀ a, a < 4 → ∀ b, b < 4 → a ≠ b → (TX6 a).2.1 ≠ (TX6 b).2.1 := by decide +kernel
theorem tyX6_ok : ∀ k, k < 4 → parseFieldDescriptor (TX6 k).2.2.1 = some (tyX6 k) := by decide +kernel
abbrev cX6_init : ByteArray := prog_8_method_1_code
def yX6_init : MethodName := ⟨RX6, "<init>", "()V"⟩
abbrev cX6_make : ByteArray := prog_8_method_2_code
def yX6_make : MethodName := ⟨RX6, "make", "(II)V"⟩
abbrev cX6_hasRow : ByteArray := prog_8_method_3_code
def yX6_hasRow : MethodName := ⟨RX6, "hasRow", "(II)Z"⟩
abbrev cX6_put : ByteArray := prog_8_method_4_code
def yX6_put : MethodName := ⟨RX6, "put", "(IJ)V"⟩
abbrev cX6_get : ByteArray := prog_8_method_5_code
def yX6_get : MethodName := ⟨RX6, "get", "(I)J"⟩
abbrev cX6_cutToWidth : ByteArray := prog_8_method_6_code
def yX6_cutToWidth : MethodName := ⟨RX6, "cutToWidth", "(J)J"⟩
def RX7 : String := "BellPullHouse$Wiring"
def TX7 : u_T := fun k => match k with
  | 0 => ("BellPullHouse$Wiring", "reach", "[I", true)
  | 1 => ("BellPullHouse$Wiring", "gameValue", "I", false)
  | _ => ("BellPullHouse$Wiring", "firstMove", "I", false)
def tyX7 : Nat → FieldType := fun k => match k with
  | 0 => .array .int
  | 1 => .int
  | _ => .int
theorem nmX7 : ∀ a, a < 3 → ∀ b, b < 3 → a ≠ b → (TX7 a).2.1 ≠ (TX7 b).2.1 := by decide +kernel
theorem tyX7_ok : ∀ k, k < 3 → parseFieldDescriptor (TX7 k).2.2.1 = some (tyX7 k) := by decide +kernel
abbrev cX7_init : ByteArray := prog_9_method_1_code
def yX7_init : MethodName := ⟨RX7, "<init>", "()V"⟩
abbrev cX7_carries : ByteArray := prog_9_method_2_code
def yX7_carries : MethodName := ⟨RX7, "carries", "(LBellPullHouse$House;IIII)Z"⟩
abbrev cX7_relax : ByteArray := prog_9_method_3_code
def yX7_relax : MethodName := ⟨RX7, "relax", "(III)Z"⟩
abbrev cX7_allRung : ByteArray := prog_9_method_4_code
def yX7_allRung : MethodName := ⟨RX7, "allRung", "(LBellPullHouse$House;III)Z"⟩
abbrev cX7_countRung : ByteArray := prog_9_method_5_code
def yX7_countRung : MethodName := ⟨RX7, "countRung", "(LBellPullHouse$House;II)I"⟩
abbrev cX7_mendableSet : ByteArray := prog_9_method_6_code
def yX7_mendableSet : MethodName := ⟨RX7, "mendableSet", "(LBellPullHouse$House;)I"⟩
abbrev cX7_leastMends : ByteArray := prog_9_method_7_code
def yX7_leastMends : MethodName := ⟨RX7, "leastMends", "(LBellPullHouse$House;I)I"⟩
abbrev cX7_leastCuts : ByteArray := prog_9_method_8_code
def yX7_leastCuts : MethodName := ⟨RX7, "leastCuts", "(LBellPullHouse$House;II)I"⟩
abbrev cX7_hangSet : ByteArray := prog_9_method_9_code
def yX7_hangSet : MethodName := ⟨RX7, "hangSet", "(LBellPullHouse$House;I)I"⟩
abbrev cX7_hangsOn : ByteArray := prog_9_method_10_code
def yX7_hangsOn : MethodName := ⟨RX7, "hangsOn", "(LBellPullHouse$House;II)Z"⟩
abbrev cX7_mostHungOn : ByteArray := prog_9_method_11_code
def yX7_mostHungOn : MethodName := ⟨RX7, "mostHungOn", "(LBellPullHouse$House;)I"⟩
abbrev cX7_lastingSixteenths : ByteArray := prog_9_method_12_code
def yX7_lastingSixteenths : MethodName := ⟨RX7, "lastingSixteenths", "(LBellPullHouse$House;I)J"⟩
abbrev cX7_toThePower : ByteArray := prog_9_method_13_code
def yX7_toThePower : MethodName := ⟨RX7, "toThePower", "(II)J"⟩
abbrev cX7_playOut : ByteArray := prog_9_method_14_code
def yX7_playOut : MethodName := ⟨RX7, "playOut", "(LBellPullHouse$House;I)V"⟩
abbrev cX7_mousePlays : ByteArray := prog_9_method_15_code
def yX7_mousePlays : MethodName := ⟨RX7, "mousePlays", "(LBellPullHouse$House;IIIII)I"⟩
abbrev cX7_wiremanPlays : ByteArray := prog_9_method_16_code
def yX7_wiremanPlays : MethodName := ⟨RX7, "wiremanPlays", "(LBellPullHouse$House;IIIII)I"⟩
def RX8 : String := "BellPullHouse$Years"
def TX8 : u_T := fun k => match k with
  | 0 => ("BellPullHouse$Years", "told", "Z", false)
  | 1 => ("BellPullHouse$Years", "steps", "I", false)
  | 2 => ("BellPullHouse$Years", "rows", "I", false)
  | 3 => ("BellPullHouse$Years", "kind", "[I", true)
  | 4 => ("BellPullHouse$Years", "test", "[I", true)
  | 5 => ("BellPullHouse$Years", "thing", "[I", true)
  | 6 => ("BellPullHouse$Years", "sign", "[I", true)
  | 7 => ("BellPullHouse$Years", "number", "[I", true)
  | 8 => ("BellPullHouse$Years", "partner", "[I", true)
  | 9 => ("BellPullHouse$Years", "open", "[I", true)
  | _ => ("BellPullHouse$Years", "depth", "I", false)
def tyX8 : Nat → FieldType := fun k => match k with
  | 0 => .boolean
  | 1 => .int
  | 2 => .int
  | 3 => .array .int
  | 4 => .array .int
  | 5 => .array .int
  | 6 => .array .int
  | 7 => .array .int
  | 8 => .array .int
  | 9 => .array .int
  | _ => .int
theorem nmX8 : ∀ a, a < 11 → ∀ b, b < 11 → a ≠ b → (TX8 a).2.1 ≠ (TX8 b).2.1 := by decide +kernel
theorem tyX8_ok : ∀ k, k < 11 → parseFieldDescriptor (TX8 k).2.2.1 = some (tyX8 k) := by decide +kernel
abbrev cX8_init : ByteArray := prog_10_method_1_code
def yX8_init : MethodName := ⟨RX8, "<init>", "()V"⟩
abbrev cX8_forget : ByteArray := prog_10_method_2_code
def yX8_forget : MethodName := ⟨RX8, "forget", "()V"⟩
abbrev cX8_openRow : ByteArray := prog_10_method_3_code
def yX8_openRow : MethodName := ⟨RX8, "openRow", "(I)V"⟩
abbrev cX8_closeRow : ByteArray := prog_10_method_4_code
def yX8_closeRow : MethodName := ⟨RX8, "closeRow", "(I)V"⟩
abbrev cX8_addRow : ByteArray := prog_10_method_5_code
def yX8_addRow : MethodName := ⟨RX8, "addRow", "(I)I"⟩
abbrev cX8_copyFrom : ByteArray := prog_10_method_6_code
def yX8_copyFrom : MethodName := ⟨RX8, "copyFrom", "(LBellPullHouse$Years;)V"⟩
def RX9 : String := "BellPullHouse$YearsReader"
def TX9 : u_T := fun k => match k with
  | _ => ("", "", "", false)
def tyX9 : Nat → FieldType := fun k => match k with
  | _ => .int
theorem nmX9 : ∀ a, a < 0 → ∀ b, b < 0 → a ≠ b → (TX9 a).2.1 ≠ (TX9 b).2.1 := by decide +kernel
theorem tyX9_ok : ∀ k, k < 0 → parseFieldDescriptor (TX9 k).2.2.1 = some (tyX9 k) := by decide +kernel
abbrev cX9_readYears : ByteArray := prog_11_method_2_code
def yX9_readYears : MethodName := ⟨RX9, "readYears", "(LBellPullHouse$Tokens;LBellPullHouse$House;LBellPullHouse$Years;I)Z"⟩
abbrev cX9_readEnd : ByteArray := prog_11_method_3_code
def yX9_readEnd : MethodName := ⟨RX9, "readEnd", "(LBellPullHouse$Tokens;LBellPullHouse$Years;)Z"⟩
abbrev cX9_readStep : ByteArray := prog_11_method_4_code
def yX9_readStep : MethodName := ⟨RX9, "readStep", "(LBellPullHouse$Tokens;LBellPullHouse$House;LBellPullHouse$Years;)Z"⟩
abbrev cX9_beginsStep : ByteArray := prog_11_method_5_code
def yX9_beginsStep : MethodName := ⟨RX9, "beginsStep", "(I)Z"⟩
abbrev cX9_readNumber : ByteArray := prog_11_method_6_code
def yX9_readNumber : MethodName := ⟨RX9, "readNumber", "(LBellPullHouse$Tokens;LBellPullHouse$Years;II)Z"⟩
abbrev cX9_readThing : ByteArray := prog_11_method_7_code
def yX9_readThing : MethodName := ⟨RX9, "readThing", "(LBellPullHouse$Tokens;LBellPullHouse$Years;II)Z"⟩
abbrev cX9_readTest : ByteArray := prog_11_method_8_code
def yX9_readTest : MethodName := ⟨RX9, "readTest", "(LBellPullHouse$Tokens;LBellPullHouse$House;LBellPullHouse$Years;I)Z"⟩
def RX10 : String := "BellPullHouse"
def TX10 : u_T := fun k => match k with
  | 0 => ("BellPullHouse", "status", "I", false)
  | 1 => ("BellPullHouse", "top", "J", false)
  | 2 => ("BellPullHouse", "bottom", "J", false)
  | 3 => ("BellPullHouse", "trays", "[LBellPullHouse$Tray;", true)
  | 4 => ("BellPullHouse", "fault", "I", false)
  | 5 => ("BellPullHouse", "faultPlace", "I", false)
  | 6 => ("BellPullHouse", "tape", "LBellPullHouse$Tokens;", true)
  | 7 => ("BellPullHouse", "house", "LBellPullHouse$House;", true)
  | 8 => ("BellPullHouse", "trial", "LBellPullHouse$House;", true)
  | 9 => ("BellPullHouse", "years", "LBellPullHouse$Years;", true)
  | 10 => ("BellPullHouse", "trialYears", "LBellPullHouse$Years;", true)
  | 11 => ("BellPullHouse", "markedHouses", "[LBellPullHouse$House;", true)
  | 12 => ("BellPullHouse", "markedYears", "[LBellPullHouse$Years;", true)
  | 13 => ("BellPullHouse", "marks", "I", false)
  | 14 => ("BellPullHouse", "days", "LBellPullHouse$Days;", true)
  | 15 => ("BellPullHouse", "wiring", "LBellPullHouse$Wiring;", true)
  | 16 => ("BellPullHouse", "pairs", "LBellPullHouse$Pairs;", true)
  | 17 => ("BellPullHouse", "life", "LBellPullHouse$Life;", true)
  | 18 => ("BellPullHouse", "lastLife", "[I", true)
  | _ => ("BellPullHouse", "hasLived", "Z", false)
def tyX10 : Nat → FieldType := fun k => match k with
  | 0 => .int
  | 1 => .long
  | 2 => .long
  | 3 => .array (.object "BellPullHouse$Tray")
  | 4 => .int
  | 5 => .int
  | 6 => .object "BellPullHouse$Tokens"
  | 7 => .object "BellPullHouse$House"
  | 8 => .object "BellPullHouse$House"
  | 9 => .object "BellPullHouse$Years"
  | 10 => .object "BellPullHouse$Years"
  | 11 => .array (.object "BellPullHouse$House")
  | 12 => .array (.object "BellPullHouse$Years")
  | 13 => .int
  | 14 => .object "BellPullHouse$Days"
  | 15 => .object "BellPullHouse$Wiring"
  | 16 => .object "BellPullHouse$Pairs"
  | 17 => .object "BellPullHouse$Life"
  | 18 => .array .int
  | _ => .boolean
theorem nmX10 : ∀ a, a < 20 → ∀ b, b < 20 → a ≠ b → (TX10 a).2.1 ≠ (TX10 b).2.1 := by decide +kernel
theorem tyX10_ok : ∀ k, k < 20 → parseFieldDescriptor (TX10 k).2.2.1 = some (tyX10 k) := by decide +kernel
abbrev cX10_init : ByteArray := prog_1_method_1_code
def yX10_init : MethodName := ⟨RX10, "<init>", "()V"⟩
abbrev cX10_status : ByteArray := prog_1_method_2_code
def yX10_status : MethodName := ⟨RX10, "status", "()I"⟩
abbrev cX10_top : ByteArray := prog_1_method_3_code
def yX10_top : MethodName := ⟨RX10, "top", "()J"⟩
abbrev cX10_bottom : ByteArray := prog_1_method_4_code
def yX10_bottom : MethodName := ⟨RX10, "bottom", "()J"⟩
abbrev cX10_tray : ByteArray := prog_1_method_5_code
def yX10_tray : MethodName := ⟨RX10, "tray", "(III)Z"⟩
abbrev cX10_write : ByteArray := prog_1_method_6_code
def yX10_write : MethodName := ⟨RX10, "write", "(IIJ)Z"⟩
abbrev cX10_read : ByteArray := prog_1_method_7_code
def yX10_read : MethodName := ⟨RX10, "read", "(II)J"⟩
abbrev cX10_pour : ByteArray := prog_1_method_8_code
def yX10_pour : MethodName := ⟨RX10, "pour", "(IIIII)Z"⟩
abbrev cX10_isTray : ByteArray := prog_1_method_9_code
def yX10_isTray : MethodName := ⟨RX10, "isTray", "(I)Z"⟩
abbrev cX10_wrongPlace : ByteArray := prog_1_method_10_code
def yX10_wrongPlace : MethodName := ⟨RX10, "wrongPlace", "(II)I"⟩
abbrev cX10_feed : ByteArray := prog_1_method_11_code
def yX10_feed : MethodName := ⟨RX10, "feed", "(IIIII)I"⟩
abbrev cX10_house : ByteArray := prog_1_method_12_code
def yX10_house : MethodName := ⟨RX10, "house", "(I)I"⟩
abbrev cX10_years : ByteArray := prog_1_method_13_code
def yX10_years : MethodName := ⟨RX10, "years", "(I)I"⟩
abbrev cX10_keepFault : ByteArray := prog_1_method_14_code
def yX10_keepFault : MethodName := ⟨RX10, "keepFault", "()V"⟩
abbrev cX10_fault : ByteArray := prog_1_method_15_code
def yX10_fault : MethodName := ⟨RX10, "fault", "(I)I"⟩
abbrev cX10_many : ByteArray := prog_1_method_16_code
def yX10_many : MethodName := ⟨RX10, "many", "(I)I"⟩
abbrev cX10_wire : ByteArray := prog_1_method_17_code
def yX10_wire : MethodName := ⟨RX10, "wire", "(II)I"⟩
abbrev cX10_couple : ByteArray := prog_1_method_18_code
def yX10_couple : MethodName := ⟨RX10, "couple", "(II)I"⟩
abbrev cX10_copyLove : ByteArray := prog_1_method_19_code
def yX10_copyLove : MethodName := ⟨RX10, "copyLove", "(I)I"⟩
abbrev cX10_day : ByteArray := prog_1_method_20_code
def yX10_day : MethodName := ⟨RX10, "day", "(I)I"⟩
abbrev cX10_damp : ByteArray := prog_1_method_21_code
def yX10_damp : MethodName := ⟨RX10, "damp", "(Z)Z"⟩
abbrev cX10_cut : ByteArray := prog_1_method_22_code
def yX10_cut : MethodName := ⟨RX10, "cut", "(I)I"⟩
abbrev cX10_mend : ByteArray := prog_1_method_23_code
def yX10_mend : MethodName := ⟨RX10, "mend", "(I)I"⟩
abbrev cX10_stretch : ByteArray := prog_1_method_24_code
def yX10_stretch : MethodName := ⟨RX10, "stretch", "(II)Z"⟩
abbrev cX10_string : ByteArray := prog_1_method_25_code
def yX10_string : MethodName := ⟨RX10, "string", "(II)I"⟩
abbrev cX10_move : ByteArray := prog_1_method_26_code
def yX10_move : MethodName := ⟨RX10, "move", "(III)I"⟩
abbrev cX10_wed : ByteArray := prog_1_method_27_code
def yX10_wed : MethodName := ⟨RX10, "wed", "(II)Z"⟩
abbrev cX10_divorce : ByteArray := prog_1_method_28_code
def yX10_divorce : MethodName := ⟨RX10, "divorce", "(I)I"⟩
abbrev cX10_rule : ByteArray := prog_1_method_29_code
def yX10_rule : MethodName := ⟨RX10, "rule", "(II)Z"⟩
abbrev cX10_far : ByteArray := prog_1_method_30_code
def yX10_far : MethodName := ⟨RX10, "far", "(II)I"⟩
abbrev cX10_heard : ByteArray := prog_1_method_31_code
def yX10_heard : MethodName := ⟨RX10, "heard", "(I)I"⟩
abbrev cX10_rings : ByteArray := prog_1_method_32_code
def yX10_rings : MethodName := ⟨RX10, "rings", "(I)I"⟩
abbrev cX10_answers : ByteArray := prog_1_method_33_code
def yX10_answers : MethodName := ⟨RX10, "answers", "(I)I"⟩
abbrev cX10_way : ByteArray := prog_1_method_34_code
def yX10_way : MethodName := ⟨RX10, "way", "(III)I"⟩
abbrev cX10_parts : ByteArray := prog_1_method_35_code
def yX10_parts : MethodName := ⟨RX10, "parts", "()I"⟩
abbrev cX10_loveIn : ByteArray := prog_1_method_36_code
def yX10_loveIn : MethodName := ⟨RX10, "loveIn", "(II)I"⟩
abbrev cX10_partsIn : ByteArray := prog_1_method_37_code
def yX10_partsIn : MethodName := ⟨RX10, "partsIn", "(I)I"⟩
abbrev cX10_silentIn : ByteArray := prog_1_method_38_code
def yX10_silentIn : MethodName := ⟨RX10, "silentIn", "(I)I"⟩
abbrev cX10_holdIn : ByteArray := prog_1_method_39_code
def yX10_holdIn : MethodName := ⟨RX10, "holdIn", "(I)I"⟩
abbrev cX10_lookAhead : ByteArray := prog_1_method_40_code
def yX10_lookAhead : MethodName := ⟨RX10, "lookAhead", "(I)V"⟩
abbrev cX10_mends : ByteArray := prog_1_method_41_code
def yX10_mends : MethodName := ⟨RX10, "mends", "(I)I"⟩
abbrev cX10_mendSet : ByteArray := prog_1_method_42_code
def yX10_mendSet : MethodName := ⟨RX10, "mendSet", "(I)I"⟩
abbrev cX10_fewestMends : ByteArray := prog_1_method_43_code
def yX10_fewestMends : MethodName := ⟨RX10, "fewestMends", "(I)I"⟩
abbrev cX10_cuts : ByteArray := prog_1_method_44_code
def yX10_cuts : MethodName := ⟨RX10, "cuts", "(II)I"⟩
abbrev cX10_cutSet : ByteArray := prog_1_method_45_code
def yX10_cutSet : MethodName := ⟨RX10, "cutSet", "(II)I"⟩
abbrev cX10_fewestCuts : ByteArray := prog_1_method_46_code
def yX10_fewestCuts : MethodName := ⟨RX10, "fewestCuts", "(II)I"⟩
abbrev cX10_hangs : ByteArray := prog_1_method_47_code
def yX10_hangs : MethodName := ⟨RX10, "hangs", "(I)I"⟩
abbrev cX10_vital : ByteArray := prog_1_method_48_code
def yX10_vital : MethodName := ⟨RX10, "vital", "()I"⟩
abbrev cX10_pulled : ByteArray := prog_1_method_49_code
def yX10_pulled : MethodName := ⟨RX10, "pulled", "(I)I"⟩
abbrev cX10_crossed : ByteArray := prog_1_method_50_code
def yX10_crossed : MethodName := ⟨RX10, "crossed", "(I)I"⟩
abbrev cX10_pair : ByteArray := prog_1_method_51_code
def yX10_pair : MethodName := ⟨RX10, "pair", "(I)I"⟩
abbrev cX10_swapped : ByteArray := prog_1_method_52_code
def yX10_swapped : MethodName := ⟨RX10, "swapped", "()I"⟩
abbrev cX10_game : ByteArray := prog_1_method_53_code
def yX10_game : MethodName := ⟨RX10, "game", "(I)I"⟩
abbrev cX10_moveOf : ByteArray := prog_1_method_54_code
def yX10_moveOf : MethodName := ⟨RX10, "moveOf", "(I)I"⟩
abbrev cX10_lasts : ByteArray := prog_1_method_55_code
def yX10_lasts : MethodName := ⟨RX10, "lasts", "(I)Z"⟩
abbrev cX10_faith : ByteArray := prog_1_method_56_code
def yX10_faith : MethodName := ⟨RX10, "faith", "(I)Z"⟩
abbrev cX10_live : ByteArray := prog_1_method_57_code
def yX10_live : MethodName := ⟨RX10, "live", "(I)I"⟩
abbrev cX10_lived : ByteArray := prog_1_method_58_code
def yX10_lived : MethodName := ⟨RX10, "lived", "(I)I"⟩
abbrev cX10_mean : ByteArray := prog_1_method_59_code
def yX10_mean : MethodName := ⟨RX10, "mean", "(II)Z"⟩
abbrev cX10_mark : ByteArray := prog_1_method_60_code
def yX10_mark : MethodName := ⟨RX10, "mark", "()I"⟩
abbrev cX10_back : ByteArray := prog_1_method_61_code
def yX10_back : MethodName := ⟨RX10, "back", "()I"⟩
abbrev cX10_answer : ByteArray := prog_1_method_62_code
def yX10_answer : MethodName := ⟨RX10, "answer", "(I)I"⟩
abbrev cX10_agree : ByteArray := prog_1_method_63_code
def yX10_agree : MethodName := ⟨RX10, "agree", "()Z"⟩
abbrev cX10_fail : ByteArray := prog_1_method_64_code
def yX10_fail : MethodName := ⟨RX10, "fail", "(I)I"⟩
abbrev cX10_refuse : ByteArray := prog_1_method_65_code
def yX10_refuse : MethodName := ⟨RX10, "refuse", "(I)Z"⟩
abbrev cX10_tell : ByteArray := prog_1_method_66_code
def yX10_tell : MethodName := ⟨RX10, "tell", "(JJ)V"⟩
abbrev cX10_commonDivisor : ByteArray := prog_1_method_67_code
def yX10_commonDivisor : MethodName := ⟨RX10, "commonDivisor", "(JJ)J"⟩
def RX11 : String := "BellPullHouseModel"
def TX11 : u_T := fun k => match k with
  | 0 => ("BellPullHouseModel", "status", "I", false)
  | 1 => ("BellPullHouseModel", "thrown", "I", false)
  | 2 => ("BellPullHouseModel", "above", "J", false)
  | 3 => ("BellPullHouseModel", "under", "J", false)
  | 4 => ("BellPullHouseModel", "traySort", "[I", true)
  | 5 => ("BellPullHouseModel", "trayMany", "[I", true)
  | 6 => ("BellPullHouseModel", "numbers", "[J", true)
  | 7 => ("BellPullHouseModel", "tape", "[B", true)
  | 8 => ("BellPullHouseModel", "taped", "I", false)
  | 9 => ("BellPullHouseModel", "textEnd", "I", false)
  | 10 => ("BellPullHouseModel", "faultKind", "I", false)
  | 11 => ("BellPullHouseModel", "faultAt", "I", false)
  | 12 => ("BellPullHouseModel", "bad", "I", false)
  | 13 => ("BellPullHouseModel", "badAt", "I", false)
  | 14 => ("BellPullHouseModel", "token", "I", false)
  | 15 => ("BellPullHouseModel", "at", "I", false)
  | 16 => ("BellPullHouseModel", "behind", "I", false)
  | 17 => ("BellPullHouseModel", "number", "I", false)
  | 18 => ("BellPullHouseModel", "letters", "I", false)
  | 19 => ("BellPullHouseModel", "word", "J", false)
  | 20 => ("BellPullHouseModel", "c", "[I", true)
  | 21 => ("BellPullHouseModel", "aside", "[I", true)
  | 22 => ("BellPullHouseModel", "before", "[I", true)
  | 23 => ("BellPullHouseModel", "words", "[J", true)
  | 24 => ("BellPullHouseModel", "markMany", "I", false)
  | 25 => ("BellPullHouseModel", "toldOnce", "I", false)
  | 26 => ("BellPullHouseModel", "newSteps", "I", false)
  | 27 => ("BellPullHouseModel", "fars", "[I", true)
  | 28 => ("BellPullHouseModel", "answered", "[I", true)
  | 29 => ("BellPullHouseModel", "gets", "[I", true)
  | 30 => ("BellPullHouseModel", "hers", "[I", true)
  | 31 => ("BellPullHouseModel", "asked", "[I", true)
  | 32 => ("BellPullHouseModel", "firstMove", "I", false)
  | 33 => ("BellPullHouseModel", "livedLast", "[I", true)
  | 34 => ("BellPullHouseModel", "hasLived", "Z", false)
  | 35 => ("BellPullHouseModel", "isOver", "Z", false)
  | 36 => ("BellPullHouseModel", "random", "I", false)
  | 37 => ("BellPullHouseModel", "done", "I", false)
  | 38 => ("BellPullHouseModel", "missed", "I", false)
  | 39 => ("BellPullHouseModel", "passed", "I", false)
  | 40 => ("BellPullHouseModel", "partedNow", "I", false)
  | 41 => ("BellPullHouseModel", "cutNow", "I", false)
  | _ => ("BellPullHouseModel", "leftOver", "I", false)
def tyX11 : Nat → FieldType := fun k => match k with
  | 0 => .int
  | 1 => .int
  | 2 => .long
  | 3 => .long
  | 4 => .array .int
  | 5 => .array .int
  | 6 => .array .long
  | 7 => .array .byte
  | 8 => .int
  | 9 => .int
  | 10 => .int
  | 11 => .int
  | 12 => .int
  | 13 => .int
  | 14 => .int
  | 15 => .int
  | 16 => .int
  | 17 => .int
  | 18 => .int
  | 19 => .long
  | 20 => .array .int
  | 21 => .array .int
  | 22 => .array .int
  | 23 => .array .long
  | 24 => .int
  | 25 => .int
  | 26 => .int
  | 27 => .array .int
  | 28 => .array .int
  | 29 => .array .int
  | 30 => .array .int
  | 31 => .array .int
  | 32 => .int
  | 33 => .array .int
  | 34 => .boolean
  | 35 => .boolean
  | 36 => .int
  | 37 => .int
  | 38 => .int
  | 39 => .int
  | 40 => .int
  | 41 => .int
  | _ => .int
theorem nmX11 : ∀ a, a < 43 → ∀ b, b < 43 → a ≠ b → (TX11 a).2.1 ≠ (TX11 b).2.1 := by decide +kernel
theorem tyX11_ok : ∀ k, k < 43 → parseFieldDescriptor (TX11 k).2.2.1 = some (tyX11 k) := by decide +kernel
abbrev cX11_init : ByteArray := prog_13_method_1_code
def yX11_init : MethodName := ⟨RX11, "<init>", "()V"⟩
abbrev cX11_status : ByteArray := prog_13_method_3_code
def yX11_status : MethodName := ⟨RX11, "status", "()I"⟩
abbrev cX11_top : ByteArray := prog_13_method_4_code
def yX11_top : MethodName := ⟨RX11, "top", "()J"⟩
abbrev cX11_bottom : ByteArray := prog_13_method_5_code
def yX11_bottom : MethodName := ⟨RX11, "bottom", "()J"⟩
abbrev cX11_refuse : ByteArray := prog_13_method_6_code
def yX11_refuse : MethodName := ⟨RX11, "refuse", "(I)I"⟩
abbrev cX11_no : ByteArray := prog_13_method_7_code
def yX11_no : MethodName := ⟨RX11, "no", "(I)Z"⟩
abbrev cX11_isIn : ByteArray := prog_13_method_8_code
def yX11_isIn : MethodName := ⟨RX11, "isIn", "(JJJ)Z"⟩
abbrev cX11_fraction : ByteArray := prog_13_method_9_code
def yX11_fraction : MethodName := ⟨RX11, "fraction", "(JJ)Z"⟩
abbrev cX11_cut : ByteArray := prog_13_method_10_code
def yX11_cut : MethodName := ⟨RX11, "cut", "(IJ)J"⟩
abbrev cX11_tray : ByteArray := prog_13_method_11_code
def yX11_tray : MethodName := ⟨RX11, "tray", "(III)Z"⟩
abbrev cX11_trayed : ByteArray := prog_13_method_12_code
def yX11_trayed : MethodName := ⟨RX11, "trayed", "(I)I"⟩
abbrev cX11_placed : ByteArray := prog_13_method_13_code
def yX11_placed : MethodName := ⟨RX11, "placed", "(II)I"⟩
abbrev cX11_write : ByteArray := prog_13_method_14_code
def yX11_write : MethodName := ⟨RX11, "write", "(IIJ)Z"⟩
abbrev cX11_read : ByteArray := prog_13_method_15_code
def yX11_read : MethodName := ⟨RX11, "read", "(II)J"⟩
abbrev cX11_pour : ByteArray := prog_13_method_16_code
def yX11_pour : MethodName := ⟨RX11, "pour", "(IIIII)Z"⟩
abbrev cX11_isTray : ByteArray := prog_13_method_17_code
def yX11_isTray : MethodName := ⟨RX11, "isTray", "(I)Z"⟩
abbrev cX11_has : ByteArray := prog_13_method_18_code
def yX11_has : MethodName := ⟨RX11, "has", "(II)Z"⟩
abbrev cX11_sizeOf : ByteArray := prog_13_method_19_code
def yX11_sizeOf : MethodName := ⟨RX11, "sizeOf", "(I)I"⟩
abbrev cX11_look2 : ByteArray := prog_13_method_20_code
def yX11_look2 : MethodName := ⟨RX11, "look2", "(I)I"⟩
abbrev cX11_isLetter : ByteArray := prog_13_method_21_code
def yX11_isLetter : MethodName := ⟨RX11, "isLetter", "(I)Z"⟩
abbrev cX11_isDigit : ByteArray := prog_13_method_22_code
def yX11_isDigit : MethodName := ⟨RX11, "isDigit", "(I)Z"⟩
abbrev cX11_isSignByte : ByteArray := prog_13_method_23_code
def yX11_isSignByte : MethodName := ⟨RX11, "isSignByte", "(I)Z"⟩
abbrev cX11_advance : ByteArray := prog_13_method_24_code
def yX11_advance : MethodName := ⟨RX11, "advance", "()V"⟩
abbrev cX11_isSign : ByteArray := prog_13_method_25_code
def yX11_isSign : MethodName := ⟨RX11, "isSign", "(I)Z"⟩
abbrev cX11_spelled : ByteArray := prog_13_method_26_code
def yX11_spelled : MethodName := ⟨RX11, "spelled", "(IIIIII)J"⟩
abbrev cX11_isWord : ByteArray := prog_13_method_27_code
def yX11_isWord : MethodName := ⟨RX11, "isWord", "(J)Z"⟩
abbrev cX11_isPower : ByteArray := prog_13_method_28_code
def yX11_isPower : MethodName := ⟨RX11, "isPower", "()Z"⟩
abbrev cX11_isOdds : ByteArray := prog_13_method_29_code
def yX11_isOdds : MethodName := ⟨RX11, "isOdds", "()Z"⟩
abbrev cX11_isRoom : ByteArray := prog_13_method_30_code
def yX11_isRoom : MethodName := ⟨RX11, "isRoom", "()Z"⟩
abbrev cX11_isWire : ByteArray := prog_13_method_31_code
def yX11_isWire : MethodName := ⟨RX11, "isWire", "()Z"⟩
abbrev cX11_isFrom : ByteArray := prog_13_method_32_code
def yX11_isFrom : MethodName := ⟨RX11, "isFrom", "()Z"⟩
abbrev cX11_isTo : ByteArray := prog_13_method_33_code
def yX11_isTo : MethodName := ⟨RX11, "isTo", "()Z"⟩
abbrev cX11_isSlack : ByteArray := prog_13_method_34_code
def yX11_isSlack : MethodName := ⟨RX11, "isSlack", "()Z"⟩
abbrev cX11_isCouple : ByteArray := prog_13_method_35_code
def yX11_isCouple : MethodName := ⟨RX11, "isCouple", "()Z"⟩
abbrev cX11_isHe : ByteArray := prog_13_method_36_code
def yX11_isHe : MethodName := ⟨RX11, "isHe", "()Z"⟩
abbrev cX11_isShe : ByteArray := prog_13_method_37_code
def yX11_isShe : MethodName := ⟨RX11, "isShe", "()Z"⟩
abbrev cX11_isLove : ByteArray := prog_13_method_38_code
def yX11_isLove : MethodName := ⟨RX11, "isLove", "()Z"⟩
abbrev cX11_stepWord : ByteArray := prog_13_method_39_code
def yX11_stepWord : MethodName := ⟨RX11, "stepWord", "()I"⟩
abbrev cX11_testWord : ByteArray := prog_13_method_40_code
def yX11_testWord : MethodName := ⟨RX11, "testWord", "()I"⟩
abbrev cX11_isEnd : ByteArray := prog_13_method_41_code
def yX11_isEnd : MethodName := ⟨RX11, "isEnd", "()Z"⟩
abbrev cX11_isKept : ByteArray := prog_13_method_42_code
def yX11_isKept : MethodName := ⟨RX11, "isKept", "()Z"⟩
abbrev cX11_isName : ByteArray := prog_13_method_43_code
def yX11_isName : MethodName := ⟨RX11, "isName", "()Z"⟩
abbrev cX11_fail : ByteArray := prog_13_method_44_code
def yX11_fail : MethodName := ⟨RX11, "fail", "(II)V"⟩
abbrev cX11_amiss : ByteArray := prog_13_method_45_code
def yX11_amiss : MethodName := ⟨RX11, "amiss", "()V"⟩
abbrev cX11_must : ByteArray := prog_13_method_46_code
def yX11_must : MethodName := ⟨RX11, "must", "(Z)V"⟩
abbrev cX11_count : ByteArray := prog_13_method_47_code
def yX11_count : MethodName := ⟨RX11, "count", "(II)I"⟩
abbrev cX11_behindWord : ByteArray := prog_13_method_48_code
def yX11_behindWord : MethodName := ⟨RX11, "behindWord", "(ZII)I"⟩
abbrev cX11_perhaps : ByteArray := prog_13_method_49_code
def yX11_perhaps : MethodName := ⟨RX11, "perhaps", "(Z)Z"⟩
abbrev cX11_feed : ByteArray := prog_13_method_50_code
def yX11_feed : MethodName := ⟨RX11, "feed", "(IIIII)I"⟩
abbrev cX11_lay : ByteArray := prog_13_method_51_code
def yX11_lay : MethodName := ⟨RX11, "lay", "(I)V"⟩
abbrev cX11_starts : ByteArray := prog_13_method_52_code
def yX11_starts : MethodName := ⟨RX11, "starts", "(II)Z"⟩
abbrev cX11_isWell : ByteArray := prog_13_method_53_code
def yX11_isWell : MethodName := ⟨RX11, "isWell", "()Z"⟩
abbrev cX11_fault : ByteArray := prog_13_method_54_code
def yX11_fault : MethodName := ⟨RX11, "fault", "(I)I"⟩
abbrev cX11_empties : ByteArray := prog_13_method_55_code
def yX11_empties : MethodName := ⟨RX11, "empties", "(I)V"⟩
abbrev cX11_namesFrom : ByteArray := prog_13_method_56_code
def yX11_namesFrom : MethodName := ⟨RX11, "namesFrom", "(I)I"⟩
abbrev cX11_named : ByteArray := prog_13_method_57_code
def yX11_named : MethodName := ⟨RX11, "named", "(II)I"⟩
abbrev cX11_readNew : ByteArray := prog_13_method_58_code
def yX11_readNew : MethodName := ⟨RX11, "readNew", "(II)I"⟩
abbrev cX11_told : ByteArray := prog_13_method_59_code
def yX11_told : MethodName := ⟨RX11, "told", "(II)I"⟩
abbrev cX11_readTold : ByteArray := prog_13_method_60_code
def yX11_readTold : MethodName := ⟨RX11, "readTold", "(II)I"⟩
abbrev cX11_readOnce : ByteArray := prog_13_method_61_code
def yX11_readOnce : MethodName := ⟨RX11, "readOnce", "(III)V"⟩
abbrev cX11_readRoom : ByteArray := prog_13_method_62_code
def yX11_readRoom : MethodName := ⟨RX11, "readRoom", "()V"⟩
abbrev cX11_readWire : ByteArray := prog_13_method_63_code
def yX11_readWire : MethodName := ⟨RX11, "readWire", "()V"⟩
abbrev cX11_strings : ByteArray := prog_13_method_64_code
def yX11_strings : MethodName := ⟨RX11, "strings", "(IIIII)V"⟩
abbrev cX11_readCouple : ByteArray := prog_13_method_65_code
def yX11_readCouple : MethodName := ⟨RX11, "readCouple", "()V"⟩
abbrev cX11_readPart : ByteArray := prog_13_method_66_code
def yX11_readPart : MethodName := ⟨RX11, "readPart", "()V"⟩
abbrev cX11_house : ByteArray := prog_13_method_67_code
def yX11_house : MethodName := ⟨RX11, "house", "(I)I"⟩
abbrev cX11_readTest : ByteArray := prog_13_method_68_code
def yX11_readTest : MethodName := ⟨RX11, "readTest", "(I)V"⟩
abbrev cX11_readRest : ByteArray := prog_13_method_69_code
def yX11_readRest : MethodName := ⟨RX11, "readRest", "(I)V"⟩
abbrev cX11_readStep : ByteArray := prog_13_method_70_code
def yX11_readStep : MethodName := ⟨RX11, "readStep", "(I)V"⟩
abbrev cX11_years : ByteArray := prog_13_method_71_code
def yX11_years : MethodName := ⟨RX11, "years", "(I)I"⟩
abbrev cX11_laysFar : ByteArray := prog_13_method_72_code
def yX11_laysFar : MethodName := ⟨RX11, "laysFar", "()V"⟩
abbrev cX11_farOf : ByteArray := prog_13_method_73_code
def yX11_farOf : MethodName := ⟨RX11, "farOf", "(II)I"⟩
abbrev cX11_isHeard : ByteArray := prog_13_method_74_code
def yX11_isHeard : MethodName := ⟨RX11, "isHeard", "(II)Z"⟩
abbrev cX11_isRungNow : ByteArray := prog_13_method_75_code
def yX11_isRungNow : MethodName := ⟨RX11, "isRungNow", "(I)Z"⟩
abbrev cX11_rung : ByteArray := prog_13_method_76_code
def yX11_rung : MethodName := ⟨RX11, "rung", "()I"⟩
abbrev cX11_isRoomAt : ByteArray := prog_13_method_77_code
def yX11_isRoomAt : MethodName := ⟨RX11, "isRoomAt", "(I)Z"⟩
abbrev cX11_isWireAt : ByteArray := prog_13_method_78_code
def yX11_isWireAt : MethodName := ⟨RX11, "isWireAt", "(I)Z"⟩
abbrev cX11_isCoupleAt : ByteArray := prog_13_method_79_code
def yX11_isCoupleAt : MethodName := ⟨RX11, "isCoupleAt", "(I)Z"⟩
abbrev cX11_setOf : ByteArray := prog_13_method_80_code
def yX11_setOf : MethodName := ⟨RX11, "setOf", "(II)I"⟩
abbrev cX11_allLove : ByteArray := prog_13_method_81_code
def yX11_allLove : MethodName := ⟨RX11, "allLove", "()I"⟩
abbrev cX11_many : ByteArray := prog_13_method_82_code
def yX11_many : MethodName := ⟨RX11, "many", "(I)I"⟩
abbrev cX11_wire : ByteArray := prog_13_method_83_code
def yX11_wire : MethodName := ⟨RX11, "wire", "(II)I"⟩
abbrev cX11_couple : ByteArray := prog_13_method_84_code
def yX11_couple : MethodName := ⟨RX11, "couple", "(II)I"⟩
abbrev cX11_copyLove : ByteArray := prog_13_method_85_code
def yX11_copyLove : MethodName := ⟨RX11, "copyLove", "(I)I"⟩
abbrev cX11_answerOf : ByteArray := prog_13_method_86_code
def yX11_answerOf : MethodName := ⟨RX11, "answerOf", "(I)I"⟩
abbrev cX11_loves : ByteArray := prog_13_method_87_code
def yX11_loves : MethodName := ⟨RX11, "loves", "(II)V"⟩
abbrev cX11_goesDay : ByteArray := prog_13_method_88_code
def yX11_goesDay : MethodName := ⟨RX11, "goesDay", "()I"⟩
abbrev cX11_day : ByteArray := prog_13_method_89_code
def yX11_day : MethodName := ⟨RX11, "day", "(I)I"⟩
abbrev cX11_becomes : ByteArray := prog_13_method_90_code
def yX11_becomes : MethodName := ⟨RX11, "becomes", "(II)Z"⟩
abbrev cX11_damp : ByteArray := prog_13_method_91_code
def yX11_damp : MethodName := ⟨RX11, "damp", "(Z)Z"⟩
abbrev cX11_cut_ : ByteArray := prog_13_method_92_code
def yX11_cut_ : MethodName := ⟨RX11, "cut", "(I)I"⟩
abbrev cX11_canMend : ByteArray := prog_13_method_93_code
def yX11_canMend : MethodName := ⟨RX11, "canMend", "(I)Z"⟩
abbrev cX11_repairs : ByteArray := prog_13_method_94_code
def yX11_repairs : MethodName := ⟨RX11, "repairs", "(I)I"⟩
abbrev cX11_mend : ByteArray := prog_13_method_95_code
def yX11_mend : MethodName := ⟨RX11, "mend", "(I)I"⟩
abbrev cX11_stretch : ByteArray := prog_13_method_96_code
def yX11_stretch : MethodName := ⟨RX11, "stretch", "(II)Z"⟩
abbrev cX11_string : ByteArray := prog_13_method_97_code
def yX11_string : MethodName := ⟨RX11, "string", "(II)I"⟩
abbrev cX11_move : ByteArray := prog_13_method_98_code
def yX11_move : MethodName := ⟨RX11, "move", "(III)I"⟩
abbrev cX11_wed : ByteArray := prog_13_method_99_code
def yX11_wed : MethodName := ⟨RX11, "wed", "(II)Z"⟩
abbrev cX11_divorce : ByteArray := prog_13_method_100_code
def yX11_divorce : MethodName := ⟨RX11, "divorce", "(I)I"⟩
abbrev cX11_rule : ByteArray := prog_13_method_101_code
def yX11_rule : MethodName := ⟨RX11, "rule", "(II)Z"⟩
abbrev cX11_far : ByteArray := prog_13_method_102_code
def yX11_far : MethodName := ⟨RX11, "far", "(II)I"⟩
abbrev cX11_heardIn : ByteArray := prog_13_method_103_code
def yX11_heardIn : MethodName := ⟨RX11, "heardIn", "(I)I"⟩
abbrev cX11_heard : ByteArray := prog_13_method_104_code
def yX11_heard : MethodName := ⟨RX11, "heard", "(I)I"⟩
abbrev cX11_rings : ByteArray := prog_13_method_105_code
def yX11_rings : MethodName := ⟨RX11, "rings", "(I)I"⟩
abbrev cX11_answers : ByteArray := prog_13_method_106_code
def yX11_answers : MethodName := ⟨RX11, "answers", "(I)I"⟩
abbrev cX11_nextOn : ByteArray := prog_13_method_107_code
def yX11_nextOn : MethodName := ⟨RX11, "nextOn", "(II)I"⟩
abbrev cX11_joins : ByteArray := prog_13_method_108_code
def yX11_joins : MethodName := ⟨RX11, "joins", "(III)Z"⟩
abbrev cX11_way : ByteArray := prog_13_method_109_code
def yX11_way : MethodName := ⟨RX11, "way", "(III)I"⟩
abbrev cX11_parts : ByteArray := prog_13_method_110_code
def yX11_parts : MethodName := ⟨RX11, "parts", "()I"⟩
abbrev cX11_puts : ByteArray := prog_13_method_111_code
def yX11_puts : MethodName := ⟨RX11, "puts", "()V"⟩
abbrev cX11_gives : ByteArray := prog_13_method_112_code
def yX11_gives : MethodName := ⟨RX11, "gives", "()V"⟩
abbrev cX11_isAhead : ByteArray := prog_13_method_113_code
def yX11_isAhead : MethodName := ⟨RX11, "isAhead", "(I)Z"⟩
abbrev cX11_loveIn : ByteArray := prog_13_method_114_code
def yX11_loveIn : MethodName := ⟨RX11, "loveIn", "(II)I"⟩
abbrev cX11_partsIn : ByteArray := prog_13_method_115_code
def yX11_partsIn : MethodName := ⟨RX11, "partsIn", "(I)I"⟩
abbrev cX11_silentIn : ByteArray := prog_13_method_116_code
def yX11_silentIn : MethodName := ⟨RX11, "silentIn", "(I)I"⟩
abbrev cX11_holdIn : ByteArray := prog_13_method_117_code
def yX11_holdIn : MethodName := ⟨RX11, "holdIn", "(I)I"⟩
abbrev cX11_mending : ByteArray := prog_13_method_118_code
def yX11_mending : MethodName := ⟨RX11, "mending", "(I)I"⟩
abbrev cX11_areCouples : ByteArray := prog_13_method_119_code
def yX11_areCouples : MethodName := ⟨RX11, "areCouples", "(I)Z"⟩
abbrev cX11_mends : ByteArray := prog_13_method_120_code
def yX11_mends : MethodName := ⟨RX11, "mends", "(I)I"⟩
abbrev cX11_mendSet : ByteArray := prog_13_method_121_code
def yX11_mendSet : MethodName := ⟨RX11, "mendSet", "(I)I"⟩
abbrev cX11_cutting : ByteArray := prog_13_method_122_code
def yX11_cutting : MethodName := ⟨RX11, "cutting", "(II)I"⟩
abbrev cX11_whyNoCuts : ByteArray := prog_13_method_123_code
def yX11_whyNoCuts : MethodName := ⟨RX11, "whyNoCuts", "(II)I"⟩
abbrev cX11_cuts : ByteArray := prog_13_method_124_code
def yX11_cuts : MethodName := ⟨RX11, "cuts", "(II)I"⟩
abbrev cX11_cutSet : ByteArray := prog_13_method_125_code
def yX11_cutSet : MethodName := ⟨RX11, "cutSet", "(II)I"⟩
abbrev cX11_lostBy : ByteArray := prog_13_method_126_code
def yX11_lostBy : MethodName := ⟨RX11, "lostBy", "(I)I"⟩
abbrev cX11_hangs : ByteArray := prog_13_method_127_code
def yX11_hangs : MethodName := ⟨RX11, "hangs", "(I)I"⟩
abbrev cX11_vital : ByteArray := prog_13_method_128_code
def yX11_vital : MethodName := ⟨RX11, "vital", "()I"⟩
abbrev cX11_pulled : ByteArray := prog_13_method_129_code
def yX11_pulled : MethodName := ⟨RX11, "pulled", "(I)I"⟩
abbrev cX11_crossed : ByteArray := prog_13_method_130_code
def yX11_crossed : MethodName := ⟨RX11, "crossed", "(I)I"⟩
abbrev cX11_nextAsked : ByteArray := prog_13_method_131_code
def yX11_nextAsked : MethodName := ⟨RX11, "nextAsked", "(I)I"⟩
abbrev cX11_asker : ByteArray := prog_13_method_132_code
def yX11_asker : MethodName := ⟨RX11, "asker", "()I"⟩
abbrev cX11_laysPairs : ByteArray := prog_13_method_133_code
def yX11_laysPairs : MethodName := ⟨RX11, "laysPairs", "()V"⟩
abbrev cX11_pair : ByteArray := prog_13_method_134_code
def yX11_pair : MethodName := ⟨RX11, "pair", "(I)I"⟩
abbrev cX11_swapped : ByteArray := prog_13_method_135_code
def yX11_swapped : MethodName := ⟨RX11, "swapped", "()I"⟩
abbrev cX11_plays : ByteArray := prog_13_method_136_code
def yX11_plays : MethodName := ⟨RX11, "plays", "(II)I"⟩
abbrev cX11_game : ByteArray := prog_13_method_137_code
def yX11_game : MethodName := ⟨RX11, "game", "(I)I"⟩
abbrev cX11_moveOf : ByteArray := prog_13_method_138_code
def yX11_moveOf : MethodName := ⟨RX11, "moveOf", "(I)I"⟩
abbrev cX11_lasts : ByteArray := prog_13_method_139_code
def yX11_lasts : MethodName := ⟨RX11, "lasts", "(I)Z"⟩
abbrev cX11_faith : ByteArray := prog_13_method_140_code
def yX11_faith : MethodName := ⟨RX11, "faith", "(I)Z"⟩
abbrev cX11_draw : ByteArray := prog_13_method_141_code
def yX11_draw : MethodName := ⟨RX11, "draw", "(I)I"⟩
abbrev cX11_anyDays : ByteArray := prog_13_method_142_code
def yX11_anyDays : MethodName := ⟨RX11, "anyDays", "(I)Z"⟩
abbrev cX11_isCut : ByteArray := prog_13_method_143_code
def yX11_isCut : MethodName := ⟨RX11, "isCut", "(I)Z"⟩
abbrev cX11_isAny : ByteArray := prog_13_method_144_code
def yX11_isAny : MethodName := ⟨RX11, "isAny", "()Z"⟩
abbrev cX11_isMended : ByteArray := prog_13_method_145_code
def yX11_isMended : MethodName := ⟨RX11, "isMended", "(I)Z"⟩
abbrev cX11_does : ByteArray := prog_13_method_146_code
def yX11_does : MethodName := ⟨RX11, "does", "(I)Z"⟩
abbrev cX11_isSo : ByteArray := prog_13_method_147_code
def yX11_isSo : MethodName := ⟨RX11, "isSo", "(I)Z"⟩
abbrev cX11_doOne : ByteArray := prog_13_method_148_code
def yX11_doOne : MethodName := ⟨RX11, "doOne", "(I)V"⟩
abbrev cX11_doAll : ByteArray := prog_13_method_149_code
def yX11_doAll : MethodName := ⟨RX11, "doAll", "(II)V"⟩
abbrev cX11_runsYears : ByteArray := prog_13_method_150_code
def yX11_runsYears : MethodName := ⟨RX11, "runsYears", "(I)V"⟩
abbrev cX11_live : ByteArray := prog_13_method_151_code
def yX11_live : MethodName := ⟨RX11, "live", "(I)I"⟩
abbrev cX11_lived : ByteArray := prog_13_method_152_code
def yX11_lived : MethodName := ⟨RX11, "lived", "(I)I"⟩
abbrev cX11_mean : ByteArray := prog_13_method_153_code
def yX11_mean : MethodName := ⟨RX11, "mean", "(II)Z"⟩
abbrev cX11_copy : ByteArray := prog_13_method_154_code
def yX11_copy : MethodName := ⟨RX11, "copy", "(II)V"⟩
abbrev cX11_mark : ByteArray := prog_13_method_155_code
def yX11_mark : MethodName := ⟨RX11, "mark", "()I"⟩
abbrev cX11_back : ByteArray := prog_13_method_156_code
def yX11_back : MethodName := ⟨RX11, "back", "()I"⟩
def RJ6 : String := "java/lang/Integer"
abbrev cJ6_bitCount_0f7a4 : ByteArray := prog_14_method_49_code
def yJ6_bitCount_0f7a4 : MethodName := ⟨RJ6, "bitCount", "(I)I"⟩
def RJ9 : String := "java/lang/Math"
abbrev cJ9_abs_067f4 : ByteArray := prog_15_method_61_code
def yJ9_abs_067f4 : MethodName := ⟨RJ9, "abs", "(J)J"⟩
abbrev cJ9_max_7cf53 : ByteArray := prog_15_method_65_code
def yJ9_max_7cf53 : MethodName := ⟨RJ9, "max", "(II)I"⟩
abbrev cJ9_min_7cf53 : ByteArray := prog_15_method_69_code
def yJ9_min_7cf53 : MethodName := ⟨RJ9, "min", "(II)I"⟩
def RJ0 : String := "java/lang/String"
def RJ7 : String := "java/util/Arrays"
abbrev cJ7_fill_d0a16 : ByteArray := prog_20_method_101_code
def yJ7_fill_d0a16 : MethodName := ⟨RJ7, "fill", "([JJ)V"⟩
abbrev cJ7_fill_53178 : ByteArray := prog_20_method_103_code
def yJ7_fill_53178 : MethodName := ⟨RJ7, "fill", "([II)V"⟩
end
section
/-! THE ABSTRACT MACHINE. Values: ints and longs by their numbers, references by the number of their cell with its kind and length. The memory holds numbers alone: references stay as the constructors laid them. -/
abbrev AV : Type := Int ⊕ (Int ⊕ (Nat × Nat × Nat))
abbrev vI (x : Int) : AV := .inl x
abbrev vL (x : Int) : AV := .inr (.inl x)
abbrev vR (q k n : Nat) : AV := .inr (.inr (q, k, n))
abbrev AM : Type := Nat → Nat → Int
def am_row (M : AM) (q : Nat) (f : Nat → Int) : AM := fun a => if a = q then f else M a
def am_upd (M : AM) (q j : Nat) (x : Int) : AM := am_row M q (fun b => if b = j then x else M q b)
def g32 (x : Int) : Prop := (Int32.ofInt x).toInt = x
def g64 (x : Int) : Prop := (Int64.ofInt x).toInt = x
-- the machine's arithmetic on numbers
def o_add (x y : Int) : Int := (Int32.ofInt x + Int32.ofInt y).toInt
def o_sub (x y : Int) : Int := (Int32.ofInt x - Int32.ofInt y).toInt
def o_mul (x y : Int) : Int := (Int32.ofInt x * Int32.ofInt y).toInt
def o_div (x y : Int) : Int := (Int32.ofInt x / Int32.ofInt y).toInt
def o_rem (x y : Int) : Int := (Int32.ofInt x - Int32.ofInt x / Int32.ofInt y * Int32.ofInt y).toInt
def o_and (x y : Int) : Int := (Int32.ofInt x &&& Int32.ofInt y).toInt
def o_or (x y : Int) : Int := (Int32.ofInt x ||| Int32.ofInt y).toInt
def o_xor (x y : Int) : Int := (Int32.ofInt x ^^^ Int32.ofInt y).toInt
def o_shl (x y : Int) : Int := (Int32.ofInt x <<< (Int32.ofInt y &&& 31)).toInt
def o_shr (x y : Int) : Int := (Int32.ofInt x >>> (Int32.ofInt y &&& 31)).toInt
def o_ushr (x y : Int) : Int := ((Int32.ofInt x).toUInt32 >>> ((Int32.ofInt y).toUInt32 &&& Int32.toUInt32 31)).toInt32.toInt
def o_i2b (x : Int) : Int := (Int32.ofInt x).toInt8.toInt32.toInt
def o_i2s (x : Int) : Int := (Int32.ofInt x).toInt16.toInt32.toInt
def o_l2i (x : Int) : Int := (Int64.ofInt x).toInt32.toInt
def l_add (x y : Int) : Int := (Int64.ofInt x + Int64.ofInt y).toInt
def l_sub (x y : Int) : Int := (Int64.ofInt x - Int64.ofInt y).toInt
def l_mul (x y : Int) : Int := (Int64.ofInt x * Int64.ofInt y).toInt
def l_div (x y : Int) : Int := (Int64.ofInt x / Int64.ofInt y).toInt
def l_rem (x y : Int) : Int := (Int64.ofInt x - Int64.ofInt x / Int64.ofInt y * Int64.ofInt y).toInt
def l_and (x y : Int) : Int := (Int64.ofInt x &&& Int64.ofInt y).toInt
def l_or (x y : Int) : Int := (Int64.ofInt x ||| Int64.ofInt y).toInt
def l_shl (x y : Int) : Int := (Int64.ofInt x <<< ((Int32.ofInt y).toInt64 &&& 63)).toInt
def l_cmp (x y : Int) : Int := if y < x then 1 else if x = y then 0 else -1
def cp_row (f g : Nat → Int) (sp dp n : Nat) : Nat → Int := fun k => if dp ≤ k ∧ k < dp + n then f (sp + (k - dp)) else g k

/-- the fields of the classes: sort (0 int, 1 long, 2 reference, 3 boolean), and of a reference how far its cell lies behind, that one's kind and length -/
def zft (ci : Nat) : List (Nat × Nat × Nat × Nat) := match ci with
  | 0 => [(2, 1, 0, 6)]
  | 1 => [(0, 0, 0, 0), (0, 0, 0, 0), (0, 0, 0, 0), (0, 0, 0, 0), (0, 0, 0, 0), (0, 0, 0, 0), (3, 0, 0, 0), (0, 0, 0, 0), (0, 0, 0, 0), (2, 1, 0, 10), (2, 2, 0, 10), (2, 3, 0, 10), (2, 4, 0, 6), (2, 5, 0, 6), (2, 6, 0, 6), (2, 7, 0, 6), (2, 8, 0, 6), (2, 9, 1, 24), (2, 10, 0, 64), (3, 0, 0, 0)]
  | 2 => []
  | 3 => [(0, 0, 0, 0), (2, 1, 0, 5), (2, 2, 0, 60), (2, 3, 10, 0), (0, 0, 0, 0)]
  | 4 => [(2, 1, 0, 6), (2, 2, 0, 6), (2, 3, 0, 6)]
  | 5 => [(0, 0, 0, 0), (0, 0, 0, 0), (1, 0, 0, 0), (0, 0, 0, 0), (0, 0, 0, 0), (0, 0, 0, 0), (0, 0, 0, 0), (0, 0, 0, 0), (0, 0, 0, 0), (2, 1, 2, 900), (0, 0, 0, 0), (0, 0, 0, 0), (2, 2, 1, 23)]
  | 6 => [(2, 1, 1, 60), (3, 0, 0, 0), (0, 0, 0, 0), (0, 0, 0, 0)]
  | 7 => [(2, 1, 0, 8), (0, 0, 0, 0), (0, 0, 0, 0)]
  | 8 => [(3, 0, 0, 0), (0, 0, 0, 0), (0, 0, 0, 0), (2, 1, 0, 60), (2, 2, 0, 60), (2, 3, 0, 60), (2, 4, 0, 60), (2, 5, 0, 60), (2, 6, 0, 60), (2, 7, 0, 3), (0, 0, 0, 0)]
  | 9 => []
  | 10 => [(0, 0, 0, 0), (1, 0, 0, 0), (1, 0, 0, 0), (2, 1, 3, 4), (0, 0, 0, 0), (0, 0, 0, 0), (2, 5, 15, 0), (2, 8, 11, 0), (2, 19, 11, 0), (2, 30, 18, 0), (2, 38, 18, 0), (2, 2, 4, 3), (2, 3, 5, 3), (0, 0, 0, 0), (2, 46, 10, 0), (2, 48, 17, 0), (2, 50, 14, 0), (2, 54, 13, 0), (2, 4, 0, 5), (3, 0, 0, 0)]
  | 11 => [(0, 0, 0, 0), (0, 0, 0, 0), (1, 0, 0, 0), (1, 0, 0, 0), (2, 1, 0, 4), (2, 2, 0, 4), (2, 3, 1, 240), (2, 4, 2, 900), (0, 0, 0, 0), (0, 0, 0, 0), (0, 0, 0, 0), (0, 0, 0, 0), (0, 0, 0, 0), (0, 0, 0, 0), (0, 0, 0, 0), (0, 0, 0, 0), (0, 0, 0, 0), (0, 0, 0, 0), (0, 0, 0, 0), (1, 0, 0, 0), (2, 5, 0, 1775), (2, 6, 0, 83), (2, 7, 0, 83), (2, 8, 1, 120), (0, 0, 0, 0), (0, 0, 0, 0), (0, 0, 0, 0), (2, 9, 0, 64), (2, 10, 0, 6), (2, 11, 0, 6), (2, 12, 0, 6), (2, 13, 0, 6), (0, 0, 0, 0), (2, 14, 0, 5), (3, 0, 0, 0), (3, 0, 0, 0), (0, 0, 0, 0), (0, 0, 0, 0), (0, 0, 0, 0), (0, 0, 0, 0), (0, 0, 0, 0), (0, 0, 0, 0), (0, 0, 0, 0)]
  | _ => []
/-- the cell of an element of an array of references, and its kind -/
def zro (k q j : Nat) : Nat := match k with
  | 3 => q + 58 + 2 * j
  | 4 => q + 65 + 19 * j
  | 5 => q + 75 + 19 * j
  | _ => q
def zrk (k : Nat) : Nat := match k with
  | 3 => 16
  | 4 => 11
  | 5 => 18
  | _ => 0
/-- the type of an array's elements by its kind -/
def zet (k : Nat) : FieldType := match k with
  | 0 => .int
  | 1 => .long
  | 2 => .byte
  | 3 => .object "BellPullHouse$Tray"
  | 4 => .object "BellPullHouse$House"
  | 5 => .object "BellPullHouse$Years"
  | _ => .int
/-- the cells of the whole system: kind (arrays 0 .. 5, objects from 10 on) and length -/
def zY : List (Nat × Nat) := [(21, 0), (0, 4), (0, 4), (1, 240), (2, 900), (0, 1775), (0, 83), (0, 83), (1, 120), (0, 64), (0, 6), (0, 6), (0, 6), (0, 6), (0, 5), (20, 0), (3, 4), (4, 3), (5, 3), (0, 5), (15, 0), (2, 900), (1, 23), (11, 0), (0, 10), (0, 10), (0, 10), (0, 6), (0, 6), (0, 6), (0, 6), (0, 6), (1, 24), (0, 64), (11, 0), (0, 10), (0, 10), (0, 10), (0, 6), (0, 6), (0, 6), (0, 6), (0, 6), (1, 24), (0, 64), (18, 0), (0, 60), (0, 60), (0, 60), (0, 60), (0, 60), (0, 60), (0, 3), (18, 0), (0, 60), (0, 60), (0, 60), (0, 60), (0, 60), (0, 60), (0, 3), (10, 0), (0, 6), (17, 0), (0, 8), (14, 0), (0, 6), (0, 6), (0, 6), (13, 0), (0, 5), (0, 60), (10, 0), (0, 6), (16, 0), (1, 60), (16, 0), (1, 60), (16, 0), (1, 60), (16, 0), (1, 60), (11, 0), (0, 10), (0, 10), (0, 10), (0, 6), (0, 6), (0, 6), (0, 6), (0, 6), (1, 24), (0, 64), (18, 0), (0, 60), (0, 60), (0, 60), (0, 60), (0, 60), (0, 60), (0, 3), (11, 0), (0, 10), (0, 10), (0, 10), (0, 6), (0, 6), (0, 6), (0, 6), (0, 6), (1, 24), (0, 64), (18, 0), (0, 60), (0, 60), (0, 60), (0, 60), (0, 60), (0, 60), (0, 3), (11, 0), (0, 10), (0, 10), (0, 10), (0, 6), (0, 6), (0, 6), (0, 6), (0, 6), (1, 24), (0, 64), (18, 0), (0, 60), (0, 60), (0, 60), (0, 60), (0, 60), (0, 60), (0, 3)]
def zcl : List vw_C := [(RX0, TX0, 1), (RX1, TX1, 20), (RX2, TX2, 0), (RX3, TX3, 5), (RX4, TX4, 3), (RX5, TX5, 13), (RX6, TX6, 4), (RX7, TX7, 3), (RX8, TX8, 11), (RX9, TX9, 0), (RX10, TX10, 20), (RX11, TX11, 43)]
/-- a field's value -/
def zfv (ad : Nat → Nat) (q : Nat) (t : Nat × Nat × Nat × Nat) (x : Int) : Value := if t.1 = 1 then .long (Int64.ofInt x) else if t.1 = 2 then .ref (ad (q + t.2.1)) else .int (Int32.ofInt x)
def zfs (ci : Nat) (ad : Nat → Nat) (q : Nat) (f : Nat → Int) : List Value := (zft ci).mapIdx (fun k t => zfv ad q t (f k))
def zea (k n : Nat) (ad : Nat → Nat) (q : Nat) (f : Nat → Int) : vp_A := if k = 1 then (n, .inr (.inl (fun j => Int64.ofInt (f j)))) else if 3 ≤ k then (n, .inr (.inr (.inr (.inr (fun j => some (ad (zro k q j))))))) else (n, .inl (fun j => Int32.ofInt (f j)))
def ze (ad : Nat → Nat) (dA : Nat → ClassId) (q : Nat) (t : Nat × Nat) (f : Nat → Int) : va_E := if t.1 < 10 then .inl (dA q, zea t.1 t.2 ad q f) else .inr (t.1 - 10, zfs (t.1 - 10) ad q f)
/-- the world that a memory stands for -/
def zw (Y : List (Nat × Nat)) (ad : Nat → Nat) (dA : Nat → ClassId) (M : AM) : va_W := Y.mapIdx (fun q t => (ad q, ze ad dA q t (M q)))
def zgj (k j : Nat) (x : Int) : Prop := if k = 1 then g64 x else if k < 3 then g32 x else if k < 10 then True else match (zft (k - 10)).getD j (2, 0, 0, 0) with
  | (1, _) => g64 x
  | (2, _) => True
  | _ => g32 x
def zgM (Y : List (Nat × Nat)) (M : AM) : Prop := ∀ q k n, Y[q]? = some (k, n) → ∀ j, zgj k j (M q j)
def zRb (Y : List (Nat × Nat)) (q : Nat) (t : Nat × Nat) : Bool := if t.1 < 3 then true else if t.1 < 10 then (List.range t.2).all (fun j => Y[zro t.1 q j]? == some (zrk t.1, 0)) else (zft (t.1 - 10)).all (fun f => if f.1 = 2 then Y[q + f.2.1]? == some (f.2.2.1, f.2.2.2) else true)
/-- the cells that references name are there, of the kind that the fields tell -/
def zReg (Y : List (Nat × Nat)) : Prop := ∀ q t, Y[q]? = some t → zRb Y q t = true
def cv (ad : Nat → Nat) (v : AV) : Value := match v with
  | .inl x => .int (Int32.ofInt x)
  | .inr (.inl x) => .long (Int64.ofInt x)
  | .inr (.inr (q, _, _)) => .ref (ad q)
def gd (Y : List (Nat × Nat)) (v : AV) : Prop := match v with
  | .inl x => g32 x
  | .inr (.inl x) => g64 x
  | .inr (.inr (q, k, n)) => k = 9 ∨ Y[q]? = some (k, n)
theorem zw_at {Y : List (Nat × Nat)} {ad : Nat → Nat} {dA : Nat → ClassId} {M : AM} {q : Nat} {t : Nat × Nat} (h : Y[q]? = some t) : (zw Y ad dA M)[q]? = some (ad q, ze ad dA q t (M q)) := by
  simp [zw, List.getElem?_mapIdx, h]
theorem zw_set {Y : List (Nat × Nat)} {ad : Nat → Nat} {dA : Nat → ClassId} {M : AM} {q : Nat} {t : Nat × Nat} (f : Nat → Int) (h : Y[q]? = some t) : (zw Y ad dA M).set q (ad q, ze ad dA q t f) = zw Y ad dA (am_row M q f) := by
  apply List.ext_getElem?
  intro i
  have hq : q < Y.length := (List.getElem?_eq_some_iff.mp h).1
  by_cases hi : q = i
  · subst hi
    rw [List.getElem?_set_self (by simpa [zw] using hq), zw_at (M := am_row M q f) h]
    simp [am_row]
  · rw [List.getElem?_set_ne hi]
    have hi2 : ¬ i = q := fun h => hi h.symm
    simp [zw, List.getElem?_mapIdx, am_row, hi2]
theorem zgM_row {Y : List (Nat × Nat)} {M : AM} {q k n : Nat} (f : Nat → Int) (h : zgM Y M) (hq : Y[q]? = some (k, n)) (hf : ∀ j, zgj k j (f j)) : zgM Y (am_row M q f) := by
  intro q2 k2 n2 h2 j
  by_cases e : q2 = q
  · subst e
    rw [hq] at h2
    cases h2
    simpa [am_row] using hf j
  · simpa [am_row, e] using h q2 k2 n2 h2 j
theorem zgM_upd {Y : List (Nat × Nat)} {M : AM} {q k n : Nat} (j : Nat) (x : Int) (h : zgM Y M) (hq : Y[q]? = some (k, n)) (hx : zgj k j x) : zgM Y (am_upd M q j x) := by
  refine zgM_row _ h hq ?_
  intro i
  by_cases e : i = j
  · subst e; simpa using hx
  · simpa [e] using h q k n hq i
theorem zD_row {A : Nat → Prop} {Y : List (Nat × Nat)} {ad : Nat → Nat} {dA : Nat → ClassId} {M M' : AM} (h : va_D A (zw Y ad dA M)) : va_D A (zw Y ad dA M') := by
  obtain ⟨h1, h2⟩ := h
  have key : ∀ (i : Nat) (p : Nat × va_E), (zw Y ad dA M')[i]? = some p → ∃ p2, (zw Y ad dA M)[i]? = some p2 ∧ p2.1 = p.1 := by
    intro i p hp
    simp only [zw, List.getElem?_mapIdx, Option.map_eq_some_iff] at hp ⊢
    obtain ⟨t, ht, rfl⟩ := hp
    exact ⟨_, ⟨t, ht, rfl⟩, rfl⟩
  refine ⟨fun i j p q hi hj e => ?_, fun k q hk => ?_⟩
  · obtain ⟨p2, hp2, e1⟩ := key i p hi
    obtain ⟨q2, hq2, e2⟩ := key j q hj
    exact h1 i j p2 q2 hp2 hq2 (by rw [e1, e2, e])
  · obtain ⟨p2, hp2, e1⟩ := key k q hk
    rw [← e1]
    exact h2 k p2 hp2
theorem g32_of (x : Int32) : g32 x.toInt := by unfold g32; rw [Int32.ofInt_toInt]
theorem g64_of (x : Int64) : g64 x.toInt := by unfold g64; rw [Int64.ofInt_toInt]
theorem g32_iff (x : Int) : g32 x ↔ -2147483648 ≤ x ∧ x < 2147483648 := by
  constructor
  · intro h
    unfold g32 at h
    have h1 := Int32.le_toInt (Int32.ofInt x)
    have h2 := Int32.toInt_lt (Int32.ofInt x)
    rw [h] at h1 h2
    simp at h1 h2
    omega
  · intro h
    unfold g32
    rw [Int32.toInt_ofInt]
    have := Int.bmod_eq_of_le (n := x) (m := 2 ^ 32) (by simp; omega) (by simp; omega)
    simpa using this
theorem g64_iff (x : Int) : g64 x ↔ -9223372036854775808 ≤ x ∧ x < 9223372036854775808 := by
  constructor
  · intro h
    unfold g64 at h
    have h1 := Int64.le_toInt (Int64.ofInt x)
    have h2 := Int64.toInt_lt (Int64.ofInt x)
    rw [h] at h1 h2
    simp at h1 h2
    omega
  · intro h
    unfold g64
    rw [Int64.toInt_ofInt]
    have := Int.bmod_eq_of_le (n := x) (m := 2 ^ 64) (by simp; omega) (by simp; omega)
    simpa using this
theorem zReg_zY : zReg zY := by
  have h : (zY.mapIdx (fun q t => zRb zY q t)).all id = true := by decide +kernel
  intro q t hq
  have h2 : (zY.mapIdx (fun q t => zRb zY q t))[q]? = some (zRb zY q t) := by simp [List.getElem?_mapIdx, hq]
  exact List.all_eq_true.mp h _ (List.mem_of_getElem? h2)
/-- the words that every method has -/
def zws : List Jvm.Cond := lw_tbl.filter goodWord
theorem z_mem {w : Jvm.Cond} (i : Nat) (h : lw_tbl[i]? = some w) (hg : goodWord w = true) : w ∈ zws := List.mem_filter.mpr ⟨List.mem_of_getElem? h, hg⟩
end
section
/-! ONE STEP of the abstract machine: instructions that go straight on. An entry of a method's table: place, instruction, six numbers that the constant pool resolves to, a constant. -/
abbrev ZE : Type := Nat × Instr × (Nat × Nat × Nat × Nat × Nat × Nat) × Int
abbrev ZL : Type := List (Option AV)
abbrev ZT : Type := Nat × ZL × List AV × AM
def zget : ZL → Nat → Option AV
  | [], _ => none
  | a :: _, 0 => a
  | _ :: l, n + 1 => zget l n
def zset : ZL → Nat → Option AV → ZL
  | [], _, _ => []
  | _ :: l, 0, v => v :: l
  | a :: l, n + 1, v => a :: zset l n v
def zlong (lo : ZL) (i : Nat) : Bool := match i with
  | 0 => false
  | j + 1 => match zget lo j with
    | some (.inr (.inl _)) => true
    | _ => false
def zc1 (v : AV) : Bool := match v with
  | .inr (.inl _) => false
  | _ => true
def z_iload (n i : Nat) (lo : ZL) (st : List AV) (M : AM) : Option ZT := match zget lo i with
  | some (.inl x) => some (n, lo, vI x :: st, M)
  | _ => none
def z_lload (n i : Nat) (lo : ZL) (st : List AV) (M : AM) : Option ZT := match zget lo i with
  | some (.inr (.inl x)) => some (n, lo, vL x :: st, M)
  | _ => none
def z_aload (n i : Nat) (lo : ZL) (st : List AV) (M : AM) : Option ZT := match zget lo i with
  | some (.inr (.inr (q, k, l))) => some (n, lo, vR q k l :: st, M)
  | _ => none
def z_istore (n i : Nat) (lo : ZL) (st : List AV) (M : AM) : Option ZT := match st with
  | .inl x :: r => match zlong lo i with
    | true => none
    | false => some (n, zset lo i (some (vI x)), r, M)
  | _ => none
def z_lstore (n i : Nat) (lo : ZL) (st : List AV) (M : AM) : Option ZT := match st with
  | .inr (.inl x) :: r => match zlong lo i with
    | true => none
    | false => some (n, zset (zset lo (i + 1) none) i (some (vL x)), r, M)
  | _ => none
def z_astore (n i : Nat) (lo : ZL) (st : List AV) (M : AM) : Option ZT := match st with
  | .inr (.inr (q, k, l)) :: r => match zlong lo i with
    | true => none
    | false => some (n, zset lo i (some (vR q k l)), r, M)
  | _ => none
def z_bin (n : Nat) (f : Int → Int → Int) (lo : ZL) (st : List AV) (M : AM) : Option ZT := match st with
  | .inl y :: .inl x :: r => some (n, lo, vI (f x y) :: r, M)
  | _ => none
def z_binL (n : Nat) (f : Int → Int → Int) (lo : ZL) (st : List AV) (M : AM) : Option ZT := match st with
  | .inr (.inl y) :: .inr (.inl x) :: r => some (n, lo, vL (f x y) :: r, M)
  | _ => none
def z_div (n : Nat) (f : Int → Int → Int) (lo : ZL) (st : List AV) (M : AM) : Option ZT := match st with
  | .inl y :: .inl x :: r => if y ≠ 0 then some (n, lo, vI (f x y) :: r, M) else none
  | _ => none
def z_divL (n : Nat) (f : Int → Int → Int) (lo : ZL) (st : List AV) (M : AM) : Option ZT := match st with
  | .inr (.inl y) :: .inr (.inl x) :: r => if y ≠ 0 then some (n, lo, vL (f x y) :: r, M) else none
  | _ => none
def z_un (n : Nat) (f : Int → Int) (lo : ZL) (st : List AV) (M : AM) : Option ZT := match st with
  | .inl x :: r => some (n, lo, vI (f x) :: r, M)
  | _ => none
def z_ald (n kk : Nat) (lo : ZL) (st : List AV) (M : AM) : Option ZT := match st with
  | .inl i :: .inr (.inr (q, k, l)) :: r => match k == kk with
    | true => if 0 ≤ i ∧ i < (l : Int) then some (n, lo, vI (M q i.toNat) :: r, M) else none
    | false => none
  | _ => none
def z_lald (n : Nat) (lo : ZL) (st : List AV) (M : AM) : Option ZT := match st with
  | .inl i :: .inr (.inr (q, k, l)) :: r => match k == 1 with
    | true => if 0 ≤ i ∧ i < (l : Int) then some (n, lo, vL (M q i.toNat) :: r, M) else none
    | false => none
  | _ => none
def z_aald (n : Nat) (lo : ZL) (st : List AV) (M : AM) : Option ZT := match st with
  | .inl i :: .inr (.inr (q, k, l)) :: r => match Nat.ble 3 k && Nat.blt k 6 with
    | true => if 0 ≤ i ∧ i < (l : Int) then some (n, lo, vR (zro k q i.toNat) (zrk k) 0 :: r, M) else none
    | false => none
  | _ => none
def z_ast (n kk : Nat) (f : Int → Int) (lo : ZL) (st : List AV) (M : AM) : Option ZT := match st with
  | .inl x :: .inl i :: .inr (.inr (q, k, l)) :: r => match k == kk with
    | true => if 0 ≤ i ∧ i < (l : Int) then some (n, lo, r, am_upd M q i.toNat (f x)) else none
    | false => none
  | _ => none
def z_last (n : Nat) (lo : ZL) (st : List AV) (M : AM) : Option ZT := match st with
  | .inr (.inl x) :: .inl i :: .inr (.inr (q, k, l)) :: r => match k == 1 with
    | true => if 0 ≤ i ∧ i < (l : Int) then some (n, lo, r, am_upd M q i.toNat x) else none
    | false => none
  | _ => none
def z_alen (n : Nat) (lo : ZL) (st : List AV) (M : AM) : Option ZT := match st with
  | .inr (.inr (_, k, l)) :: r => match Nat.blt k 6 with
    | true => some (n, lo, vI (l : Int) :: r, M)
    | false => none
  | _ => none
/-- getfield: class a, field b, its sort c, of a reference how far d, kind, length -/
def z_get (n : Nat) (rn : Nat × Nat × Nat × Nat × Nat × Nat) (lo : ZL) (st : List AV) (M : AM) : Option ZT := match st with
  | .inr (.inr (q, k, _)) :: r => match k == 10 + rn.1 with
    | true => match rn.2.2.1 with
      | 1 => some (n, lo, vL (M q rn.2.1) :: r, M)
      | 2 => some (n, lo, vR (q + rn.2.2.2.1) rn.2.2.2.2.1 rn.2.2.2.2.2 :: r, M)
      | _ => some (n, lo, vI (M q rn.2.1) :: r, M)
    | false => none
  | _ => none
def z_put (n : Nat) (rn : Nat × Nat × Nat × Nat × Nat × Nat) (lo : ZL) (st : List AV) (M : AM) : Option ZT := match st with
  | .inl x :: .inr (.inr (q, k, _)) :: r => match k == 10 + rn.1 with
    | true => match rn.2.2.1 with
      | 0 => some (n, lo, r, am_upd M q rn.2.1 x)
      | 3 => if x = 0 ∨ x = 1 then some (n, lo, r, am_upd M q rn.2.1 x) else none
      | _ => none
    | false => none
  | .inr (.inl x) :: .inr (.inr (q, k, _)) :: r => match k == 10 + rn.1 with
    | true => match rn.2.2.1 with
      | 1 => some (n, lo, r, am_upd M q rn.2.1 x)
      | _ => none
    | false => none
  | _ => none
/-- System.arraycopy over two arrays of ints, or of longs -/
def z_copy (n : Nat) (rn : Nat × Nat × Nat × Nat × Nat × Nat) (lo : ZL) (st : List AV) (M : AM) : Option ZT := match st with
  | .inl c :: .inl dp :: .inr (.inr (q1, k1, n1)) :: .inl sp :: .inr (.inr (q0, k0, n0)) :: r => match rn.1 == 999 && k0 == rn.2.1 && k1 == rn.2.1 && Nat.blt rn.2.1 2 && Nat.ble r.length 4 with
    | true => if 0 ≤ sp ∧ 0 ≤ dp ∧ 0 ≤ c ∧ sp + c ≤ (n0 : Int) ∧ dp + c ≤ (n1 : Int) then some (n, lo, r, am_row M q1 (cp_row (M q0) (M q1) sp.toNat dp.toNat c.toNat)) else none
    | false => none
  | _ => none
def o_min (x y : Int) : Int := if y < x then y else x
def o_max (x y : Int) : Int := if x < y then y else x
def l_abs (x : Int) : Int := if 0 < x then x else (-(Int64.ofInt x)).toInt
/-- Math.min, max of ints, abs of a long -/
def z_math (n kind : Nat) (lo : ZL) (st : List AV) (M : AM) : Option ZT := match kind with
  | 0 => match st with
    | .inl y :: .inl x :: r => match Nat.ble r.length 4 with
      | true => some (n, lo, vI (o_min x y) :: r, M)
      | false => none
    | _ => none
  | 1 => match st with
    | .inl y :: .inl x :: r => match Nat.ble r.length 4 with
      | true => some (n, lo, vI (o_max x y) :: r, M)
      | false => none
    | _ => none
  | _ => match st with
    | .inr (.inl x) :: r => match Nat.ble r.length 4 with
      | true => some (n, lo, vL (l_abs x) :: r, M)
      | false => none
    | _ => none
def z_stat (n : Nat) (rn : Nat × Nat × Nat × Nat × Nat × Nat) (lo : ZL) (st : List AV) (M : AM) : Option ZT := match rn.1 == 998 with
  | true => z_math n rn.2.1 lo st M
  | false => z_copy n rn lo st M
def stp (ins : Instr) (rn : Nat × Nat × Nat × Nat × Nat × Nat) (rz : Int) (pc : Nat) (lo : ZL) (st : List AV) (M : AM) : Option ZT := match ins with
  | .iconst _ => some (pc + 1, lo, vI rz :: st, M)
  | .bipush _ => some (pc + 2, lo, vI rz :: st, M)
  | .sipush _ => some (pc + 3, lo, vI rz :: st, M)
  | .ldc _ => some (pc + 2, lo, vI rz :: st, M)
  | .ldc_w _ => some (pc + 3, lo, vI rz :: st, M)
  | .ldc2_w _ => some (pc + 3, lo, vL rz :: st, M)
  | .lconst _ => some (pc + 1, lo, vL rz :: st, M)
  | .iload i => z_iload (pc + 2) i lo st M
  | .iload_n k => z_iload (pc + 1) k.val lo st M
  | .lload i => z_lload (pc + 2) i lo st M
  | .lload_n k => z_lload (pc + 1) k.val lo st M
  | .aload i => z_aload (pc + 2) i lo st M
  | .aload_n k => z_aload (pc + 1) k.val lo st M
  | .istore i => z_istore (pc + 2) i lo st M
  | .istore_n k => z_istore (pc + 1) k.val lo st M
  | .lstore i => z_lstore (pc + 2) i lo st M
  | .lstore_n k => z_lstore (pc + 1) k.val lo st M
  | .astore i => z_astore (pc + 2) i lo st M
  | .astore_n k => z_astore (pc + 1) k.val lo st M
  | .iinc i _ => match zget lo i with
    | some (.inl x) => match zlong lo i with
      | true => none
      | false => some (pc + 3, zset lo i (some (vI (o_add x rz))), st, M)
    | _ => none
  | .iaload => z_ald (pc + 1) 0 lo st M
  | .baload => z_ald (pc + 1) 2 lo st M
  | .laload => z_lald (pc + 1) lo st M
  | .aaload => z_aald (pc + 1) lo st M
  | .iastore => z_ast (pc + 1) 0 (fun x => x) lo st M
  | .bastore => z_ast (pc + 1) 2 o_i2b lo st M
  | .lastore => z_last (pc + 1) lo st M
  | .arraylength => z_alen (pc + 1) lo st M
  | .pop => match st with
    | v :: r => match zc1 v with
      | true => some (pc + 1, lo, r, M)
      | false => none
    | _ => none
  | .dup => match st with
    | v :: r => match zc1 v with
      | true => some (pc + 1, lo, v :: v :: r, M)
      | false => none
    | _ => none
  | .dup2 => match st with
    | v :: w :: r => match zc1 v && zc1 w with
      | true => some (pc + 1, lo, v :: w :: v :: w :: r, M)
      | false => none
    | _ => none
  | .iadd => z_bin (pc + 1) o_add lo st M
  | .isub => z_bin (pc + 1) o_sub lo st M
  | .imul => z_bin (pc + 1) o_mul lo st M
  | .idiv => z_div (pc + 1) o_div lo st M
  | .irem => z_div (pc + 1) o_rem lo st M
  | .iand => z_bin (pc + 1) o_and lo st M
  | .ior => z_bin (pc + 1) o_or lo st M
  | .ixor => z_bin (pc + 1) o_xor lo st M
  | .ishl => z_bin (pc + 1) o_shl lo st M
  | .ishr => z_bin (pc + 1) o_shr lo st M
  | .iushr => z_bin (pc + 1) o_ushr lo st M
  | .ladd => z_binL (pc + 1) l_add lo st M
  | .lsub => z_binL (pc + 1) l_sub lo st M
  | .lmul => z_binL (pc + 1) l_mul lo st M
  | .ldiv => z_divL (pc + 1) l_div lo st M
  | .lrem => z_divL (pc + 1) l_rem lo st M
  | .land => z_binL (pc + 1) l_and lo st M
  | .lor => z_binL (pc + 1) l_or lo st M
  | .lshl => match st with
    | .inl y :: .inr (.inl x) :: r => some (pc + 1, lo, vL (l_shl x y) :: r, M)
    | _ => none
  | .lcmp => match st with
    | .inr (.inl y) :: .inr (.inl x) :: r => some (pc + 1, lo, vI (l_cmp x y) :: r, M)
    | _ => none
  | .i2l => match st with
    | .inl x :: r => some (pc + 1, lo, vL x :: r, M)
    | _ => none
  | .l2i => match st with
    | .inr (.inl x) :: r => some (pc + 1, lo, vI (o_l2i x) :: r, M)
    | _ => none
  | .i2b => z_un (pc + 1) o_i2b lo st M
  | .i2s => z_un (pc + 1) o_i2s lo st M
  | .goto _ => some (rn.1, lo, st, M)
  | .getfield _ => z_get (pc + 3) rn lo st M
  | .putfield _ => z_put (pc + 3) rn lo st M
  | .invokestatic _ => z_stat (pc + 3) rn lo st M
  | _ => none
/-- the entry at a place -/
def zent (T : List ZE) (pc : Nat) : Option (Instr × (Nat × Nat × Nat × Nat × Nat × Nat) × Int) := match T with
  | [] => none
  | (p, e) :: r => match p == pc with
    | true => some e
    | false => zent r pc
/-- so many steps straight on -/
def zrun (T : List ZE) (n : Nat) (s : ZT) : Option ZT := match n with
  | 0 => some s
  | n + 1 => match zent T s.1 with
    | some (i, rn, rz) => match stp i rn rz s.1 s.2.1 s.2.2.1 s.2.2.2 with
      | some s' => zrun T n s'
      | none => none
    | none => none
def zgC (z : Int) : Bool := decide (-2147483648 ≤ z) && decide (z < 2147483648)
def zgCL (z : Int) : Bool := decide (-9223372036854775808 ≤ z) && decide (z < 9223372036854775808)
def zsub (k : Nat) : List Jvm.Cond := match k with
  | 0 => k2_sels lw_privs
  | 1 => tables_1_1
  | 2 => tables_1_2
  | 3 => tables_1_3
  | 4 => tables_1_4
  | 5 => tables_1_5
  | 6 => tables_1_6
  | 7 => tables_1_7
  | 8 => tables_1_8
  | 9 => tables_1_9
  | _ => []
/-- the word at a place of the tables: list and place in it -/
def zhas (i : Nat) (w : Jvm.Cond) : Bool := decide ((zsub (i / 1000))[i % 1000]? = some w) && goodWord w
theorem zsub_mem {k : Nat} {w : Jvm.Cond} (h : w ∈ zsub k) : w ∈ lw_tbl := by
  have hk : k = 0 ∨ k = 1 ∨ k = 2 ∨ k = 3 ∨ k = 4 ∨ k = 5 ∨ k = 6 ∨ k = 7 ∨ k = 8 ∨ k = 9 ∨ 10 ≤ k := by omega
  unfold lw_tbl tables_1
  simp only [List.mem_append]
  rcases hk with e | e | e | e | e | e | e | e | e | e | e
  · subst e; exact Or.inl h
  · subst e; exact Or.inr (Or.inl h)
  · subst e; exact Or.inr (Or.inr (Or.inl h))
  · subst e; exact Or.inr (Or.inr (Or.inr (Or.inl h)))
  · subst e; exact Or.inr (Or.inr (Or.inr (Or.inr (Or.inl h))))
  · subst e; exact Or.inr (Or.inr (Or.inr (Or.inr (Or.inr (Or.inl h)))))
  · subst e; exact Or.inr (Or.inr (Or.inr (Or.inr (Or.inr (Or.inr (Or.inl h))))))
  · subst e; exact Or.inr (Or.inr (Or.inr (Or.inr (Or.inr (Or.inr (Or.inr (Or.inl h)))))))
  · subst e; exact Or.inr (Or.inr (Or.inr (Or.inr (Or.inr (Or.inr (Or.inr (Or.inr (Or.inl h))))))))
  · subst e; exact Or.inr (Or.inr (Or.inr (Or.inr (Or.inr (Or.inr (Or.inr (Or.inr (Or.inr h))))))))
  · obtain ⟨j, rfl⟩ : ∃ j, k = j + 10 := ⟨k - 10, by omega⟩
    exact absurd h List.not_mem_nil
theorem zhas_mem {i : Nat} {w : Jvm.Cond} (h : zhas i w = true) : w ∈ zws := by
  simp only [zhas, Bool.and_eq_true, decide_eq_true_eq] at h
  exact List.mem_filter.mpr ⟨zsub_mem (List.mem_of_getElem? h.1), h.2⟩
def zmn (k : Nat) : MethodName := match k with
  | 0 => Lib.Math.min.name
  | 1 => Lib.Math.max.name
  | _ => Lib.MathLoose.abs_long.x
/-- what must hold of an entry: numbers are what instruction and tables say. own: the class; nL: how many locals -/
def zok1 (own : String) (nL : Nat) (pc : Nat) (ins : Instr) (rn : Nat × Nat × Nat × Nat × Nat × Nat) (rz : Int) : Bool := match ins with
  | .iconst n => rz == n && zgC rz
  | .bipush n => decide ((Int8.ofInt n).toInt32 = Int32.ofInt rz) && zgC rz
  | .sipush n => decide ((Int16.ofInt n).toInt32 = Int32.ofInt rz) && zgC rz
  | .ldc i => zhas rn.1 (Jvm.Cond.constant own i (Int32.ofInt rz)) && zgC rz
  | .ldc_w i => zhas rn.1 (Jvm.Cond.constant own i (Int32.ofInt rz)) && zgC rz
  | .ldc2_w i => zhas rn.1 (Jvm.Cond.constantLong own i (Int64.ofInt rz)) && zgCL rz
  | .lconst n => rz == ((n.val : Nat) : Int)
  | .istore i => Nat.blt i nL
  | .istore_n k => Nat.blt k.val nL
  | .lstore i => Nat.blt (i + 1) nL
  | .lstore_n k => Nat.blt (k.val + 1) nL
  | .astore i => Nat.blt i nL
  | .astore_n k => Nat.blt k.val nL
  | .iinc i n => Nat.blt i nL && decide (Int32.ofInt n = Int32.ofInt rz)
  | .goto off => (pc : Int) + off == (rn.1 : Int)
  | .getfield i => match zcl[rn.1]? with
    | some (C, T, N) => decide (rn.2.1 < N) && decide ((zft rn.1)[rn.2.1]? = some rn.2.2) && zhas rz.toNat (Jvm.Cond.fieldLink own i (T rn.2.1).1 (T rn.2.1).2.1 (T rn.2.1).2.2.1)
    | none => false
  | .putfield i => match zcl[rn.1]? with
    | some (C, T, N) => decide (rn.2.1 < N) && decide ((zft rn.1)[rn.2.1]? = some rn.2.2) && zhas rz.toNat (Jvm.Cond.fieldLink own i (T rn.2.1).1 (T rn.2.1).2.1 (T rn.2.1).2.2.1) && !(T rn.2.1).2.2.2
    | none => false
  | .invokestatic i => if rn.1 = 999 then zhas rz.toNat (Jvm.Cond.methodLink own i arraycopyName) else if rn.1 = 998 then zhas rz.toNat (Jvm.Cond.methodLink own i (zmn rn.2.1)) else true
  | _ => true
end
section
/-! SOUNDNESS of the steps. -/
/-- the fixed things of a run of a method: class own, code bytes cc, nL locals -/
def zC (Y : List (Nat × Nat)) (own : String) (cc : ByteArray) (nL : Nat) (p : Program) (R : Room) (s : State) (m : MethodId) (args : Array Value) (c : Code) (D : va_G) (tys : List (ClassId × FieldType)) (dA : Nat → ClassId) (A : Nat → Prop) : Prop :=
  p.tables.exec = Jvm.exec ∧ c.code = cc ∧ c.maxLocals = nL ∧ s.vm.findClass own = some m.cls ∧ (∀ w ∈ zws, w.before args s = true) ∧ va_K D zcl tys s ∧ (∀ q k n, Y[q]? = some (k, n) → k < 10 → ∃ t0 : Nat, tys[t0]? = some (dA q, zet k)) ∧ (∀ q : Nat, s.heap.size ≤ q → A q) ∧ zReg Y
/-- the heap holds the memory -/
def zW (Y : List (Nat × Nat)) (s : State) (D : va_G) (ad : Nat → Nat) (dA : Nat → ClassId) (A : Nat → Prop) (M : AM) (H : Heap) (locs : List Loc) : Prop :=
  va_P D zcl (zw Y ad dA M) H ∧ va_D A (zw Y ad dA M) ∧ va_S A s.heap H locs ∧ zgM Y M
/-- the locals hold what the abstract ones say -/
def zLo (Y : List (Nat × Nat)) (ad : Nat → Nat) (nL : Nat) (lo : ZL) (ls : Array Slot) : Prop :=
  ls.size = nL ∧ lv_wf ls ∧ ∀ i v, zget lo i = some v → ls[i]? = some (.val (cv ad v)) ∧ gd Y v
/-- from the abstract state on, the machine comes to Q -/
def ZS (Y : List (Nat × Nat)) (nL : Nat) (p : Program) (l : Launch) (e : Env) (R : Room) (s : State) (m : MethodId) (args : Array Value) (below : List Frame) (meth : Method) (c : Code) (cells slots : Nat) (Q : State → Prop) (D : va_G) (ad : Nat → Nat) (dA : Nat → ClassId) (A : Nat → Prop) (pc : Nat) (lo : ZL) (st : List AV) (M : AM) : Prop :=
  ∀ (H : Heap) (locs : List Loc) (ls : Array Slot), zW Y s D ad dA A M H locs → zLo Y ad nL lo ls → (∀ v ∈ st, gd Y v) → W p l e R s m args below meth c H locs cells slots Q (F0 m pc ls (st.map (cv ad)))
theorem zget_zset_self {lo : ZL} {i : Nat} {v w : Option AV} (h : zget (zset lo i v) i = w) : w = v ∨ w = none := by
  induction lo generalizing i with
  | nil => right; simpa [zset, zget] using h.symm
  | cons a l ih =>
    cases i with
    | zero => left; simpa [zset, zget] using h.symm
    | succ n => exact ih (by simpa [zset, zget] using h)
theorem zget_zset_ne {lo : ZL} {i j : Nat} {v : Option AV} (h : j ≠ i) : zget (zset lo i v) j = zget lo j := by
  induction lo generalizing i j with
  | nil => simp [zset]
  | cons a l ih =>
    cases i with
    | zero =>
      cases j with
      | zero => exact absurd rfl h
      | succ k => simp [zset, zget]
    | succ n =>
      cases j with
      | zero => simp [zset, zget]
      | succ k => simpa [zset, zget] using ih (by omega)
/-- the abstract locals as a list of places -/
def zlv (ad : Nat → Nat) : Nat → ZL → List (Nat × Value)
  | _, [] => []
  | n, none :: l => zlv ad (n + 1) l
  | n, some v :: l => (n, cv ad v) :: zlv ad (n + 1) l
theorem zlv_mem {ad : Nat → Nat} {lo : ZL} {n : Nat} {q : Nat × Value} : q ∈ zlv ad n lo ↔ ∃ i v, zget lo i = some v ∧ q = (n + i, cv ad v) := by
  induction lo generalizing n with
  | nil => simp [zlv, zget]
  | cons a l ih =>
    cases a with
    | none =>
      simp only [zlv, ih]
      constructor
      · rintro ⟨i, v, h, rfl⟩
        exact ⟨i + 1, v, by simpa [zget] using h, by rw [Nat.add_assoc, Nat.add_comm 1 i]⟩
      · rintro ⟨i, v, h, rfl⟩
        cases i with
        | zero => simp [zget] at h
        | succ k => exact ⟨k, v, by simpa [zget] using h, by rw [Nat.add_assoc, Nat.add_comm 1 k]⟩
    | some w =>
      simp only [zlv, List.mem_cons, ih]
      constructor
      · rintro (rfl | ⟨i, v, h, rfl⟩)
        · exact ⟨0, w, by simp [zget], by simp⟩
        · exact ⟨i + 1, v, by simpa [zget] using h, by rw [Nat.add_assoc, Nat.add_comm 1 i]⟩
      · rintro ⟨i, v, h, rfl⟩
        cases i with
        | zero => left; simp [zget] at h; simp [h]
        | succ k => right; exact ⟨k, v, by simpa [zget] using h, by rw [Nat.add_assoc, Nat.add_comm 1 k]⟩
theorem zLo.has {Y : List (Nat × Nat)} {ad : Nat → Nat} {nL : Nat} {lo : ZL} {ls : Array Slot} (h : zLo Y ad nL lo ls) : lv_has ls nL (zlv ad 0 lo) := by
  refine ⟨h.1, h.2.1, fun q hq => ?_⟩
  obtain ⟨i, v, hv, rfl⟩ := zlv_mem.mp hq
  simpa using (h.2.2 i v hv).1
theorem cat_cv {ad : Nat → Nat} {v : AV} : (cv ad v).category = if zc1 v then 1 else 2 := by
  rcases v with x | x | ⟨q, k, n⟩ <;> rfl
/-- behind a store of one word -/
theorem zLo.store1 {Y : List (Nat × Nat)} {ad : Nat → Nat} {nL i : Nat} {lo : ZL} {ls ls' : Array Slot} {v : AV} (h : zLo Y ad nL lo ls) (hg : gd Y v) (hz : zlong lo i = false)
    (h' : lv_has ls' nL ((i, cv ad v) :: (zlv ad 0 lo).filter (fun q => !(q.1 == i) && !(q.1 + 1 == i && q.2.category == 2)))) : zLo Y ad nL (zset lo i (some v)) ls' := by
  refine ⟨h'.1, h'.2.1, fun j w hj => ?_⟩
  by_cases e : j = i
  · subst e
    rcases zget_zset_self hj with h1 | h1
    · cases h1
      exact ⟨h'.2.2 (j, cv ad v) List.mem_cons_self, hg⟩
    · cases h1
  · rw [zget_zset_ne e] at hj
    refine ⟨h'.2.2 (j, cv ad w) (List.mem_cons_of_mem _ (List.mem_filter.mpr ⟨zlv_mem.mpr ⟨j, w, hj, by simp⟩, ?_⟩)), (h.2.2 j w hj).2⟩
    have e1 : (j == i) = false := by simpa using e
    by_cases e2 : j + 1 = i
    · subst e2
      have : zc1 w = true := by
        rcases w with x | x | ⟨q, k, n⟩
        · rfl
        · simp [zlong, hj] at hz
        · rfl
      simp [e1, cat_cv, this]
    · simp [e1, e2]
theorem zLo.store2 {Y : List (Nat × Nat)} {ad : Nat → Nat} {nL i : Nat} {lo : ZL} {ls ls' : Array Slot} {v : AV} (h : zLo Y ad nL lo ls) (hg : gd Y v) (hz : zlong lo i = false)
    (h' : lv_has ls' nL ((i, cv ad v) :: (zlv ad 0 lo).filter (fun q => !(q.1 == i) && (!(q.1 == i + 1) && !(q.1 + 1 == i && q.2.category == 2))))) : zLo Y ad nL (zset (zset lo (i + 1) none) i (some v)) ls' := by
  refine ⟨h'.1, h'.2.1, fun j w hj => ?_⟩
  by_cases e : j = i
  · subst e
    rcases zget_zset_self hj with h1 | h1
    · cases h1
      exact ⟨h'.2.2 (j, cv ad v) List.mem_cons_self, hg⟩
    · cases h1
  · rw [zget_zset_ne e] at hj
    by_cases e3 : j = i + 1
    · subst e3
      rcases zget_zset_self hj with h1 | h1 <;> cases h1
    · rw [zget_zset_ne e3] at hj
      refine ⟨h'.2.2 (j, cv ad w) (List.mem_cons_of_mem _ (List.mem_filter.mpr ⟨zlv_mem.mpr ⟨j, w, hj, by simp⟩, ?_⟩)), (h.2.2 j w hj).2⟩
      have e1 : (j == i) = false := by simpa using e
      by_cases e2 : j + 1 = i
      · subst e2
        have : zc1 w = true := by
          rcases w with x | x | ⟨q, k, n⟩
          · rfl
          · simp [zlong, hj] at hz
          · rfl
        have e4 : ¬ j = j + 1 + 1 := by omega
        simp [e1, e4, cat_cv, this]
      · simp [e1, e2, e3]
end
section
/-! the steps, one by one -/
section ZSteps
variable {Y : List (Nat × Nat)} {own : String} {cc : ByteArray} {nL : Nat} {p : Program} {l : Launch} {e : Env} {R : Room} {s : State} {m : MethodId} {args : Array Value} {below : List Frame} {meth : Method} {c : Code} {cells slots : Nat} {Q : State → Prop} {D : va_G} {tys : List (ClassId × FieldType)} {ad : Nat → Nat} {dA : Nat → ClassId} {A : Nat → Prop} {pc n pc' : Nat} {lo lo' : ZL} {st st' : List AV} {M M' : AM}
theorem zs_push {v : AV} (row : ∀ (H : Heap) (locs : List Loc) (ls : Array Slot) (rest : List Value), W p l e R s m args below meth c H locs cells slots Q (F0 m n ls (cv ad v :: rest)) → W p l e R s m args below meth c H locs cells slots Q (F0 m pc ls rest)) (hv : gd Y v) (k : ZS Y nL p l e R s m args below meth c cells slots Q D ad dA A n lo (v :: st) M) : ZS Y nL p l e R s m args below meth c cells slots Q D ad dA A pc lo st M :=
  fun H locs ls hW hL hG => row H locs ls _ (k H locs ls hW hL (fun w hw => (List.mem_cons.mp hw).elim (fun e => e ▸ hv) (hG w)))
theorem zs_bin {f : Int → Int → Int} {F : Int32 → Int32 → Int32} (hf : ∀ x y, f x y = (F (Int32.ofInt x) (Int32.ofInt y)).toInt)
    (row : ∀ (H : Heap) (locs : List Loc) (ls : Array Slot) (rest : List Value) (x y : Int32), W p l e R s m args below meth c H locs cells slots Q (F0 m n ls (.int (F x y) :: rest)) → W p l e R s m args below meth c H locs cells slots Q (F0 m pc ls (.int y :: .int x :: rest)))
    (hs : z_bin n f lo st M = some (pc', lo', st', M')) (k : ZS Y nL p l e R s m args below meth c cells slots Q D ad dA A pc' lo' st' M') : ZS Y nL p l e R s m args below meth c cells slots Q D ad dA A pc lo st M := by
  unfold z_bin at hs
  split at hs
  · cases hs
    intro H locs ls hW hL hG
    refine row H locs ls _ _ _ ?_
    have h := k H locs ls hW hL (fun w hw => (List.mem_cons.mp hw).elim (fun e => by rw [e]; show g32 _; rw [hf]; exact g32_of _) (fun h => hG w (List.mem_cons_of_mem _ (List.mem_cons_of_mem _ h))))
    simpa only [List.map_cons, cv, vI, hf, Int32.ofInt_toInt] using h
  · cases hs
theorem zs_binL {f : Int → Int → Int} {F : Int64 → Int64 → Int64} (hf : ∀ x y, f x y = (F (Int64.ofInt x) (Int64.ofInt y)).toInt)
    (row : ∀ (H : Heap) (locs : List Loc) (ls : Array Slot) (rest : List Value) (x y : Int64), W p l e R s m args below meth c H locs cells slots Q (F0 m n ls (.long (F x y) :: rest)) → W p l e R s m args below meth c H locs cells slots Q (F0 m pc ls (.long y :: .long x :: rest)))
    (hs : z_binL n f lo st M = some (pc', lo', st', M')) (k : ZS Y nL p l e R s m args below meth c cells slots Q D ad dA A pc' lo' st' M') : ZS Y nL p l e R s m args below meth c cells slots Q D ad dA A pc lo st M := by
  unfold z_binL at hs
  split at hs
  · cases hs
    intro H locs ls hW hL hG
    refine row H locs ls _ _ _ ?_
    have h := k H locs ls hW hL (fun w hw => (List.mem_cons.mp hw).elim (fun e => by rw [e]; show g64 _; rw [hf]; exact g64_of _) (fun h => hG w (List.mem_cons_of_mem _ (List.mem_cons_of_mem _ h))))
    simpa only [List.map_cons, cv, vL, hf, Int64.ofInt_toInt] using h
  · cases hs
theorem ofInt32_ne {y : Int} (hg : g32 y) (h : y ≠ 0) : ¬ Int32.ofInt y = 0 := by
  intro e
  apply h
  have : (Int32.ofInt y).toInt = (0 : Int32).toInt := by rw [e]
  rw [hg] at this
  simpa using this
theorem ofInt64_ne {y : Int} (hg : g64 y) (h : y ≠ 0) : ¬ Int64.ofInt y = 0 := by
  intro e
  apply h
  have : (Int64.ofInt y).toInt = (0 : Int64).toInt := by rw [e]
  rw [hg] at this
  simpa using this
theorem zs_div {f : Int → Int → Int} {F : Int32 → Int32 → Int32} (hf : ∀ x y, f x y = (F (Int32.ofInt x) (Int32.ofInt y)).toInt)
    (row : ∀ (H : Heap) (locs : List Loc) (ls : Array Slot) (rest : List Value) (x y : Int32), ¬ y = 0 → W p l e R s m args below meth c H locs cells slots Q (F0 m n ls (.int (F x y) :: rest)) → W p l e R s m args below meth c H locs cells slots Q (F0 m pc ls (.int y :: .int x :: rest)))
    (hs : z_div n f lo st M = some (pc', lo', st', M')) (k : ZS Y nL p l e R s m args below meth c cells slots Q D ad dA A pc' lo' st' M') : ZS Y nL p l e R s m args below meth c cells slots Q D ad dA A pc lo st M := by
  unfold z_div at hs
  split at hs
  · split at hs
    · cases hs
      rename_i hne
      intro H locs ls hW hL hG
      refine row H locs ls _ _ _ (ofInt32_ne (hG _ List.mem_cons_self) hne) ?_
      have h := k H locs ls hW hL (fun w hw => (List.mem_cons.mp hw).elim (fun e => by rw [e]; show g32 _; rw [hf]; exact g32_of _) (fun h => hG w (List.mem_cons_of_mem _ (List.mem_cons_of_mem _ h))))
      simpa only [List.map_cons, cv, vI, hf, Int32.ofInt_toInt] using h
    · cases hs
  · cases hs
theorem zs_divL {f : Int → Int → Int} {F : Int64 → Int64 → Int64} (hf : ∀ x y, f x y = (F (Int64.ofInt x) (Int64.ofInt y)).toInt)
    (row : ∀ (H : Heap) (locs : List Loc) (ls : Array Slot) (rest : List Value) (x y : Int64), ¬ y = 0 → W p l e R s m args below meth c H locs cells slots Q (F0 m n ls (.long (F x y) :: rest)) → W p l e R s m args below meth c H locs cells slots Q (F0 m pc ls (.long y :: .long x :: rest)))
    (hs : z_divL n f lo st M = some (pc', lo', st', M')) (k : ZS Y nL p l e R s m args below meth c cells slots Q D ad dA A pc' lo' st' M') : ZS Y nL p l e R s m args below meth c cells slots Q D ad dA A pc lo st M := by
  unfold z_divL at hs
  split at hs
  · split at hs
    · cases hs
      rename_i hne
      intro H locs ls hW hL hG
      refine row H locs ls _ _ _ (ofInt64_ne (hG _ List.mem_cons_self) hne) ?_
      have h := k H locs ls hW hL (fun w hw => (List.mem_cons.mp hw).elim (fun e => by rw [e]; show g64 _; rw [hf]; exact g64_of _) (fun h => hG w (List.mem_cons_of_mem _ (List.mem_cons_of_mem _ h))))
      simpa only [List.map_cons, cv, vL, hf, Int64.ofInt_toInt] using h
    · cases hs
  · cases hs
theorem zs_un {f : Int → Int} {F : Int32 → Int32} (hf : ∀ x, f x = (F (Int32.ofInt x)).toInt)
    (row : ∀ (H : Heap) (locs : List Loc) (ls : Array Slot) (rest : List Value) (x : Int32), W p l e R s m args below meth c H locs cells slots Q (F0 m n ls (.int (F x) :: rest)) → W p l e R s m args below meth c H locs cells slots Q (F0 m pc ls (.int x :: rest)))
    (hs : z_un n f lo st M = some (pc', lo', st', M')) (k : ZS Y nL p l e R s m args below meth c cells slots Q D ad dA A pc' lo' st' M') : ZS Y nL p l e R s m args below meth c cells slots Q D ad dA A pc lo st M := by
  unfold z_un at hs
  split at hs
  · cases hs
    intro H locs ls hW hL hG
    refine row H locs ls _ _ ?_
    have h := k H locs ls hW hL (fun w hw => (List.mem_cons.mp hw).elim (fun e => by rw [e]; show g32 _; rw [hf]; exact g32_of _) (fun h => hG w (List.mem_cons_of_mem _ h)))
    simpa only [List.map_cons, cv, vI, hf, Int32.ofInt_toInt] using h
  · cases hs
theorem zs_iload {i : Nat} (row : ∀ (H : Heap) (locs : List Loc) (ls : Array Slot) (rest : List Value) (x : Int32), ls[i]? = some (.val (.int x)) → W p l e R s m args below meth c H locs cells slots Q (F0 m n ls (.int x :: rest)) → W p l e R s m args below meth c H locs cells slots Q (F0 m pc ls rest))
    (hs : z_iload n i lo st M = some (pc', lo', st', M')) (k : ZS Y nL p l e R s m args below meth c cells slots Q D ad dA A pc' lo' st' M') : ZS Y nL p l e R s m args below meth c cells slots Q D ad dA A pc lo st M := by
  unfold z_iload at hs
  split at hs
  · rename_i x hx
    cases hs
    intro H locs ls hW hL hG
    exact row H locs ls _ _ (hL.2.2 i _ hx).1 (k H locs ls hW hL (fun w hw => (List.mem_cons.mp hw).elim (fun e => by rw [e]; exact (hL.2.2 i _ hx).2) (hG w)))
  · cases hs
theorem zs_lload {i : Nat} (row : ∀ (H : Heap) (locs : List Loc) (ls : Array Slot) (rest : List Value) (x : Int64), ls[i]? = some (.val (.long x)) → W p l e R s m args below meth c H locs cells slots Q (F0 m n ls (.long x :: rest)) → W p l e R s m args below meth c H locs cells slots Q (F0 m pc ls rest))
    (hs : z_lload n i lo st M = some (pc', lo', st', M')) (k : ZS Y nL p l e R s m args below meth c cells slots Q D ad dA A pc' lo' st' M') : ZS Y nL p l e R s m args below meth c cells slots Q D ad dA A pc lo st M := by
  unfold z_lload at hs
  split at hs
  · rename_i x hx
    cases hs
    intro H locs ls hW hL hG
    exact row H locs ls _ _ (hL.2.2 i _ hx).1 (k H locs ls hW hL (fun w hw => (List.mem_cons.mp hw).elim (fun e => by rw [e]; exact (hL.2.2 i _ hx).2) (hG w)))
  · cases hs
theorem zs_aload {i : Nat} (row : ∀ (H : Heap) (locs : List Loc) (ls : Array Slot) (rest : List Value) (x : Nat), ls[i]? = some (.val (.ref x)) → W p l e R s m args below meth c H locs cells slots Q (F0 m n ls (.ref x :: rest)) → W p l e R s m args below meth c H locs cells slots Q (F0 m pc ls rest))
    (hs : z_aload n i lo st M = some (pc', lo', st', M')) (k : ZS Y nL p l e R s m args below meth c cells slots Q D ad dA A pc' lo' st' M') : ZS Y nL p l e R s m args below meth c cells slots Q D ad dA A pc lo st M := by
  unfold z_aload at hs
  split at hs
  · rename_i q kk ll hx
    cases hs
    intro H locs ls hW hL hG
    exact row H locs ls _ _ (hL.2.2 i _ hx).1 (k H locs ls hW hL (fun w hw => (List.mem_cons.mp hw).elim (fun e => by rw [e]; exact (hL.2.2 i _ hx).2) (hG w)))
  · cases hs
theorem zs_istore {i : Nat} (row : ∀ (H : Heap) (locs : List Loc) (ls : Array Slot) (rest : List Value) (x : Int32) (lv : List (Nat × Value)), lv_has ls nL lv → (∀ ls' : Array Slot, lv_has ls' nL ((i, Value.int x) :: lv.filter (fun q => !(q.1 == i) && !(q.1 + 1 == i && q.2.category == 2))) → W p l e R s m args below meth c H locs cells slots Q (F0 m n ls' rest)) → W p l e R s m args below meth c H locs cells slots Q (F0 m pc ls (.int x :: rest)))
    (hs : z_istore n i lo st M = some (pc', lo', st', M')) (k : ZS Y nL p l e R s m args below meth c cells slots Q D ad dA A pc' lo' st' M') : ZS Y nL p l e R s m args below meth c cells slots Q D ad dA A pc lo st M := by
  unfold z_istore at hs
  split at hs
  · split at hs
    · cases hs
    · rename_i hz
      cases hs
      intro H locs ls hW hL hG
      exact row H locs ls _ _ _ hL.has (fun ls' h' => k H locs ls' hW (hL.store1 (v := vI _) (hG _ List.mem_cons_self) hz h') (fun w hw => hG w (List.mem_cons_of_mem _ hw)))
  · cases hs
theorem zs_astore {i : Nat} (row : ∀ (H : Heap) (locs : List Loc) (ls : Array Slot) (rest : List Value) (x : Nat) (lv : List (Nat × Value)), lv_has ls nL lv → (∀ ls' : Array Slot, lv_has ls' nL ((i, Value.ref x) :: lv.filter (fun q => !(q.1 == i) && !(q.1 + 1 == i && q.2.category == 2))) → W p l e R s m args below meth c H locs cells slots Q (F0 m n ls' rest)) → W p l e R s m args below meth c H locs cells slots Q (F0 m pc ls (.ref x :: rest)))
    (hs : z_astore n i lo st M = some (pc', lo', st', M')) (k : ZS Y nL p l e R s m args below meth c cells slots Q D ad dA A pc' lo' st' M') : ZS Y nL p l e R s m args below meth c cells slots Q D ad dA A pc lo st M := by
  unfold z_astore at hs
  split at hs
  · split at hs
    · cases hs
    · rename_i hz
      cases hs
      intro H locs ls hW hL hG
      exact row H locs ls _ _ _ hL.has (fun ls' h' => k H locs ls' hW (hL.store1 (v := vR _ _ _) (hG _ List.mem_cons_self) hz h') (fun w hw => hG w (List.mem_cons_of_mem _ hw)))
  · cases hs
theorem zs_lstore {i : Nat} (row : ∀ (H : Heap) (locs : List Loc) (ls : Array Slot) (rest : List Value) (x : Int64) (lv : List (Nat × Value)), lv_has ls nL lv → (∀ ls' : Array Slot, lv_has ls' nL ((i, Value.long x) :: lv.filter (fun q => !(q.1 == i) && (!(q.1 == i + 1) && !(q.1 + 1 == i && q.2.category == 2)))) → W p l e R s m args below meth c H locs cells slots Q (F0 m n ls' rest)) → W p l e R s m args below meth c H locs cells slots Q (F0 m pc ls (.long x :: rest)))
    (hs : z_lstore n i lo st M = some (pc', lo', st', M')) (k : ZS Y nL p l e R s m args below meth c cells slots Q D ad dA A pc' lo' st' M') : ZS Y nL p l e R s m args below meth c cells slots Q D ad dA A pc lo st M := by
  unfold z_lstore at hs
  split at hs
  · split at hs
    · cases hs
    · rename_i hz
      cases hs
      intro H locs ls hW hL hG
      exact row H locs ls _ _ _ hL.has (fun ls' h' => k H locs ls' hW (hL.store2 (v := vL _) (hG _ List.mem_cons_self) hz h') (fun w hw => hG w (List.mem_cons_of_mem _ hw)))
  · cases hs
/-- an index within, as the machine sees it -/
theorem z_in {i : Int} {n : Nat} (hg : g32 i) (h : 0 ≤ i ∧ i < (n : Int)) : vp_in (Int32.ofInt i) n ∧ (Int32.ofInt i).toNatClampNeg = i.toNat := by
  have e : (Int32.ofInt i).toNatClampNeg = i.toNat := by
    rw [show (Int32.ofInt i).toNatClampNeg = (Int32.ofInt i).toInt.toNat from rfl, hg]
  refine ⟨?_, e⟩
  unfold vp_in
  rw [e]
  rintro (h1 | h1)
  · rw [Int32.lt_iff_toInt_lt, hg] at h1
    simp at h1
    omega
  · omega
theorem zw_arr {M : AM} {q k n : Nat} (h : Y[q]? = some (k, n)) (hk : k < 10) : (zw Y ad dA M)[q]? = some (ad q, .inl (dA q, zea k n ad q (M q))) := by
  rw [zw_at h]
  simp [ze, hk]
theorem zs_ald {kk : Nat} (hkk : kk = 0 ∨ kk = 2) (C : zC Y own cc nL p R s m args c D tys dA A)
    (row : ∀ (H : Heap) (locs : List Loc) (ls : Array Slot) (rest : List Value) (q t0 a n0 : Nat) (cA : ClassId) (f : Nat → Int32) (i : Int32), va_P D zcl (zw Y ad dA M) H → (zw Y ad dA M)[q]? = some (a, .inl (cA, n0, .inl f)) → tys[t0]? = some (cA, zet kk) → vp_in i n0 → W p l e R s m args below meth c H locs cells slots Q (F0 m n ls (.int (f i.toNatClampNeg) :: rest)) → W p l e R s m args below meth c H locs cells slots Q (F0 m pc ls (.int i :: .ref a :: rest)))
    (hs : z_ald n kk lo st M = some (pc', lo', st', M')) (k : ZS Y nL p l e R s m args below meth c cells slots Q D ad dA A pc' lo' st' M') : ZS Y nL p l e R s m args below meth c cells slots Q D ad dA A pc lo st M := by
  obtain ⟨hx, hb, hml, hown, hts, hK, hT, hA, hR⟩ := C
  unfold z_ald at hs
  split at hs
  · rename_i i q k0 l0 r
    split at hs
    · rename_i hk
      split at hs
      · rename_i hin
        cases hs
        have hk : k0 = kk := by simpa using hk
        subst hk
        intro H locs ls hW hL hG
        have hq : Y[q]? = some (k0, l0) := (hG (vR q k0 l0) (List.mem_cons_of_mem _ List.mem_cons_self)).resolve_left (by omega)
        have hi : g32 i := hG (vI i) List.mem_cons_self
        obtain ⟨t0, ht0⟩ := hT q k0 l0 hq (by omega)
        obtain ⟨h1, h2⟩ := z_in hi hin
        have ha := zw_arr (ad := ad) (dA := dA) (M := M) hq (by omega)
        have hz : zea k0 l0 ad q (M q) = (l0, .inl (fun j => Int32.ofInt (M q j))) := by rcases hkk with h | h <;> subst h <;> rfl
        rw [hz] at ha
        refine row H locs ls _ q t0 _ l0 _ _ _ hW.1 ha ht0 h1 ?_
        have hgm : g32 (M q i.toNat) := by
          have := hW.2.2.2 q k0 l0 hq i.toNat
          rcases hkk with h | h <;> subst h <;> simpa [zgj] using this
        have h := k H locs ls hW hL (fun w hw => (List.mem_cons.mp hw).elim (fun e => by rw [e]; exact hgm) (fun h => hG w (List.mem_cons_of_mem _ (List.mem_cons_of_mem _ h))))
        rw [h2]
        exact h
      · cases hs
    · cases hs
  · cases hs
theorem zs_lald (C : zC Y own cc nL p R s m args c D tys dA A)
    (row : ∀ (H : Heap) (locs : List Loc) (ls : Array Slot) (rest : List Value) (q t0 a n0 : Nat) (cA : ClassId) (f : Nat → Int64) (i : Int32), va_P D zcl (zw Y ad dA M) H → (zw Y ad dA M)[q]? = some (a, .inl (cA, n0, .inr (.inl f))) → tys[t0]? = some (cA, .long) → vp_in i n0 → W p l e R s m args below meth c H locs cells slots Q (F0 m n ls (.long (f i.toNatClampNeg) :: rest)) → W p l e R s m args below meth c H locs cells slots Q (F0 m pc ls (.int i :: .ref a :: rest)))
    (hs : z_lald n lo st M = some (pc', lo', st', M')) (k : ZS Y nL p l e R s m args below meth c cells slots Q D ad dA A pc' lo' st' M') : ZS Y nL p l e R s m args below meth c cells slots Q D ad dA A pc lo st M := by
  obtain ⟨hx, hb, hml, hown, hts, hK, hT, hA, hR⟩ := C
  unfold z_lald at hs
  split at hs
  · rename_i i q k0 l0 r
    split at hs
    · rename_i hk
      split at hs
      · rename_i hin
        cases hs
        have hk : k0 = 1 := by simpa using hk
        subst hk
        intro H locs ls hW hL hG
        have hq : Y[q]? = some (1, l0) := (hG (vR q 1 l0) (List.mem_cons_of_mem _ List.mem_cons_self)).resolve_left (by omega)
        have hi : g32 i := hG (vI i) List.mem_cons_self
        obtain ⟨t0, ht0⟩ := hT q 1 l0 hq (by omega)
        obtain ⟨h1, h2⟩ := z_in hi hin
        have ha := zw_arr (ad := ad) (dA := dA) (M := M) hq (by omega)
        refine row H locs ls _ q t0 _ l0 _ _ _ hW.1 ha ht0 h1 ?_
        have hgm : g64 (M q i.toNat) := by
          have := hW.2.2.2 q 1 l0 hq i.toNat
          simpa [zgj] using this
        have h := k H locs ls hW hL (fun w hw => (List.mem_cons.mp hw).elim (fun e => by rw [e]; exact hgm) (fun h => hG w (List.mem_cons_of_mem _ (List.mem_cons_of_mem _ h))))
        rw [h2]
        exact h
      · cases hs
    · cases hs
  · cases hs
theorem zReg_arr {q k n j : Nat} (hR : zReg Y) (hq : Y[q]? = some (k, n)) (h3 : 3 ≤ k) (h10 : k < 10) (hj : j < n) : Y[zro k q j]? = some (zrk k, 0) := by
  have h := hR q (k, n) hq
  have h3' : ¬ k < 3 := by omega
  simp only [zRb, h3', h10, if_false, if_true, List.all_eq_true, List.mem_range] at h
  simpa using h j hj
theorem zs_aald (C : zC Y own cc nL p R s m args c D tys dA A)
    (row : ∀ (H : Heap) (locs : List Loc) (ls : Array Slot) (rest : List Value) (q t0 a n0 : Nat) (cA : ClassId) (cn : String) (f : Nat → Option Nat) (i : Int32), va_P D zcl (zw Y ad dA M) H → (zw Y ad dA M)[q]? = some (a, .inl (cA, n0, .inr (.inr (.inr (.inr f))))) → tys[t0]? = some (cA, .object cn) → vp_in i n0 → W p l e R s m args below meth c H locs cells slots Q (F0 m n ls (va_rf (f i.toNatClampNeg) :: rest)) → W p l e R s m args below meth c H locs cells slots Q (F0 m pc ls (.int i :: .ref a :: rest)))
    (hs : z_aald n lo st M = some (pc', lo', st', M')) (k : ZS Y nL p l e R s m args below meth c cells slots Q D ad dA A pc' lo' st' M') : ZS Y nL p l e R s m args below meth c cells slots Q D ad dA A pc lo st M := by
  obtain ⟨hx, hb, hml, hown, hts, hK, hT, hA, hR⟩ := C
  unfold z_aald at hs
  split at hs
  · rename_i i q k0 l0 r
    split at hs
    · rename_i hk
      split at hs
      · rename_i hin
        cases hs
        have hk3 : 3 ≤ k0 := by
          simp only [Bool.and_eq_true] at hk
          exact Nat.le_of_ble_eq_true hk.1
        have hk6 : k0 < 6 := by
          simp only [Bool.and_eq_true] at hk
          exact Nat.le_of_ble_eq_true hk.2
        intro H locs ls hW hL hG
        have hq : Y[q]? = some (k0, l0) := (hG (vR q k0 l0) (List.mem_cons_of_mem _ List.mem_cons_self)).resolve_left (by omega)
        have hi : g32 i := hG (vI i) List.mem_cons_self
        obtain ⟨t0, ht0⟩ := hT q k0 l0 hq (by omega)
        obtain ⟨h1, h2⟩ := z_in hi hin
        have ha := zw_arr (ad := ad) (dA := dA) (M := M) hq (by omega)
        have hz : zea k0 l0 ad q (M q) = (l0, .inr (.inr (.inr (.inr (fun j => some (ad (zro k0 q j))))))) := by
          have e1 : ¬ k0 = 1 := by omega
          simp [zea, e1, hk3]
        rw [hz] at ha
        have hty : ∃ cn, zet k0 = .object cn := by
          have : k0 = 3 ∨ k0 = 4 ∨ k0 = 5 := by omega
          rcases this with h | h | h <;> subst h <;> exact ⟨_, rfl⟩
        obtain ⟨cn, hcn⟩ := hty
        rw [hcn] at ht0
        refine row H locs ls _ q t0 _ l0 _ cn _ _ hW.1 ha ht0 h1 ?_
        have h := k H locs ls hW hL (fun w hw => (List.mem_cons.mp hw).elim (fun e => by rw [e]; exact Or.inr (zReg_arr hR hq hk3 (by omega) (by omega))) (fun h => hG w (List.mem_cons_of_mem _ (List.mem_cons_of_mem _ h))))
        rw [h2]
        exact h
      · cases hs
    · cases hs
  · cases hs
end ZSteps
end
section
/-! the steps, stores and fields -/
section ZSteps2
variable {Y : List (Nat × Nat)} {own : String} {cc : ByteArray} {nL : Nat} {p : Program} {l : Launch} {e : Env} {R : Room} {s : State} {m : MethodId} {args : Array Value} {below : List Frame} {meth : Method} {c : Code} {cells slots : Nat} {Q : State → Prop} {D : va_G} {tys : List (ClassId × FieldType)} {ad : Nat → Nat} {dA : Nat → ClassId} {A : Nat → Prop} {pc n pc' : Nat} {lo lo' : ZL} {st st' : List AV} {M M' : AM}
theorem z_updf (f : Nat → Int) (j : Nat) (x : Int32) : upd (fun i => Int32.ofInt (f i)) j x = fun i => Int32.ofInt ((fun b => if b = j then x.toInt else f b) i) := by
  funext i
  by_cases h : i = j <;> simp [upd, h, Int32.ofInt_toInt]
theorem z_updL (f : Nat → Int) (j : Nat) (x : Int64) : vp_updL (fun i => Int64.ofInt (f i)) j x = fun i => Int64.ofInt ((fun b => if b = j then x.toInt else f b) i) := by
  funext i
  by_cases h : i = j <;> simp [vp_updL, h, Int64.ofInt_toInt]
theorem zs_ast {kk : Nat} {f : Int → Int} {F : Int32 → Int32} (hf : ∀ x, g32 x → f x = (F (Int32.ofInt x)).toInt) (hkk : kk = 0 ∨ kk = 2) (C : zC Y own cc nL p R s m args c D tys dA A)
    (row : ∀ (H : Heap) (locs : List Loc) (ls : Array Slot) (rest : List Value) (q t0 a n0 : Nat) (cA : ClassId) (f : Nat → Int32) (i x : Int32), va_P D zcl (zw Y ad dA M) H → va_D A (zw Y ad dA M) → va_S A s.heap H locs → (zw Y ad dA M)[q]? = some (a, .inl (cA, n0, .inl f)) → tys[t0]? = some (cA, zet kk) → vp_in i n0 → (∀ (H1 : Heap) (locs1 : List Loc), va_P D zcl ((zw Y ad dA M).set q (a, .inl (cA, n0, .inl (upd f i.toNatClampNeg (F x))))) H1 → va_S A s.heap H1 locs1 → W p l e R s m args below meth c H1 locs1 cells slots Q (F0 m n ls rest)) → W p l e R s m args below meth c H locs cells slots Q (F0 m pc ls (.int x :: .int i :: .ref a :: rest)))
    (hs : z_ast n kk f lo st M = some (pc', lo', st', M')) (k : ZS Y nL p l e R s m args below meth c cells slots Q D ad dA A pc' lo' st' M') : ZS Y nL p l e R s m args below meth c cells slots Q D ad dA A pc lo st M := by
  obtain ⟨hx, hb, hml, hown, hts, hK, hT, hA, hR⟩ := C
  unfold z_ast at hs
  split at hs
  · rename_i x i q k0 l0 r
    split at hs
    · rename_i hk
      split at hs
      · rename_i hin
        cases hs
        have hk : k0 = kk := by simpa using hk
        subst hk
        intro H locs ls hW hL hG
        have hq : Y[q]? = some (k0, l0) := (hG (vR q k0 l0) (List.mem_cons_of_mem _ (List.mem_cons_of_mem _ List.mem_cons_self))).resolve_left (by omega)
        have hi : g32 i := hG (vI i) (List.mem_cons_of_mem _ List.mem_cons_self)
        have hxg : g32 x := hG (vI x) List.mem_cons_self
        obtain ⟨t0, ht0⟩ := hT q k0 l0 hq (by omega)
        obtain ⟨h1, h2⟩ := z_in hi hin
        have ha := zw_arr (ad := ad) (dA := dA) (M := M) hq (by omega)
        have hz : ∀ g : Nat → Int, zea k0 l0 ad q g = (l0, .inl (fun j => Int32.ofInt (g j))) := by intro g; rcases hkk with h | h <;> subst h <;> rfl
        have hzM := hz (M q)
        rw [hzM] at ha
        refine row H locs ls _ q t0 _ l0 _ _ _ _ hW.1 hW.2.1 hW.2.2.1 ha ht0 h1 (fun H1 locs1 hP1 hS1 => ?_)
        have hset := zw_set (ad := ad) (dA := dA) (M := M) (fun b => if b = i.toNat then f x else M q b) hq
        have hk10 : k0 < 10 := by omega
        simp only [ze, hk10, if_true, hz] at hset
        rw [h2, z_updf, ← hf x hxg] at hP1
        rw [hset] at hP1
        refine k H1 locs1 ls ⟨hP1, zD_row hW.2.1, hS1, ?_⟩ hL (fun w hw => hG w (List.mem_cons_of_mem _ (List.mem_cons_of_mem _ (List.mem_cons_of_mem _ hw))))
        refine zgM_upd _ _ hW.2.2.2 hq ?_
        rw [hf x hxg]
        rcases hkk with h | h <;> subst h <;> simpa [zgj] using g32_of _
      · cases hs
    · cases hs
  · cases hs
theorem zs_last (C : zC Y own cc nL p R s m args c D tys dA A)
    (row : ∀ (H : Heap) (locs : List Loc) (ls : Array Slot) (rest : List Value) (q t0 a n0 : Nat) (cA : ClassId) (f : Nat → Int64) (i : Int32) (x : Int64), va_P D zcl (zw Y ad dA M) H → va_D A (zw Y ad dA M) → va_S A s.heap H locs → (zw Y ad dA M)[q]? = some (a, .inl (cA, n0, .inr (.inl f))) → tys[t0]? = some (cA, .long) → vp_in i n0 → (∀ (H1 : Heap) (locs1 : List Loc), va_P D zcl ((zw Y ad dA M).set q (a, .inl (cA, n0, .inr (.inl (vp_updL f i.toNatClampNeg x))))) H1 → va_S A s.heap H1 locs1 → W p l e R s m args below meth c H1 locs1 cells slots Q (F0 m n ls rest)) → W p l e R s m args below meth c H locs cells slots Q (F0 m pc ls (.long x :: .int i :: .ref a :: rest)))
    (hs : z_last n lo st M = some (pc', lo', st', M')) (k : ZS Y nL p l e R s m args below meth c cells slots Q D ad dA A pc' lo' st' M') : ZS Y nL p l e R s m args below meth c cells slots Q D ad dA A pc lo st M := by
  obtain ⟨hx, hb, hml, hown, hts, hK, hT, hA, hR⟩ := C
  unfold z_last at hs
  split at hs
  · rename_i x i q k0 l0 r
    split at hs
    · rename_i hk
      split at hs
      · rename_i hin
        cases hs
        have hk : k0 = 1 := by simpa using hk
        subst hk
        intro H locs ls hW hL hG
        have hq : Y[q]? = some (1, l0) := (hG (vR q 1 l0) (List.mem_cons_of_mem _ (List.mem_cons_of_mem _ List.mem_cons_self))).resolve_left (by omega)
        have hi : g32 i := hG (vI i) (List.mem_cons_of_mem _ List.mem_cons_self)
        have hxg : g64 x := hG (vL x) List.mem_cons_self
        obtain ⟨t0, ht0⟩ := hT q 1 l0 hq (by omega)
        obtain ⟨h1, h2⟩ := z_in hi hin
        have ha := zw_arr (ad := ad) (dA := dA) (M := M) hq (by omega)
        refine row H locs ls _ q t0 _ l0 _ (fun j => Int64.ofInt (M q j)) _ _ hW.1 hW.2.1 hW.2.2.1 ha ht0 h1 (fun H1 locs1 hP1 hS1 => ?_)
        have hset := zw_set (ad := ad) (dA := dA) (M := M) (fun b => if b = i.toNat then x else M q b) hq
        rw [h2, z_updL, hxg] at hP1
        have hP1 : va_P D zcl ((zw Y ad dA M).set q (ad q, ze ad dA q (1, l0) (fun b => if b = i.toNat then x else M q b))) H1 := hP1
        rw [hset] at hP1
        refine k H1 locs1 ls ⟨hP1, zD_row hW.2.1, hS1, ?_⟩ hL (fun w hw => hG w (List.mem_cons_of_mem _ (List.mem_cons_of_mem _ (List.mem_cons_of_mem _ hw))))
        refine zgM_upd _ _ hW.2.2.2 hq ?_
        simpa [zgj] using hxg
      · cases hs
    · cases hs
  · cases hs
theorem zs_alen (C : zC Y own cc nL p R s m args c D tys dA A)
    (row : ∀ (H : Heap) (locs : List Loc) (ls : Array Slot) (rest : List Value) (q t0 a : Nat) (cA : ClassId) (x : vp_A) (ty : FieldType), va_P D zcl (zw Y ad dA M) H → (zw Y ad dA M)[q]? = some (a, .inl (cA, x)) → tys[t0]? = some (cA, ty) → W p l e R s m args below meth c H locs cells slots Q (F0 m n ls (.int (Int32.ofNat x.1) :: rest)) → W p l e R s m args below meth c H locs cells slots Q (F0 m pc ls (.ref a :: rest)))
    (hlen : ∀ (q k l0 : Nat), Y[q]? = some (k, l0) → l0 < 2147483648)
    (hs : z_alen n lo st M = some (pc', lo', st', M')) (k : ZS Y nL p l e R s m args below meth c cells slots Q D ad dA A pc' lo' st' M') : ZS Y nL p l e R s m args below meth c cells slots Q D ad dA A pc lo st M := by
  obtain ⟨hx, hb, hml, hown, hts, hK, hT, hA, hR⟩ := C
  unfold z_alen at hs
  split at hs
  · rename_i q k0 l0 r
    split at hs
    · rename_i hk
      cases hs
      have hk : k0 < 6 := Nat.le_of_ble_eq_true hk
      intro H locs ls hW hL hG
      have hq : Y[q]? = some (k0, l0) := (hG (vR q k0 l0) List.mem_cons_self).resolve_left (by omega)
      obtain ⟨t0, ht0⟩ := hT q k0 l0 hq (by omega)
      have ha := zw_arr (ad := ad) (dA := dA) (M := M) hq (by omega)
      refine row H locs ls _ q t0 _ _ _ _ hW.1 ha ht0 ?_
      have hl1 : (zea k0 l0 ad q (M q)).1 = l0 := by
        unfold zea
        split
        · rfl
        · split <;> rfl
      rw [hl1]
      have hl2 := hlen q k0 l0 hq
      have h := k H locs ls hW hL (fun w hw => (List.mem_cons.mp hw).elim (fun e => by rw [e]; exact (g32_iff _).mpr (by omega)) (fun h => hG w (List.mem_cons_of_mem _ h)))
      exact h
    · cases hs
  · cases hs
theorem zcl_zft {ci : Nat} {C : String} {T : u_T} {N : Nat} (h : zcl[ci]? = some (C, T, N)) : (zft ci).length = N := by
  have h12 : ci < 12 := by
    have := (List.getElem?_eq_some_iff.mp h).1
    simpa [zcl] using this
  have : ci = 0 ∨ ci = 1 ∨ ci = 2 ∨ ci = 3 ∨ ci = 4 ∨ ci = 5 ∨ ci = 6 ∨ ci = 7 ∨ ci = 8 ∨ ci = 9 ∨ ci = 10 ∨ ci = 11 := by omega
  rcases this with e | e | e | e | e | e | e | e | e | e | e | e <;> subst e <;> (simp only [zcl, List.getElem?_cons_zero, List.getElem?_cons_succ, Option.some.injEq, Prod.mk.injEq] at h; obtain ⟨-, -, rfl⟩ := h; rfl)
theorem zfs_at {ci q j : Nat} {f : Nat → Int} {t : Nat × Nat × Nat × Nat} (h : (zft ci)[j]? = some t) : (zfs ci ad q f)[j]? = some (zfv ad q t (f j)) := by
  simp [zfs, List.getElem?_mapIdx, h]
theorem zfs_set {ci q j : Nat} {f : Nat → Int} {t : Nat × Nat × Nat × Nat} (x : Int) (h : (zft ci)[j]? = some t) : (zfs ci ad q f).set j (zfv ad q t x) = zfs ci ad q (fun b => if b = j then x else f b) := by
  apply List.ext_getElem?
  intro i
  have hq : j < (zft ci).length := (List.getElem?_eq_some_iff.mp h).1
  by_cases hi : j = i
  · subst hi
    rw [List.getElem?_set_self (by simpa [zfs] using hq), zfs_at h]
    simp
  · rw [List.getElem?_set_ne hi]
    have hi2 : ¬ i = j := fun h => hi h.symm
    simp [zfs, List.getElem?_mapIdx, hi2]
theorem zw_obj {M : AM} {q ci n : Nat} (h : Y[q]? = some (10 + ci, n)) : (zw Y ad dA M)[q]? = some (ad q, .inr (ci, zfs ci ad q (M q))) := by
  rw [zw_at h]
  have h1 : ¬ 10 + ci < 10 := by omega
  have h2 : 10 + ci - 10 = ci := by omega
  simp [ze, h2]
theorem zgj_obj {ci j : Nat} {x : Int} {t : Nat × Nat × Nat × Nat} (h : (zft ci)[j]? = some t) : zgj (10 + ci) j x ↔ (if t.1 = 1 then g64 x else if t.1 = 2 then True else g32 x) := by
  have h1 : ¬ 10 + ci = 1 := by omega
  have h2 : ¬ 10 + ci < 3 := by omega
  have h3 : ¬ 10 + ci < 10 := by omega
  have h4 : 10 + ci - 10 = ci := by omega
  have h5 : (zft ci).getD j (2, 0, 0, 0) = t := by simp [List.getD_eq_getElem?_getD, h]
  simp only [zgj, h1, h2, h3, h4, if_false, h5]
  obtain ⟨a, b⟩ := t
  match a with
  | 0 => simp
  | 1 => simp
  | 2 => simp
  | a + 3 => simp
theorem zReg_obj {q ci n j : Nat} {t : Nat × Nat × Nat × Nat} (hR : zReg Y) (hq : Y[q]? = some (10 + ci, n)) (h : (zft ci)[j]? = some t) (h2 : t.1 = 2) : Y[q + t.2.1]? = some (t.2.2.1, t.2.2.2) := by
  have h0 := hR q _ hq
  have h1 : ¬ 10 + ci < 3 := by omega
  have h3 : ¬ 10 + ci < 10 := by omega
  have h4 : 10 + ci - 10 = ci := by omega
  simp only [zRb, h1, h3, if_false, h4, List.all_eq_true] at h0
  have := h0 t (List.mem_of_getElem? h)
  simpa [h2] using this
theorem zs_get {rn : Nat × Nat × Nat × Nat × Nat × Nat} {C0 : String} {T : u_T} {N : Nat} (C : zC Y own cc nL p R s m args c D tys dA A) (hc : zcl[rn.1]? = some (C0, T, N)) (hk : rn.2.1 < N) (ht : (zft rn.1)[rn.2.1]? = some rn.2.2)
    (row : ∀ (H : Heap) (locs : List Loc) (ls : Array Slot) (rest : List Value) (q a : Nat) (fs : List Value) (v : Value), va_P D zcl (zw Y ad dA M) H → (zw Y ad dA M)[q]? = some (a, .inr (rn.1, fs)) → fs[rn.2.1]? = some v → W p l e R s m args below meth c H locs cells slots Q (F0 m n ls (v :: rest)) → W p l e R s m args below meth c H locs cells slots Q (F0 m pc ls (.ref a :: rest)))
    (hs : z_get n rn lo st M = some (pc', lo', st', M')) (k : ZS Y nL p l e R s m args below meth c cells slots Q D ad dA A pc' lo' st' M') : ZS Y nL p l e R s m args below meth c cells slots Q D ad dA A pc lo st M := by
  obtain ⟨hx, hb, hml, hown, hts, hK, hT, hA, hR⟩ := C
  obtain ⟨ci, j, t1, t2, t3, t4⟩ := rn
  dsimp only at hc hk ht row
  unfold z_get at hs
  split at hs
  · rename_i q k0 l0 r
    split at hs
    · rename_i hk0
      have hk0 : k0 = 10 + ci := by simpa using hk0
      subst hk0
      intro H locs ls hW hL hG
      have hq : Y[q]? = some (10 + ci, l0) := (hG (vR q (10 + ci) l0) List.mem_cons_self).resolve_left (by omega)
      have hg : ∀ w ∈ r, gd Y w := fun w h => hG w (List.mem_cons_of_mem _ h)
      refine row H locs ls _ q _ _ _ hW.1 (zw_obj hq) (zfs_at ht) ?_
      have hm := (zgj_obj (x := M q j) ht).mp (hW.2.2.2 q _ l0 hq j)
      dsimp only at hs hm
      split at hs
      · cases hs
        exact k H locs ls hW hL (fun w hw => (List.mem_cons.mp hw).elim (fun e => by rw [e]; show g64 _; simpa using hm) (hg w))
      · cases hs
        exact k H locs ls hW hL (fun w hw => (List.mem_cons.mp hw).elim (fun e => by rw [e]; exact Or.inr (zReg_obj hR hq ht rfl)) (hg w))
      · rename_i h1 h2
        cases hs
        have e1 : ¬ t1 = 1 := h1
        have e2 : ¬ t1 = 2 := h2
        simp only [e1, e2, if_false] at hm
        have hz : zfv ad q (t1, t2, t3, t4) (M q j) = .int (Int32.ofInt (M q j)) := by simp [zfv, e1, e2]
        rw [hz]
        exact k H locs ls hW hL (fun w hw => (List.mem_cons.mp hw).elim (fun e => by rw [e]; exact hm) (hg w))
    · cases hs
  · cases hs
theorem zs_put {rn : Nat × Nat × Nat × Nat × Nat × Nat} {C0 : String} {T : u_T} {N : Nat} (C : zC Y own cc nL p R s m args c D tys dA A) (hc : zcl[rn.1]? = some (C0, T, N)) (hk : rn.2.1 < N) (ht : (zft rn.1)[rn.2.1]? = some rn.2.2)
    (row : ∀ (H : Heap) (locs : List Loc) (ls : Array Slot) (rest : List Value) (q a : Nat) (fs : List Value) (v : Value), va_P D zcl (zw Y ad dA M) H → va_D A (zw Y ad dA M) → va_S A s.heap H locs → (zw Y ad dA M)[q]? = some (a, .inr (rn.1, fs)) → rn.2.1 < fs.length → (rn.2.2.1 = 0 ∧ (∃ x, v = .int x) ∨ rn.2.2.1 = 1 ∧ (∃ x, v = .long x) ∨ rn.2.2.1 = 3 ∧ (v = .int 0 ∨ v = .int 1)) → (∀ (H1 : Heap) (locs1 : List Loc), va_P D zcl ((zw Y ad dA M).set q (a, .inr (rn.1, fs.set rn.2.1 v))) H1 → va_S A s.heap H1 locs1 → W p l e R s m args below meth c H1 locs1 cells slots Q (F0 m n ls rest)) → W p l e R s m args below meth c H locs cells slots Q (F0 m pc ls (v :: .ref a :: rest)))
    (hs : z_put n rn lo st M = some (pc', lo', st', M')) (k : ZS Y nL p l e R s m args below meth c cells slots Q D ad dA A pc' lo' st' M') : ZS Y nL p l e R s m args below meth c cells slots Q D ad dA A pc lo st M := by
  obtain ⟨hx, hb, hml, hown, hts, hK, hT, hA, hR⟩ := C
  obtain ⟨ci, j, t1, t2, t3, t4⟩ := rn
  dsimp only at hc hk ht row
  have hlen : ∀ (q : Nat) (f : Nat → Int), j < (zfs ci ad q f).length := fun q f => by
    have := (List.getElem?_eq_some_iff.mp ht).1
    simpa [zfs] using this
  have h10 : ¬ 10 + ci < 10 := by omega
  have h10' : 10 + ci - 10 = ci := by omega
  have hend : ∀ (q l0 : Nat) (x : Int) (r : List AV) (H : Heap) (locs : List Loc) (ls : Array Slot), ZS Y nL p l e R s m args below meth c cells slots Q D ad dA A pc' lo' st' M' → pc' = n → lo' = lo → st' = r → M' = am_upd M q j x → Y[q]? = some (10 + ci, l0) → zgj (10 + ci) j x → zW Y s D ad dA A M H locs → zLo Y ad nL lo ls → (∀ w ∈ r, gd Y w) →
      ∀ (H1 : Heap) (locs1 : List Loc), va_P D zcl ((zw Y ad dA M).set q (ad q, .inr (ci, (zfs ci ad q (M q)).set j (zfv ad q (t1, t2, t3, t4) x)))) H1 → va_S A s.heap H1 locs1 → W p l e R s m args below meth c H1 locs1 cells slots Q (F0 m n ls (r.map (cv ad))) := by
    intro q l0 x r H locs ls k e1 e2 e3 e4 hq hz hW hL hg H1 locs1 hP1 hS1
    subst e1 e2 e3 e4
    rw [zfs_set x ht] at hP1
    have hset := zw_set (ad := ad) (dA := dA) (M := M) (fun b => if b = j then x else M q b) hq
    simp only [ze, h10, if_false, h10'] at hset
    rw [hset] at hP1
    exact k H1 locs1 ls ⟨hP1, zD_row hW.2.1, hS1, zgM_upd _ _ hW.2.2.2 hq hz⟩ hL hg
  unfold z_put at hs
  split at hs
  · rename_i x q k0 l0 r
    split at hs
    · rename_i hk0
      have hk0 : k0 = 10 + ci := by simpa using hk0
      subst hk0
      intro H locs ls hW hL hG
      have hq : Y[q]? = some (10 + ci, l0) := (hG (vR q (10 + ci) l0) (List.mem_cons_of_mem _ List.mem_cons_self)).resolve_left (by omega)
      have hxg : g32 x := hG (vI x) List.mem_cons_self
      have hg : ∀ w ∈ r, gd Y w := fun w h => hG w (List.mem_cons_of_mem _ (List.mem_cons_of_mem _ h))
      dsimp only at hs
      split at hs
      · cases hs
        refine row H locs ls _ q _ _ (.int (Int32.ofInt x)) hW.1 hW.2.1 hW.2.2.1 (zw_obj hq) (hlen _ _) (Or.inl ⟨rfl, _, rfl⟩) ?_
        exact hend q l0 x _ H locs ls k rfl rfl rfl rfl hq ((zgj_obj ht).mpr (by simpa using hxg)) hW hL hg
      · split at hs
        · rename_i hx01
          cases hs
          refine row H locs ls _ q _ _ (.int (Int32.ofInt x)) hW.1 hW.2.1 hW.2.2.1 (zw_obj hq) (hlen _ _) (Or.inr (Or.inr ⟨rfl, ?_⟩)) ?_
          · rcases hx01 with h | h <;> subst h
            · exact Or.inl rfl
            · exact Or.inr rfl
          · exact hend q l0 x _ H locs ls k rfl rfl rfl rfl hq ((zgj_obj ht).mpr (by simpa using hxg)) hW hL hg
        · cases hs
      · cases hs
    · cases hs
  · rename_i x q k0 l0 r
    split at hs
    · rename_i hk0
      have hk0 : k0 = 10 + ci := by simpa using hk0
      subst hk0
      intro H locs ls hW hL hG
      have hq : Y[q]? = some (10 + ci, l0) := (hG (vR q (10 + ci) l0) (List.mem_cons_of_mem _ List.mem_cons_self)).resolve_left (by omega)
      have hxg : g64 x := hG (vL x) List.mem_cons_self
      have hg : ∀ w ∈ r, gd Y w := fun w h => hG w (List.mem_cons_of_mem _ (List.mem_cons_of_mem _ h))
      dsimp only at hs
      split at hs
      · cases hs
        refine row H locs ls _ q _ _ (.long (Int64.ofInt x)) hW.1 hW.2.1 hW.2.2.1 (zw_obj hq) (hlen _ _) (Or.inr (Or.inl ⟨rfl, _, rfl⟩)) ?_
        exact hend q l0 x _ H locs ls k rfl rfl rfl rfl hq ((zgj_obj ht).mpr (by simpa using hxg)) hW hL hg
      · cases hs
    · cases hs
  · cases hs
end ZSteps2
end
section
/-! all steps together -/
section ZStep
variable {Y : List (Nat × Nat)} {own : String} {cc : ByteArray} {nL : Nat} {p : Program} {l : Launch} {e : Env} {R : Room} {s : State} {m : MethodId} {args : Array Value} {below : List Frame} {meth : Method} {c : Code} {cells slots : Nat} {Q : State → Prop} {D : va_G} {tys : List (ClassId × FieldType)} {ad : Nat → Nat} {dA : Nat → ClassId} {A : Nat → Prop} {pc n pc' : Nat} {lo lo' : ZL} {st st' : List AV} {M M' : AM}
def zlen (ins : Instr) : Nat := match ins with
  | .bipush _ => 2
  | .ldc _ => 2
  | .iload _ => 2
  | .lload _ => 2
  | .aload _ => 2
  | .istore _ => 2
  | .lstore _ => 2
  | .astore _ => 2
  | .sipush _ => 3
  | .ldc_w _ => 3
  | .ldc2_w _ => 3
  | .iinc _ _ => 3
  | .goto _ => 3
  | .getfield _ => 3
  | .putfield _ => 3
  | .invokestatic _ => 3
  | .invokevirtual _ => 3
  | .invokespecial _ => 3
  | .if_icmp _ _ => 3
  | .ifCond _ _ => 3
  | _ => 1
theorem zcl_in : ∀ q ∈ zcl, ∀ w ∈ u_ws q.1 q.2.1 q.2.2, w ∈ zws := by
  have h : zcl.all (fun q => (u_ws q.1 q.2.1 q.2.2).all (fun w => goodWord w && lw_tbl.contains w)) = true := by decide +kernel
  intro q hq w hw
  have h1 := List.all_eq_true.mp (List.all_eq_true.mp h q hq) w hw
  simp only [Bool.and_eq_true] at h1
  exact List.mem_filter.mpr ⟨List.contains_iff_mem.mp h1.2, h1.1⟩
def ztyb (q : vw_C) : Bool := (List.range q.2.2).all (fun a => (parseFieldDescriptor (q.2.1 a).2.2.1).isSome && (List.range q.2.2).all (fun b => decide (a = b) || decide ((q.2.1 a).2.1 ≠ (q.2.1 b).2.1)))
theorem zcl_ty : ∀ q ∈ zcl, ztyb q = true := by
  have h : zcl.all ztyb = true := by decide +kernel
  exact fun q hq => List.all_eq_true.mp h q hq
/-- the sort of a field by its descriptor -/
def zdsb (q : vw_C) (f : List (Nat × Nat × Nat × Nat)) : Bool := (List.range q.2.2).all (fun a => match f.getD a (9, 0, 0, 0) with
  | (0, _) => decide (parseFieldDescriptor (q.2.1 a).2.2.1 = some .int)
  | (1, _) => decide (parseFieldDescriptor (q.2.1 a).2.2.1 = some .long)
  | (2, _) => true
  | (3, _) => decide (parseFieldDescriptor (q.2.1 a).2.2.1 = some .boolean)
  | _ => false)
theorem zcl_ds : ∀ (i : Nat) (q : vw_C), zcl[i]? = some q → zdsb q (zft i) = true := by
  have h : (zcl.mapIdx (fun i q => zdsb q (zft i))).all id = true := by decide +kernel
  intro i q hq
  have h2 : (zcl.mapIdx (fun i q => zdsb q (zft i)))[i]? = some (zdsb q (zft i)) := by simp [List.getElem?_mapIdx, hq]
  exact List.all_eq_true.mp h _ (List.mem_of_getElem? h2)
theorem z_rg {z : Int} (h : zgC z = true) : g32 z := by
  simp only [zgC, Bool.and_eq_true, decide_eq_true_eq] at h
  exact (g32_iff z).mpr h
theorem z_rgL {z : Int} (h : zgCL z = true) : g64 z := by
  simp only [zgCL, Bool.and_eq_true, decide_eq_true_eq] at h
  exact (g64_iff z).mpr h
theorem z_lcmp {x y : Int} (hx : g64 x) (hy : g64 y) : lg_cmp (Int64.ofInt x) (Int64.ofInt y) = Int32.ofInt (l_cmp x y) := by
  unfold lg_cmp l_cmp
  have h1 : (Int64.ofInt x > Int64.ofInt y) ↔ y < x := by rw [gt_iff_lt, Int64.lt_iff_toInt_lt, hx, hy]
  have h2 : (Int64.ofInt x = Int64.ofInt y) ↔ x = y := by
    constructor
    · intro h
      have := congrArg Int64.toInt h
      rwa [hx, hy] at this
    · intro h; rw [h]
  by_cases e1 : y < x
  · simp [h1, e1]
  · by_cases e2 : x = y
    · simp [h1, e1, h2, e2]
    · simp [h1, e1, h2, e2]
theorem z_i2l {x : Int} (hx : g32 x) : (Int32.ofInt x).toInt64 = Int64.ofInt x ∧ g64 x := by
  have hr := (g32_iff x).mp hx
  have h64 : g64 x := (g64_iff x).mpr (by omega)
  refine ⟨?_, h64⟩
  apply Int64.toInt_inj.mp
  rw [h64, Int32.toInt_toInt64, hx]
theorem cv_cat1 {v : AV} (h : zc1 v = true) : (cv ad v).category = 1 := by rw [cat_cv, h]; rfl
theorem z_cpy (f g : Nat → Int) (sp dp n : Nat) : va_cpy (fun j => Int32.ofInt (f j)) (fun j => Int32.ofInt (g j)) sp dp n = fun j => Int32.ofInt (cp_row f g sp dp n j) := by
  funext j
  unfold va_cpy cp_row
  split <;> rfl
theorem z_cpyL (f g : Nat → Int) (sp dp n : Nat) : va_cpy (fun j => Int64.ofInt (f j)) (fun j => Int64.ofInt (g j)) sp dp n = fun j => Int64.ofInt (cp_row f g sp dp n j) := by
  funext j
  unfold va_cpy cp_row
  split <;> rfl
theorem z_nn {x : Int} (hg : g32 x) (h : 0 ≤ x) : ¬ Int32.ofInt x < 0 ∧ (Int32.ofInt x).toNatClampNeg = x.toNat := by
  constructor
  · rw [Int32.lt_iff_toInt_lt, hg]
    simp
    omega
  · rw [show (Int32.ofInt x).toNatClampNeg = (Int32.ofInt x).toInt.toNat from rfl, hg]
theorem zcat_le (r : List AV) : ((r.map (cv ad)).map fun v => v.category).sum ≤ 2 * r.length := by
  induction r with
  | nil => simp
  | cons a r ih =>
    simp only [List.map_cons, List.sum_cons, List.length_cons]
    have : (cv ad a).category ≤ 2 := by rw [cat_cv]; split <;> omega
    omega
theorem zw_nat : (Jvm.Cond.native arraycopyName) ∈ zws ∧ (Jvm.Cond.static arraycopyName) ∈ zws ∧ (Jvm.Cond.initialized "java/lang/System") ∈ zws := by
  have h : lw_tbl.contains (Jvm.Cond.native arraycopyName) && lw_tbl.contains (Jvm.Cond.static arraycopyName) && lw_tbl.contains (Jvm.Cond.initialized "java/lang/System") && goodWord (Jvm.Cond.native arraycopyName) && goodWord (Jvm.Cond.static arraycopyName) && goodWord (Jvm.Cond.initialized "java/lang/System") = true := by decide +kernel
  simp only [Bool.and_eq_true] at h
  obtain ⟨⟨⟨⟨⟨h1, h2⟩, h3⟩, h4⟩, h5⟩, h6⟩ := h
  exact ⟨List.mem_filter.mpr ⟨List.contains_iff_mem.mp h1, h4⟩, List.mem_filter.mpr ⟨List.contains_iff_mem.mp h2, h5⟩, List.mem_filter.mpr ⟨List.contains_iff_mem.mp h3, h6⟩⟩
theorem zs_copy {rn : Nat × Nat × Nat × Nat × Nat × Nat} {index : Nat} (C : zC Y own cc nL p R s m args c D tys dA A) (hl : rn.1 = 999 → Jvm.Cond.methodLink own index arraycopyName ∈ zws) (hfr : 1 ≤ R.frames) (hlo : 64 ≤ R.locals)
    (hd : decode cc pc = .ok (.invokestatic index, 3)) (hs : z_copy (pc + 3) rn lo st M = some (pc', lo', st', M')) (k : ZS Y nL p l e R s m args below meth c cells slots Q D ad dA A pc' lo' st' M') : ZS Y nL p l e R s m args below meth c cells slots Q D ad dA A pc lo st M := by
  obtain ⟨hx, hb, hml, hown, hts, hK, hT, hA, hR⟩ := C
  unfold z_copy at hs
  split at hs
  · rename_i cn dp q1 k1 n1 sp q0 k0 n0 r
    split at hs
    · rename_i hk
      simp only [Bool.and_eq_true, beq_iff_eq] at hk
      obtain ⟨⟨⟨⟨h999, hk0⟩, hk1⟩, hk2⟩, hr4⟩ := hk
      have hk2 : rn.2.1 < 2 := Nat.le_of_ble_eq_true hk2
      have hr4 : r.length ≤ 4 := Nat.le_of_ble_eq_true hr4
      split at hs
      · rename_i hin
        obtain ⟨i1, i2, i3, i4, i5⟩ := hin
        intro H locs ls hW hL hG
        have hgc : g32 cn := hG (vI cn) (by simp)
        have hgd : g32 dp := hG (vI dp) (by simp)
        have hgs : g32 sp := hG (vI sp) (by simp)
        have hq0 : Y[q0]? = some (k0, n0) := (hG (vR q0 k0 n0) (by simp)).resolve_left (by omega)
        have hq1 : Y[q1]? = some (k1, n1) := (hG (vR q1 k1 n1) (by simp)).resolve_left (by omega)
        obtain ⟨ec1, ec2⟩ := z_nn hgc i3
        obtain ⟨ed1, ed2⟩ := z_nn hgd i2
        obtain ⟨es1, es2⟩ := z_nn hgs i1
        obtain ⟨t0, ht0⟩ := hT q0 k0 n0 hq0 (by omega)
        obtain ⟨t1, ht1⟩ := hT q1 k1 n1 hq1 (by omega)
        have ha0 := zw_arr (ad := ad) (dA := dA) (M := M) hq0 (by omega)
        have ha1 := zw_arr (ad := ad) (dA := dA) (M := M) hq1 (by omega)
        have hg4 : ∀ w ∈ r, gd Y w := fun w hw => hG w (by simp [hw])
        have hmlx : c.maxLocals = ls.size := by rw [hml, hL.1]
        have hroom : ((r.map (cv ad)).map fun v => v.category).sum + (nativeFrameWords "java/lang/System" "arraycopy" 5 + 11) ≤ R.locals := by
          have h1 := zcat_le (ad := ad) r
          have h2 : nativeFrameWords "java/lang/System" "arraycopy" 5 ≤ 40 := by decide +kernel
          omega
        obtain ⟨w1, w2, w3⟩ := zw_nat
        have hset := zw_set (ad := ad) (dA := dA) (M := M) (cp_row (M q0) (M q1) sp.toNat dp.toNat cn.toNat) hq1
        have hgm : zgM Y (am_row M q1 (cp_row (M q0) (M q1) sp.toNat dp.toNat cn.toNat)) := by
          refine zgM_row _ hW.2.2.2 hq1 (fun j => ?_)
          unfold cp_row
          split
          · have := hW.2.2.2 q0 k0 n0 hq0 (sp.toNat + (j - dp.toNat))
            have e01 : k0 = k1 := by omega
            subst e01
            have h2 : k0 = 0 ∨ k0 = 1 := by omega
            rcases h2 with h | h <;> subst h <;> simpa [zgj] using this
          · exact hW.2.2.2 q1 k1 n1 hq1 j
        have hcase : rn.2.1 = 0 ∨ rn.2.1 = 1 := by omega
        rcases hcase with hz | hz
        · have e0 : k0 = 0 := by omega
          have e1 : k1 = 0 := by omega
          subst e0 e1
          cases hs
          refine va_copyi hx hb hmlx hown (hts _ (hl h999)) (hts _ w1) (hts _ w2) (hts _ w3) hK hW.1 hW.2.1 hW.2.2.1 q0 q1 t0 t1 (f := fun j => Int32.ofInt (M q0 j)) (g := fun j => Int32.ofInt (M q1 j)) ha0 ha1 ht0 ht1 rfl es1 ed1 ec1 (by rw [es2, ec2]; omega) (by rw [ed2, ec2]; omega) (fun _ _ => rfl) hfr hroom hd (fun H1 locs1 hP1 _ hS1 => ?_)
          rw [es2, ed2, ec2, z_cpy] at hP1
          have hP1 : va_P D zcl ((zw Y ad dA M).set q1 (ad q1, ze ad dA q1 (0, n1) (cp_row (M q0) (M q1) sp.toNat dp.toNat cn.toNat))) H1 := hP1
          rw [hset] at hP1
          exact k H1 locs1 ls ⟨hP1, zD_row hW.2.1, hS1, hgm⟩ hL hg4
        · have e0 : k0 = 1 := by omega
          have e1 : k1 = 1 := by omega
          subst e0 e1
          cases hs
          refine va_copyl hx hb hmlx hown (hts _ (hl h999)) (hts _ w1) (hts _ w2) (hts _ w3) hK hW.1 hW.2.1 hW.2.2.1 q0 q1 t0 t1 (f := fun j => Int64.ofInt (M q0 j)) (g := fun j => Int64.ofInt (M q1 j)) ha0 ha1 ht0 ht1 rfl es1 ed1 ec1 (by rw [es2, ec2]; omega) (by rw [ed2, ec2]; omega) (fun _ _ => rfl) hfr hroom hd (fun H1 locs1 hP1 _ hS1 => ?_)
          rw [es2, ed2, ec2, z_cpyL] at hP1
          have hP1 : va_P D zcl ((zw Y ad dA M).set q1 (ad q1, ze ad dA q1 (1, n1) (cp_row (M q0) (M q1) sp.toNat dp.toNat cn.toNat))) H1 := hP1
          rw [hset] at hP1
          exact k H1 locs1 ls ⟨hP1, zD_row hW.2.1, hS1, hgm⟩ hL hg4
      · cases hs
    · cases hs
  · cases hs
theorem zw_math : (∀ k, k < 3 → Jvm.Cond.static (zmn k) ∈ zws) ∧ Jvm.Cond.initialized "java/lang/Math" ∈ zws ∧ Jvm.Cond.code Lib.Math.min.name Lib.Math.min.code 2 (some .int) ∈ zws ∧ Jvm.Cond.code Lib.Math.max.name Lib.Math.max.code 2 (some .int) ∈ zws ∧ Jvm.Cond.code Lib.MathLoose.abs_long.x Lib.MathLoose.abs_long.code 2 (some .long) ∈ zws := by
  have hh : ∀ w : Jvm.Cond, (lw_tbl.contains w && goodWord w) = true → w ∈ zws := fun w h => by
    simp only [Bool.and_eq_true] at h
    exact List.mem_filter.mpr ⟨List.contains_iff_mem.mp h.1, h.2⟩
  refine ⟨?_, hh _ (by decide +kernel), hh _ (by decide +kernel), hh _ (by decide +kernel), hh _ (by decide +kernel)⟩
  intro k hk
  have : k = 0 ∨ k = 1 ∨ k = 2 := by omega
  rcases this with e | e | e <;> subst e <;> exact hh _ (by decide +kernel)
theorem zs_math {k0 index : Nat} (C : zC Y own cc nL p R s m args c D tys dA A) (hl : Jvm.Cond.methodLink own index (zmn k0) ∈ zws) (hfr : 1 ≤ R.frames) (hlo : 64 ≤ R.locals) (hcc : cells ≤ R.cells) (hss : slots ≤ R.slots)
    (hd : decode cc pc = .ok (.invokestatic index, 3)) (hs : z_math (pc + 3) k0 lo st M = some (pc', lo', st', M')) (k : ZS Y nL p l e R s m args below meth c cells slots Q D ad dA A pc' lo' st' M') : ZS Y nL p l e R s m args below meth c cells slots Q D ad dA A pc lo st M := by
  obtain ⟨hx, hb, hml, hown, hts, hK, hT, hA, hR⟩ := C
  obtain ⟨w1, w2, w3, w4, w5⟩ := zw_math
  unfold z_math at hs
  split at hs
  · split at hs
    · rename_i y x r
      split at hs
      · rename_i hr
        have hr : r.length ≤ 4 := Nat.le_of_ble_eq_true hr
        have hz := zcat_le (ad := ad) r
        cases hs
        intro H locs ls hW hL hG
        have hgx : g32 x := hG (vI x) (by simp)
        have hgy : g32 y := hG (vI y) (by simp)
        refine va_mmin hx hb (by rw [hml, hL.1]) hown (hts _ hl) (hts _ (w1 0 (by omega))) (hts _ w2) (hts _ w3) hfr (by omega) hcc hss hd ?_
        have e : (if Int32.ofInt y < Int32.ofInt x then Int32.ofInt y else Int32.ofInt x) = Int32.ofInt (o_min x y) := by
          unfold o_min
          have h0 : Int32.ofInt y < Int32.ofInt x ↔ y < x := by rw [Int32.lt_iff_toInt_lt, hgx, hgy]
          simp only [h0]
          split <;> rfl
        rw [e]
        exact k H locs ls hW hL (fun w hw => (List.mem_cons.mp hw).elim (fun e => by rw [e]; show g32 _; unfold o_min; split <;> assumption) (fun h => hG w (by simp [h])))
      · cases hs
    · cases hs
  · split at hs
    · rename_i y x r
      split at hs
      · rename_i hr
        have hr : r.length ≤ 4 := Nat.le_of_ble_eq_true hr
        have hz := zcat_le (ad := ad) r
        cases hs
        intro H locs ls hW hL hG
        have hgx : g32 x := hG (vI x) (by simp)
        have hgy : g32 y := hG (vI y) (by simp)
        refine va_mmax hx hb (by rw [hml, hL.1]) hown (hts _ hl) (hts _ (w1 1 (by omega))) (hts _ w2) (hts _ w4) hfr (by omega) hcc hss hd ?_
        have e : (if Int32.ofInt x < Int32.ofInt y then Int32.ofInt y else Int32.ofInt x) = Int32.ofInt (o_max x y) := by
          unfold o_max
          have h0 : Int32.ofInt x < Int32.ofInt y ↔ x < y := by rw [Int32.lt_iff_toInt_lt, hgx, hgy]
          simp only [h0]
          split <;> rfl
        rw [e]
        exact k H locs ls hW hL (fun w hw => (List.mem_cons.mp hw).elim (fun e => by rw [e]; show g32 _; unfold o_max; split <;> assumption) (fun h => hG w (by simp [h])))
      · cases hs
    · cases hs
  · rename_i n0 n1
    split at hs
    · rename_i x r
      split at hs
      · rename_i hr
        have hr : r.length ≤ 4 := Nat.le_of_ble_eq_true hr
        have hz := zcat_le (ad := ad) r
        cases hs
        intro H locs ls hW hL hG
        have hgx : g64 x := hG (vL x) (by simp)
        have hl2 : Jvm.Cond.methodLink own index Lib.MathLoose.abs_long.x ∈ zws := by
          have e : zmn k0 = Lib.MathLoose.abs_long.x := by
            unfold zmn
            split
            · exact absurd rfl n0
            · exact absurd rfl n1
            · rfl
          rw [← e]; exact hl
        refine va_mabs_long hx hb (by rw [hml, hL.1]) hown (hts _ hl2) (hts _ (w1 2 (by omega))) (hts _ w2) (hts _ w5) hfr (by omega) hcc hss hd ?_
        have e : (if 0 < Int64.ofInt x then Int64.ofInt x else -(Int64.ofInt x)) = Int64.ofInt (l_abs x) := by
          unfold l_abs
          have h0 : (0 : Int64) < Int64.ofInt x ↔ 0 < x := by rw [Int64.lt_iff_toInt_lt, hgx]; rfl
          simp only [h0]
          split
          · rfl
          · rw [Int64.ofInt_toInt]
        rw [e]
        exact k H locs ls hW hL (fun w hw => (List.mem_cons.mp hw).elim (fun e => by rw [e]; show g64 _; unfold l_abs; split; exact hgx; exact g64_of _) (fun h => hG w (by simp [h])))
      · cases hs
    · cases hs
end ZStep
end
section
section ZAll
variable {Y : List (Nat × Nat)} {own : String} {cc : ByteArray} {nL : Nat} {p : Program} {l : Launch} {e : Env} {R : Room} {s : State} {m : MethodId} {args : Array Value} {below : List Frame} {meth : Method} {c : Code} {cells slots : Nat} {Q : State → Prop} {D : va_G} {tys : List (ClassId × FieldType)} {ad : Nat → Nat} {dA : Nat → ClassId} {A : Nat → Prop} {pc n pc' : Nat} {lo lo' : ZL} {st st' : List AV} {M M' : AM}
set_option maxHeartbeats 4000000 in
theorem zstep {ins : Instr} {rn : Nat × Nat × Nat × Nat × Nat × Nat} {rz : Int} (C : zC Y own cc nL p R s m args c D tys dA A) (hlen : ∀ (q k l0 : Nat), Y[q]? = some (k, l0) → l0 < 2147483648) (hfr : 1 ≤ R.frames) (hlr : 64 ≤ R.locals) (hcc : cells ≤ R.cells) (hss : slots ≤ R.slots)
    (hd : decode cc pc = .ok (ins, zlen ins)) (hok : zok1 own nL pc ins rn rz = true) (hs : stp ins rn rz pc lo st M = some (pc', lo', st', M')) (k : ZS Y nL p l e R s m args below meth c cells slots Q D ad dA A pc' lo' st' M') : ZS Y nL p l e R s m args below meth c cells slots Q D ad dA A pc lo st M := by
  have C0 := C
  obtain ⟨hx, hb, hml, hown, hts, hK, hT, hA, hR⟩ := C0
  cases ins with
  | iconst i =>
    simp only [zok1, Bool.and_eq_true, beq_iff_eq] at hok
    cases hs
    exact zs_push (v := vI rz) (fun H locs ls rest kk => lv_iconst hx hb hd (by rw [hok.1]) kk) (z_rg hok.2) k
  | bipush i =>
    simp only [zok1, Bool.and_eq_true, decide_eq_true_eq] at hok
    cases hs
    exact zs_push (v := vI rz) (fun H locs ls rest kk => lv_bipush hx hb hd hok.1 kk) (z_rg hok.2) k
  | sipush i =>
    simp only [zok1, Bool.and_eq_true, decide_eq_true_eq] at hok
    cases hs
    exact zs_push (v := vI rz) (fun H locs ls rest kk => lv_sipush hx hb hd hok.1 kk) (z_rg hok.2) k
  | ldc i =>
    simp only [zok1, Bool.and_eq_true] at hok
    cases hs
    exact zs_push (v := vI rz) (fun H locs ls rest kk => lv_ldc hx hb hown (hts _ (zhas_mem hok.1)) hd kk) (z_rg hok.2) k
  | ldc_w i =>
    simp only [zok1, Bool.and_eq_true] at hok
    cases hs
    exact zs_push (v := vI rz) (fun H locs ls rest kk => lv_ldcw hx hb hown (hts _ (zhas_mem hok.1)) hd kk) (z_rg hok.2) k
  | ldc2_w i =>
    simp only [zok1, Bool.and_eq_true] at hok
    cases hs
    exact zs_push (v := vL rz) (fun H locs ls rest kk => lv_ldc2 hx hb hown (hts _ (zhas_mem hok.1)) hd kk) (z_rgL hok.2) k
  | lconst i =>
    simp only [zok1, beq_iff_eq] at hok
    cases hs
    exact zs_push (v := vL rz) (fun H locs ls rest kk => lv_lconst hx hb hd (by rw [hok]; rfl) kk) (by rw [hok]; exact (g64_iff _).mpr (by have := i.isLt; omega)) k
  | iload i => exact zs_iload (i := i) (fun H locs ls rest x h kk => lv_iload hx hb hd h kk) hs k
  | iload_n i => exact zs_iload (i := i.val) (fun H locs ls rest x h kk => lv_iload_n hx hb hd rfl h kk) hs k
  | lload i => exact zs_lload (i := i) (fun H locs ls rest x h kk => lv_lload hx hb hd h kk) hs k
  | lload_n i => exact zs_lload (i := i.val) (fun H locs ls rest x h kk => lv_lload_n hx hb hd rfl h kk) hs k
  | aload i => exact zs_aload (i := i) (fun H locs ls rest x h kk => lv_aload hx hb hd h kk) hs k
  | aload_n i => exact zs_aload (i := i.val) (fun H locs ls rest x h kk => lv_aload_n hx hb hd rfl h kk) hs k
  | istore i => exact zs_istore (i := i) (fun H locs ls rest x lv h kk => lv_istore hx hb hd h (Nat.le_of_ble_eq_true hok) rfl kk) hs k
  | istore_n i => exact zs_istore (i := i.val) (fun H locs ls rest x lv h kk => lv_istore_n hx hb hd rfl h (Nat.le_of_ble_eq_true hok) rfl kk) hs k
  | lstore i => exact zs_lstore (i := i) (fun H locs ls rest x lv h kk => lv_lstore hx hb hd h (Nat.le_of_ble_eq_true hok) rfl kk) hs k
  | lstore_n i => exact zs_lstore (i := i.val) (fun H locs ls rest x lv h kk => lv_lstore_n hx hb hd rfl h (Nat.le_of_ble_eq_true hok) rfl kk) hs k
  | astore i => exact zs_astore (i := i) (fun H locs ls rest x lv h kk => lv_astore hx hb hd h (Nat.le_of_ble_eq_true hok) rfl kk) hs k
  | astore_n i => exact zs_astore (i := i.val) (fun H locs ls rest x lv h kk => lv_astore_n hx hb hd rfl h (Nat.le_of_ble_eq_true hok) rfl kk) hs k
  | iinc i z =>
    simp only [zok1, Bool.and_eq_true, decide_eq_true_eq] at hok
    simp only [stp] at hs
    split at hs
    · rename_i x hxx
      split at hs
      · cases hs
      · rename_i hz
        cases hs
        intro H locs ls hW hL hG
        have hmem : (i, cv ad (vI x)) ∈ zlv ad 0 lo := zlv_mem.mpr ⟨i, vI x, hxx, by simp⟩
        obtain ⟨j, hj⟩ := List.getElem?_of_mem hmem
        exact lv_iinc hx hb hd hL.has (k := j) hj (v := Int32.ofInt (o_add x rz)) (by unfold o_add; rw [Int32.ofInt_toInt, hok.2]) (Nat.le_of_ble_eq_true hok.1) rfl (fun ls' h' => k H locs ls' hW (hL.store1 (v := vI (o_add x rz)) (g32_of _) hz h') hG)
    · cases hs
  | iaload => exact zs_ald (Or.inl rfl) C (fun H locs ls rest q t0 a n0 cA f i h1 h2 h3 h4 kk => va_iald hx hb hK h1 q t0 h2 h3 h4 hd kk) hs k
  | baload => exact zs_ald (Or.inr rfl) C (fun H locs ls rest q t0 a n0 cA f i h1 h2 h3 h4 kk => va_bald hx hb hK h1 q t0 h2 h3 h4 hd kk) hs k
  | laload => exact zs_lald C (fun H locs ls rest q t0 a n0 cA f i h1 h2 h3 h4 kk => va_lald hx hb hK h1 q t0 h2 h3 h4 hd kk) hs k
  | aaload => exact zs_aald C (fun H locs ls rest q t0 a n0 cA cn f i h1 h2 h3 h4 kk => va_aldq hx hb hK h1 q t0 h2 h3 h4 hd kk) hs k
  | iastore => exact zs_ast (F := fun x => x) (fun x h => h.symm) (Or.inl rfl) C (fun H locs ls rest q t0 a n0 cA f i x h1 h2 h3 h4 h5 h6 kk => va_iast hx hb hK h1 h2 h3 q t0 h4 h5 h6 hd (fun H1 locs1 hP1 _ hS1 => kk H1 locs1 hP1 hS1)) hs k
  | bastore => exact zs_ast (F := fun x => x.toInt8.toInt32) (fun x h => rfl) (Or.inr rfl) C (fun H locs ls rest q t0 a n0 cA f i x h1 h2 h3 h4 h5 h6 kk => va_bast hx hb hK h1 h2 h3 q t0 h4 h5 h6 hd (fun H1 locs1 hP1 _ hS1 => kk H1 locs1 hP1 hS1)) hs k
  | lastore => exact zs_last C (fun H locs ls rest q t0 a n0 cA f i x h1 h2 h3 h4 h5 h6 kk => va_last hx hb hK h1 h2 h3 q t0 h4 h5 h6 hd (fun H1 locs1 hP1 _ hS1 => kk H1 locs1 hP1 hS1)) hs k
  | arraylength => exact zs_alen C (fun H locs ls rest q t0 a cA x ty h1 h2 h3 kk => va_alen hx hb hK h1 q t0 h2 h3 rfl hd kk) hlen hs k
  | pop =>
    simp only [stp] at hs
    split at hs
    · split at hs
      · rename_i h1
        cases hs
        intro H locs ls hW hL hG
        exact lv_pop hx hb hd (cv_cat1 h1) (k H locs ls hW hL (fun w hw => hG w (List.mem_cons_of_mem _ hw)))
      · cases hs
    · cases hs
  | dup =>
    simp only [stp] at hs
    split at hs
    · split at hs
      · rename_i h1
        cases hs
        intro H locs ls hW hL hG
        exact lv_dup hx hb hd (cv_cat1 h1) (k H locs ls hW hL (fun w hw => hG w (by simp at hw ⊢; exact hw)))
      · cases hs
    · cases hs
  | dup2 =>
    simp only [stp] at hs
    split at hs
    · split at hs
      · rename_i h1
        simp only [Bool.and_eq_true] at h1
        cases hs
        intro H locs ls hW hL hG
        exact lv_dup2_11 hx hb hd (cv_cat1 h1.1) (cv_cat1 h1.2) (k H locs ls hW hL (fun w hw => hG w (by simp at hw ⊢; rcases hw with h | h | h | h | h <;> simp [h])))
      · cases hs
    · cases hs
  | iadd => exact zs_bin (F := fun x y => x + y) (fun _ _ => rfl) (fun H locs ls rest x y kk => lv_iadd hx hb hd kk) hs k
  | isub => exact zs_bin (F := fun x y => x - y) (fun _ _ => rfl) (fun H locs ls rest x y kk => lv_isub hx hb hd kk) hs k
  | imul => exact zs_bin (F := fun x y => x * y) (fun _ _ => rfl) (fun H locs ls rest x y kk => lv_imul hx hb hd kk) hs k
  | idiv => exact zs_div (F := fun x y => x / y) (fun _ _ => rfl) (fun H locs ls rest x y h kk => lv_idiv hx hb hd h kk) hs k
  | irem => exact zs_div (F := fun x y => x - x / y * y) (fun _ _ => rfl) (fun H locs ls rest x y h kk => lv_irem hx hb hd h kk) hs k
  | iand => exact zs_bin (F := fun x y => x &&& y) (fun _ _ => rfl) (fun H locs ls rest x y kk => lv_iand hx hb hd kk) hs k
  | ior => exact zs_bin (F := fun x y => x ||| y) (fun _ _ => rfl) (fun H locs ls rest x y kk => lv_ior hx hb hd kk) hs k
  | ixor => exact zs_bin (F := fun x y => x ^^^ y) (fun _ _ => rfl) (fun H locs ls rest x y kk => lv_ixor hx hb hd kk) hs k
  | ishl => exact zs_bin (F := fun x y => x <<< (y &&& 31)) (fun _ _ => rfl) (fun H locs ls rest x y kk => lv_ishl hx hb hd kk) hs k
  | ishr => exact zs_bin (F := fun x y => x >>> (y &&& 31)) (fun _ _ => rfl) (fun H locs ls rest x y kk => lv_ishr hx hb hd kk) hs k
  | iushr => exact zs_bin (F := fun x y => (x.toUInt32 >>> (y.toUInt32 &&& Int32.toUInt32 31)).toInt32) (fun _ _ => rfl) (fun H locs ls rest x y kk => lv_iushr hx hb hd rfl kk) hs k
  | ladd => exact zs_binL (F := fun x y => x + y) (fun _ _ => rfl) (fun H locs ls rest x y kk => lv_ladd hx hb hd kk) hs k
  | lsub => exact zs_binL (F := fun x y => x - y) (fun _ _ => rfl) (fun H locs ls rest x y kk => lv_lsub hx hb hd kk) hs k
  | lmul => exact zs_binL (F := fun x y => x * y) (fun _ _ => rfl) (fun H locs ls rest x y kk => lv_lmul hx hb hd kk) hs k
  | ldiv => exact zs_divL (F := fun x y => x / y) (fun _ _ => rfl) (fun H locs ls rest x y h kk => lv_ldiv hx hb hd h kk) hs k
  | lrem => exact zs_divL (F := fun x y => x - x / y * y) (fun _ _ => rfl) (fun H locs ls rest x y h kk => lv_lrem hx hb hd h kk) hs k
  | land => exact zs_binL (F := fun x y => x &&& y) (fun _ _ => rfl) (fun H locs ls rest x y kk => lv_land hx hb hd kk) hs k
  | lor => exact zs_binL (F := fun x y => x ||| y) (fun _ _ => rfl) (fun H locs ls rest x y kk => lv_lor hx hb hd kk) hs k
  | lshl =>
    simp only [stp] at hs
    split at hs
    · cases hs
      intro H locs ls hW hL hG
      exact lv_lshl hx hb hd (by rw [l_shl, Int64.ofInt_toInt]) (k H locs ls hW hL (fun w hw => (List.mem_cons.mp hw).elim (fun e => by rw [e]; exact g64_of _) (fun h => hG w (List.mem_cons_of_mem _ (List.mem_cons_of_mem _ h)))))
    · cases hs
  | lcmp =>
    simp only [stp] at hs
    split at hs
    · rename_i y x r
      cases hs
      intro H locs ls hW hL hG
      have hy : g64 y := hG (vL y) (by simp)
      have hxg : g64 x := hG (vL x) (by simp)
      refine W.lcmp hx hb hd ?_
      rw [z_lcmp hxg hy]
      refine k H locs ls hW hL (fun w hw => (List.mem_cons.mp hw).elim (fun e => ?_) (fun h => hG w (List.mem_cons_of_mem _ (List.mem_cons_of_mem _ h))))
      rw [e]
      exact (g32_iff _).mpr (by unfold l_cmp; split <;> (try split) <;> omega)
    · cases hs
  | i2l =>
    simp only [stp] at hs
    split at hs
    · rename_i x r
      cases hs
      intro H locs ls hW hL hG
      have hxg : g32 x := hG (vI x) (by simp)
      exact lv_i2l hx hb hd (z_i2l hxg).1 (k H locs ls hW hL (fun w hw => (List.mem_cons.mp hw).elim (fun e => by rw [e]; exact (z_i2l hxg).2) (fun h => hG w (List.mem_cons_of_mem _ h))))
    · cases hs
  | l2i =>
    simp only [stp] at hs
    split at hs
    · rename_i x r
      cases hs
      intro H locs ls hW hL hG
      exact lv_l2i hx hb hd (by rw [o_l2i, Int32.ofInt_toInt]) (k H locs ls hW hL (fun w hw => (List.mem_cons.mp hw).elim (fun e => by rw [e]; exact g32_of _) (fun h => hG w (List.mem_cons_of_mem _ h))))
    · cases hs
  | i2b => exact zs_un (F := fun x => x.toInt8.toInt32) (fun _ => rfl) (fun H locs ls rest x kk => lv_i2b hx hb hd rfl kk) hs k
  | i2s => exact zs_un (F := fun x => x.toInt16.toInt32) (fun _ => rfl) (fun H locs ls rest x kk => lv_i2s hx hb hd rfl kk) hs k
  | goto off =>
    simp only [zok1, beq_iff_eq] at hok
    cases hs
    intro H locs ls hW hL hG
    exact lv_goto hx hb hd hok (k H locs ls hW hL hG)
  | getfield i =>
    simp only [zok1] at hok
    split at hok
    · rename_i C1 T N hc
      simp only [Bool.and_eq_true, decide_eq_true_eq] at hok
      exact zs_get C hc hok.1.1 hok.1.2 (fun H locs ls rest q a fs v h1 h2 h3 kk => va_get hx hb hts (fun w hw => zcl_in _ (List.mem_of_getElem? hc) w hw) hown hK h1 q h2 hc rn.2.1 hok.1.1 (hts _ (zhas_mem hok.2)) (fun _ h => h) h3 hd kk) hs k
    · cases hok
  | putfield i =>
    simp only [zok1] at hok
    split at hok
    · rename_i C1 T N hc
      simp only [Bool.and_eq_true, decide_eq_true_eq, Bool.not_eq_true'] at hok
      have hty := zcl_ty _ (List.mem_of_getElem? hc)
      simp only [ztyb, List.all_eq_true, List.mem_range, Bool.and_eq_true, Bool.or_eq_true, decide_eq_true_eq] at hty
      have hds := zcl_ds _ _ hc
      simp only [zdsb, List.all_eq_true, List.mem_range] at hds
      have hdj := hds rn.2.1 hok.1.1.1
      have hgd : (zft rn.1).getD rn.2.1 (9, 0, 0, 0) = rn.2.2 := by simp [List.getD_eq_getElem?_getD, hok.1.1.2]
      rw [hgd] at hdj
      refine zs_put C hc hok.1.1.1 hok.1.1.2 (fun H locs ls rest q a fs v h1 h2 h3 h4 h5 h6 kk => ?_) hs k
      have hfit : ∃ ty, parseFieldDescriptor (T rn.2.1).2.2.1 = some ty ∧ narrow ty v = v ∧ fits ty v = true := by
        obtain ⟨ci, j, t1, t2⟩ := rn
        dsimp only at h6 hdj ⊢
        rcases h6 with ⟨e1, x, rfl⟩ | ⟨e1, x, rfl⟩ | ⟨e1, h⟩
        · subst e1
          exact ⟨.int, by simpa using hdj, rfl, rfl⟩
        · subst e1
          exact ⟨.long, by simpa using hdj, rfl, rfl⟩
        · subst e1
          refine ⟨.boolean, by simpa using hdj, ?_⟩
          rcases h with h | h <;> subst h <;> exact ⟨rfl, rfl⟩
      obtain ⟨ty, ht1, ht2, ht3⟩ := hfit
      have hty0 : ∀ a, a < N → parseFieldDescriptor (T a).2.2.1 = some ((parseFieldDescriptor (T a).2.2.1).getD .int) := by
        intro a ha
        have h7 := (hty a ha).1
        cases h8 : parseFieldDescriptor (T a).2.2.1 with
        | none => rw [h8] at h7; cases h7
        | some t => rfl
      exact va_put hx hb hts (fun w hw => zcl_in _ (List.mem_of_getElem? hc) w hw) (fun a => (parseFieldDescriptor (T a).2.2.1).getD .int) hty0 (fun a ha b hb' hne => ((hty a ha).2 b hb').resolve_left hne) hown hK h1 h2 h3 q h4 hc rn.2.1 hok.1.1.1 (hts _ (zhas_mem hok.1.2)) (fun _ h => h) hok.2 ht1 ht2 ht3 h5 hd (fun H1 locs1 hP1 _ hS1 => kk H1 locs1 hP1 hS1)
    · cases hok
  | invokestatic i =>
    simp only [zok1] at hok
    simp only [stp, z_stat] at hs
    split at hs
    · rename_i h8
      have h8 : rn.1 = 998 := by simpa using h8
      have h9 : ¬ rn.1 = 999 := by omega
      rw [if_neg h9, if_pos h8] at hok
      exact zs_math C (zhas_mem hok) hfr hlr hcc hss hd hs k
    · exact zs_copy C (fun h => by rw [if_pos h] at hok; exact zhas_mem hok) hfr hlr hd hs k
  | _ => cases hs
/-- the table of a method: each entry is what the code says -/
def zdec (cc : ByteArray) (pc : Nat) (ins : Instr) : Bool := match ins with
  | .tableswitch _ _ _ _ => match decode cc pc with
    | .ok (i, _) => decide (i = ins)
    | _ => false
  | .lookupswitch _ ps => match decode cc pc with
    | .ok (i, _) => decide (i = ins) && (ps.toList.zip (ps.toList.drop 1)).all (fun (a, next) => a.1 < next.1)
    | _ => false
  | _ => match decode cc pc with
    | .ok (i, n) => decide (i = ins) && n == zlen ins
    | _ => false
def ztab (own : String) (cc : ByteArray) (nL : Nat) (T : List ZE) : Bool := T.all (fun q => zdec cc q.1 q.2.1 && zok1 own nL q.1 q.2.1 q.2.2.1 q.2.2.2)
theorem zent_mem {T : List ZE} {pc : Nat} {x : Instr × (Nat × Nat × Nat × Nat × Nat × Nat) × Int} (h : zent T pc = some x) : (pc, x) ∈ T := by
  induction T with
  | nil => cases h
  | cons a r ih =>
    obtain ⟨q, y⟩ := a
    simp only [zent] at h
    split at h
    · rename_i hq
      have hq : q = pc := by simpa using hq
      cases h
      rw [hq]
      exact List.mem_cons_self
    · exact List.mem_cons_of_mem _ (ih h)
theorem ztab_at {T : List ZE} {i : Instr} {rn : Nat × Nat × Nat × Nat × Nat × Nat} {rz : Int} (hT : ztab own cc nL T = true) (h : zent T pc = some (i, rn, rz)) : zdec cc pc i = true ∧ zok1 own nL pc i rn rz = true := by
  have := List.all_eq_true.mp hT _ (zent_mem h)
  simpa only [Bool.and_eq_true] using this
theorem zdec_plain {i : Instr} (h : zdec cc pc i = true) (h1 : ∀ a b c d, i ≠ .tableswitch a b c d) (h2 : ∀ a b, i ≠ .lookupswitch a b) : decode cc pc = .ok (i, zlen i) := by
  unfold zdec at h
  split at h
  · exact absurd rfl (h1 _ _ _ _)
  · exact absurd rfl (h2 _ _)
  · split at h
    · rename_i i2 n2 hd
      simp only [Bool.and_eq_true, decide_eq_true_eq, beq_iff_eq] at h
      rw [hd, h.1, h.2]
    · cases h
theorem stp_plain {i : Instr} {rn : Nat × Nat × Nat × Nat × Nat × Nat} {rz : Int} {x : ZT} (h : stp i rn rz pc lo st M = some x) : (∀ a b c d, i ≠ .tableswitch a b c d) ∧ ∀ a b, i ≠ .lookupswitch a b := by
  constructor <;> (intros; rintro rfl; cases h)
theorem zruns {T : List ZE} (hT : ztab own cc nL T = true) (C : zC Y own cc nL p R s m args c D tys dA A) (hlen : ∀ (q k l0 : Nat), Y[q]? = some (k, l0) → l0 < 2147483648) (hfr : 1 ≤ R.frames) (hlr : 64 ≤ R.locals) (hcc : cells ≤ R.cells) (hss : slots ≤ R.slots) :
    ∀ (n : Nat) (x y : ZT), zrun T n x = some y → ZS Y nL p l e R s m args below meth c cells slots Q D ad dA A y.1 y.2.1 y.2.2.1 y.2.2.2 → ZS Y nL p l e R s m args below meth c cells slots Q D ad dA A x.1 x.2.1 x.2.2.1 x.2.2.2 := by
  intro n
  induction n with
  | zero =>
    intro x y h k
    cases h
    exact k
  | succ n ih =>
    intro x y h k
    simp only [zrun] at h
    split at h
    · rename_i i rn rz he
      split at h
      · rename_i s' hs
        obtain ⟨h1, h2⟩ := ztab_at hT he
        obtain ⟨h3, h4⟩ := stp_plain hs
        exact zstep C hlen hfr hlr hcc hss (zdec_plain h1 h3 h4) h2 hs (ih s' y h k)
      · cases h
    · cases h
end ZAll
end
section
/-! METHODS, runs of methods, and the rules by which they are shown. -/
/-- name, code, locals, what it returns, static or not, parameters, table -/
abbrev Zm : Type := MethodName × ByteArray × Nat × Option FieldType × Bool × Nat × List ZE
abbrev zy (f : Zm) : MethodName := f.1
abbrev zc (f : Zm) : ByteArray := f.2.1
abbrev zn (f : Zm) : Nat := f.2.2.1
abbrev zr (f : Zm) : Option FieldType := f.2.2.2.1
abbrev zst (f : Zm) : Bool := f.2.2.2.2.1
abbrev zna (f : Zm) : Nat := f.2.2.2.2.2.1
abbrev zt (f : Zm) : List ZE := f.2.2.2.2.2.2
def zmOk (f : Zm) (ix : Nat × Nat × Nat × Nat) : Bool := ztab (zy f).cls (zc f) (zn f) (zt f) && zhas ix.1 (Jvm.Cond.code (zy f) (zc f) (zn f) (zr f)) && zhas ix.2.1 (Jvm.Cond.initialized (zy f).cls) && (match zst f with
    | true => zhas ix.2.2.1 (Jvm.Cond.static (zy f))
    | false => zhas ix.2.2.1 (Jvm.Cond.instanceMethod (zy f)) && zhas ix.2.2.2 (Jvm.Cond.selects (zy f).cls (zy f) (zy f)))
  && plainName (zy f).cls && decide ((zy f).cls ≠ "java/lang/invoke/MethodHandle" ∧ (zy f).cls ≠ "java/lang/invoke/VarHandle") && decide ((parseMethodDescriptor (zy f).desc).map (fun d => d.parameters.length) = some (zna f)) && Nat.ble (zn f) 40
def zM (f : Zm) : Prop := ∃ ix, zmOk f ix = true
theorem zM.spec {f : Zm} (h : zM f) : ztab (zy f).cls (zc f) (zn f) (zt f) = true ∧ Jvm.Cond.code (zy f) (zc f) (zn f) (zr f) ∈ zws ∧ Jvm.Cond.initialized (zy f).cls ∈ zws ∧ (zst f = true → Jvm.Cond.static (zy f) ∈ zws) ∧ (zst f = false → Jvm.Cond.instanceMethod (zy f) ∈ zws ∧ Jvm.Cond.selects (zy f).cls (zy f) (zy f) ∈ zws) ∧ plainName (zy f).cls = true ∧ ((zy f).cls ≠ "java/lang/invoke/MethodHandle" ∧ (zy f).cls ≠ "java/lang/invoke/VarHandle") ∧ (parseMethodDescriptor (zy f).desc).map (fun d => d.parameters.length) = some (zna f) ∧ zn f ≤ 40 := by
  obtain ⟨ix, h⟩ := h
  simp only [zmOk, Bool.and_eq_true, decide_eq_true_eq] at h
  obtain ⟨⟨⟨⟨⟨⟨⟨h1, h2⟩, h3⟩, h4⟩, h5⟩, h6⟩, h7⟩, h8⟩ := h
  refine ⟨h1, zhas_mem h2, zhas_mem h3, fun e => ?_, fun e => ?_, h5, h6, h7, Nat.le_of_ble_eq_true h8⟩
  · rw [e] at h4
    exact zhas_mem h4
  · rw [e] at h4
    simp only [Bool.and_eq_true] at h4
    exact ⟨zhas_mem h4.1, zhas_mem h4.2⟩
def zlay : List AV → ZL
  | [] => []
  | v :: r => match zc1 v with
    | true => some v :: zlay r
    | false => some v :: none :: zlay r
def zpad : Nat → ZL → ZL
  | 0, lo => lo
  | n + 1, [] => none :: zpad n []
  | n + 1, a :: l => a :: zpad n l
/-- is this the place of a return with this value -/
def zret (f : Zm) (pc : Nat) (v : Option AV) : Prop := match v with
  | none => zr f = none ∧ ∃ x, zent (zt f) pc = some (.return_, x)
  | some (.inl x) => (zr f = some .int ∨ zr f = some .boolean ∧ (x = 0 ∨ x = 1)) ∧ ∃ y, zent (zt f) pc = some (.ireturn, y)
  | some (.inr (.inl _)) => zr f = some .long ∧ ∃ y, zent (zt f) pc = some (.lreturn, y)
  | _ => False
def zYs (Y : List (Nat × Nat)) : Prop := ∀ (q k l0 : Nat), Y[q]? = some (k, l0) → l0 < 2147483648
/-- THE JUDGEMENT: method f, at depth d, from this abstract state on returns v with memory M' -/
def EvP (P : State → (Nat → Nat) → (Nat → Prop) → Prop) (Y : List (Nat × Nat)) (d : Nat) (f : Zm) (pc : Nat) (lo : ZL) (st : List AV) (M : AM) (v : Option AV) (M' : AM) : Prop :=
  ∀ (p : Program) (l : Launch) (e : Env) (R : Room) (s : State) (m : MethodId) (args : Array Value) (below : List Frame) (meth : Method) (c : Code) (cells slots : Nat) (Q : State → Prop) (D : va_G) (tys : List (ClassId × FieldType)) (ad : Nat → Nat) (dA : Nat → ClassId) (A : Nat → Prop),
    zC Y (zy f).cls (zc f) (zn f) p R s m args c D tys dA A → zYs Y → d + 1 ≤ R.frames → 64 * (d + 1) ≤ R.locals → cells ≤ R.cells → slots ≤ R.slots → P s ad A →
    (∀ pcr lo', zret f pcr v → ZS Y (zn f) p l e R s m args below meth c cells slots Q D ad dA A pcr lo' v.toList M') →
    ZS Y (zn f) p l e R s m args below meth c cells slots Q D ad dA A pc lo st M
abbrev zT : State → (Nat → Nat) → (Nat → Prop) → Prop := fun _ _ _ => True
abbrev Ev (Y : List (Nat × Nat)) (d : Nat) (f : Zm) (pc : Nat) (lo : ZL) (st : List AV) (M : AM) (v : Option AV) (M' : AM) : Prop := EvP zT Y d f pc lo st M v M'
section ZRules
variable {P : State → (Nat → Nat) → (Nat → Prop) → Prop} {Y : List (Nat × Nat)} {d : Nat} {f : Zm} {pc : Nat} {lo : ZL} {st : List AV} {M : AM} {v : Option AV} {M' : AM}
/-- so many steps straight on -/
theorem Z_blk (hm : zM f) (n : Nat) {pc' : Nat} {lo' : ZL} {st' : List AV} {M1 : AM} (h : zrun (zt f) n (pc, lo, st, M) = some (pc', lo', st', M1)) (k : EvP P Y d f pc' lo' st' M1 v M') : EvP P Y d f pc lo st M v M' :=
  fun p l e R s m args below meth c cells slots Q D tys ad dA A C hY hfr hlo hc hsl hP hret => zruns hm.spec.1 C hY (by omega) (by omega) hc hsl n _ _ h (k p l e R s m args below meth c cells slots Q D tys ad dA A C hY hfr hlo hc hsl hP hret)
theorem Z_ret (h : zret f pc v) (hst : st = v.toList) : EvP P Y d f pc lo st M v M :=
  fun p l e R s m args below meth c cells slots Q D tys ad dA A C hY hfr hlo hc hsl hP hret => by rw [hst]; exact hret pc lo h
def zcmp (c : ClassFile.Cond) (x y : Int) : Prop := match c with
  | .eq => x = y
  | .ne => ¬ x = y
  | .lt => x < y
  | .ge => y ≤ x
  | .gt => y < x
  | .le => x ≤ y
theorem i32_lt {x y : Int} (hx : g32 x) (hy : g32 y) : Int32.ofInt x < Int32.ofInt y ↔ x < y := by rw [Int32.lt_iff_toInt_lt, hx, hy]
theorem i32_le {x y : Int} (hx : g32 x) (hy : g32 y) : Int32.ofInt x ≤ Int32.ofInt y ↔ x ≤ y := by rw [Int32.le_iff_toInt_le, hx, hy]
theorem i32_eq {x y : Int} (hx : g32 x) (hy : g32 y) : Int32.ofInt x = Int32.ofInt y ↔ x = y := by
  constructor
  · intro h
    have := congrArg Int32.toInt h
    rwa [hx, hy] at this
  · intro h; rw [h]
theorem g32_0 : g32 0 := (g32_iff 0).mpr (by omega)
theorem z0 : Int32.ofInt 0 = 0 := rfl
theorem Z_icmp (hm : zM f) {cd : ClassFile.Cond} {off : Int} {x y : Int} {r : List AV} {rn : (Nat × Nat × Nat × Nat × Nat × Nat) × Int} (he : zent (zt f) pc = some (.if_icmp cd off, rn)) (tgt : Nat) (ht : (pc : Int) + off = (tgt : Int))
    (kt : zcmp cd x y → EvP P Y d f tgt lo r M v M') (kf : ¬ zcmp cd x y → EvP P Y d f (pc + 3) lo r M v M') : EvP P Y d f pc lo (vI y :: vI x :: r) M v M' := by
  intro p l e R s m args below meth c cells slots Q D tys ad dA A C hY hfr hlo hc hsl hP hret H locs ls hW hL hG
  have hx : g32 x := hG (vI x) (by simp)
  have hy : g32 y := hG (vI y) (by simp)
  have hr : ∀ w ∈ r, gd Y w := fun w h => hG w (by simp [h])
  have hd := zdec_plain (ztab_at hm.spec.1 (rn := rn.1) (rz := rn.2) he).1 (fun _ _ _ _ => by simp) (fun _ _ => by simp)
  have KT : zcmp cd x y → W p l e R s m args below meth c H locs cells slots Q (F0 m tgt ls (r.map (cv ad))) := fun h => kt h p l e R s m args below meth c cells slots Q D tys ad dA A C hY hfr hlo hc hsl hP hret H locs ls hW hL hr
  have KF : ¬ zcmp cd x y → W p l e R s m args below meth c H locs cells slots Q (F0 m (pc + 3) ls (r.map (cv ad))) := fun h => kf h p l e R s m args below meth c cells slots Q D tys ad dA A C hY hfr hlo hc hsl hP hret H locs ls hW hL hr
  cases cd with
  | eq => exact lv_icmp_eq C.1 C.2.1 hd ht (fun h => KT ((i32_eq hx hy).mp h)) (fun h => KF (fun h2 => h ((i32_eq hx hy).mpr h2)))
  | ne => exact lv_icmp_ne C.1 C.2.1 hd ht (fun h => KT (fun h2 => h ((i32_eq hx hy).mpr h2))) (fun h => KF (fun h2 => h2 ((i32_eq hx hy).mp h)))
  | lt => exact lv_icmp_lt C.1 C.2.1 hd ht (fun h => KT ((i32_lt hx hy).mp h)) (fun h => KF (fun h2 => h ((i32_lt hx hy).mpr h2)))
  | ge => exact lv_icmp_ge C.1 C.2.1 hd ht (fun h => KT ((i32_le hy hx).mp h)) (fun h => KF (fun h2 => h ((i32_le hy hx).mpr h2)))
  | gt => exact lv_icmp_gt C.1 C.2.1 hd ht (fun h => KT ((i32_lt hy hx).mp h)) (fun h => KF (fun h2 => h ((i32_lt hy hx).mpr h2)))
  | le => exact lv_icmp_le C.1 C.2.1 hd ht (fun h => KT ((i32_le hx hy).mp h)) (fun h => KF (fun h2 => h ((i32_le hx hy).mpr h2)))
theorem Z_if (hm : zM f) {cd : ClassFile.Cond} {off : Int} {x : Int} {r : List AV} {rn : (Nat × Nat × Nat × Nat × Nat × Nat) × Int} (he : zent (zt f) pc = some (.ifCond cd off, rn)) (tgt : Nat) (ht : (pc : Int) + off = (tgt : Int))
    (kt : zcmp cd x 0 → EvP P Y d f tgt lo r M v M') (kf : ¬ zcmp cd x 0 → EvP P Y d f (pc + 3) lo r M v M') : EvP P Y d f pc lo (vI x :: r) M v M' := by
  intro p l e R s m args below meth c cells slots Q D tys ad dA A C hY hfr hlo hc hsl hP hret H locs ls hW hL hG
  have hx : g32 x := hG (vI x) (by simp)
  have hy : g32 0 := g32_0
  have hr : ∀ w ∈ r, gd Y w := fun w h => hG w (by simp [h])
  have hd := zdec_plain (ztab_at hm.spec.1 (rn := rn.1) (rz := rn.2) he).1 (fun _ _ _ _ => by simp) (fun _ _ => by simp)
  have KT : zcmp cd x 0 → W p l e R s m args below meth c H locs cells slots Q (F0 m tgt ls (r.map (cv ad))) := fun h => kt h p l e R s m args below meth c cells slots Q D tys ad dA A C hY hfr hlo hc hsl hP hret H locs ls hW hL hr
  have KF : ¬ zcmp cd x 0 → W p l e R s m args below meth c H locs cells slots Q (F0 m (pc + 3) ls (r.map (cv ad))) := fun h => kf h p l e R s m args below meth c cells slots Q D tys ad dA A C hY hfr hlo hc hsl hP hret H locs ls hW hL hr
  cases cd with
  | eq => exact lv_if_eq C.1 C.2.1 hd ht (fun h => KT ((i32_eq hx hy).mp h)) (fun h => KF (fun h2 => h ((i32_eq hx hy).mpr h2)))
  | ne => exact lv_if_ne C.1 C.2.1 hd ht (fun h => KT (fun h2 => h ((i32_eq hx hy).mpr h2))) (fun h => KF (fun h2 => h2 ((i32_eq hx hy).mp h)))
  | lt => exact lv_if_lt C.1 C.2.1 hd ht (fun h => KT ((i32_lt hx hy).mp h)) (fun h => KF (fun h2 => h ((i32_lt hx hy).mpr h2)))
  | ge => exact lv_if_ge C.1 C.2.1 hd ht (fun h => KT ((i32_le hy hx).mp h)) (fun h => KF (fun h2 => h ((i32_le hy hx).mpr h2)))
  | gt => exact lv_if_gt C.1 C.2.1 hd ht (fun h => KT ((i32_lt hy hx).mp h)) (fun h => KF (fun h2 => h ((i32_lt hy hx).mpr h2)))
  | le => exact lv_if_le C.1 C.2.1 hd ht (fun h => KT ((i32_le hx hy).mp h)) (fun h => KF (fun h2 => h ((i32_le hx hy).mpr h2)))
theorem Z_tabIn (hm : zM f) {df lo0 hi : Int} {offs : Array Int} {x off : Int} {r : List AV} {rn : (Nat × Nat × Nat × Nat × Nat × Nat) × Int} (he : zent (zt f) pc = some (.tableswitch df lo0 hi offs, rn)) (tgt : Nat) (h1 : ¬ x < lo0) (h2 : ¬ hi < x) (ho : offs[(x - lo0).toNat]? = some off) (ht : (pc : Int) + off = (tgt : Int))
    (k : EvP P Y d f tgt lo r M v M') : EvP P Y d f pc lo (vI x :: r) M v M' := by
  intro p l e R s m args below meth c cells slots Q D tys ad dA A C hY hfr hlo hc hsl hP hret H locs ls hW hL hG
  have hx : g32 x := hG (vI x) (by simp)
  have hr : ∀ w ∈ r, gd Y w := fun w h => hG w (by simp [h])
  have hd := (ztab_at hm.spec.1 (rn := rn.1) (rz := rn.2) he).1
  simp only [zdec] at hd
  split at hd
  · rename_i i n2 hd2
    simp only [decide_eq_true_eq] at hd
    subst hd
    exact lv_tableIn C.1 C.2.1 hd2 (x := Int32.ofInt x) (by rw [hx]; exact h1) (by rw [hx]; exact h2) (by rw [hx]; exact ho) ht (k p l e R s m args below meth c cells slots Q D tys ad dA A C hY hfr hlo hc hsl hP hret H locs ls hW hL hr)
  · cases hd
theorem Z_tabOut (hm : zM f) {df lo0 hi : Int} {offs : Array Int} {x : Int} {r : List AV} {rn : (Nat × Nat × Nat × Nat × Nat × Nat) × Int} (he : zent (zt f) pc = some (.tableswitch df lo0 hi offs, rn)) (tgt : Nat) (h1 : x < lo0 ∨ hi < x) (ht : (pc : Int) + df = (tgt : Int))
    (k : EvP P Y d f tgt lo r M v M') : EvP P Y d f pc lo (vI x :: r) M v M' := by
  intro p l e R s m args below meth c cells slots Q D tys ad dA A C hY hfr hlo hc hsl hP hret H locs ls hW hL hG
  have hx : g32 x := hG (vI x) (by simp)
  have hr : ∀ w ∈ r, gd Y w := fun w h => hG w (by simp [h])
  have hd := (ztab_at hm.spec.1 (rn := rn.1) (rz := rn.2) he).1
  simp only [zdec] at hd
  split at hd
  · rename_i i n2 hd2
    simp only [decide_eq_true_eq] at hd
    subst hd
    exact lv_tableOut C.1 C.2.1 hd2 (x := Int32.ofInt x) (by rw [hx]; exact h1) ht (k p l e R s m args below meth c cells slots Q D tys ad dA A C hY hfr hlo hc hsl hP hret H locs ls hW hL hr)
  · cases hd
theorem Z_look (hm : zM f) {df : Int} {ps : Array (Int × Int)} {x off : Int} {r : List AV} {rn : (Nat × Nat × Nat × Nat × Nat × Nat) × Int} (he : zent (zt f) pc = some (.lookupswitch df ps, rn)) (tgt : Nat) (ho : Op.lookupswitch.offset ps.toList df x = off) (ht : (pc : Int) + off = (tgt : Int))
    (k : EvP P Y d f tgt lo r M v M') : EvP P Y d f pc lo (vI x :: r) M v M' := by
  intro p l e R s m args below meth c cells slots Q D tys ad dA A C hY hfr hlo hc hsl hP hret H locs ls hW hL hG
  have hx : g32 x := hG (vI x) (by simp)
  have hr : ∀ w ∈ r, gd Y w := fun w h => hG w (by simp [h])
  have hd := (ztab_at hm.spec.1 (rn := rn.1) (rz := rn.2) he).1
  simp only [zdec] at hd
  split at hd
  · rename_i i n2 hd2
    simp only [Bool.and_eq_true, decide_eq_true_eq] at hd
    obtain ⟨hi, hp⟩ := hd
    subst hi
    exact lv_lookup C.1 C.2.1 hd2 hp (x := Int32.ofInt x) (by rw [hx]; exact ho) ht (k p l e R s m args below meth c cells slots Q D tys ad dA A C hY hfr hlo hc hsl hP hret H locs ls hW hL hr)
  · cases hd
end ZRules
end
section
/-! CALLS: a run of a method gives its contract, and the contract gives the rule of the call. -/
theorem zlay_args {ad : Nat → Nat} : ∀ (vs : List AV) (n i : Nat) (v : AV), zget (zlay vs) i = some v → (n + i, cv ad v) ∈ lv_args n (vs.map (cv ad))
  | [], _, _, _, h => by simp [zlay, zget] at h
  | a :: r, n, i, v, h => by
    simp only [List.map_cons, lv_args, cat_cv]
    cases ha : zc1 a with
    | true =>
      simp only [zlay, ha] at h
      cases i with
      | zero => simp [zget] at h; simp [h]
      | succ j =>
        have := zlay_args (ad := ad) r (n + 1) j v (by simpa [zget] using h)
        rw [Nat.add_assoc, Nat.add_comm 1 j] at this
        simp only [if_true]
        exact List.mem_cons_of_mem _ (by simpa using this)
    | false =>
      simp only [zlay, ha] at h
      match i, h with
      | 0, h => simp [zget] at h; simp [h]
      | 1, h => simp [zget] at h
      | j + 2, h =>
        have := zlay_args (ad := ad) r (n + 2) j v (by simpa [zget] using h)
        rw [Nat.add_assoc, Nat.add_comm 2 j] at this
        exact List.mem_cons_of_mem _ (by simpa using this)
theorem zlay_mem : ∀ (vs : List AV) (i : Nat) (v : AV), zget (zlay vs) i = some v → v ∈ vs
  | [], _, _, h => by simp [zlay, zget] at h
  | a :: r, i, v, h => by
    cases ha : zc1 a with
    | true =>
      simp only [zlay, ha] at h
      cases i with
      | zero => simp [zget] at h; simp [h]
      | succ j => exact List.mem_cons_of_mem _ (zlay_mem r j v (by simpa [zget] using h))
    | false =>
      simp only [zlay, ha] at h
      match i, h with
      | 0, h => simp [zget] at h; simp [h]
      | 1, h => simp [zget] at h
      | j + 2, h => exact List.mem_cons_of_mem _ (zlay_mem r j v (by simpa [zget] using h))
theorem zpad_get : ∀ (n : Nat) (lo : ZL) (i : Nat) (v : AV), zget (zpad n lo) i = some v → zget lo i = some v
  | 0, _, _, _, h => h
  | n + 1, [], i, v, h => by
    cases i with
    | zero => simp [zpad, zget] at h
    | succ j =>
      have := zpad_get n [] j v (by simpa [zpad, zget] using h)
      simp [zget] at this
  | n + 1, a :: l, i, v, h => by
    cases i with
    | zero => simpa [zpad, zget] using h
    | succ j =>
      have := zpad_get n l j v (by simpa [zpad, zget] using h)
      simpa [zget] using this
theorem zlay_len {ad : Nat → Nat} (vs : List AV) : (lg_sl (vs.map (cv ad))).length = (zlay vs).length := by
  induction vs with
  | nil => rfl
  | cons a r ih =>
    simp only [lg_sl] at ih
    simp only [lg_sl, List.map_cons, List.flatMap_cons, List.length_append, cat_cv, ih]
    cases ha : zc1 a <;> simp [zlay, ha] <;> omega
/-- what a call of a method answers and leaves -/
def zQ (v : Option Value) (B : State → Prop) (A : Nat → Prop) : Array Value → State → Outcome → State → Prop := fun _ st oc t => (oc = .returned v ∧ B t) ∧ va_F A st t
def zrm (d : Nat) : Room := { frames := d + 1, cells := 0, slots := 0, locals := 64 * (d + 1) }
theorem zgoodIn {f : Zm} (hm : zM f) : GoodIn zws (Jvm.Cond.code (zy f) (zc f) (zn f) (zr f) :: zws) := by
  intro w hw
  have h1 : w ∈ zws := (List.mem_cons.mp hw).elim (fun e => e ▸ hm.spec.2.1) id
  exact ⟨h1, good_of_word (List.mem_filter.mp h1).2⟩
theorem zbool {x : Int} (h : x = 0 ∨ x = 1) : narrow .boolean (.int (Int32.ofInt x)) = .int (Int32.ofInt x) := by
  rcases h with h | h <;> subst h <;> rfl
theorem Ev_Met {Y : List (Nat × Nat)} {d : Nat} {f : Zm} {vs : List AV} {M M' : AM} {v : Option AV} (hm : zM f) (hE : Ev Y d f 0 (zpad (zn f) (zlay vs)) [] M v M') (hlen : (zlay vs).length ≤ zn f) (hgs : ∀ w ∈ vs, gd Y w) (hgM : zgM Y M) (hReg : zReg Y) (hY : zYs Y)
    (l : Launch) (D : va_G) (tys : List (ClassId × FieldType)) (ad : Nat → Nat) (dA : Nat → ClassId) (hT : ∀ (q k n : Nat), Y[q]? = some (k, n) → k < 10 → ∃ t0 : Nat, tys[t0]? = some (dA q, zet k)) (sz : Nat) :
    Met l (zy f) (Jvm.Cond.code (zy f) (zc f) (zn f) (zr f) :: zws) (zrm d) (va_Pc (vs.map (cv ad)) (fun U => U.heap.size = sz ∧ va_P D zcl (zw Y ad dA M) U.heap ∧ va_K D zcl tys U ∧ va_D (fun _ => True) (zw Y ad dA M)))
      (zQ (v.map (cv ad)) (fun t => va_P D zcl (zw Y ad dA M') t.heap ∧ zgM Y M' ∧ ∀ w ∈ v.toList, gd Y w) (va_A (zw Y ad dA M) sz)) 0 0 (va_A (zw Y ad dA M) sz) := by
  refine Met.ofW (cc := zc f) (maxL := zn f) (ret := zr f) hm.spec.2.2.2.2.2.1 rfl ?_
  intro p e s m args below meth c s₁ B hml hvv
  obtain ⟨rfl, hsz, hP, hK, hD0⟩ := hvv
  have hts := atoms_spec (ws := Jvm.Cond.code (zy f) (zc f) (zn f) (zr f) :: zws) B.pre
  have hown : s.vm.findClass (zy f).cls = some m.cls := findClass_of_methodNamed B.named
  have hlocks := B.notSynchronized
  subst hsz
  have hD := hD0.self (sz := s.heap.size)
  have hA : ∀ q : Nat, s.heap.size ≤ q → va_A (zw Y ad dA M) s.heap.size q := fun q h => Or.inr h
  have C : zC Y (zy f).cls (zc f) (zn f) p (headSpec (Jvm.Cond.code (zy f) (zc f) (zn f) (zr f) :: zws) (zrm d)).room s m (vs.map (cv ad)).toArray c D tys dA (va_A (zw Y ad dA M) s.heap.size) :=
    ⟨B.exec, B.bytes, hml, hown, fun w hw => hts w (List.mem_cons_of_mem _ hw), hK, hT, hA, hReg⟩
  have hl := lv_entry (vs.map (cv ad)) (n := zn f) (by rw [zlay_len]; exact hlen)
  rw [lg_entry_eq]
  refine hE p l e _ s m _ below meth c 0 0 _ D tys ad dA _ C hY (Nat.le_refl _) (Nat.le_refl _) (Nat.zero_le _) (Nat.zero_le _) trivial ?_ s.heap [] _ ⟨hP, hD, va_S.rf, hgM⟩ ⟨hl.1, hl.2.1, ?_⟩ (fun _ h => absurd h List.not_mem_nil)
  · intro pcr lo' hret H locs ls hW hL hG
    have hS := hW.2.2.1
    have fin : ∀ t : State, t.heap = H → s.WarmedH t.vm → zQ (v.map (cv ad)) (fun t => va_P D zcl (zw Y ad dA M') t.heap ∧ zgM Y M' ∧ ∀ w ∈ v.toList, gd Y w) (va_A (zw Y ad dA M) s.heap.size) (vs.map (cv ad)).toArray s (.returned (v.map (cv ad))) t := fun t ht hWm => ⟨⟨rfl, by rw [ht]; exact hW.1, hW.2.2.2, hG⟩, hS.F ht⟩
    match v, hret with
    | none, hret =>
      obtain ⟨h1, x, h2⟩ := hret
      exact W.vret B.exec B.bytes (by rw [B.returns, h1]) fin hS.2.2 (zdec_plain (ztab_at hm.spec.1 h2).1 (fun _ _ _ _ => by simp) (fun _ _ => by simp))
    | some (.inl x), hret =>
      obtain ⟨h1, y, h2⟩ := hret
      have hdg := zdec_plain (ztab_at hm.spec.1 h2).1 (fun _ _ _ _ => by simp) (fun _ _ => by simp)
      rcases h1 with h1 | ⟨h1, h3⟩
      · exact W.iret (v := Int32.ofInt x) B.exec B.bytes (by rw [B.returns, h1]) fin hS.2.2 hdg
      · exact W.zret (v := Int32.ofInt x) (ty := .boolean) B.exec B.bytes (by rw [B.returns, h1]) (zbool h3) fin hS.2.2 hdg
    | some (.inr (.inl x)), hret =>
      obtain ⟨h1, y, h2⟩ := hret
      exact W.lret (v := Int64.ofInt x) B.exec B.bytes (by rw [B.returns, h1]) fin hS.2.2 (zdec_plain (ztab_at hm.spec.1 h2).1 (fun _ _ _ _ => by simp) (fun _ _ => by simp))
    | some (.inr (.inr x)), hret => exact hret.elim
  · intro i w hi
    have h1 := zpad_get _ _ _ _ hi
    have h2 := hl.2.2 (i, cv ad w) (by have := zlay_args (ad := ad) vs 0 i w h1; simpa using this)
    exact ⟨h2, hgs w (zlay_mem vs i w h1)⟩
section ZCalls
variable {P : State → (Nat → Nat) → (Nat → Prop) → Prop} {Y : List (Nat × Nat)} {d : Nat} {f g : Zm} {pc : Nat} {lo : ZL} {M M1 M' : AM} {v u : Option AV}
theorem z_go {p : Program} {l : Launch} {e : Env} {R : Room} {s : State} {m : MethodId} {args : Array Value} {below : List Frame} {meth : Method} {c : Code} {H : Heap} {locs : List Loc} {cells slots : Nat} {Q : State → Prop} {A0 A1 : Nat → Prop} {H0 : Heap} {free : Addr → Prop} {ls : Array Slot} {st0 rest : List Value} {a : Array Value} {w : Option Value} {B : State → Prop}
    (hr : va_Run p l e R s m args below meth c H locs cells slots 0 0 (F0 m pc ls st0) rest (zQ w B A1 a) free) (hS : va_S A0 H0 H locs) (hA : ∀ q, q < H.size → A1 q → A0 q) (hf : ∀ q, free q → A0 q)
    (kk : ∀ (t : State) (H1 : Heap) (locs1 : List Loc), t.heap = H1 → B t → va_S A0 H0 H1 locs1 → W p l e R s m args below meth c H1 locs1 cells slots Q (F0 m (pc + 3) ls (w.toList ++ rest))) : W p l e R s m args below meth c H locs cells slots Q (F0 m pc ls st0) := by
  intro T hT X
  obtain ⟨v, st₀, t, T', L, h0, X', hL, e1, e2, ⟨⟨hv, hb⟩, hz, hk⟩, st⟩ := hr T hT X
  cases hv
  rw [h0] at hz hk
  obtain ⟨t2, a1, b1⟩ := kk t T'.heap (locs ++ L) e1.symm hb
    ⟨Nat.le_trans hS.1 (by rw [e1]; exact hz), fun q h1 h2 => by rw [e1, hk q (Nat.lt_of_lt_of_le h1 hS.1) (fun z => h2 (hA q (Nat.lt_of_lt_of_le h1 hS.1) z))]; exact hS.2.1 q h1 h2, fun q hq => by
      rcases List.mem_append.mp hq with h | h
      · exact hS.2.2 q h
      · exact hf _ (hL q h)⟩ T' rfl X'
  exact ⟨t2, st t2 a1, b1⟩
theorem z_cb {p : Program} {R : Room} {s : State} {m : MethodId} {args : Array Value} {c : Code} {D : va_G} {tys : List (ClassId × FieldType)} {dA : Nat → ClassId} {A : Nat → Prop} {own : String} {cc : ByteArray} {nL index : Nat} (C : zC Y own cc nL p R s m args c D tys dA A) (hg : zM g) (hl : Jvm.Cond.methodLink own index (zy g) ∈ zws) (hfr : d + 1 + 1 ≤ R.frames) (hlo : 64 * (d + 1 + 1) ≤ R.locals) :
    CallB R s args own index (zy g) (zc g) (zn g) (zr g) (Jvm.Cond.code (zy g) (zc g) (zn g) (zr g) :: zws) (zrm d) 0 0 (zna g) := by
  obtain ⟨hx, hb, hml, hown, hts, hK, hT, hA, hR⟩ := C
  obtain ⟨h1, h2, h3, h4, h5, h6, h7, h8, h9⟩ := hg.spec
  refine ⟨rfl, rfl, hfr, ?_, pay_in hts (zgoodIn hg), List.mem_cons_self, hts _ h2, hts _ h3, h7, fun sig h => ?_, hts _ hl⟩
  · show 8 + (zn g + 11) + 64 * (d + 1) ≤ R.locals
    omega
  · rw [h] at h8
    exact (Option.some.inj h8).symm
theorem z_blind {av : List Value} {D : va_G} {tys : List (ClassId × FieldType)} {ws : va_W} {sz : Nat} : FrameBlind (va_Pc av (fun U => U.heap.size = sz ∧ va_P D zcl ws U.heap ∧ va_K D zcl tys U ∧ va_D (fun _ => True) ws)) := by
  intro a U gg mk q
  obtain ⟨q0, q1, qP, qK, qD⟩ := q
  exact ⟨q0, q1, qP, va_K.moved (u := U) (U := U.calling gg mk a) (Vm.Alike.refl U.vm) qK, qD⟩
theorem z_A {A : Nat → Prop} {ad : Nat → Nat} {dA : Nat → ClassId} {s : State} {H : Heap} {locs : List Loc} (hD : va_D A (zw Y ad dA M)) (hS : va_S A s.heap H locs) (hA : ∀ q : Nat, s.heap.size ≤ q → A q) : ∀ q, va_A (zw Y ad dA M) H.size q → A q := by
  intro q h
  rcases h with ⟨k, e, hk⟩ | h
  · exact hD.2 k _ hk
  · exact hA q (Nat.le_trans hS.1 h)
theorem zcat_small {ad : Nat → Nat} {r : List AV} (h : r.length ≤ 4) : ((r.map (cv ad)).map fun v => v.category).sum ≤ 8 := by
  have := zcat_le (ad := ad) r
  omega
/-- what stands behind a call -/
theorem z_toL {ad : Nat → Nat} (u : Option AV) (r : List AV) : (u.map (cv ad)).toList ++ r.map (cv ad) = (u.toList ++ r).map (cv ad) := by cases u <;> rfl
theorem Z_callS (hf : zM f) (hg : zM g) (hsg : zst g = true) {idx i : Nat} {rn : (Nat × Nat × Nat × Nat × Nat × Nat) × Int} (he : zent (zt f) pc = some (.invokestatic idx, rn)) (hl : zhas i (Jvm.Cond.methodLink (zy f).cls idx (zy g)) = true)
    {st : List AV} (vs r : List AV) (hst : st = vs.reverse ++ r) (hn : vs.length = zna g) (hlen : (zlay vs).length ≤ zn g) (hr4 : r.length ≤ 4) (hE : Ev Y d g 0 (zpad (zn g) (zlay vs)) [] M u M1) (k : EvP P Y (d + 1) f (pc + 3) lo (u.toList ++ r) M1 v M') : EvP P Y (d + 1) f pc lo st M v M' := by
  intro p l e R s m args below meth c cells slots Q D tys ad dA A C hY hfr hlo hc hsl hP hret H locs ls hW hL hG
  have C0 := C
  obtain ⟨hx, hb, hml, hown, hts, hK, hT, hA, hR⟩ := C0
  subst hst
  have hgv : ∀ w ∈ vs, gd Y w := fun w h => hG w (by simp [h])
  have hgr : ∀ w ∈ r, gd Y w := fun w h => hG w (by simp [h])
  have hd := zdec_plain (ztab_at hf.spec.1 (rn := rn.1) (rz := rn.2) he).1 (fun _ _ _ _ => by simp) (fun _ _ => by simp)
  have hMet := Ev_Met hg hE hlen hgv hW.2.2.2 hR hY l D tys ad dA hT H.size
  have hFc := z_A hW.2.1 hW.2.2.1 hA
  have hstk : (vs.reverse ++ r).map (cv ad) = (vs.map (cv ad)).reverse ++ r.map (cv ad) := by simp
  rw [hstk]
  refine z_go (va_runS (As := vs.map (cv ad)) (rest := r.map (cv ad)) (Ts := zws) ⟨hx, hb, hml, hown, hts⟩ hMet ⟨z_cb C hg (zhas_mem hl) hfr hlo, hts _ (hg.spec.2.2.2.1 hsg)⟩ ⟨z_blind, fun U hU hWm => ⟨rfl, by rw [hU], by rw [hU]; exact hW.1, va_K.moved hWm.alike hK, hW.2.1.weaken (fun _ _ _ _ => trivial)⟩⟩ rfl (by simpa using hn) hL.1 rfl (lv_room (zcat_small hr4)) hd ⟨by simpa using hc, by simpa using hsl⟩) hW.2.2.1 (fun q _ h => hFc q h) hFc (fun t H1 locs1 ht hB hS1 => ?_)
  rw [z_toL]
  refine k p l e R s m args below meth c cells slots Q D tys ad dA A C hY hfr hlo hc hsl hP hret H1 locs1 ls ⟨by rw [← ht]; exact hB.1, zD_row hW.2.1, hS1, hB.2.1⟩ hL ?_
  intro w hw
  rcases List.mem_append.mp hw with h | h
  · exact hB.2.2 w h
  · exact hgr w h
theorem Z_callV (hf : zM f) (hg : zM g) (hsg : zst g = false) {idx i : Nat} {rn : (Nat × Nat × Nat × Nat × Nat × Nat) × Int} (he : zent (zt f) pc = some (.invokevirtual idx, rn)) (hl : zhas i (Jvm.Cond.methodLink (zy f).cls idx (zy g)) = true) {ci q n0 : Nat} (hci : (zcl[ci]?).map (fun x => x.1) = some (zy g).cls)
    {st : List AV} (vs r : List AV) (hst : st = vs.reverse ++ vR q (10 + ci) n0 :: r) (hn : vs.length = zna g) (hlen : (zlay (vR q (10 + ci) n0 :: vs)).length ≤ zn g) (hr4 : r.length ≤ 4) (hE : Ev Y d g 0 (zpad (zn g) (zlay (vR q (10 + ci) n0 :: vs))) [] M u M1) (k : EvP P Y (d + 1) f (pc + 3) lo (u.toList ++ r) M1 v M') : EvP P Y (d + 1) f pc lo st M v M' := by
  intro p l e R s m args below meth c cells slots Q D tys ad dA A C hY hfr hlo hc hsl hP hret H locs ls hW hL hG
  have C0 := C
  obtain ⟨hx, hb, hml, hown, hts, hK, hT, hA, hR⟩ := C0
  subst hst
  have hgv : ∀ w ∈ vs, gd Y w := fun w h => hG w (by simp [h])
  have hgq : Y[q]? = some (10 + ci, n0) := (hG (vR q (10 + ci) n0) (by simp)).resolve_left (by omega)
  have hgr : ∀ w ∈ r, gd Y w := fun w h => hG w (by simp [h])
  have hd := zdec_plain (ztab_at hf.spec.1 (rn := rn.1) (rz := rn.2) he).1 (fun _ _ _ _ => by simp) (fun _ _ => by simp)
  have hMet := Ev_Met hg hE hlen (fun w hw => (List.mem_cons.mp hw).elim (fun e => by rw [e]; exact Or.inr hgq) (hgv w)) hW.2.2.2 hR hY l D tys ad dA hT H.size
  have hFc := z_A hW.2.1 hW.2.2.1 hA
  have hstk : (vs.reverse ++ vR q (10 + ci) n0 :: r).map (cv ad) = (vs.map (cv ad)).reverse ++ .ref (ad q) :: r.map (cv ad) := by simp [cv]
  rw [hstk]
  obtain ⟨cq, hcq, hcq2⟩ : ∃ cq, zcl[ci]? = some cq ∧ cq.1 = (zy g).cls := by
    cases h : zcl[ci]? with
    | none => rw [h] at hci; cases hci
    | some cq => rw [h] at hci; exact ⟨cq, rfl, Option.some.inj hci⟩
  have hrecv := va_recv hK hW.1 hcq (zw_obj hgq)
  rw [hcq2] at hrecv
  have hins := hg.spec.2.2.2.2.1 hsg
  refine z_go (va_runV (As := vs.map (cv ad)) (rest := r.map (cv ad)) (Ts := zws) ⟨hx, hb, hml, hown, hts⟩ hMet ⟨z_cb C hg (zhas_mem hl) hfr hlo, hts _ hins.1, hts _ hins.2⟩ ⟨z_blind, hrecv, fun U hU hWm => ⟨rfl, by rw [hU], by rw [hU]; exact hW.1, va_K.moved hWm.alike hK, hW.2.1.weaken (fun _ _ _ _ => trivial)⟩⟩ rfl (by simpa using hn) hL.1 rfl (lv_room (zcat_small hr4)) hd ⟨by simpa using hc, by simpa using hsl⟩) hW.2.2.1 (fun q _ h => hFc q h) hFc (fun t H1 locs1 ht hB hS1 => ?_)
  rw [z_toL]
  refine k p l e R s m args below meth c cells slots Q D tys ad dA A C hY hfr hlo hc hsl hP hret H1 locs1 ls ⟨by rw [← ht]; exact hB.1, zD_row hW.2.1, hS1, hB.2.1⟩ hL ?_
  intro w hw
  rcases List.mem_append.mp hw with h | h
  · exact hB.2.2 w h
  · exact hgr w h
end ZCalls
end
