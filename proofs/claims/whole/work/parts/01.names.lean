-- ===== PART A: goes FIRST, ahead of the names: the tables' words, and 'selects' of the private methods out of them =====
/-- a private method of a class that the tables say can be made, by its rows of tables_1 -/
def lw_okq (q : MethodName × Nat) : Prop := (q.1.cls ≠ "java/lang/invoke/MethodHandle" ∧ q.1.cls ≠ "java/lang/invoke/VarHandle") ∧ Cond.instantiable q.1.cls q.2 ∈ tables_1 ∧ Cond.privateMethod q.1 ∈ tables_1 ∧ Cond.instanceMethod q.1 ∈ tables_1
theorem lw_p0 : lw_okq (⟨"LotteryOfLosses$Tape", "text", "()Z"⟩, 5) := ⟨⟨by decide +kernel, by decide +kernel⟩, List.mem_of_getElem? (i := 133) (by decide +kernel), List.mem_of_getElem? (i := 531) (by decide +kernel), List.mem_of_getElem? (i := 532) (by decide +kernel)⟩
theorem lw_p1 : lw_okq (⟨"LotteryOfLosses$Tape", "line", "()Z"⟩, 5) := ⟨⟨by decide +kernel, by decide +kernel⟩, List.mem_of_getElem? (i := 133) (by decide +kernel), List.mem_of_getElem? (i := 535) (by decide +kernel), List.mem_of_getElem? (i := 536) (by decide +kernel)⟩
theorem lw_p2 : lw_okq (⟨"LotteryOfLosses$Tape", "chain", "(II)Z"⟩, 5) := ⟨⟨by decide +kernel, by decide +kernel⟩, List.mem_of_getElem? (i := 133) (by decide +kernel), List.mem_of_getElem? (i := 543) (by decide +kernel), List.mem_of_getElem? (i := 544) (by decide +kernel)⟩
theorem lw_p3 : lw_okq (⟨"LotteryOfLosses$Tape", "operand", "(I)Z"⟩, 5) := ⟨⟨by decide +kernel, by decide +kernel⟩, List.mem_of_getElem? (i := 133) (by decide +kernel), List.mem_of_getElem? (i := 547) (by decide +kernel), List.mem_of_getElem? (i := 548) (by decide +kernel)⟩
theorem lw_p4 : lw_okq (⟨"LotteryOfLosses$Tape", "isDigitNext", "()Z"⟩, 5) := ⟨⟨by decide +kernel, by decide +kernel⟩, List.mem_of_getElem? (i := 133) (by decide +kernel), List.mem_of_getElem? (i := 551) (by decide +kernel), List.mem_of_getElem? (i := 552) (by decide +kernel)⟩
theorem lw_p5 : lw_okq (⟨"LotteryOfLosses$Tape", "number", "()I"⟩, 5) := ⟨⟨by decide +kernel, by decide +kernel⟩, List.mem_of_getElem? (i := 133) (by decide +kernel), List.mem_of_getElem? (i := 555) (by decide +kernel), List.mem_of_getElem? (i := 556) (by decide +kernel)⟩
theorem lw_p6 : lw_okq (⟨"LotteryOfLosses$Tape", "write", "(I)V"⟩, 5) := ⟨⟨by decide +kernel, by decide +kernel⟩, List.mem_of_getElem? (i := 133) (by decide +kernel), List.mem_of_getElem? (i := 559) (by decide +kernel), List.mem_of_getElem? (i := 560) (by decide +kernel)⟩
theorem lw_p7 : lw_okq (⟨"LotteryOfLosses$Tape", "took", "(Ljava/lang/String;)I"⟩, 5) := ⟨⟨by decide +kernel, by decide +kernel⟩, List.mem_of_getElem? (i := 133) (by decide +kernel), List.mem_of_getElem? (i := 565) (by decide +kernel), List.mem_of_getElem? (i := 566) (by decide +kernel)⟩
theorem lw_p8 : lw_okq (⟨"LotteryOfLosses$Thought", "fall", "(I)V"⟩, 7) := ⟨⟨by decide +kernel, by decide +kernel⟩, List.mem_of_getElem? (i := 155) (by decide +kernel), List.mem_of_getElem? (i := 694) (by decide +kernel), List.mem_of_getElem? (i := 695) (by decide +kernel)⟩
theorem lw_p9 : lw_okq (⟨"LotteryOfLosses$Law", "run", "(II)I"⟩, 10) := ⟨⟨by decide +kernel, by decide +kernel⟩, List.mem_of_getElem? (i := 76) (by decide +kernel), List.mem_of_getElem? (i := 719) (by decide +kernel), List.mem_of_getElem? (i := 720) (by decide +kernel)⟩
theorem lw_p10 : lw_okq (⟨"LotteryOfLosses$Means", "begin", "(II)V"⟩, 7) := ⟨⟨by decide +kernel, by decide +kernel⟩, List.mem_of_getElem? (i := 186) (by decide +kernel), List.mem_of_getElem? (i := 754) (by decide +kernel), List.mem_of_getElem? (i := 755) (by decide +kernel)⟩
theorem lw_p11 : lw_okq (⟨"LotteryOfLosses$Means", "drawNext", "(III)V"⟩, 7) := ⟨⟨by decide +kernel, by decide +kernel⟩, List.mem_of_getElem? (i := 186) (by decide +kernel), List.mem_of_getElem? (i := 785) (by decide +kernel), List.mem_of_getElem? (i := 786) (by decide +kernel)⟩
theorem lw_p12 : lw_okq (⟨"LotteryOfLosses$Plans", "canSwap", "(II)Z"⟩, 14) := ⟨⟨by decide +kernel, by decide +kernel⟩, List.mem_of_getElem? (i := 214) (by decide +kernel), List.mem_of_getElem? (i := 880) (by decide +kernel), List.mem_of_getElem? (i := 881) (by decide +kernel)⟩
theorem lw_p13 : lw_okq (⟨"LotteryOfLosses$Plans", "gainBySwap", "(III)Z"⟩, 14) := ⟨⟨by decide +kernel, by decide +kernel⟩, List.mem_of_getElem? (i := 214) (by decide +kernel), List.mem_of_getElem? (i := 885) (by decide +kernel), List.mem_of_getElem? (i := 886) (by decide +kernel)⟩
theorem lw_p14 : lw_okq (⟨"LotteryOfLosses$Plans", "numberThoseIn", "()I"⟩, 14) := ⟨⟨by decide +kernel, by decide +kernel⟩, List.mem_of_getElem? (i := 214) (by decide +kernel), List.mem_of_getElem? (i := 923) (by decide +kernel), List.mem_of_getElem? (i := 924) (by decide +kernel)⟩
theorem lw_p15 : lw_okq (⟨"LotteryOfLosses$Plans", "weighShares", "(III)V"⟩, 14) := ⟨⟨by decide +kernel, by decide +kernel⟩, List.mem_of_getElem? (i := 214) (by decide +kernel), List.mem_of_getElem? (i := 927) (by decide +kernel), List.mem_of_getElem? (i := 928) (by decide +kernel)⟩
def lw_privs_1 : List (MethodName × Nat) := [(⟨"LotteryOfLosses$Tape", "text", "()Z"⟩, 5), (⟨"LotteryOfLosses$Tape", "line", "()Z"⟩, 5), (⟨"LotteryOfLosses$Tape", "chain", "(II)Z"⟩, 5), (⟨"LotteryOfLosses$Tape", "operand", "(I)Z"⟩, 5), (⟨"LotteryOfLosses$Tape", "isDigitNext", "()Z"⟩, 5), (⟨"LotteryOfLosses$Tape", "number", "()I"⟩, 5), (⟨"LotteryOfLosses$Tape", "write", "(I)V"⟩, 5), (⟨"LotteryOfLosses$Tape", "took", "(Ljava/lang/String;)I"⟩, 5), (⟨"LotteryOfLosses$Thought", "fall", "(I)V"⟩, 7), (⟨"LotteryOfLosses$Law", "run", "(II)I"⟩, 10), (⟨"LotteryOfLosses$Means", "begin", "(II)V"⟩, 7), (⟨"LotteryOfLosses$Means", "drawNext", "(III)V"⟩, 7), (⟨"LotteryOfLosses$Plans", "canSwap", "(II)Z"⟩, 14), (⟨"LotteryOfLosses$Plans", "gainBySwap", "(III)Z"⟩, 14), (⟨"LotteryOfLosses$Plans", "numberThoseIn", "()I"⟩, 14), (⟨"LotteryOfLosses$Plans", "weighShares", "(III)V"⟩, 14)]
theorem lw_r1 : ∀ q ∈ lw_privs_1, lw_okq q := List.forall_mem_cons.mpr ⟨lw_p0, List.forall_mem_cons.mpr ⟨lw_p1, List.forall_mem_cons.mpr ⟨lw_p2, List.forall_mem_cons.mpr ⟨lw_p3, List.forall_mem_cons.mpr ⟨lw_p4, List.forall_mem_cons.mpr ⟨lw_p5, List.forall_mem_cons.mpr ⟨lw_p6, List.forall_mem_cons.mpr ⟨lw_p7, List.forall_mem_cons.mpr ⟨lw_p8, List.forall_mem_cons.mpr ⟨lw_p9, List.forall_mem_cons.mpr ⟨lw_p10, List.forall_mem_cons.mpr ⟨lw_p11, List.forall_mem_cons.mpr ⟨lw_p12, List.forall_mem_cons.mpr ⟨lw_p13, List.forall_mem_cons.mpr ⟨lw_p14, List.forall_mem_cons.mpr ⟨lw_p15, fun _ h => absurd h List.not_mem_nil⟩⟩⟩⟩⟩⟩⟩⟩⟩⟩⟩⟩⟩⟩⟩⟩
theorem lw_p16 : lw_okq (⟨"LotteryOfLosses$Plans", "greatestOf", "(III)I"⟩, 14) := ⟨⟨by decide +kernel, by decide +kernel⟩, List.mem_of_getElem? (i := 214) (by decide +kernel), List.mem_of_getElem? (i := 931) (by decide +kernel), List.mem_of_getElem? (i := 932) (by decide +kernel)⟩
theorem lw_p17 : lw_okq (⟨"LotteryOfLosses$Plans", "findWorsts", "(I)V"⟩, 14) := ⟨⟨by decide +kernel, by decide +kernel⟩, List.mem_of_getElem? (i := 214) (by decide +kernel), List.mem_of_getElem? (i := 950) (by decide +kernel), List.mem_of_getElem? (i := 951) (by decide +kernel)⟩
theorem lw_p18 : lw_okq (⟨"LotteryOfLosses$Plans", "addUp", "()V"⟩, 14) := ⟨⟨by decide +kernel, by decide +kernel⟩, List.mem_of_getElem? (i := 214) (by decide +kernel), List.mem_of_getElem? (i := 956) (by decide +kernel), List.mem_of_getElem? (i := 957) (by decide +kernel)⟩
theorem lw_p19 : lw_okq (⟨"LotteryOfLosses$Plans", "allStay", "(II)Z"⟩, 14) := ⟨⟨by decide +kernel, by decide +kernel⟩, List.mem_of_getElem? (i := 214) (by decide +kernel), List.mem_of_getElem? (i := 962) (by decide +kernel), List.mem_of_getElem? (i := 963) (by decide +kernel)⟩
theorem lw_p20 : lw_okq (⟨"LotteryOfLosses$Plans", "wishedAway", "(I)I"⟩, 14) := ⟨⟨by decide +kernel, by decide +kernel⟩, List.mem_of_getElem? (i := 214) (by decide +kernel), List.mem_of_getElem? (i := 998) (by decide +kernel), List.mem_of_getElem? (i := 999) (by decide +kernel)⟩
theorem lw_p21 : lw_okq (⟨"LotteryOfLosses$Plans", "isLovedMore", "(III)Z"⟩, 14) := ⟨⟨by decide +kernel, by decide +kernel⟩, List.mem_of_getElem? (i := 214) (by decide +kernel), List.mem_of_getElem? (i := 1002) (by decide +kernel), List.mem_of_getElem? (i := 1003) (by decide +kernel)⟩
theorem lw_p22 : lw_okq (⟨"LotteryOfLosses$Plans", "wantedBy", "(II)I"⟩, 14) := ⟨⟨by decide +kernel, by decide +kernel⟩, List.mem_of_getElem? (i := 214) (by decide +kernel), List.mem_of_getElem? (i := 1009) (by decide +kernel), List.mem_of_getElem? (i := 1010) (by decide +kernel)⟩
theorem lw_p23 : lw_okq (⟨"LotteryOfLosses", "refusalOfBytes", "(I)I"⟩, 10) := ⟨⟨by decide +kernel, by decide +kernel⟩, List.mem_of_getElem? (i := 23) (by decide +kernel), List.mem_of_getElem? (i := 1023) (by decide +kernel), List.mem_of_getElem? (i := 1024) (by decide +kernel)⟩
theorem lw_p24 : lw_okq (⟨"LotteryOfLosses", "whoMayHold", "(IIII)I"⟩, 10) := ⟨⟨by decide +kernel, by decide +kernel⟩, List.mem_of_getElem? (i := 23) (by decide +kernel), List.mem_of_getElem? (i := 1047) (by decide +kernel), List.mem_of_getElem? (i := 1048) (by decide +kernel)⟩
theorem lw_p25 : lw_okq (⟨"LotteryOfLosses$Acts", "find", "(IIII)I"⟩, 5) := ⟨⟨by decide +kernel, by decide +kernel⟩, List.mem_of_getElem? (i := 328) (by decide +kernel), List.mem_of_getElem? (i := 1179) (by decide +kernel), List.mem_of_getElem? (i := 1180) (by decide +kernel)⟩
theorem lw_p26 : lw_okq (⟨"LotteryOfLosses$Acts", "run", "(IIII)I"⟩, 5) := ⟨⟨by decide +kernel, by decide +kernel⟩, List.mem_of_getElem? (i := 328) (by decide +kernel), List.mem_of_getElem? (i := 1187) (by decide +kernel), List.mem_of_getElem? (i := 1188) (by decide +kernel)⟩
theorem lw_p27 : lw_okq (⟨"LotteryOfLosses", "refusalOfPlaces", "(III)I"⟩, 10) := ⟨⟨by decide +kernel, by decide +kernel⟩, List.mem_of_getElem? (i := 23) (by decide +kernel), List.mem_of_getElem? (i := 1223) (by decide +kernel), List.mem_of_getElem? (i := 1224) (by decide +kernel)⟩
theorem lw_p28 : lw_okq (⟨"LotteryOfLossesModel", "adds", "(II)V"⟩, 54) := ⟨⟨by decide +kernel, by decide +kernel⟩, List.mem_of_getElem? (i := 1288) (by decide +kernel), List.mem_of_getElem? (i := 1481) (by decide +kernel), List.mem_of_getElem? (i := 1482) (by decide +kernel)⟩
theorem lw_p29 : lw_okq (⟨"LotteryOfLossesModel", "placeOf", "(II)I"⟩, 54) := ⟨⟨by decide +kernel, by decide +kernel⟩, List.mem_of_getElem? (i := 1288) (by decide +kernel), List.mem_of_getElem? (i := 1497) (by decide +kernel), List.mem_of_getElem? (i := 1498) (by decide +kernel)⟩
theorem lw_p30 : lw_okq (⟨"LotteryOfLossesModel", "isTicket", "(J)Z"⟩, 54) := ⟨⟨by decide +kernel, by decide +kernel⟩, List.mem_of_getElem? (i := 1288) (by decide +kernel), List.mem_of_getElem? (i := 1505) (by decide +kernel), List.mem_of_getElem? (i := 1506) (by decide +kernel)⟩
theorem lw_p31 : lw_okq (⟨"LotteryOfLossesModel", "becomes", "(II)I"⟩, 54) := ⟨⟨by decide +kernel, by decide +kernel⟩, List.mem_of_getElem? (i := 1288) (by decide +kernel), List.mem_of_getElem? (i := 1513) (by decide +kernel), List.mem_of_getElem? (i := 1514) (by decide +kernel)⟩
def lw_privs_2 : List (MethodName × Nat) := [(⟨"LotteryOfLosses$Plans", "greatestOf", "(III)I"⟩, 14), (⟨"LotteryOfLosses$Plans", "findWorsts", "(I)V"⟩, 14), (⟨"LotteryOfLosses$Plans", "addUp", "()V"⟩, 14), (⟨"LotteryOfLosses$Plans", "allStay", "(II)Z"⟩, 14), (⟨"LotteryOfLosses$Plans", "wishedAway", "(I)I"⟩, 14), (⟨"LotteryOfLosses$Plans", "isLovedMore", "(III)Z"⟩, 14), (⟨"LotteryOfLosses$Plans", "wantedBy", "(II)I"⟩, 14), (⟨"LotteryOfLosses", "refusalOfBytes", "(I)I"⟩, 10), (⟨"LotteryOfLosses", "whoMayHold", "(IIII)I"⟩, 10), (⟨"LotteryOfLosses$Acts", "find", "(IIII)I"⟩, 5), (⟨"LotteryOfLosses$Acts", "run", "(IIII)I"⟩, 5), (⟨"LotteryOfLosses", "refusalOfPlaces", "(III)I"⟩, 10), (⟨"LotteryOfLossesModel", "adds", "(II)V"⟩, 54), (⟨"LotteryOfLossesModel", "placeOf", "(II)I"⟩, 54), (⟨"LotteryOfLossesModel", "isTicket", "(J)Z"⟩, 54), (⟨"LotteryOfLossesModel", "becomes", "(II)I"⟩, 54)]
theorem lw_r2 : ∀ q ∈ lw_privs_2, lw_okq q := List.forall_mem_cons.mpr ⟨lw_p16, List.forall_mem_cons.mpr ⟨lw_p17, List.forall_mem_cons.mpr ⟨lw_p18, List.forall_mem_cons.mpr ⟨lw_p19, List.forall_mem_cons.mpr ⟨lw_p20, List.forall_mem_cons.mpr ⟨lw_p21, List.forall_mem_cons.mpr ⟨lw_p22, List.forall_mem_cons.mpr ⟨lw_p23, List.forall_mem_cons.mpr ⟨lw_p24, List.forall_mem_cons.mpr ⟨lw_p25, List.forall_mem_cons.mpr ⟨lw_p26, List.forall_mem_cons.mpr ⟨lw_p27, List.forall_mem_cons.mpr ⟨lw_p28, List.forall_mem_cons.mpr ⟨lw_p29, List.forall_mem_cons.mpr ⟨lw_p30, List.forall_mem_cons.mpr ⟨lw_p31, fun _ h => absurd h List.not_mem_nil⟩⟩⟩⟩⟩⟩⟩⟩⟩⟩⟩⟩⟩⟩⟩⟩
theorem lw_p32 : lw_okq (⟨"LotteryOfLossesModel", "workOut", "(II)I"⟩, 54) := ⟨⟨by decide +kernel, by decide +kernel⟩, List.mem_of_getElem? (i := 1288) (by decide +kernel), List.mem_of_getElem? (i := 1531) (by decide +kernel), List.mem_of_getElem? (i := 1532) (by decide +kernel)⟩
theorem lw_p33 : lw_okq (⟨"LotteryOfLossesModel", "either", "()I"⟩, 54) := ⟨⟨by decide +kernel, by decide +kernel⟩, List.mem_of_getElem? (i := 1288) (by decide +kernel), List.mem_of_getElem? (i := 1535) (by decide +kernel), List.mem_of_getElem? (i := 1536) (by decide +kernel)⟩
theorem lw_p34 : lw_okq (⟨"LotteryOfLossesModel", "both", "()I"⟩, 54) := ⟨⟨by decide +kernel, by decide +kernel⟩, List.mem_of_getElem? (i := 1288) (by decide +kernel), List.mem_of_getElem? (i := 1539) (by decide +kernel), List.mem_of_getElem? (i := 1540) (by decide +kernel)⟩
theorem lw_p35 : lw_okq (⟨"LotteryOfLossesModel", "compared", "()I"⟩, 54) := ⟨⟨by decide +kernel, by decide +kernel⟩, List.mem_of_getElem? (i := 1288) (by decide +kernel), List.mem_of_getElem? (i := 1543) (by decide +kernel), List.mem_of_getElem? (i := 1544) (by decide +kernel)⟩
theorem lw_p36 : lw_okq (⟨"LotteryOfLossesModel", "sums", "()I"⟩, 54) := ⟨⟨by decide +kernel, by decide +kernel⟩, List.mem_of_getElem? (i := 1288) (by decide +kernel), List.mem_of_getElem? (i := 1547) (by decide +kernel), List.mem_of_getElem? (i := 1548) (by decide +kernel)⟩
theorem lw_p37 : lw_okq (⟨"LotteryOfLossesModel", "product", "()I"⟩, 54) := ⟨⟨by decide +kernel, by decide +kernel⟩, List.mem_of_getElem? (i := 1288) (by decide +kernel), List.mem_of_getElem? (i := 1551) (by decide +kernel), List.mem_of_getElem? (i := 1552) (by decide +kernel)⟩
theorem lw_p38 : lw_okq (⟨"LotteryOfLossesModel", "one", "()I"⟩, 54) := ⟨⟨by decide +kernel, by decide +kernel⟩, List.mem_of_getElem? (i := 1288) (by decide +kernel), List.mem_of_getElem? (i := 1555) (by decide +kernel), List.mem_of_getElem? (i := 1556) (by decide +kernel)⟩
theorem lw_p39 : lw_okq (⟨"LotteryOfLossesModel", "byteAt", "()I"⟩, 54) := ⟨⟨by decide +kernel, by decide +kernel⟩, List.mem_of_getElem? (i := 1288) (by decide +kernel), List.mem_of_getElem? (i := 1559) (by decide +kernel), List.mem_of_getElem? (i := 1560) (by decide +kernel)⟩
theorem lw_p40 : lw_okq (⟨"LotteryOfLossesModel", "wrong", "()I"⟩, 54) := ⟨⟨by decide +kernel, by decide +kernel⟩, List.mem_of_getElem? (i := 1288) (by decide +kernel), List.mem_of_getElem? (i := 1563) (by decide +kernel), List.mem_of_getElem? (i := 1564) (by decide +kernel)⟩
theorem lw_p41 : lw_okq (⟨"LotteryOfLossesModel", "takes", "(I)Z"⟩, 54) := ⟨⟨by decide +kernel, by decide +kernel⟩, List.mem_of_getElem? (i := 1288) (by decide +kernel), List.mem_of_getElem? (i := 1567) (by decide +kernel), List.mem_of_getElem? (i := 1568) (by decide +kernel)⟩
theorem lw_p42 : lw_okq (⟨"LotteryOfLossesModel", "areIn", "(I)Z"⟩, 54) := ⟨⟨by decide +kernel, by decide +kernel⟩, List.mem_of_getElem? (i := 1288) (by decide +kernel), List.mem_of_getElem? (i := 1578) (by decide +kernel), List.mem_of_getElem? (i := 1579) (by decide +kernel)⟩
theorem lw_p43 : lw_okq (⟨"LotteryOfLossesModel", "draws", "(II)V"⟩, 54) := ⟨⟨by decide +kernel, by decide +kernel⟩, List.mem_of_getElem? (i := 1288) (by decide +kernel), List.mem_of_getElem? (i := 1582) (by decide +kernel), List.mem_of_getElem? (i := 1583) (by decide +kernel)⟩
theorem lw_p44 : lw_okq (⟨"LotteryOfLossesModel", "begins1", "()V"⟩, 54) := ⟨⟨by decide +kernel, by decide +kernel⟩, List.mem_of_getElem? (i := 1288) (by decide +kernel), List.mem_of_getElem? (i := 1586) (by decide +kernel), List.mem_of_getElem? (i := 1587) (by decide +kernel)⟩
theorem lw_p45 : lw_okq (⟨"LotteryOfLossesModel", "asksHolds", "()V"⟩, 54) := ⟨⟨by decide +kernel, by decide +kernel⟩, List.mem_of_getElem? (i := 1288) (by decide +kernel), List.mem_of_getElem? (i := 1590) (by decide +kernel), List.mem_of_getElem? (i := 1591) (by decide +kernel)⟩
theorem lw_p46 : lw_okq (⟨"LotteryOfLossesModel", "holderOf", "(I)I"⟩, 54) := ⟨⟨by decide +kernel, by decide +kernel⟩, List.mem_of_getElem? (i := 1288) (by decide +kernel), List.mem_of_getElem? (i := 1597) (by decide +kernel), List.mem_of_getElem? (i := 1598) (by decide +kernel)⟩
theorem lw_p47 : lw_okq (⟨"LotteryOfLossesModel", "isDrawn", "(I)V"⟩, 54) := ⟨⟨by decide +kernel, by decide +kernel⟩, List.mem_of_getElem? (i := 1288) (by decide +kernel), List.mem_of_getElem? (i := 1601) (by decide +kernel), List.mem_of_getElem? (i := 1602) (by decide +kernel)⟩
def lw_privs_3 : List (MethodName × Nat) := [(⟨"LotteryOfLossesModel", "workOut", "(II)I"⟩, 54), (⟨"LotteryOfLossesModel", "either", "()I"⟩, 54), (⟨"LotteryOfLossesModel", "both", "()I"⟩, 54), (⟨"LotteryOfLossesModel", "compared", "()I"⟩, 54), (⟨"LotteryOfLossesModel", "sums", "()I"⟩, 54), (⟨"LotteryOfLossesModel", "product", "()I"⟩, 54), (⟨"LotteryOfLossesModel", "one", "()I"⟩, 54), (⟨"LotteryOfLossesModel", "byteAt", "()I"⟩, 54), (⟨"LotteryOfLossesModel", "wrong", "()I"⟩, 54), (⟨"LotteryOfLossesModel", "takes", "(I)Z"⟩, 54), (⟨"LotteryOfLossesModel", "areIn", "(I)Z"⟩, 54), (⟨"LotteryOfLossesModel", "draws", "(II)V"⟩, 54), (⟨"LotteryOfLossesModel", "begins1", "()V"⟩, 54), (⟨"LotteryOfLossesModel", "asksHolds", "()V"⟩, 54), (⟨"LotteryOfLossesModel", "holderOf", "(I)I"⟩, 54), (⟨"LotteryOfLossesModel", "isDrawn", "(I)V"⟩, 54)]
theorem lw_r3 : ∀ q ∈ lw_privs_3, lw_okq q := List.forall_mem_cons.mpr ⟨lw_p32, List.forall_mem_cons.mpr ⟨lw_p33, List.forall_mem_cons.mpr ⟨lw_p34, List.forall_mem_cons.mpr ⟨lw_p35, List.forall_mem_cons.mpr ⟨lw_p36, List.forall_mem_cons.mpr ⟨lw_p37, List.forall_mem_cons.mpr ⟨lw_p38, List.forall_mem_cons.mpr ⟨lw_p39, List.forall_mem_cons.mpr ⟨lw_p40, List.forall_mem_cons.mpr ⟨lw_p41, List.forall_mem_cons.mpr ⟨lw_p42, List.forall_mem_cons.mpr ⟨lw_p43, List.forall_mem_cons.mpr ⟨lw_p44, List.forall_mem_cons.mpr ⟨lw_p45, List.forall_mem_cons.mpr ⟨lw_p46, List.forall_mem_cons.mpr ⟨lw_p47, fun _ h => absurd h List.not_mem_nil⟩⟩⟩⟩⟩⟩⟩⟩⟩⟩⟩⟩⟩⟩⟩⟩
theorem lw_p48 : lw_okq (⟨"LotteryOfLossesModel", "isBlank", "(I)Z"⟩, 54) := ⟨⟨by decide +kernel, by decide +kernel⟩, List.mem_of_getElem? (i := 1288) (by decide +kernel), List.mem_of_getElem? (i := 1605) (by decide +kernel), List.mem_of_getElem? (i := 1606) (by decide +kernel)⟩
theorem lw_p49 : lw_okq (⟨"LotteryOfLossesModel", "thingOf", "(I)I"⟩, 54) := ⟨⟨by decide +kernel, by decide +kernel⟩, List.mem_of_getElem? (i := 1288) (by decide +kernel), List.mem_of_getElem? (i := 1609) (by decide +kernel), List.mem_of_getElem? (i := 1610) (by decide +kernel)⟩
theorem lw_p50 : lw_okq (⟨"LotteryOfLossesModel", "lossBy", "(II)I"⟩, 54) := ⟨⟨by decide +kernel, by decide +kernel⟩, List.mem_of_getElem? (i := 1288) (by decide +kernel), List.mem_of_getElem? (i := 1613) (by decide +kernel), List.mem_of_getElem? (i := 1614) (by decide +kernel)⟩
theorem lw_p51 : lw_okq (⟨"LotteryOfLossesModel", "lovesOf", "(II)I"⟩, 54) := ⟨⟨by decide +kernel, by decide +kernel⟩, List.mem_of_getElem? (i := 1288) (by decide +kernel), List.mem_of_getElem? (i := 1617) (by decide +kernel), List.mem_of_getElem? (i := 1618) (by decide +kernel)⟩
theorem lw_p52 : lw_okq (⟨"LotteryOfLossesModel", "isM", "(I)Z"⟩, 54) := ⟨⟨by decide +kernel, by decide +kernel⟩, List.mem_of_getElem? (i := 1288) (by decide +kernel), List.mem_of_getElem? (i := 1628) (by decide +kernel), List.mem_of_getElem? (i := 1629) (by decide +kernel)⟩
theorem lw_p53 : lw_okq (⟨"LotteryOfLossesModel", "sumsOver", "(II)V"⟩, 54) := ⟨⟨by decide +kernel, by decide +kernel⟩, List.mem_of_getElem? (i := 1288) (by decide +kernel), List.mem_of_getElem? (i := 1636) (by decide +kernel), List.mem_of_getElem? (i := 1637) (by decide +kernel)⟩
theorem lw_p54 : lw_okq (⟨"LotteryOfLossesModel", "allSums", "()J"⟩, 54) := ⟨⟨by decide +kernel, by decide +kernel⟩, List.mem_of_getElem? (i := 1288) (by decide +kernel), List.mem_of_getElem? (i := 1646) (by decide +kernel), List.mem_of_getElem? (i := 1647) (by decide +kernel)⟩
theorem lw_p55 : lw_okq (⟨"LotteryOfLossesModel", "areSuch", "(II)Z"⟩, 54) := ⟨⟨by decide +kernel, by decide +kernel⟩, List.mem_of_getElem? (i := 1288) (by decide +kernel), List.mem_of_getElem? (i := 1688) (by decide +kernel), List.mem_of_getElem? (i := 1689) (by decide +kernel)⟩
theorem lw_p56 : lw_okq (⟨"LotteryOfLossesModel", "givesOn", "(III)V"⟩, 54) := ⟨⟨by decide +kernel, by decide +kernel⟩, List.mem_of_getElem? (i := 1288) (by decide +kernel), List.mem_of_getElem? (i := 1698) (by decide +kernel), List.mem_of_getElem? (i := 1699) (by decide +kernel)⟩
theorem lw_p57 : lw_okq (⟨"LotteryOfLossesModel", "sharedWorst", "(II)I"⟩, 54) := ⟨⟨by decide +kernel, by decide +kernel⟩, List.mem_of_getElem? (i := 1288) (by decide +kernel), List.mem_of_getElem? (i := 1708) (by decide +kernel), List.mem_of_getElem? (i := 1709) (by decide +kernel)⟩
theorem lw_p58 : lw_okq (⟨"LotteryOfLossesModel", "heldBy", "(I)I"⟩, 54) := ⟨⟨by decide +kernel, by decide +kernel⟩, List.mem_of_getElem? (i := 1288) (by decide +kernel), List.mem_of_getElem? (i := 1716) (by decide +kernel), List.mem_of_getElem? (i := 1717) (by decide +kernel)⟩
theorem lw_p59 : lw_okq (⟨"LotteryOfLossesModel", "takesFrom", "(I)I"⟩, 54) := ⟨⟨by decide +kernel, by decide +kernel⟩, List.mem_of_getElem? (i := 1288) (by decide +kernel), List.mem_of_getElem? (i := 1736) (by decide +kernel), List.mem_of_getElem? (i := 1737) (by decide +kernel)⟩
theorem lw_p60 : lw_okq (⟨"LotteryOfLossesModel", "wishedBy", "(I)I"⟩, 54) := ⟨⟨by decide +kernel, by decide +kernel⟩, List.mem_of_getElem? (i := 1288) (by decide +kernel), List.mem_of_getElem? (i := 1740) (by decide +kernel), List.mem_of_getElem? (i := 1741) (by decide +kernel)⟩
theorem lw_p61 : lw_okq (⟨"LotteryOfLossesModel", "bytesIs", "(I)I"⟩, 54) := ⟨⟨by decide +kernel, by decide +kernel⟩, List.mem_of_getElem? (i := 1288) (by decide +kernel), List.mem_of_getElem? (i := 1748) (by decide +kernel), List.mem_of_getElem? (i := 1749) (by decide +kernel)⟩
theorem lw_p62 : lw_okq (⟨"LotteryOfLossesModel", "drawsRow", "(I)I"⟩, 54) := ⟨⟨by decide +kernel, by decide +kernel⟩, List.mem_of_getElem? (i := 1288) (by decide +kernel), List.mem_of_getElem? (i := 1752) (by decide +kernel), List.mem_of_getElem? (i := 1753) (by decide +kernel)⟩
theorem lw_p63 : lw_okq (⟨"LotteryOfLossesModel", "drawsOne", "(J)Z"⟩, 54) := ⟨⟨by decide +kernel, by decide +kernel⟩, List.mem_of_getElem? (i := 1288) (by decide +kernel), List.mem_of_getElem? (i := 1756) (by decide +kernel), List.mem_of_getElem? (i := 1757) (by decide +kernel)⟩
def lw_privs_4 : List (MethodName × Nat) := [(⟨"LotteryOfLossesModel", "isBlank", "(I)Z"⟩, 54), (⟨"LotteryOfLossesModel", "thingOf", "(I)I"⟩, 54), (⟨"LotteryOfLossesModel", "lossBy", "(II)I"⟩, 54), (⟨"LotteryOfLossesModel", "lovesOf", "(II)I"⟩, 54), (⟨"LotteryOfLossesModel", "isM", "(I)Z"⟩, 54), (⟨"LotteryOfLossesModel", "sumsOver", "(II)V"⟩, 54), (⟨"LotteryOfLossesModel", "allSums", "()J"⟩, 54), (⟨"LotteryOfLossesModel", "areSuch", "(II)Z"⟩, 54), (⟨"LotteryOfLossesModel", "givesOn", "(III)V"⟩, 54), (⟨"LotteryOfLossesModel", "sharedWorst", "(II)I"⟩, 54), (⟨"LotteryOfLossesModel", "heldBy", "(I)I"⟩, 54), (⟨"LotteryOfLossesModel", "takesFrom", "(I)I"⟩, 54), (⟨"LotteryOfLossesModel", "wishedBy", "(I)I"⟩, 54), (⟨"LotteryOfLossesModel", "bytesIs", "(I)I"⟩, 54), (⟨"LotteryOfLossesModel", "drawsRow", "(I)I"⟩, 54), (⟨"LotteryOfLossesModel", "drawsOne", "(J)Z"⟩, 54)]
theorem lw_r4 : ∀ q ∈ lw_privs_4, lw_okq q := List.forall_mem_cons.mpr ⟨lw_p48, List.forall_mem_cons.mpr ⟨lw_p49, List.forall_mem_cons.mpr ⟨lw_p50, List.forall_mem_cons.mpr ⟨lw_p51, List.forall_mem_cons.mpr ⟨lw_p52, List.forall_mem_cons.mpr ⟨lw_p53, List.forall_mem_cons.mpr ⟨lw_p54, List.forall_mem_cons.mpr ⟨lw_p55, List.forall_mem_cons.mpr ⟨lw_p56, List.forall_mem_cons.mpr ⟨lw_p57, List.forall_mem_cons.mpr ⟨lw_p58, List.forall_mem_cons.mpr ⟨lw_p59, List.forall_mem_cons.mpr ⟨lw_p60, List.forall_mem_cons.mpr ⟨lw_p61, List.forall_mem_cons.mpr ⟨lw_p62, List.forall_mem_cons.mpr ⟨lw_p63, fun _ h => absurd h List.not_mem_nil⟩⟩⟩⟩⟩⟩⟩⟩⟩⟩⟩⟩⟩⟩⟩⟩
theorem lw_p64 : lw_okq (⟨"LotteryOfLossesModel", "drawnOne", "()I"⟩, 54) := ⟨⟨by decide +kernel, by decide +kernel⟩, List.mem_of_getElem? (i := 1288) (by decide +kernel), List.mem_of_getElem? (i := 1775) (by decide +kernel), List.mem_of_getElem? (i := 1776) (by decide +kernel)⟩
theorem lw_p65 : lw_okq (⟨"LotteryOfLossesModel", "isBody", "(I)Z"⟩, 54) := ⟨⟨by decide +kernel, by decide +kernel⟩, List.mem_of_getElem? (i := 1288) (by decide +kernel), List.mem_of_getElem? (i := 1817) (by decide +kernel), List.mem_of_getElem? (i := 1818) (by decide +kernel)⟩
theorem lw_p66 : lw_okq (⟨"LotteryOfLossesModel", "takesAs", "(II)I"⟩, 54) := ⟨⟨by decide +kernel, by decide +kernel⟩, List.mem_of_getElem? (i := 1288) (by decide +kernel), List.mem_of_getElem? (i := 1821) (by decide +kernel), List.mem_of_getElem? (i := 1822) (by decide +kernel)⟩
theorem lw_p67 : lw_okq (⟨"LotteryOfLossesModel", "begins", "(I)V"⟩, 54) := ⟨⟨by decide +kernel, by decide +kernel⟩, List.mem_of_getElem? (i := 1288) (by decide +kernel), List.mem_of_getElem? (i := 1825) (by decide +kernel), List.mem_of_getElem? (i := 1826) (by decide +kernel)⟩
theorem lw_p68 : lw_okq (⟨"LotteryOfLossesModel", "grievesAs", "(II)I"⟩, 54) := ⟨⟨by decide +kernel, by decide +kernel⟩, List.mem_of_getElem? (i := 1288) (by decide +kernel), List.mem_of_getElem? (i := 1829) (by decide +kernel), List.mem_of_getElem? (i := 1830) (by decide +kernel)⟩
theorem lw_p69 : lw_okq (⟨"LotteryOfLossesModel", "keepsAs", "(II)I"⟩, 54) := ⟨⟨by decide +kernel, by decide +kernel⟩, List.mem_of_getElem? (i := 1288) (by decide +kernel), List.mem_of_getElem? (i := 1833) (by decide +kernel), List.mem_of_getElem? (i := 1834) (by decide +kernel)⟩
theorem lw_p70 : lw_okq (⟨"LotteryOfLossesModel", "tellsAs", "(II)I"⟩, 54) := ⟨⟨by decide +kernel, by decide +kernel⟩, List.mem_of_getElem? (i := 1288) (by decide +kernel), List.mem_of_getElem? (i := 1837) (by decide +kernel), List.mem_of_getElem? (i := 1838) (by decide +kernel)⟩
theorem lw_p71 : lw_okq (⟨"LotteryOfLossesModel", "refusal", "(II)I"⟩, 54) := ⟨⟨by decide +kernel, by decide +kernel⟩, List.mem_of_getElem? (i := 1288) (by decide +kernel), List.mem_of_getElem? (i := 1858) (by decide +kernel), List.mem_of_getElem? (i := 1859) (by decide +kernel)⟩
theorem lw_p72 : lw_okq (⟨"LotteryOfLossesModel", "kindOf", "(I)I"⟩, 54) := ⟨⟨by decide +kernel, by decide +kernel⟩, List.mem_of_getElem? (i := 1288) (by decide +kernel), List.mem_of_getElem? (i := 1877) (by decide +kernel), List.mem_of_getElem? (i := 1878) (by decide +kernel)⟩
def lw_privs_5 : List (MethodName × Nat) := [(⟨"LotteryOfLossesModel", "drawnOne", "()I"⟩, 54), (⟨"LotteryOfLossesModel", "isBody", "(I)Z"⟩, 54), (⟨"LotteryOfLossesModel", "takesAs", "(II)I"⟩, 54), (⟨"LotteryOfLossesModel", "begins", "(I)V"⟩, 54), (⟨"LotteryOfLossesModel", "grievesAs", "(II)I"⟩, 54), (⟨"LotteryOfLossesModel", "keepsAs", "(II)I"⟩, 54), (⟨"LotteryOfLossesModel", "tellsAs", "(II)I"⟩, 54), (⟨"LotteryOfLossesModel", "refusal", "(II)I"⟩, 54), (⟨"LotteryOfLossesModel", "kindOf", "(I)I"⟩, 54)]
theorem lw_r5 : ∀ q ∈ lw_privs_5, lw_okq q := List.forall_mem_cons.mpr ⟨lw_p64, List.forall_mem_cons.mpr ⟨lw_p65, List.forall_mem_cons.mpr ⟨lw_p66, List.forall_mem_cons.mpr ⟨lw_p67, List.forall_mem_cons.mpr ⟨lw_p68, List.forall_mem_cons.mpr ⟨lw_p69, List.forall_mem_cons.mpr ⟨lw_p70, List.forall_mem_cons.mpr ⟨lw_p71, List.forall_mem_cons.mpr ⟨lw_p72, fun _ h => absurd h List.not_mem_nil⟩⟩⟩⟩⟩⟩⟩⟩⟩
def lw_privs : List (MethodName × Nat) := lw_privs_1 ++ (lw_privs_2 ++ (lw_privs_3 ++ (lw_privs_4 ++ (lw_privs_5))))
def lw_tbl : List Cond := k2_sels lw_privs ++ tables_1
theorem lw_privs_ok : ∀ q ∈ lw_privs, lw_okq q := by
  show ∀ q ∈ lw_privs_1 ++ (lw_privs_2 ++ (lw_privs_3 ++ (lw_privs_4 ++ (lw_privs_5)))), lw_okq q
  exact List.forall_mem_append.mpr ⟨lw_r1, List.forall_mem_append.mpr ⟨lw_r2, List.forall_mem_append.mpr ⟨lw_r3, List.forall_mem_append.mpr ⟨lw_r4, lw_r5⟩⟩⟩⟩
/-! ===== BEGIN words of one list among another's, by their places ===== -/
theorem goodIn_r {big : List Cond} (ws : List Cond) (ps : List Nat) (hp : ws = ps.filterMap (fun i => big[i]?)) (h : ws.all goodWord = true) : GoodIn big ws := by
  intro w hw
  have h1 := List.all_eq_true.mp h w hw
  rw [hp] at hw
  obtain ⟨i, -, hi⟩ := List.mem_filterMap.mp hw
  have hm : w ∈ big := by first | exact List.mem_of_getElem? hi | exact List.getElem?_mem hi
  exact ⟨hm, good_of_word h1⟩
theorem goodIn_app {big a b : List Cond} (ha : GoodIn big a) (hb : GoodIn big b) : GoodIn big (a ++ b) := fun w h => (List.mem_append.mp h).elim (ha w) (hb w)
theorem goodIn_ca {big a b : List Cond} {c : Cond} (ha : GoodIn big (c :: a)) (hb : GoodIn big b) : GoodIn big (c :: (a ++ b)) := fun w h => (List.mem_cons.mp h).elim (fun e => ha w (List.mem_cons.mpr (Or.inl e))) (fun h => (List.mem_append.mp h).elim (fun h => ha w (List.mem_cons.mpr (Or.inr h))) (hb w))
theorem goodIn_sub {big ws : List Cond} (hm : ∀ w ∈ ws, w ∈ big) (h : ws.all goodWord = true) : GoodIn big ws := fun w hw => ⟨hm w hw, good_of_word (List.all_eq_true.mp h w hw)⟩
/-! ===== END ===== -/
def RX0 : String := "LotteryOfLosses$Acts"
def TX0 : u_T := fun k => match k with
  | 0 => ("LotteryOfLosses$Acts", "kinds", "[I", true)
  | 1 => ("LotteryOfLosses$Acts", "begun", "[I", true)
  | 2 => ("LotteryOfLosses$Acts", "size", "I", false)
  | 3 => ("LotteryOfLosses$Acts", "ran", "I", false)
  | _ => ("LotteryOfLosses$Acts", "number", "I", false)
def tyX0 : Nat → FieldType := fun k => match k with
  | 0 => .array .int
  | 1 => .array .int
  | 2 => .int
  | 3 => .int
  | _ => .int
abbrev wsX00 : List Cond := u_ws RX0 TX0 5
theorem nmX0 : ∀ a, a < 5 → ∀ b, b < 5 → a ≠ b → (TX0 a).2.1 ≠ (TX0 b).2.1 := by decide +kernel
theorem tyX0_ok : ∀ k, k < 5 → parseFieldDescriptor (TX0 k).2.2.1 = some (tyX0 k) := by decide +kernel
def RX1 : String := "LotteryOfLosses$Changes"
def TX1 : u_T := fun k => match k with
  | 0 => ("LotteryOfLosses$Changes", "lots", "LLotteryOfLosses$Lots;", true)
  | 1 => ("LotteryOfLosses$Changes", "numbers", "[I", true)
  | 2 => ("LotteryOfLosses$Changes", "whats", "[I", true)
  | 3 => ("LotteryOfLosses$Changes", "before", "[I", true)
  | 4 => ("LotteryOfLosses$Changes", "after", "[I", true)
  | 5 => ("LotteryOfLosses$Changes", "standing", "I", false)
  | _ => ("LotteryOfLosses$Changes", "kept", "I", false)
def tyX1 : Nat → FieldType := fun k => match k with
  | 0 => .object "LotteryOfLosses$Lots"
  | 1 => .array .int
  | 2 => .array .int
  | 3 => .array .int
  | 4 => .array .int
  | 5 => .int
  | _ => .int
abbrev wsX10 : List Cond := u_ws RX1 TX1 7
theorem nmX1 : ∀ a, a < 7 → ∀ b, b < 7 → a ≠ b → (TX1 a).2.1 ≠ (TX1 b).2.1 := by decide +kernel
theorem tyX1_ok : ∀ k, k < 7 → parseFieldDescriptor (TX1 k).2.2.1 = some (tyX1 k) := by decide +kernel
def RX2 : String := "LotteryOfLosses$Deeds"
def TX2 : u_T := fun k => match k with
  | 0 => ("LotteryOfLosses$Deeds", "lots", "LLotteryOfLosses$Lots;", true)
  | 1 => ("LotteryOfLosses$Deeds", "thought", "LLotteryOfLosses$Thought;", true)
  | 2 => ("LotteryOfLosses$Deeds", "totals", "[I", true)
  | 3 => ("LotteryOfLosses$Deeds", "hasImage", "Z", false)
  | 4 => ("LotteryOfLosses$Deeds", "imageSize", "I", false)
  | 5 => ("LotteryOfLosses$Deeds", "imageIn", "I", false)
  | 6 => ("LotteryOfLosses$Deeds", "imageDrawnThisYear", "I", false)
  | 7 => ("LotteryOfLosses$Deeds", "imageHolders", "[I", true)
  | 8 => ("LotteryOfLosses$Deeds", "imageLost", "[I", true)
  | _ => ("LotteryOfLosses$Deeds", "imageTotals", "[I", true)
def tyX2 : Nat → FieldType := fun k => match k with
  | 0 => .object "LotteryOfLosses$Lots"
  | 1 => .object "LotteryOfLosses$Thought"
  | 2 => .array .int
  | 3 => .boolean
  | 4 => .int
  | 5 => .int
  | 6 => .int
  | 7 => .array .int
  | 8 => .array .int
  | _ => .array .int
abbrev wsX20 : List Cond := u_ws RX2 TX2 10
theorem nmX2 : ∀ a, a < 10 → ∀ b, b < 10 → a ≠ b → (TX2 a).2.1 ≠ (TX2 b).2.1 := by decide +kernel
theorem tyX2_ok : ∀ k, k < 10 → parseFieldDescriptor (TX2 k).2.2.1 = some (tyX2 k) := by decide +kernel
def RX3 : String := "LotteryOfLosses$Law"
def TX3 : u_T := fun k => match k with
  | 0 => ("LotteryOfLosses$Law", "lots", "LLotteryOfLosses$Lots;", true)
  | 1 => ("LotteryOfLosses$Law", "steps", "[I", true)
  | 2 => ("LotteryOfLosses$Law", "middles", "[I", true)
  | 3 => ("LotteryOfLosses$Law", "ends", "[I", true)
  | 4 => ("LotteryOfLosses$Law", "size", "I", false)
  | 5 => ("LotteryOfLosses$Law", "lines", "I", false)
  | 6 => ("LotteryOfLosses$Law", "named", "[I", true)
  | 7 => ("LotteryOfLosses$Law", "stack", "[I", true)
  | 8 => ("LotteryOfLosses$Law", "known", "[I", true)
  | _ => ("LotteryOfLosses$Law", "timesChanged", "I", false)
def tyX3 : Nat → FieldType := fun k => match k with
  | 0 => .object "LotteryOfLosses$Lots"
  | 1 => .array .int
  | 2 => .array .int
  | 3 => .array .int
  | 4 => .int
  | 5 => .int
  | 6 => .array .int
  | 7 => .array .int
  | 8 => .array .int
  | _ => .int
abbrev wsX30 : List Cond := u_ws RX3 TX3 10
theorem nmX3 : ∀ a, a < 10 → ∀ b, b < 10 → a ≠ b → (TX3 a).2.1 ≠ (TX3 b).2.1 := by decide +kernel
theorem tyX3_ok : ∀ k, k < 10 → parseFieldDescriptor (TX3 k).2.2.1 = some (tyX3 k) := by decide +kernel
def RX4 : String := "LotteryOfLosses$Lots"
def TX4 : u_T := fun k => match k with
  | 0 => ("LotteryOfLosses$Lots", "loves", "[I", true)
  | 1 => ("LotteryOfLosses$Lots", "thing", "[I", true)
  | 2 => ("LotteryOfLosses$Lots", "holder", "[I", true)
  | 3 => ("LotteryOfLosses$Lots", "blank", "[I", true)
  | 4 => ("LotteryOfLosses$Lots", "lost", "[I", true)
  | 5 => ("LotteryOfLosses$Lots", "size", "I", false)
  | 6 => ("LotteryOfLosses$Lots", "in", "I", false)
  | 7 => ("LotteryOfLosses$Lots", "drawnThisYear", "I", false)
  | _ => ("LotteryOfLosses$Lots", "timesLovesChanged", "I", false)
def tyX4 : Nat → FieldType := fun k => match k with
  | 0 => .array .int
  | 1 => .array .int
  | 2 => .array .int
  | 3 => .array .int
  | 4 => .array .int
  | 5 => .int
  | 6 => .int
  | 7 => .int
  | _ => .int
abbrev wsX40 : List Cond := u_ws RX4 TX4 9
theorem nmX4 : ∀ a, a < 9 → ∀ b, b < 9 → a ≠ b → (TX4 a).2.1 ≠ (TX4 b).2.1 := by decide +kernel
theorem tyX4_ok : ∀ k, k < 9 → parseFieldDescriptor (TX4 k).2.2.1 = some (tyX4 k) := by decide +kernel
def RX5 : String := "LotteryOfLosses$Means"
def TX5 : u_T := fun k => match k with
  | 0 => ("LotteryOfLosses$Means", "lots", "LLotteryOfLosses$Lots;", true)
  | 1 => ("LotteryOfLosses$Means", "rule", "LLotteryOfLosses$Law;", true)
  | 2 => ("LotteryOfLosses$Means", "sets", "[I", true)
  | 3 => ("LotteryOfLosses$Means", "sums", "[I", true)
  | 4 => ("LotteryOfLosses$Means", "bitOf", "[I", true)
  | 5 => ("LotteryOfLosses$Means", "states", "I", false)
  | _ => ("LotteryOfLosses$Means", "held", "I", false)
def tyX5 : Nat → FieldType := fun k => match k with
  | 0 => .object "LotteryOfLosses$Lots"
  | 1 => .object "LotteryOfLosses$Law"
  | 2 => .array .int
  | 3 => .array .int
  | 4 => .array .int
  | 5 => .int
  | _ => .int
abbrev wsX50 : List Cond := u_ws RX5 TX5 7
theorem nmX5 : ∀ a, a < 7 → ∀ b, b < 7 → a ≠ b → (TX5 a).2.1 ≠ (TX5 b).2.1 := by decide +kernel
theorem tyX5_ok : ∀ k, k < 7 → parseFieldDescriptor (TX5 k).2.2.1 = some (tyX5 k) := by decide +kernel
def RX6 : String := "LotteryOfLosses$Plans"
def TX6 : u_T := fun k => match k with
  | 0 => ("LotteryOfLosses$Plans", "lots", "LLotteryOfLosses$Lots;", true)
  | 1 => ("LotteryOfLosses$Plans", "thought", "LLotteryOfLosses$Thought;", true)
  | 2 => ("LotteryOfLosses$Plans", "means", "LLotteryOfLosses$Means;", true)
  | 3 => ("LotteryOfLosses$Plans", "meanSums", "[I", true)
  | 4 => ("LotteryOfLosses$Plans", "worsts", "[I", true)
  | 5 => ("LotteryOfLosses$Plans", "together", "[I", true)
  | 6 => ("LotteryOfLosses$Plans", "inNumbers", "[I", true)
  | 7 => ("LotteryOfLosses$Plans", "keptHolders", "[I", true)
  | 8 => ("LotteryOfLosses$Plans", "shareSums", "[I", true)
  | 9 => ("LotteryOfLosses$Plans", "sharers", "[I", true)
  | 10 => ("LotteryOfLosses$Plans", "shares", "[I", true)
  | 11 => ("LotteryOfLosses$Plans", "wished", "[I", true)
  | 12 => ("LotteryOfLosses$Plans", "leastSum", "I", false)
  | _ => ("LotteryOfLosses$Plans", "swappedSum", "I", false)
def tyX6 : Nat → FieldType := fun k => match k with
  | 0 => .object "LotteryOfLosses$Lots"
  | 1 => .object "LotteryOfLosses$Thought"
  | 2 => .object "LotteryOfLosses$Means"
  | 3 => .array .int
  | 4 => .array .int
  | 5 => .array .int
  | 6 => .array .int
  | 7 => .array .int
  | 8 => .array .int
  | 9 => .array .int
  | 10 => .array .int
  | 11 => .array .int
  | 12 => .int
  | _ => .int
abbrev wsX60 : List Cond := u_ws RX6 TX6 14
theorem nmX6 : ∀ a, a < 14 → ∀ b, b < 14 → a ≠ b → (TX6 a).2.1 ≠ (TX6 b).2.1 := by decide +kernel
theorem tyX6_ok : ∀ k, k < 14 → parseFieldDescriptor (TX6 k).2.2.1 = some (tyX6 k) := by decide +kernel
def RX7 : String := "LotteryOfLosses$Shelves"
def TX7 : u_T := fun k => match k with
  | 0 => ("LotteryOfLosses$Shelves", "holds", "[I", true)
  | 1 => ("LotteryOfLosses$Shelves", "bodies", "[I", true)
  | 2 => ("LotteryOfLosses$Shelves", "sorts", "[I", true)
  | 3 => ("LotteryOfLosses$Shelves", "lengths", "[I", true)
  | _ => ("LotteryOfLosses$Shelves", "elements", "[J", true)
def tyX7 : Nat → FieldType := fun k => match k with
  | 0 => .array .int
  | 1 => .array .int
  | 2 => .array .int
  | 3 => .array .int
  | _ => .array .long
abbrev wsX70 : List Cond := u_ws RX7 TX7 5
theorem nmX7 : ∀ a, a < 5 → ∀ b, b < 5 → a ≠ b → (TX7 a).2.1 ≠ (TX7 b).2.1 := by decide +kernel
theorem tyX7_ok : ∀ k, k < 5 → parseFieldDescriptor (TX7 k).2.2.1 = some (tyX7 k) := by decide +kernel
def RX8 : String := "LotteryOfLosses$Tape"
def TX8 : u_T := fun k => match k with
  | 0 => ("LotteryOfLosses$Tape", "rule", "LLotteryOfLosses$Law;", true)
  | 1 => ("LotteryOfLosses$Tape", "bytes", "[I", true)
  | 2 => ("LotteryOfLosses$Tape", "length", "I", false)
  | 3 => ("LotteryOfLosses$Tape", "place", "I", false)
  | _ => ("LotteryOfLosses$Tape", "writing", "Z", false)
def tyX8 : Nat → FieldType := fun k => match k with
  | 0 => .object "LotteryOfLosses$Law"
  | 1 => .array .int
  | 2 => .int
  | 3 => .int
  | _ => .boolean
abbrev wsX80 : List Cond := u_ws RX8 TX8 5
theorem nmX8 : ∀ a, a < 5 → ∀ b, b < 5 → a ≠ b → (TX8 a).2.1 ≠ (TX8 b).2.1 := by decide +kernel
theorem tyX8_ok : ∀ k, k < 5 → parseFieldDescriptor (TX8 k).2.2.1 = some (tyX8 k) := by decide +kernel
def RX9 : String := "LotteryOfLosses$Thought"
def TX9 : u_T := fun k => match k with
  | 0 => ("LotteryOfLosses$Thought", "lots", "LLotteryOfLosses$Lots;", true)
  | 1 => ("LotteryOfLosses$Thought", "rule", "LLotteryOfLosses$Law;", true)
  | 2 => ("LotteryOfLosses$Thought", "lost", "[I", true)
  | 3 => ("LotteryOfLosses$Thought", "held", "[I", true)
  | 4 => ("LotteryOfLosses$Thought", "loss", "[I", true)
  | 5 => ("LotteryOfLosses$Thought", "in", "I", false)
  | _ => ("LotteryOfLosses$Thought", "drawnThisYear", "I", false)
def tyX9 : Nat → FieldType := fun k => match k with
  | 0 => .object "LotteryOfLosses$Lots"
  | 1 => .object "LotteryOfLosses$Law"
  | 2 => .array .int
  | 3 => .array .int
  | 4 => .array .int
  | 5 => .int
  | _ => .int
abbrev wsX90 : List Cond := u_ws RX9 TX9 7
theorem nmX9 : ∀ a, a < 7 → ∀ b, b < 7 → a ≠ b → (TX9 a).2.1 ≠ (TX9 b).2.1 := by decide +kernel
theorem tyX9_ok : ∀ k, k < 7 → parseFieldDescriptor (TX9 k).2.2.1 = some (tyX9 k) := by decide +kernel
def RX10 : String := "LotteryOfLosses"
def TX10 : u_T := fun k => match k with
  | 0 => ("LotteryOfLosses", "lots", "LLotteryOfLosses$Lots;", true)
  | 1 => ("LotteryOfLosses", "rule", "LLotteryOfLosses$Law;", true)
  | 2 => ("LotteryOfLosses", "tape", "LLotteryOfLosses$Tape;", true)
  | 3 => ("LotteryOfLosses", "thought", "LLotteryOfLosses$Thought;", true)
  | 4 => ("LotteryOfLosses", "means", "LLotteryOfLosses$Means;", true)
  | 5 => ("LotteryOfLosses", "plans", "LLotteryOfLosses$Plans;", true)
  | 6 => ("LotteryOfLosses", "deeds", "LLotteryOfLosses$Deeds;", true)
  | 7 => ("LotteryOfLosses", "changes", "LLotteryOfLosses$Changes;", true)
  | 8 => ("LotteryOfLosses", "acts", "LLotteryOfLosses$Acts;", true)
  | _ => ("LotteryOfLosses", "shelves", "LLotteryOfLosses$Shelves;", true)
def tyX10 : Nat → FieldType := fun k => match k with
  | 0 => .object "LotteryOfLosses$Lots"
  | 1 => .object "LotteryOfLosses$Law"
  | 2 => .object "LotteryOfLosses$Tape"
  | 3 => .object "LotteryOfLosses$Thought"
  | 4 => .object "LotteryOfLosses$Means"
  | 5 => .object "LotteryOfLosses$Plans"
  | 6 => .object "LotteryOfLosses$Deeds"
  | 7 => .object "LotteryOfLosses$Changes"
  | 8 => .object "LotteryOfLosses$Acts"
  | _ => .object "LotteryOfLosses$Shelves"
abbrev wsX100 : List Cond := u_ws RX10 TX10 10
theorem nmX10 : ∀ a, a < 10 → ∀ b, b < 10 → a ≠ b → (TX10 a).2.1 ≠ (TX10 b).2.1 := by decide +kernel
theorem tyX10_ok : ∀ k, k < 10 → parseFieldDescriptor (TX10 k).2.2.1 = some (tyX10 k) := by decide +kernel
def RX11 : String := "LotteryOfLossesModel"
def TX11 : u_T := fun k => match k with
  | 0 => ("LotteryOfLossesModel", "may", "[I", true)
  | 1 => ("LotteryOfLossesModel", "changeAt", "[I", true)
  | 2 => ("LotteryOfLossesModel", "changeWas", "[I", true)
  | 3 => ("LotteryOfLossesModel", "changeIs", "[I", true)
  | 4 => ("LotteryOfLossesModel", "keptMany", "I", false)
  | 5 => ("LotteryOfLossesModel", "done", "I", false)
  | 6 => ("LotteryOfLossesModel", "tickets", "I", false)
  | 7 => ("LotteryOfLossesModel", "inSet", "I", false)
  | 8 => ("LotteryOfLossesModel", "drawnMany", "I", false)
  | 9 => ("LotteryOfLossesModel", "lostOf", "[I", true)
  | 10 => ("LotteryOfLossesModel", "tape", "[I", true)
  | 11 => ("LotteryOfLossesModel", "tapeMany", "I", false)
  | 12 => ("LotteryOfLossesModel", "text", "[I", true)
  | 13 => ("LotteryOfLossesModel", "textMany", "I", false)
  | 14 => ("LotteryOfLossesModel", "base", "I", false)
  | 15 => ("LotteryOfLossesModel", "at", "I", false)
  | 16 => ("LotteryOfLossesModel", "ends", "I", false)
  | 17 => ("LotteryOfLossesModel", "fault", "I", false)
  | 18 => ("LotteryOfLossesModel", "opened", "I", false)
  | 19 => ("LotteryOfLossesModel", "names", "[I", true)
  | 20 => ("LotteryOfLossesModel", "inNow", "I", false)
  | 21 => ("LotteryOfLossesModel", "drawnNow", "I", false)
  | 22 => ("LotteryOfLossesModel", "lostNow", "[I", true)
  | 23 => ("LotteryOfLossesModel", "losses", "[I", true)
  | 24 => ("LotteryOfLossesModel", "holds", "[I", true)
  | 25 => ("LotteryOfLossesModel", "sums", "[J", true)
  | 26 => ("LotteryOfLossesModel", "setMany", "J", false)
  | 27 => ("LotteryOfLossesModel", "hadHolder", "[I", true)
  | 28 => ("LotteryOfLossesModel", "bestHolder", "[I", true)
  | 29 => ("LotteryOfLossesModel", "leastWorst", "J", false)
  | 30 => ("LotteryOfLossesModel", "own", "[I", true)
  | 31 => ("LotteryOfLossesModel", "z", "I", false)
  | 32 => ("LotteryOfLossesModel", "ledDrawn", "I", false)
  | 33 => ("LotteryOfLossesModel", "ledCancelled", "I", false)
  | 34 => ("LotteryOfLossesModel", "ledYears", "I", false)
  | 35 => ("LotteryOfLossesModel", "ledLoss", "[I", true)
  | 36 => ("LotteryOfLossesModel", "isKept", "Z", false)
  | 37 => ("LotteryOfLossesModel", "imageTickets", "I", false)
  | 38 => ("LotteryOfLossesModel", "imageIn", "I", false)
  | 39 => ("LotteryOfLossesModel", "imageDrawn", "I", false)
  | 40 => ("LotteryOfLossesModel", "imageHolder", "[I", true)
  | 41 => ("LotteryOfLossesModel", "imageLost", "[I", true)
  | 42 => ("LotteryOfLossesModel", "imageLoss", "[I", true)
  | 43 => ("LotteryOfLossesModel", "imageLed", "[I", true)
  | 44 => ("LotteryOfLossesModel", "bodies", "I", false)
  | 45 => ("LotteryOfLossesModel", "bodyKind", "[I", true)
  | 46 => ("LotteryOfLossesModel", "trace", "[I", true)
  | 47 => ("LotteryOfLossesModel", "ran", "I", false)
  | 48 => ("LotteryOfLossesModel", "ownKind", "I", false)
  | 49 => ("LotteryOfLossesModel", "ownNumber", "I", false)
  | 50 => ("LotteryOfLossesModel", "shelf", "[I", true)
  | 51 => ("LotteryOfLossesModel", "many", "[I", true)
  | 52 => ("LotteryOfLossesModel", "items", "[J", true)
  | _ => ("LotteryOfLossesModel", "carried", "[J", true)
def tyX11 : Nat → FieldType := fun k => match k with
  | 0 => .array .int
  | 1 => .array .int
  | 2 => .array .int
  | 3 => .array .int
  | 4 => .int
  | 5 => .int
  | 6 => .int
  | 7 => .int
  | 8 => .int
  | 9 => .array .int
  | 10 => .array .int
  | 11 => .int
  | 12 => .array .int
  | 13 => .int
  | 14 => .int
  | 15 => .int
  | 16 => .int
  | 17 => .int
  | 18 => .int
  | 19 => .array .int
  | 20 => .int
  | 21 => .int
  | 22 => .array .int
  | 23 => .array .int
  | 24 => .array .int
  | 25 => .array .long
  | 26 => .long
  | 27 => .array .int
  | 28 => .array .int
  | 29 => .long
  | 30 => .array .int
  | 31 => .int
  | 32 => .int
  | 33 => .int
  | 34 => .int
  | 35 => .array .int
  | 36 => .boolean
  | 37 => .int
  | 38 => .int
  | 39 => .int
  | 40 => .array .int
  | 41 => .array .int
  | 42 => .array .int
  | 43 => .array .int
  | 44 => .int
  | 45 => .array .int
  | 46 => .array .int
  | 47 => .int
  | 48 => .int
  | 49 => .int
  | 50 => .array .int
  | 51 => .array .int
  | 52 => .array .long
  | _ => .array .long
abbrev wsX110 : List Cond := u_ws RX11 TX11 54
theorem nmX11 : ∀ a, a < 54 → ∀ b, b < 54 → a ≠ b → (TX11 a).2.1 ≠ (TX11 b).2.1 := by decide +kernel
theorem tyX11_ok : ∀ k, k < 54 → parseFieldDescriptor (TX11 k).2.2.1 = some (tyX11 k) := by decide +kernel
def RL : String := "LotteryOfLossesLaw"
def RJ6 : String := "java/lang/Integer"
def RJ9 : String := "java/lang/Math"
def RJ0 : String := "java/lang/String"
def RJ1 : String := "java/lang/StringLatin1"
def RJ7 : String := "java/util/Arrays"
abbrev cX0_init : ByteArray := prog_2_method_1_code
def yX0_init : MethodName := ⟨RX0, "<init>", "()V"⟩
abbrev cX0_isKind : ByteArray := prog_2_method_2_code
def yX0_isKind : MethodName := ⟨RX0, "isKind", "(I)Z"⟩
abbrev cX0_isUnder : ByteArray := prog_2_method_3_code
def yX0_isUnder : MethodName := ⟨RX0, "isUnder", "(II)Z"⟩
abbrev cX0_add : ByteArray := prog_2_method_4_code
def yX0_add : MethodName := ⟨RX0, "add", "(I)I"⟩
abbrev cX0_isBody : ByteArray := prog_2_method_5_code
def yX0_isBody : MethodName := ⟨RX0, "isBody", "(I)Z"⟩
abbrev cX0_kindOf : ByteArray := prog_2_method_6_code
def yX0_kindOf : MethodName := ⟨RX0, "kindOf", "(I)I"⟩
abbrev cX0_bodies : ByteArray := prog_2_method_7_code
def yX0_bodies : MethodName := ⟨RX0, "bodies", "()I"⟩
abbrev cX0_howManyRan : ByteArray := prog_2_method_8_code
def yX0_howManyRan : MethodName := ⟨RX0, "howManyRan", "()I"⟩
abbrev cX0_traced : ByteArray := prog_2_method_9_code
def yX0_traced : MethodName := ⟨RX0, "traced", "(I)I"⟩
abbrev cX0_perform : ByteArray := prog_2_method_10_code
def yX0_perform : MethodName := ⟨RX0, "perform", "(III)I"⟩
abbrev cX0_find : ByteArray := prog_2_method_11_code
def yX0_find : MethodName := ⟨RX0, "find", "(IIII)I"⟩
abbrev cX0_run : ByteArray := prog_2_method_12_code
def yX0_run : MethodName := ⟨RX0, "run", "(IIII)I"⟩
abbrev cX1_init : ByteArray := prog_3_method_1_code
def yX1_init : MethodName := ⟨RX1, "<init>", "(LLotteryOfLosses$Lots;)V"⟩
abbrev cX1_mayBeUndone : ByteArray := prog_3_method_2_code
def yX1_mayBeUndone : MethodName := ⟨RX1, "mayBeUndone", "()I"⟩
abbrev cX1_add : ByteArray := prog_3_method_3_code
def yX1_add : MethodName := ⟨RX1, "add", "(IIII)V"⟩
abbrev cX1_forgetOldest : ByteArray := prog_3_method_4_code
def yX1_forgetOldest : MethodName := ⟨RX1, "forgetOldest", "([I)V"⟩
abbrev cX1_takeBack : ByteArray := prog_3_method_5_code
def yX1_takeBack : MethodName := ⟨RX1, "takeBack", "()I"⟩
abbrev cX1_doAgain : ByteArray := prog_3_method_6_code
def yX1_doAgain : MethodName := ⟨RX1, "doAgain", "()I"⟩
abbrev cX2_init : ByteArray := prog_4_method_1_code
def yX2_init : MethodName := ⟨RX2, "<init>", "(LLotteryOfLosses$Lots;LLotteryOfLosses$Thought;)V"⟩
abbrev cX2_drawBy : ByteArray := prog_4_method_2_code
def yX2_drawBy : MethodName := ⟨RX2, "drawBy", "(I)I"⟩
abbrev cX2_cancelBoth : ByteArray := prog_4_method_3_code
def yX2_cancelBoth : MethodName := ⟨RX2, "cancelBoth", "(II)V"⟩
abbrev cX2_beginYear : ByteArray := prog_4_method_4_code
def yX2_beginYear : MethodName := ⟨RX2, "beginYear", "()I"⟩
abbrev cX2_tell : ByteArray := prog_4_method_5_code
def yX2_tell : MethodName := ⟨RX2, "tell", "(I)I"⟩
abbrev cX2_keepImage : ByteArray := prog_4_method_6_code
def yX2_keepImage : MethodName := ⟨RX2, "keepImage", "()I"⟩
abbrev cX2_layImageBack : ByteArray := prog_4_method_7_code
def yX2_layImageBack : MethodName := ⟨RX2, "layImageBack", "()I"⟩
abbrev cX3_init : ByteArray := prog_5_method_1_code
def yX3_init : MethodName := ⟨RX3, "<init>", "(LLotteryOfLosses$Lots;)V"⟩
abbrev cX3_clear : ByteArray := prog_5_method_2_code
def yX3_clear : MethodName := ⟨RX3, "clear", "()V"⟩
abbrev cX3_size : ByteArray := prog_5_method_3_code
def yX3_size : MethodName := ⟨RX3, "size", "()I"⟩
abbrev cX3_add : ByteArray := prog_5_method_4_code
def yX3_add : MethodName := ⟨RX3, "add", "(I)V"⟩
abbrev cX3_endLine : ByteArray := prog_5_method_5_code
def yX3_endLine : MethodName := ⟨RX3, "endLine", "(I)V"⟩
abbrev cX3_lossBy : ByteArray := prog_5_method_6_code
def yX3_lossBy : MethodName := ⟨RX3, "lossBy", "(IIIII)I"⟩
abbrev cX3_run : ByteArray := prog_5_method_7_code
def yX3_run : MethodName := ⟨RX3, "run", "(II)I"⟩
abbrev cX3_joined : ByteArray := prog_5_method_8_code
def yX3_joined : MethodName := ⟨RX3, "joined", "(III)I"⟩
abbrev cX4_init : ByteArray := prog_6_method_1_code
def yX4_init : MethodName := ⟨RX4, "<init>", "()V"⟩
abbrev cX4_add : ByteArray := prog_6_method_2_code
def yX4_add : MethodName := ⟨RX4, "add", "(II)I"⟩
abbrev cX4_size : ByteArray := prog_6_method_3_code
def yX4_size : MethodName := ⟨RX4, "size", "()I"⟩
abbrev cX4_isTicket : ByteArray := prog_6_method_4_code
def yX4_isTicket : MethodName := ⟨RX4, "isTicket", "(I)Z"⟩
abbrev cX4_isIn : ByteArray := prog_6_method_5_code
def yX4_isIn : MethodName := ⟨RX4, "isIn", "(I)Z"⟩
abbrev cX4_areIn : ByteArray := prog_6_method_6_code
def yX4_areIn : MethodName := ⟨RX4, "areIn", "(I)Z"⟩
abbrev cX4_howManyIn : ByteArray := prog_6_method_7_code
def yX4_howManyIn : MethodName := ⟨RX4, "howManyIn", "()I"⟩
abbrev cX4_takeOut : ByteArray := prog_6_method_8_code
def yX4_takeOut : MethodName := ⟨RX4, "takeOut", "(I)V"⟩
abbrev cX4_putIn : ByteArray := prog_6_method_9_code
def yX4_putIn : MethodName := ⟨RX4, "putIn", "(I)V"⟩
abbrev cX4_thingOn : ByteArray := prog_6_method_10_code
def yX4_thingOn : MethodName := ⟨RX4, "thingOn", "(I)I"⟩
abbrev cX4_isBlank : ByteArray := prog_6_method_11_code
def yX4_isBlank : MethodName := ⟨RX4, "isBlank", "(I)Z"⟩
abbrev cX4_holderOf : ByteArray := prog_6_method_12_code
def yX4_holderOf : MethodName := ⟨RX4, "holderOf", "(I)I"⟩
abbrev cX4_hand : ByteArray := prog_6_method_13_code
def yX4_hand : MethodName := ⟨RX4, "hand", "(II)V"⟩
abbrev cX4_isHeldBy : ByteArray := prog_6_method_14_code
def yX4_isHeldBy : MethodName := ⟨RX4, "isHeldBy", "(II)Z"⟩
abbrev cX4_canDraw : ByteArray := prog_6_method_15_code
def yX4_canDraw : MethodName := ⟨RX4, "canDraw", "(I)Z"⟩
abbrev cX4_waysToDraw : ByteArray := prog_6_method_16_code
def yX4_waysToDraw : MethodName := ⟨RX4, "waysToDraw", "(I)I"⟩
abbrev cX4_isDrawOf : ByteArray := prog_6_method_17_code
def yX4_isDrawOf : MethodName := ⟨RX4, "isDrawOf", "(II)Z"⟩
abbrev cX4_heldBy : ByteArray := prog_6_method_18_code
def yX4_heldBy : MethodName := ⟨RX4, "heldBy", "(I)I"⟩
abbrev cX4_lostBy : ByteArray := prog_6_method_19_code
def yX4_lostBy : MethodName := ⟨RX4, "lostBy", "(I)I"⟩
abbrev cX4_hasLost : ByteArray := prog_6_method_20_code
def yX4_hasLost : MethodName := ⟨RX4, "hasLost", "(II)Z"⟩
abbrev cX4_threatens : ByteArray := prog_6_method_21_code
def yX4_threatens : MethodName := ⟨RX4, "threatens", "(II)Z"⟩
abbrev cX4_threatsTo : ByteArray := prog_6_method_22_code
def yX4_threatsTo : MethodName := ⟨RX4, "threatsTo", "(II)I"⟩
abbrev cX4_cancelEachOther : ByteArray := prog_6_method_23_code
def yX4_cancelEachOther : MethodName := ⟨RX4, "cancelEachOther", "(II)Z"⟩
abbrev cX4_love : ByteArray := prog_6_method_24_code
def yX4_love : MethodName := ⟨RX4, "love", "(II)I"⟩
abbrev cX4_tells : ByteArray := prog_6_method_25_code
def yX4_tells : MethodName := ⟨RX4, "tells", "(II)Z"⟩
abbrev cX4_allows : ByteArray := prog_6_method_26_code
def yX4_allows : MethodName := ⟨RX4, "allows", "(II)Z"⟩
abbrev cX4_told : ByteArray := prog_6_method_27_code
def yX4_told : MethodName := ⟨RX4, "told", "(II)I"⟩
abbrev cX4_tell : ByteArray := prog_6_method_28_code
def yX4_tell : MethodName := ⟨RX4, "tell", "(III)V"⟩
abbrev cX5_init : ByteArray := prog_7_method_1_code
def yX5_init : MethodName := ⟨RX5, "<init>", "(LLotteryOfLosses$Lots;LLotteryOfLosses$Law;)V"⟩
abbrev cX5_sumOfAll : ByteArray := prog_7_method_2_code
def yX5_sumOfAll : MethodName := ⟨RX5, "sumOfAll", "(I)I"⟩
abbrev cX5_sumOf : ByteArray := prog_7_method_3_code
def yX5_sumOf : MethodName := ⟨RX5, "sumOf", "(II)I"⟩
abbrev cX5_begin : ByteArray := prog_7_method_4_code
def yX5_begin : MethodName := ⟨RX5, "begin", "(II)V"⟩
abbrev cX5_drawNext : ByteArray := prog_7_method_5_code
def yX5_drawNext : MethodName := ⟨RX5, "drawNext", "(III)V"⟩
abbrev cX6_init : ByteArray := prog_8_method_1_code
def yX6_init : MethodName := ⟨RX6, "<init>", "(LLotteryOfLosses$Lots;LLotteryOfLosses$Thought;LLotteryOfLosses$Means;)V"⟩
abbrev cX6_leastSum : ByteArray := prog_8_method_2_code
def yX6_leastSum : MethodName := ⟨RX6, "leastSum", "()I"⟩
abbrev cX6_reliefBy : ByteArray := prog_8_method_3_code
def yX6_reliefBy : MethodName := ⟨RX6, "reliefBy", "(II)I"⟩
abbrev cX6_bestReceiver : ByteArray := prog_8_method_4_code
def yX6_bestReceiver : MethodName := ⟨RX6, "bestReceiver", "(II)I"⟩
abbrev cX6_bestSwap : ByteArray := prog_8_method_5_code
def yX6_bestSwap : MethodName := ⟨RX6, "bestSwap", "(I)I"⟩
abbrev cX6_canSwap : ByteArray := prog_8_method_6_code
def yX6_canSwap : MethodName := ⟨RX6, "canSwap", "(II)Z"⟩
abbrev cX6_gainBySwap : ByteArray := prog_8_method_7_code
def yX6_gainBySwap : MethodName := ⟨RX6, "gainBySwap", "(III)Z"⟩
abbrev cX6_bestCancel : ByteArray := prog_8_method_8_code
def yX6_bestCancel : MethodName := ⟨RX6, "bestCancel", "(I)I"⟩
abbrev cX6_shareOut : ByteArray := prog_8_method_9_code
def yX6_shareOut : MethodName := ⟨RX6, "shareOut", "(II)V"⟩
abbrev cX6_sharerOf : ByteArray := prog_8_method_10_code
def yX6_sharerOf : MethodName := ⟨RX6, "sharerOf", "(I)I"⟩
abbrev cX6_numberThoseIn : ByteArray := prog_8_method_11_code
def yX6_numberThoseIn : MethodName := ⟨RX6, "numberThoseIn", "()I"⟩
abbrev cX6_weighShares : ByteArray := prog_8_method_12_code
def yX6_weighShares : MethodName := ⟨RX6, "weighShares", "(III)V"⟩
abbrev cX6_greatestOf : ByteArray := prog_8_method_13_code
def yX6_greatestOf : MethodName := ⟨RX6, "greatestOf", "(III)I"⟩
abbrev cX6_bestSyndicate : ByteArray := prog_8_method_14_code
def yX6_bestSyndicate : MethodName := ⟨RX6, "bestSyndicate", "(I)I"⟩
abbrev cX6_allStay : ByteArray := prog_8_method_15_code
def yX6_allStay : MethodName := ⟨RX6, "allStay", "(II)Z"⟩
abbrev cX6_findWorsts : ByteArray := prog_8_method_16_code
def yX6_findWorsts : MethodName := ⟨RX6, "findWorsts", "(I)V"⟩
abbrev cX6_addUp : ByteArray := prog_8_method_17_code
def yX6_addUp : MethodName := ⟨RX6, "addUp", "()V"⟩
abbrev cX6_giftAhead : ByteArray := prog_8_method_18_code
def yX6_giftAhead : MethodName := ⟨RX6, "giftAhead", "(III)I"⟩
abbrev cX6_ringOf : ByteArray := prog_8_method_19_code
def yX6_ringOf : MethodName := ⟨RX6, "ringOf", "(I)I"⟩
abbrev cX6_wishOf : ByteArray := prog_8_method_20_code
def yX6_wishOf : MethodName := ⟨RX6, "wishOf", "(I)I"⟩
abbrev cX6_wishedAway : ByteArray := prog_8_method_21_code
def yX6_wishedAway : MethodName := ⟨RX6, "wishedAway", "(I)I"⟩
abbrev cX6_wantedBy : ByteArray := prog_8_method_22_code
def yX6_wantedBy : MethodName := ⟨RX6, "wantedBy", "(II)I"⟩
abbrev cX6_isLovedMore : ByteArray := prog_8_method_23_code
def yX6_isLovedMore : MethodName := ⟨RX6, "isLovedMore", "(III)Z"⟩
abbrev cX7_init : ByteArray := prog_9_method_1_code
def yX7_init : MethodName := ⟨RX7, "<init>", "()V"⟩
abbrev cX7_holdsNothing : ByteArray := prog_9_method_2_code
def yX7_holdsNothing : MethodName := ⟨RX7, "holdsNothing", "(I)Z"⟩
abbrev cX7_holdsRow : ByteArray := prog_9_method_3_code
def yX7_holdsRow : MethodName := ⟨RX7, "holdsRow", "(I)Z"⟩
abbrev cX7_holdsBytes : ByteArray := prog_9_method_4_code
def yX7_holdsBytes : MethodName := ⟨RX7, "holdsBytes", "(I)Z"⟩
abbrev cX7_holdRowsOfOneSort : ByteArray := prog_9_method_5_code
def yX7_holdRowsOfOneSort : MethodName := ⟨RX7, "holdRowsOfOneSort", "(II)Z"⟩
abbrev cX7_bodyOn : ByteArray := prog_9_method_6_code
def yX7_bodyOn : MethodName := ⟨RX7, "bodyOn", "(I)I"⟩
abbrev cX7_lengthOf : ByteArray := prog_9_method_7_code
def yX7_lengthOf : MethodName := ⟨RX7, "lengthOf", "(I)I"⟩
abbrev cX7_hasPlaces : ByteArray := prog_9_method_8_code
def yX7_hasPlaces : MethodName := ⟨RX7, "hasPlaces", "(IJI)Z"⟩
abbrev cX7_holdBody : ByteArray := prog_9_method_9_code
def yX7_holdBody : MethodName := ⟨RX7, "holdBody", "(II)V"⟩
abbrev cX7_holdRow : ByteArray := prog_9_method_10_code
def yX7_holdRow : MethodName := ⟨RX7, "holdRow", "(III)V"⟩
abbrev cX7_at : ByteArray := prog_9_method_11_code
def yX7_at : MethodName := ⟨RX7, "at", "(IJ)J"⟩
abbrev cX7_store : ByteArray := prog_9_method_12_code
def yX7_store : MethodName := ⟨RX7, "store", "(IIJ)V"⟩
abbrev cX7_kept : ByteArray := prog_9_method_13_code
def yX7_kept : MethodName := ⟨RX7, "kept", "(IJ)J"⟩
abbrev cX7_move : ByteArray := prog_9_method_14_code
def yX7_move : MethodName := ⟨RX7, "move", "(IIIII)V"⟩
abbrev cX8_init : ByteArray := prog_10_method_1_code
def yX8_init : MethodName := ⟨RX8, "<init>", "(LLotteryOfLosses$Law;)V"⟩
abbrev cX8_length : ByteArray := prog_10_method_2_code
def yX8_length : MethodName := ⟨RX8, "length", "()I"⟩
abbrev cX8_add : ByteArray := prog_10_method_3_code
def yX8_add : MethodName := ⟨RX8, "add", "(I)I"⟩
abbrev cX8_becomesLaw : ByteArray := prog_10_method_4_code
def yX8_becomesLaw : MethodName := ⟨RX8, "becomesLaw", "()I"⟩
abbrev cX8_text : ByteArray := prog_10_method_5_code
def yX8_text : MethodName := ⟨RX8, "text", "()Z"⟩
abbrev cX8_line : ByteArray := prog_10_method_6_code
def yX8_line : MethodName := ⟨RX8, "line", "()Z"⟩
abbrev cX8_chain : ByteArray := prog_10_method_7_code
def yX8_chain : MethodName := ⟨RX8, "chain", "(II)Z"⟩
abbrev cX8_signsOf : ByteArray := prog_10_method_8_code
def yX8_signsOf : MethodName := ⟨RX8, "signsOf", "(I)Ljava/lang/String;"⟩
abbrev cX8_operand : ByteArray := prog_10_method_9_code
def yX8_operand : MethodName := ⟨RX8, "operand", "(I)Z"⟩
abbrev cX8_number : ByteArray := prog_10_method_10_code
def yX8_number : MethodName := ⟨RX8, "number", "()I"⟩
abbrev cX8_isDigitNext : ByteArray := prog_10_method_11_code
def yX8_isDigitNext : MethodName := ⟨RX8, "isDigitNext", "()Z"⟩
abbrev cX8_took : ByteArray := prog_10_method_12_code
def yX8_took : MethodName := ⟨RX8, "took", "(Ljava/lang/String;)I"⟩
abbrev cX8_write : ByteArray := prog_10_method_13_code
def yX8_write : MethodName := ⟨RX8, "write", "(I)V"⟩
abbrev cX9_init : ByteArray := prog_11_method_1_code
def yX9_init : MethodName := ⟨RX9, "<init>", "(LLotteryOfLosses$Lots;LLotteryOfLosses$Law;)V"⟩
abbrev cX9_begin : ByteArray := prog_11_method_2_code
def yX9_begin : MethodName := ⟨RX9, "begin", "()V"⟩
abbrev cX9_lossOf : ByteArray := prog_11_method_3_code
def yX9_lossOf : MethodName := ⟨RX9, "lossOf", "(I)I"⟩
abbrev cX9_lossOfAll : ByteArray := prog_11_method_4_code
def yX9_lossOfAll : MethodName := ⟨RX9, "lossOfAll", "()I"⟩
abbrev cX9_fall : ByteArray := prog_11_method_5_code
def yX9_fall : MethodName := ⟨RX9, "fall", "(I)V"⟩
abbrev cX9_fallAlone : ByteArray := prog_11_method_6_code
def yX9_fallAlone : MethodName := ⟨RX9, "fallAlone", "(I)V"⟩
abbrev cX9_fallTogether : ByteArray := prog_11_method_7_code
def yX9_fallTogether : MethodName := ⟨RX9, "fallTogether", "(I)V"⟩
abbrev cX9_lossBySet : ByteArray := prog_11_method_8_code
def yX9_lossBySet : MethodName := ⟨RX9, "lossBySet", "(II)I"⟩
abbrev cX9_utmostSet : ByteArray := prog_11_method_9_code
def yX9_utmostSet : MethodName := ⟨RX9, "utmostSet", "(IIZ)I"⟩
abbrev cX9_setsAbove : ByteArray := prog_11_method_10_code
def yX9_setsAbove : MethodName := ⟨RX9, "setsAbove", "(III)I"⟩
abbrev cX9_see : ByteArray := prog_11_method_11_code
def yX9_see : MethodName := ⟨RX9, "see", "(LLotteryOfLosses$Shelves;I)I"⟩
abbrev cX9_lossByYears : ByteArray := prog_11_method_12_code
def yX9_lossByYears : MethodName := ⟨RX9, "lossByYears", "(IIII)I"⟩
abbrev cX9_pick : ByteArray := prog_11_method_13_code
def yX9_pick : MethodName := ⟨RX9, "pick", "(I)I"⟩
abbrev cX10_init : ByteArray := prog_1_method_1_code
def yX10_init : MethodName := ⟨RX10, "<init>", "()V"⟩
abbrev cX10_ticket : ByteArray := prog_1_method_2_code
def yX10_ticket : MethodName := ⟨RX10, "ticket", "(II)I"⟩
abbrev cX10_tickets : ByteArray := prog_1_method_3_code
def yX10_tickets : MethodName := ⟨RX10, "tickets", "(III)I"⟩
abbrev cX10_mend : ByteArray := prog_1_method_4_code
def yX10_mend : MethodName := ⟨RX10, "mend", "(III)I"⟩
abbrev cX10_of : ByteArray := prog_1_method_5_code
def yX10_of : MethodName := ⟨RX10, "of", "(II)I"⟩
abbrev cX10_feed : ByteArray := prog_1_method_6_code
def yX10_feed : MethodName := ⟨RX10, "feed", "(I)I"⟩
abbrev cX10_law : ByteArray := prog_1_method_7_code
def yX10_law : MethodName := ⟨RX10, "law", "()I"⟩
abbrev cX10_loss : ByteArray := prog_1_method_8_code
def yX10_loss : MethodName := ⟨RX10, "loss", "(II)I"⟩
abbrev cX10_mean : ByteArray := prog_1_method_9_code
def yX10_mean : MethodName := ⟨RX10, "mean", "(III)J"⟩
abbrev cX10_worst : ByteArray := prog_1_method_10_code
def yX10_worst : MethodName := ⟨RX10, "worst", "(III)I"⟩
abbrev cX10_more : ByteArray := prog_1_method_11_code
def yX10_more : MethodName := ⟨RX10, "more", "(III)J"⟩
abbrev cX10_keeps : ByteArray := prog_1_method_12_code
def yX10_keeps : MethodName := ⟨RX10, "keeps", "(III)J"⟩
abbrev cX10_rid : ByteArray := prog_1_method_13_code
def yX10_rid : MethodName := ⟨RX10, "rid", "(III)J"⟩
abbrev cX10_given : ByteArray := prog_1_method_14_code
def yX10_given : MethodName := ⟨RX10, "given", "(III)J"⟩
abbrev cX10_swap : ByteArray := prog_1_method_15_code
def yX10_swap : MethodName := ⟨RX10, "swap", "(I)I"⟩
abbrev cX10_cancel : ByteArray := prog_1_method_16_code
def yX10_cancel : MethodName := ⟨RX10, "cancel", "(I)I"⟩
abbrev cX10_fairest : ByteArray := prog_1_method_17_code
def yX10_fairest : MethodName := ⟨RX10, "fairest", "(II)J"⟩
abbrev cX10_syndicate : ByteArray := prog_1_method_18_code
def yX10_syndicate : MethodName := ⟨RX10, "syndicate", "(I)I"⟩
abbrev cX10_forged : ByteArray := prog_1_method_19_code
def yX10_forged : MethodName := ⟨RX10, "forged", "(III)J"⟩
abbrev cX10_doubt : ByteArray := prog_1_method_20_code
def yX10_doubt : MethodName := ⟨RX10, "doubt", "(II)I"⟩
abbrev cX10_odds : ByteArray := prog_1_method_21_code
def yX10_odds : MethodName := ⟨RX10, "odds", "(III)J"⟩
abbrev cX10_ahead : ByteArray := prog_1_method_22_code
def yX10_ahead : MethodName := ⟨RX10, "ahead", "(III)I"⟩
abbrev cX10_ring : ByteArray := prog_1_method_23_code
def yX10_ring : MethodName := ⟨RX10, "ring", "(II)I"⟩
abbrev cX10_judge : ByteArray := prog_1_method_24_code
def yX10_judge : MethodName := ⟨RX10, "judge", "(I)I"⟩
abbrev cX10_lost : ByteArray := prog_1_method_25_code
def yX10_lost : MethodName := ⟨RX10, "lost", "(II)I"⟩
abbrev cX10_whose : ByteArray := prog_1_method_26_code
def yX10_whose : MethodName := ⟨RX10, "whose", "(III)I"⟩
abbrev cX10_drawn : ByteArray := prog_1_method_27_code
def yX10_drawn : MethodName := ⟨RX10, "drawn", "(III)I"⟩
abbrev cX10_draw : ByteArray := prog_1_method_28_code
def yX10_draw : MethodName := ⟨RX10, "draw", "(I)I"⟩
abbrev cX10_give : ByteArray := prog_1_method_29_code
def yX10_give : MethodName := ⟨RX10, "give", "(II)I"⟩
abbrev cX10_cancels : ByteArray := prog_1_method_30_code
def yX10_cancels : MethodName := ⟨RX10, "cancels", "(I)I"⟩
abbrev cX10_year : ByteArray := prog_1_method_31_code
def yX10_year : MethodName := ⟨RX10, "year", "()I"⟩
abbrev cX10_led : ByteArray := prog_1_method_32_code
def yX10_led : MethodName := ⟨RX10, "led", "(I)I"⟩
abbrev cX10_image : ByteArray := prog_1_method_33_code
def yX10_image : MethodName := ⟨RX10, "image", "()I"⟩
abbrev cX10_back : ByteArray := prog_1_method_34_code
def yX10_back : MethodName := ⟨RX10, "back", "()I"⟩
abbrev cX10_undo : ByteArray := prog_1_method_35_code
def yX10_undo : MethodName := ⟨RX10, "undo", "()I"⟩
abbrev cX10_redo : ByteArray := prog_1_method_36_code
def yX10_redo : MethodName := ⟨RX10, "redo", "()I"⟩
abbrev cX10_body : ByteArray := prog_1_method_37_code
def yX10_body : MethodName := ⟨RX10, "body", "(I)I"⟩
abbrev cX10_act : ByteArray := prog_1_method_38_code
def yX10_act : MethodName := ⟨RX10, "act", "(III)I"⟩
abbrev cX10_trace : ByteArray := prog_1_method_39_code
def yX10_trace : MethodName := ⟨RX10, "trace", "(I)I"⟩
abbrev cX10_keep : ByteArray := prog_1_method_40_code
def yX10_keep : MethodName := ⟨RX10, "keep", "(II)I"⟩
abbrev cX10_row : ByteArray := prog_1_method_41_code
def yX10_row : MethodName := ⟨RX10, "row", "(III)I"⟩
abbrev cX10_put : ByteArray := prog_1_method_42_code
def yX10_put : MethodName := ⟨RX10, "put", "(IIJ)I"⟩
abbrev cX10_element : ByteArray := prog_1_method_43_code
def yX10_element : MethodName := ⟨RX10, "element", "(II)J"⟩
abbrev cX10_shift : ByteArray := prog_1_method_44_code
def yX10_shift : MethodName := ⟨RX10, "shift", "(IIIII)I"⟩
abbrev cX10_taken : ByteArray := prog_1_method_45_code
def yX10_taken : MethodName := ⟨RX10, "taken", "(II)I"⟩
abbrev cX10_count : ByteArray := prog_1_method_46_code
def yX10_count : MethodName := ⟨RX10, "count", "(I)I"⟩
abbrev cX10_isPerson : ByteArray := prog_1_method_47_code
def yX10_isPerson : MethodName := ⟨RX10, "isPerson", "(I)Z"⟩
abbrev cX10_isHolder : ByteArray := prog_1_method_48_code
def yX10_isHolder : MethodName := ⟨RX10, "isHolder", "(I)Z"⟩
abbrev cX10_isThing : ByteArray := prog_1_method_49_code
def yX10_isThing : MethodName := ⟨RX10, "isThing", "(I)Z"⟩
abbrev cX10_isLove : ByteArray := prog_1_method_50_code
def yX10_isLove : MethodName := ⟨RX10, "isLove", "(I)Z"⟩
abbrev cX10_isShelf : ByteArray := prog_1_method_51_code
def yX10_isShelf : MethodName := ⟨RX10, "isShelf", "(I)Z"⟩
abbrev cX10_refusalOfBytes : ByteArray := prog_1_method_52_code
def yX10_refusalOfBytes : MethodName := ⟨RX10, "refusalOfBytes", "(I)I"⟩
abbrev cX10_refusalOfPlaces : ByteArray := prog_1_method_53_code
def yX10_refusalOfPlaces : MethodName := ⟨RX10, "refusalOfPlaces", "(III)I"⟩
abbrev cX10_whoMayHold : ByteArray := prog_1_method_54_code
def yX10_whoMayHold : MethodName := ⟨RX10, "whoMayHold", "(IIII)I"⟩
abbrev cX10_ways : ByteArray := prog_1_method_55_code
def yX10_ways : MethodName := ⟨RX10, "ways", "(II)I"⟩
abbrev cX10_fraction : ByteArray := prog_1_method_56_code
def yX10_fraction : MethodName := ⟨RX10, "fraction", "(III)J"⟩
abbrev cX10_greatestDivisor : ByteArray := prog_1_method_57_code
def yX10_greatestDivisor : MethodName := ⟨RX10, "greatestDivisor", "(II)I"⟩
abbrev cX10_nextSeed : ByteArray := prog_1_method_58_code
def yX10_nextSeed : MethodName := ⟨RX10, "nextSeed", "(I)I"⟩
abbrev cX11_within : ByteArray := prog_13_method_1_code
def yX11_within : MethodName := ⟨RX11, "within", "(JJJ)Z"⟩
abbrev cX11_isIn : ByteArray := prog_13_method_2_code
def yX11_isIn : MethodName := ⟨RX11, "isIn", "(II)Z"⟩
abbrev cX11_bitsOf : ByteArray := prog_13_method_3_code
def yX11_bitsOf : MethodName := ⟨RX11, "bitsOf", "(I)I"⟩
abbrev cX11_init : ByteArray := prog_13_method_4_code
def yX11_init : MethodName := ⟨RX11, "<init>", "()V"⟩
abbrev cX11_becomes : ByteArray := prog_13_method_5_code
def yX11_becomes : MethodName := ⟨RX11, "becomes", "(II)I"⟩
abbrev cX11_undo : ByteArray := prog_13_method_6_code
def yX11_undo : MethodName := ⟨RX11, "undo", "()I"⟩
abbrev cX11_redo : ByteArray := prog_13_method_7_code
def yX11_redo : MethodName := ⟨RX11, "redo", "()I"⟩
abbrev cX11_isTicket : ByteArray := prog_13_method_8_code
def yX11_isTicket : MethodName := ⟨RX11, "isTicket", "(J)Z"⟩
abbrev cX11_isOne : ByteArray := prog_13_method_9_code
def yX11_isOne : MethodName := ⟨RX11, "isOne", "(J)Z"⟩
abbrev cX11_isThing : ByteArray := prog_13_method_10_code
def yX11_isThing : MethodName := ⟨RX11, "isThing", "(J)Z"⟩
abbrev cX11_thingOf : ByteArray := prog_13_method_11_code
def yX11_thingOf : MethodName := ⟨RX11, "thingOf", "(I)I"⟩
abbrev cX11_holderOf : ByteArray := prog_13_method_12_code
def yX11_holderOf : MethodName := ⟨RX11, "holderOf", "(I)I"⟩
abbrev cX11_isBlank : ByteArray := prog_13_method_13_code
def yX11_isBlank : MethodName := ⟨RX11, "isBlank", "(I)Z"⟩
abbrev cX11_lovesOf : ByteArray := prog_13_method_14_code
def yX11_lovesOf : MethodName := ⟨RX11, "lovesOf", "(II)I"⟩
abbrev cX11_mayCome : ByteArray := prog_13_method_15_code
def yX11_mayCome : MethodName := ⟨RX11, "mayCome", "(JJ)Z"⟩
abbrev cX11_adds : ByteArray := prog_13_method_16_code
def yX11_adds : MethodName := ⟨RX11, "adds", "(II)V"⟩
abbrev cX11_ticket : ByteArray := prog_13_method_17_code
def yX11_ticket : MethodName := ⟨RX11, "ticket", "(II)I"⟩
abbrev cX11_tickets : ByteArray := prog_13_method_18_code
def yX11_tickets : MethodName := ⟨RX11, "tickets", "(III)I"⟩
abbrev cX11_placeOf : ByteArray := prog_13_method_19_code
def yX11_placeOf : MethodName := ⟨RX11, "placeOf", "(II)I"⟩
abbrev cX11_mayBecome : ByteArray := prog_13_method_20_code
def yX11_mayBecome : MethodName := ⟨RX11, "mayBecome", "(II)Z"⟩
abbrev cX11_mend : ByteArray := prog_13_method_21_code
def yX11_mend : MethodName := ⟨RX11, "mend", "(III)I"⟩
abbrev cX11_of : ByteArray := prog_13_method_22_code
def yX11_of : MethodName := ⟨RX11, "of", "(II)I"⟩
abbrev cX11_feed : ByteArray := prog_13_method_23_code
def yX11_feed : MethodName := ⟨RX11, "feed", "(I)I"⟩
abbrev cX11_byteAt : ByteArray := prog_13_method_24_code
def yX11_byteAt : MethodName := ⟨RX11, "byteAt", "()I"⟩
abbrev cX11_wrong : ByteArray := prog_13_method_25_code
def yX11_wrong : MethodName := ⟨RX11, "wrong", "()I"⟩
abbrev cX11_takes : ByteArray := prog_13_method_26_code
def yX11_takes : MethodName := ⟨RX11, "takes", "(I)Z"⟩
abbrev cX11_either : ByteArray := prog_13_method_27_code
def yX11_either : MethodName := ⟨RX11, "either", "()I"⟩
abbrev cX11_both : ByteArray := prog_13_method_28_code
def yX11_both : MethodName := ⟨RX11, "both", "()I"⟩
abbrev cX11_compared : ByteArray := prog_13_method_29_code
def yX11_compared : MethodName := ⟨RX11, "compared", "()I"⟩
abbrev cX11_sums : ByteArray := prog_13_method_30_code
def yX11_sums : MethodName := ⟨RX11, "sums", "()I"⟩
abbrev cX11_product : ByteArray := prog_13_method_31_code
def yX11_product : MethodName := ⟨RX11, "product", "()I"⟩
abbrev cX11_nameOf : ByteArray := prog_13_method_32_code
def yX11_nameOf : MethodName := ⟨RX11, "nameOf", "(I)I"⟩
abbrev cX11_one : ByteArray := prog_13_method_33_code
def yX11_one : MethodName := ⟨RX11, "one", "()I"⟩
abbrev cX11_workOut : ByteArray := prog_13_method_34_code
def yX11_workOut : MethodName := ⟨RX11, "workOut", "(II)I"⟩
abbrev cX11_law : ByteArray := prog_13_method_35_code
def yX11_law : MethodName := ⟨RX11, "law", "()I"⟩
abbrev cX11_begins1 : ByteArray := prog_13_method_36_code
def yX11_begins1 : MethodName := ⟨RX11, "begins1", "()V"⟩
abbrev cX11_asksHolds : ByteArray := prog_13_method_37_code
def yX11_asksHolds : MethodName := ⟨RX11, "asksHolds", "()V"⟩
abbrev cX11_lossBy : ByteArray := prog_13_method_38_code
def yX11_lossBy : MethodName := ⟨RX11, "lossBy", "(II)I"⟩
abbrev cX11_isDrawn : ByteArray := prog_13_method_39_code
def yX11_isDrawn : MethodName := ⟨RX11, "isDrawn", "(I)V"⟩
abbrev cX11_draws : ByteArray := prog_13_method_40_code
def yX11_draws : MethodName := ⟨RX11, "draws", "(II)V"⟩
abbrev cX11_areIn : ByteArray := prog_13_method_41_code
def yX11_areIn : MethodName := ⟨RX11, "areIn", "(I)Z"⟩
abbrev cX11_loss : ByteArray := prog_13_method_42_code
def yX11_loss : MethodName := ⟨RX11, "loss", "(II)I"⟩
abbrev cX11_isM : ByteArray := prog_13_method_43_code
def yX11_isM : MethodName := ⟨RX11, "isM", "(I)Z"⟩
abbrev cX11_fewer : ByteArray := prog_13_method_44_code
def yX11_fewer : MethodName := ⟨RX11, "fewer", "(II)I"⟩
abbrev cX11_ways : ByteArray := prog_13_method_45_code
def yX11_ways : MethodName := ⟨RX11, "ways", "(II)J"⟩
abbrev cX11_sumsOver : ByteArray := prog_13_method_46_code
def yX11_sumsOver : MethodName := ⟨RX11, "sumsOver", "(II)V"⟩
abbrev cX11_allSums : ByteArray := prog_13_method_47_code
def yX11_allSums : MethodName := ⟨RX11, "allSums", "()J"⟩
abbrev cX11_commonOf : ByteArray := prog_13_method_48_code
def yX11_commonOf : MethodName := ⟨RX11, "commonOf", "(JJ)J"⟩
abbrev cX11_partOf : ByteArray := prog_13_method_49_code
def yX11_partOf : MethodName := ⟨RX11, "partOf", "(JJI)J"⟩
abbrev cX11_isPart : ByteArray := prog_13_method_50_code
def yX11_isPart : MethodName := ⟨RX11, "isPart", "(I)Z"⟩
abbrev cX11_mean : ByteArray := prog_13_method_51_code
def yX11_mean : MethodName := ⟨RX11, "mean", "(III)J"⟩
abbrev cX11_worst : ByteArray := prog_13_method_52_code
def yX11_worst : MethodName := ⟨RX11, "worst", "(III)I"⟩
abbrev cX11_more : ByteArray := prog_13_method_53_code
def yX11_more : MethodName := ⟨RX11, "more", "(III)J"⟩
abbrev cX11_keeps : ByteArray := prog_13_method_54_code
def yX11_keeps : MethodName := ⟨RX11, "keeps", "(III)J"⟩
abbrev cX11_holderAt : ByteArray := prog_13_method_55_code
def yX11_holderAt : MethodName := ⟨RX11, "holderAt", "(I)I"⟩
abbrev cX11_rid : ByteArray := prog_13_method_56_code
def yX11_rid : MethodName := ⟨RX11, "rid", "(III)J"⟩
abbrev cX11_given : ByteArray := prog_13_method_57_code
def yX11_given : MethodName := ⟨RX11, "given", "(III)J"⟩
abbrev cX11_swap : ByteArray := prog_13_method_58_code
def yX11_swap : MethodName := ⟨RX11, "swap", "(I)I"⟩
abbrev cX11_areSuch : ByteArray := prog_13_method_59_code
def yX11_areSuch : MethodName := ⟨RX11, "areSuch", "(II)Z"⟩
abbrev cX11_cancel : ByteArray := prog_13_method_60_code
def yX11_cancel : MethodName := ⟨RX11, "cancel", "(I)I"⟩
abbrev cX11_givesOn : ByteArray := prog_13_method_61_code
def yX11_givesOn : MethodName := ⟨RX11, "givesOn", "(III)V"⟩
abbrev cX11_fairest : ByteArray := prog_13_method_62_code
def yX11_fairest : MethodName := ⟨RX11, "fairest", "(II)J"⟩
abbrev cX11_syndicate : ByteArray := prog_13_method_63_code
def yX11_syndicate : MethodName := ⟨RX11, "syndicate", "(I)I"⟩
abbrev cX11_sharedWorst : ByteArray := prog_13_method_64_code
def yX11_sharedWorst : MethodName := ⟨RX11, "sharedWorst", "(II)I"⟩
abbrev cX11_heldBy : ByteArray := prog_13_method_65_code
def yX11_heldBy : MethodName := ⟨RX11, "heldBy", "(I)I"⟩
abbrev cX11_forged : ByteArray := prog_13_method_66_code
def yX11_forged : MethodName := ⟨RX11, "forged", "(III)J"⟩
abbrev cX11_doubt : ByteArray := prog_13_method_67_code
def yX11_doubt : MethodName := ⟨RX11, "doubt", "(II)I"⟩
abbrev cX11_odds : ByteArray := prog_13_method_68_code
def yX11_odds : MethodName := ⟨RX11, "odds", "(III)J"⟩
abbrev cX11_ahead : ByteArray := prog_13_method_69_code
def yX11_ahead : MethodName := ⟨RX11, "ahead", "(III)I"⟩
abbrev cX11_wishedBy : ByteArray := prog_13_method_70_code
def yX11_wishedBy : MethodName := ⟨RX11, "wishedBy", "(I)I"⟩
abbrev cX11_takesFrom : ByteArray := prog_13_method_71_code
def yX11_takesFrom : MethodName := ⟨RX11, "takesFrom", "(I)I"⟩
abbrev cX11_ring : ByteArray := prog_13_method_72_code
def yX11_ring : MethodName := ⟨RX11, "ring", "(II)I"⟩
abbrev cX11_bytesIs : ByteArray := prog_13_method_73_code
def yX11_bytesIs : MethodName := ⟨RX11, "bytesIs", "(I)I"⟩
abbrev cX11_drawsOne : ByteArray := prog_13_method_74_code
def yX11_drawsOne : MethodName := ⟨RX11, "drawsOne", "(J)Z"⟩
abbrev cX11_drawsRow : ByteArray := prog_13_method_75_code
def yX11_drawsRow : MethodName := ⟨RX11, "drawsRow", "(I)I"⟩
abbrev cX11_judge : ByteArray := prog_13_method_76_code
def yX11_judge : MethodName := ⟨RX11, "judge", "(I)I"⟩
abbrev cX11_lost : ByteArray := prog_13_method_77_code
def yX11_lost : MethodName := ⟨RX11, "lost", "(II)I"⟩
abbrev cX11_whose : ByteArray := prog_13_method_78_code
def yX11_whose : MethodName := ⟨RX11, "whose", "(III)I"⟩
abbrev cX11_drawnOne : ByteArray := prog_13_method_79_code
def yX11_drawnOne : MethodName := ⟨RX11, "drawnOne", "()I"⟩
abbrev cX11_drawn : ByteArray := prog_13_method_80_code
def yX11_drawn : MethodName := ⟨RX11, "drawn", "(III)I"⟩
abbrev cX11_draw : ByteArray := prog_13_method_81_code
def yX11_draw : MethodName := ⟨RX11, "draw", "(I)I"⟩
abbrev cX11_give : ByteArray := prog_13_method_82_code
def yX11_give : MethodName := ⟨RX11, "give", "(II)I"⟩
abbrev cX11_cancels : ByteArray := prog_13_method_83_code
def yX11_cancels : MethodName := ⟨RX11, "cancels", "(I)I"⟩
abbrev cX11_year : ByteArray := prog_13_method_84_code
def yX11_year : MethodName := ⟨RX11, "year", "()I"⟩
abbrev cX11_led : ByteArray := prog_13_method_85_code
def yX11_led : MethodName := ⟨RX11, "led", "(I)I"⟩
abbrev cX11_image : ByteArray := prog_13_method_86_code
def yX11_image : MethodName := ⟨RX11, "image", "()I"⟩
abbrev cX11_back : ByteArray := prog_13_method_87_code
def yX11_back : MethodName := ⟨RX11, "back", "()I"⟩
abbrev cX11_isBody : ByteArray := prog_13_method_88_code
def yX11_isBody : MethodName := ⟨RX11, "isBody", "(I)Z"⟩
abbrev cX11_kindOf : ByteArray := prog_13_method_89_code
def yX11_kindOf : MethodName := ⟨RX11, "kindOf", "(I)I"⟩
abbrev cX11_body : ByteArray := prog_13_method_90_code
def yX11_body : MethodName := ⟨RX11, "body", "(I)I"⟩
abbrev cX11_above : ByteArray := prog_13_method_91_code
def yX11_above : MethodName := ⟨RX11, "above", "(I)I"⟩
abbrev cX11_begins : ByteArray := prog_13_method_92_code
def yX11_begins : MethodName := ⟨RX11, "begins", "(I)V"⟩
abbrev cX11_takesAs : ByteArray := prog_13_method_93_code
def yX11_takesAs : MethodName := ⟨RX11, "takesAs", "(II)I"⟩
abbrev cX11_grievesAs : ByteArray := prog_13_method_94_code
def yX11_grievesAs : MethodName := ⟨RX11, "grievesAs", "(II)I"⟩
abbrev cX11_keepsAs : ByteArray := prog_13_method_95_code
def yX11_keepsAs : MethodName := ⟨RX11, "keepsAs", "(II)I"⟩
abbrev cX11_tellsAs : ByteArray := prog_13_method_96_code
def yX11_tellsAs : MethodName := ⟨RX11, "tellsAs", "(II)I"⟩
abbrev cX11_act : ByteArray := prog_13_method_97_code
def yX11_act : MethodName := ⟨RX11, "act", "(III)I"⟩
abbrev cX11_trace : ByteArray := prog_13_method_98_code
def yX11_trace : MethodName := ⟨RX11, "trace", "(I)I"⟩
abbrev cX11_isShelf : ByteArray := prog_13_method_99_code
def yX11_isShelf : MethodName := ⟨RX11, "isShelf", "(I)Z"⟩
abbrev cX11_keep : ByteArray := prog_13_method_100_code
def yX11_keep : MethodName := ⟨RX11, "keep", "(II)I"⟩
abbrev cX11_row : ByteArray := prog_13_method_101_code
def yX11_row : MethodName := ⟨RX11, "row", "(III)I"⟩
abbrev cX11_refusal : ByteArray := prog_13_method_102_code
def yX11_refusal : MethodName := ⟨RX11, "refusal", "(II)I"⟩
abbrev cX11_asSort : ByteArray := prog_13_method_103_code
def yX11_asSort : MethodName := ⟨RX11, "asSort", "(IJ)J"⟩
abbrev cX11_put : ByteArray := prog_13_method_104_code
def yX11_put : MethodName := ⟨RX11, "put", "(IIJ)I"⟩
abbrev cX11_element : ByteArray := prog_13_method_105_code
def yX11_element : MethodName := ⟨RX11, "element", "(II)J"⟩
abbrev cX11_shift : ByteArray := prog_13_method_106_code
def yX11_shift : MethodName := ⟨RX11, "shift", "(IIIII)I"⟩
abbrev cX11_taken : ByteArray := prog_13_method_107_code
def yX11_taken : MethodName := ⟨RX11, "taken", "(II)I"⟩
abbrev cX11_count : ByteArray := prog_13_method_108_code
def yX11_count : MethodName := ⟨RX11, "count", "(I)I"⟩
abbrev cJ6_bitCount_0f7a4 : ByteArray := prog_15_method_49_code
def yJ6_bitCount_0f7a4 : MethodName := ⟨RJ6, "bitCount", "(I)I"⟩
abbrev cJ9_abs_0f7a4 : ByteArray := prog_16_method_59_code
def yJ9_abs_0f7a4 : MethodName := ⟨RJ9, "abs", "(I)I"⟩
abbrev cJ9_max_7cf53 : ByteArray := prog_16_method_65_code
def yJ9_max_7cf53 : MethodName := ⟨RJ9, "max", "(II)I"⟩
abbrev cJ9_min_7cf53 : ByteArray := prog_16_method_69_code
def yJ9_min_7cf53 : MethodName := ⟨RJ9, "min", "(II)I"⟩
abbrev cJ0_length_8abf5 : ByteArray := prog_17_method_54_code
def yJ0_length_8abf5 : MethodName := ⟨RJ0, "length", "()I"⟩
abbrev cJ0_indexOf_0f7a4 : ByteArray := prog_17_method_79_code
def yJ0_indexOf_0f7a4 : MethodName := ⟨RJ0, "indexOf", "(I)I"⟩
abbrev cJ0_indexOf_7cf53 : ByteArray := prog_17_method_80_code
def yJ0_indexOf_7cf53 : MethodName := ⟨RJ0, "indexOf", "(II)I"⟩
abbrev cJ0_coder_7d493 : ByteArray := prog_17_method_152_code
def yJ0_coder_7d493 : MethodName := ⟨RJ0, "coder", "()B"⟩
abbrev cJ0_isLatin1_aae02 : ByteArray := prog_17_method_154_code
def yJ0_isLatin1_aae02 : MethodName := ⟨RJ0, "isLatin1", "()Z"⟩
abbrev cJ1_canEncode_9a6ad : ByteArray := prog_18_method_4_code
def yJ1_canEncode_9a6ad : MethodName := ⟨RJ1, "canEncode", "(I)Z"⟩
abbrev cJ1_indexOf_4cfef : ByteArray := prog_18_method_22_code
def yJ1_indexOf_4cfef : MethodName := ⟨RJ1, "indexOf", "([BIII)I"⟩
abbrev cJ1_indexOfChar_4cfef : ByteArray := prog_18_method_23_code
def yJ1_indexOfChar_4cfef : MethodName := ⟨RJ1, "indexOfChar", "([BIII)I"⟩
abbrev cJ7_rangeCheck_23922 : ByteArray := prog_21_method_30_code
def yJ7_rangeCheck_23922 : MethodName := ⟨RJ7, "rangeCheck", "(III)V"⟩
abbrev cJ7_fill_bad5a : ByteArray := prog_21_method_102_code
def yJ7_fill_bad5a : MethodName := ⟨RJ7, "fill", "([JIIJ)V"⟩
abbrev cJ7_fill_53178 : ByteArray := prog_21_method_103_code
def yJ7_fill_53178 : MethodName := ⟨RJ7, "fill", "([II)V"⟩
abbrev cJ7_fill_fda19 : ByteArray := prog_21_method_104_code
def yJ7_fill_fda19 : MethodName := ⟨RJ7, "fill", "([IIII)V"⟩
abbrev cL_law : ByteArray := code
def yL_law : MethodName := ⟨RL, "law", "([I)Z"⟩
set_option maxRecDepth 20000 in
theorem inT0 : ∀ w ∈ wsX00, w ∈ tables_1 := by decide +kernel
theorem inX0 : ∀ w ∈ wsX00, w ∈ lw_tbl := fun w h => List.mem_append_right _ (inT0 w h)
set_option maxRecDepth 20000 in
theorem inT1 : ∀ w ∈ wsX10, w ∈ tables_1 := by decide +kernel
theorem inX1 : ∀ w ∈ wsX10, w ∈ lw_tbl := fun w h => List.mem_append_right _ (inT1 w h)
set_option maxRecDepth 20000 in
theorem inT2 : ∀ w ∈ wsX20, w ∈ tables_1 := by decide +kernel
theorem inX2 : ∀ w ∈ wsX20, w ∈ lw_tbl := fun w h => List.mem_append_right _ (inT2 w h)
set_option maxRecDepth 20000 in
theorem inT3 : ∀ w ∈ wsX30, w ∈ tables_1 := by decide +kernel
theorem inX3 : ∀ w ∈ wsX30, w ∈ lw_tbl := fun w h => List.mem_append_right _ (inT3 w h)
set_option maxRecDepth 20000 in
theorem inT4 : ∀ w ∈ wsX40, w ∈ tables_1 := by decide +kernel
theorem inX4 : ∀ w ∈ wsX40, w ∈ lw_tbl := fun w h => List.mem_append_right _ (inT4 w h)
set_option maxRecDepth 20000 in
theorem inT5 : ∀ w ∈ wsX50, w ∈ tables_1 := by decide +kernel
theorem inX5 : ∀ w ∈ wsX50, w ∈ lw_tbl := fun w h => List.mem_append_right _ (inT5 w h)
set_option maxRecDepth 20000 in
theorem inT6 : ∀ w ∈ wsX60, w ∈ tables_1 := by decide +kernel
theorem inX6 : ∀ w ∈ wsX60, w ∈ lw_tbl := fun w h => List.mem_append_right _ (inT6 w h)
set_option maxRecDepth 20000 in
theorem inT7 : ∀ w ∈ wsX70, w ∈ tables_1 := by decide +kernel
theorem inX7 : ∀ w ∈ wsX70, w ∈ lw_tbl := fun w h => List.mem_append_right _ (inT7 w h)
set_option maxRecDepth 20000 in
theorem inT8 : ∀ w ∈ wsX80, w ∈ tables_1 := by decide +kernel
theorem inX8 : ∀ w ∈ wsX80, w ∈ lw_tbl := fun w h => List.mem_append_right _ (inT8 w h)
set_option maxRecDepth 20000 in
theorem inT9 : ∀ w ∈ wsX90, w ∈ tables_1 := by decide +kernel
theorem inX9 : ∀ w ∈ wsX90, w ∈ lw_tbl := fun w h => List.mem_append_right _ (inT9 w h)
set_option maxRecDepth 20000 in
theorem inT10 : ∀ w ∈ wsX100, w ∈ tables_1 := by decide +kernel
theorem inX10 : ∀ w ∈ wsX100, w ∈ lw_tbl := fun w h => List.mem_append_right _ (inT10 w h)
set_option maxRecDepth 20000 in
theorem inT11 : ∀ w ∈ wsX110, w ∈ tables_1 := by decide +kernel
theorem inX11 : ∀ w ∈ wsX110, w ∈ lw_tbl := fun w h => List.mem_append_right _ (inT11 w h)
