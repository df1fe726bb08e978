section
-- ===== PART A: goes FIRST, ahead of the names: the tables' words, and 'selects' of the private methods out of them =====
/-- a private method of a class that the tables say can be made, by its rows of tables_1 -/
def lw_okq (q : MethodName × Nat) : Prop := (q.1.cls ≠ "java/lang/invoke/MethodHandle" ∧ q.1.cls ≠ "java/lang/invoke/VarHandle") ∧ Cond.instantiable q.1.cls q.2 ∈ tables_1 ∧ Cond.privateMethod q.1 ∈ tables_1 ∧ Cond.instanceMethod q.1 ∈ tables_1
theorem lw_p0 : lw_okq (⟨"HouseKeepers", "refuse", "(I)I"⟩, 14) := ⟨⟨by decide +kernel, by decide +kernel⟩, List.mem_of_getElem? (i := 24) (by decide +kernel), List.mem_of_getElem? (i := 466) (by decide +kernel), List.mem_of_getElem? (i := 467) (by decide +kernel)⟩
theorem lw_p1 : lw_okq (⟨"HouseKeepers$Rules", "hasBegun", "(I)Z"⟩, 9) := ⟨⟨by decide +kernel, by decide +kernel⟩, List.mem_of_getElem? (i := 291) (by decide +kernel), List.mem_of_getElem? (i := 574) (by decide +kernel), List.mem_of_getElem? (i := 575) (by decide +kernel)⟩
theorem lw_p2 : lw_okq (⟨"HouseKeepers$Rules", "hasStrangeBeasts", "(II)Z"⟩, 9) := ⟨⟨by decide +kernel, by decide +kernel⟩, List.mem_of_getElem? (i := 291) (by decide +kernel), List.mem_of_getElem? (i := 578) (by decide +kernel), List.mem_of_getElem? (i := 579) (by decide +kernel)⟩
theorem lw_p3 : lw_okq (⟨"HouseKeepers$Rules", "clashesWithMine", "(I)Z"⟩, 9) := ⟨⟨by decide +kernel, by decide +kernel⟩, List.mem_of_getElem? (i := 291) (by decide +kernel), List.mem_of_getElem? (i := 586) (by decide +kernel), List.mem_of_getElem? (i := 587) (by decide +kernel)⟩
theorem lw_p4 : lw_okq (⟨"HouseKeepers$Rules", "isTooFar", "(II)Z"⟩, 9) := ⟨⟨by decide +kernel, by decide +kernel⟩, List.mem_of_getElem? (i := 291) (by decide +kernel), List.mem_of_getElem? (i := 591) (by decide +kernel), List.mem_of_getElem? (i := 592) (by decide +kernel)⟩
theorem lw_p5 : lw_okq (⟨"HouseKeepers$Rules", "lastOfMineAheadOf", "(I)I"⟩, 9) := ⟨⟨by decide +kernel, by decide +kernel⟩, List.mem_of_getElem? (i := 291) (by decide +kernel), List.mem_of_getElem? (i := 595) (by decide +kernel), List.mem_of_getElem? (i := 596) (by decide +kernel)⟩
theorem lw_p6 : lw_okq (⟨"HouseKeepers$Rules", "townOf", "(I)I"⟩, 9) := ⟨⟨by decide +kernel, by decide +kernel⟩, List.mem_of_getElem? (i := 291) (by decide +kernel), List.mem_of_getElem? (i := 599) (by decide +kernel), List.mem_of_getElem? (i := 600) (by decide +kernel)⟩
theorem lw_p7 : lw_okq (⟨"HouseKeepers$Rules", "firstOfMineBehind", "(I)I"⟩, 9) := ⟨⟨by decide +kernel, by decide +kernel⟩, List.mem_of_getElem? (i := 291) (by decide +kernel), List.mem_of_getElem? (i := 607) (by decide +kernel), List.mem_of_getElem? (i := 608) (by decide +kernel)⟩
theorem lw_p8 : lw_okq (⟨"HouseKeepers$Rules", "isTooLongInLand", "(I)Z"⟩, 9) := ⟨⟨by decide +kernel, by decide +kernel⟩, List.mem_of_getElem? (i := 291) (by decide +kernel), List.mem_of_getElem? (i := 611) (by decide +kernel), List.mem_of_getElem? (i := 612) (by decide +kernel)⟩
theorem lw_p9 : lw_okq (⟨"HouseKeepers$Rules", "daysInLand", "(III)I"⟩, 9) := ⟨⟨by decide +kernel, by decide +kernel⟩, List.mem_of_getElem? (i := 291) (by decide +kernel), List.mem_of_getElem? (i := 619) (by decide +kernel), List.mem_of_getElem? (i := 620) (by decide +kernel)⟩
theorem lw_p10 : lw_okq (⟨"HouseKeepers$Terms", "latest", "(II)I"⟩, 6) := ⟨⟨by decide +kernel, by decide +kernel⟩, List.mem_of_getElem? (i := 220) (by decide +kernel), List.mem_of_getElem? (i := 631) (by decide +kernel), List.mem_of_getElem? (i := 632) (by decide +kernel)⟩
theorem lw_p11 : lw_okq (⟨"HouseKeepers$Rules", "setLetters", "(II)V"⟩, 9) := ⟨⟨by decide +kernel, by decide +kernel⟩, List.mem_of_getElem? (i := 291) (by decide +kernel), List.mem_of_getElem? (i := 635) (by decide +kernel), List.mem_of_getElem? (i := 636) (by decide +kernel)⟩
theorem lw_p12 : lw_okq (⟨"HouseKeepers$Reviews", "knowHands", "(I)V"⟩, 9) := ⟨⟨by decide +kernel, by decide +kernel⟩, List.mem_of_getElem? (i := 178) (by decide +kernel), List.mem_of_getElem? (i := 643) (by decide +kernel), List.mem_of_getElem? (i := 644) (by decide +kernel)⟩
theorem lw_p13 : lw_okq (⟨"HouseKeepers$Reviews", "knowTrust", "(I)V"⟩, 9) := ⟨⟨by decide +kernel, by decide +kernel⟩, List.mem_of_getElem? (i := 178) (by decide +kernel), List.mem_of_getElem? (i := 651) (by decide +kernel), List.mem_of_getElem? (i := 652) (by decide +kernel)⟩
theorem lw_p14 : lw_okq (⟨"HouseKeepers$Rules", "hasBadTwin", "(I)Z"⟩, 9) := ⟨⟨by decide +kernel, by decide +kernel⟩, List.mem_of_getElem? (i := 291) (by decide +kernel), List.mem_of_getElem? (i := 665) (by decide +kernel), List.mem_of_getElem? (i := 666) (by decide +kernel)⟩
theorem lw_p15 : lw_okq (⟨"HouseKeepers$Text", "readSum", "(I)V"⟩, 5) := ⟨⟨by decide +kernel, by decide +kernel⟩, List.mem_of_getElem? (i := 267) (by decide +kernel), List.mem_of_getElem? (i := 731) (by decide +kernel), List.mem_of_getElem? (i := 732) (by decide +kernel)⟩
def lw_privs_1 : List (MethodName × Nat) := [(⟨"HouseKeepers", "refuse", "(I)I"⟩, 14), (⟨"HouseKeepers$Rules", "hasBegun", "(I)Z"⟩, 9), (⟨"HouseKeepers$Rules", "hasStrangeBeasts", "(II)Z"⟩, 9), (⟨"HouseKeepers$Rules", "clashesWithMine", "(I)Z"⟩, 9), (⟨"HouseKeepers$Rules", "isTooFar", "(II)Z"⟩, 9), (⟨"HouseKeepers$Rules", "lastOfMineAheadOf", "(I)I"⟩, 9), (⟨"HouseKeepers$Rules", "townOf", "(I)I"⟩, 9), (⟨"HouseKeepers$Rules", "firstOfMineBehind", "(I)I"⟩, 9), (⟨"HouseKeepers$Rules", "isTooLongInLand", "(I)Z"⟩, 9), (⟨"HouseKeepers$Rules", "daysInLand", "(III)I"⟩, 9), (⟨"HouseKeepers$Terms", "latest", "(II)I"⟩, 6), (⟨"HouseKeepers$Rules", "setLetters", "(II)V"⟩, 9), (⟨"HouseKeepers$Reviews", "knowHands", "(I)V"⟩, 9), (⟨"HouseKeepers$Reviews", "knowTrust", "(I)V"⟩, 9), (⟨"HouseKeepers$Rules", "hasBadTwin", "(I)Z"⟩, 9), (⟨"HouseKeepers$Text", "readSum", "(I)V"⟩, 5)]
theorem lw_r1 : ∀ q ∈ lw_privs_1, lw_okq q := List.forall_mem_cons.mpr ⟨lw_p0, List.forall_mem_cons.mpr ⟨lw_p1, List.forall_mem_cons.mpr ⟨lw_p2, List.forall_mem_cons.mpr ⟨lw_p3, List.forall_mem_cons.mpr ⟨lw_p4, List.forall_mem_cons.mpr ⟨lw_p5, List.forall_mem_cons.mpr ⟨lw_p6, List.forall_mem_cons.mpr ⟨lw_p7, List.forall_mem_cons.mpr ⟨lw_p8, List.forall_mem_cons.mpr ⟨lw_p9, List.forall_mem_cons.mpr ⟨lw_p10, List.forall_mem_cons.mpr ⟨lw_p11, List.forall_mem_cons.mpr ⟨lw_p12, List.forall_mem_cons.mpr ⟨lw_p13, List.forall_mem_cons.mpr ⟨lw_p14, List.forall_mem_cons.mpr ⟨lw_p15, fun _ h => absurd h List.not_mem_nil⟩⟩⟩⟩⟩⟩⟩⟩⟩⟩⟩⟩⟩⟩⟩⟩
theorem lw_p16 : lw_okq (⟨"HouseKeepers$Text", "readProduct", "(I)V"⟩, 5) := ⟨⟨by decide +kernel, by decide +kernel⟩, List.mem_of_getElem? (i := 267) (by decide +kernel), List.mem_of_getElem? (i := 735) (by decide +kernel), List.mem_of_getElem? (i := 736) (by decide +kernel)⟩
theorem lw_p17 : lw_okq (⟨"HouseKeepers$Text", "readUnit", "(I)V"⟩, 5) := ⟨⟨by decide +kernel, by decide +kernel⟩, List.mem_of_getElem? (i := 267) (by decide +kernel), List.mem_of_getElem? (i := 739) (by decide +kernel), List.mem_of_getElem? (i := 740) (by decide +kernel)⟩
theorem lw_p18 : lw_okq (⟨"HouseKeepers$Text", "next", "()I"⟩, 5) := ⟨⟨by decide +kernel, by decide +kernel⟩, List.mem_of_getElem? (i := 267) (by decide +kernel), List.mem_of_getElem? (i := 743) (by decide +kernel), List.mem_of_getElem? (i := 744) (by decide +kernel)⟩
theorem lw_p19 : lw_okq (⟨"HouseKeepers$Text", "readNumber", "()V"⟩, 5) := ⟨⟨by decide +kernel, by decide +kernel⟩, List.mem_of_getElem? (i := 267) (by decide +kernel), List.mem_of_getElem? (i := 754) (by decide +kernel), List.mem_of_getElem? (i := 755) (by decide +kernel)⟩
theorem lw_p20 : lw_okq (⟨"HouseKeepers$Text", "addStep", "(I)V"⟩, 5) := ⟨⟨by decide +kernel, by decide +kernel⟩, List.mem_of_getElem? (i := 267) (by decide +kernel), List.mem_of_getElem? (i := 758) (by decide +kernel), List.mem_of_getElem? (i := 759) (by decide +kernel)⟩
theorem lw_p21 : lw_okq (⟨"HouseKeepers$Text", "readBracket", "(I)V"⟩, 5) := ⟨⟨by decide +kernel, by decide +kernel⟩, List.mem_of_getElem? (i := 267) (by decide +kernel), List.mem_of_getElem? (i := 762) (by decide +kernel), List.mem_of_getElem? (i := 763) (by decide +kernel)⟩
theorem lw_p22 : lw_okq (⟨"HouseKeepers$Text", "fail", "()V"⟩, 5) := ⟨⟨by decide +kernel, by decide +kernel⟩, List.mem_of_getElem? (i := 267) (by decide +kernel), List.mem_of_getElem? (i := 766) (by decide +kernel), List.mem_of_getElem? (i := 767) (by decide +kernel)⟩
theorem lw_p23 : lw_okq (⟨"HouseKeepers$Text", "readLetter", "(I)V"⟩, 5) := ⟨⟨by decide +kernel, by decide +kernel⟩, List.mem_of_getElem? (i := 267) (by decide +kernel), List.mem_of_getElem? (i := 770) (by decide +kernel), List.mem_of_getElem? (i := 771) (by decide +kernel)⟩
theorem lw_p24 : lw_okq (⟨"HouseKeepers", "refuseBeyond", "(I)I"⟩, 14) := ⟨⟨by decide +kernel, by decide +kernel⟩, List.mem_of_getElem? (i := 24) (by decide +kernel), List.mem_of_getElem? (i := 864) (by decide +kernel), List.mem_of_getElem? (i := 865) (by decide +kernel)⟩
theorem lw_p25 : lw_okq (⟨"HouseKeepers", "putInto", "(LHouseKeepers$Row;I)I"⟩, 14) := ⟨⟨by decide +kernel, by decide +kernel⟩, List.mem_of_getElem? (i := 24) (by decide +kernel), List.mem_of_getElem? (i := 913) (by decide +kernel), List.mem_of_getElem? (i := 914) (by decide +kernel)⟩
theorem lw_p26 : lw_okq (⟨"HouseKeepers", "rowHasStaysAlone", "()Z"⟩, 14) := ⟨⟨by decide +kernel, by decide +kernel⟩, List.mem_of_getElem? (i := 24) (by decide +kernel), List.mem_of_getElem? (i := 925) (by decide +kernel), List.mem_of_getElem? (i := 926) (by decide +kernel)⟩
theorem lw_p27 : lw_okq (⟨"HouseKeepers", "rowIsOpenAndSingle", "()Z"⟩, 14) := ⟨⟨by decide +kernel, by decide +kernel⟩, List.mem_of_getElem? (i := 24) (by decide +kernel), List.mem_of_getElem? (i := 930) (by decide +kernel), List.mem_of_getElem? (i := 931) (by decide +kernel)⟩
theorem lw_p28 : lw_okq (⟨"HouseKeepers$Chain", "insert", "(II)V"⟩, 8) := ⟨⟨by decide +kernel, by decide +kernel⟩, List.mem_of_getElem? (i := 337) (by decide +kernel), List.mem_of_getElem? (i := 947) (by decide +kernel), List.mem_of_getElem? (i := 948) (by decide +kernel)⟩
theorem lw_p29 : lw_okq (⟨"HouseKeepers$Chain", "search", "(IIII)V"⟩, 8) := ⟨⟨by decide +kernel, by decide +kernel⟩, List.mem_of_getElem? (i := 337) (by decide +kernel), List.mem_of_getElem? (i := 953) (by decide +kernel), List.mem_of_getElem? (i := 954) (by decide +kernel)⟩
theorem lw_p30 : lw_okq (⟨"HouseKeepers$Chain", "weigh", "(II)V"⟩, 8) := ⟨⟨by decide +kernel, by decide +kernel⟩, List.mem_of_getElem? (i := 337) (by decide +kernel), List.mem_of_getElem? (i := 957) (by decide +kernel), List.mem_of_getElem? (i := 958) (by decide +kernel)⟩
theorem lw_p31 : lw_okq (⟨"HouseKeepers", "rowRefusal", "()I"⟩, 14) := ⟨⟨by decide +kernel, by decide +kernel⟩, List.mem_of_getElem? (i := 24) (by decide +kernel), List.mem_of_getElem? (i := 979) (by decide +kernel), List.mem_of_getElem? (i := 980) (by decide +kernel)⟩
def lw_privs_2 : List (MethodName × Nat) := [(⟨"HouseKeepers$Text", "readProduct", "(I)V"⟩, 5), (⟨"HouseKeepers$Text", "readUnit", "(I)V"⟩, 5), (⟨"HouseKeepers$Text", "next", "()I"⟩, 5), (⟨"HouseKeepers$Text", "readNumber", "()V"⟩, 5), (⟨"HouseKeepers$Text", "addStep", "(I)V"⟩, 5), (⟨"HouseKeepers$Text", "readBracket", "(I)V"⟩, 5), (⟨"HouseKeepers$Text", "fail", "()V"⟩, 5), (⟨"HouseKeepers$Text", "readLetter", "(I)V"⟩, 5), (⟨"HouseKeepers", "refuseBeyond", "(I)I"⟩, 14), (⟨"HouseKeepers", "putInto", "(LHouseKeepers$Row;I)I"⟩, 14), (⟨"HouseKeepers", "rowHasStaysAlone", "()Z"⟩, 14), (⟨"HouseKeepers", "rowIsOpenAndSingle", "()Z"⟩, 14), (⟨"HouseKeepers$Chain", "insert", "(II)V"⟩, 8), (⟨"HouseKeepers$Chain", "search", "(IIII)V"⟩, 8), (⟨"HouseKeepers$Chain", "weigh", "(II)V"⟩, 8), (⟨"HouseKeepers", "rowRefusal", "()I"⟩, 14)]
theorem lw_r2 : ∀ q ∈ lw_privs_2, lw_okq q := List.forall_mem_cons.mpr ⟨lw_p16, List.forall_mem_cons.mpr ⟨lw_p17, List.forall_mem_cons.mpr ⟨lw_p18, List.forall_mem_cons.mpr ⟨lw_p19, List.forall_mem_cons.mpr ⟨lw_p20, List.forall_mem_cons.mpr ⟨lw_p21, List.forall_mem_cons.mpr ⟨lw_p22, List.forall_mem_cons.mpr ⟨lw_p23, List.forall_mem_cons.mpr ⟨lw_p24, List.forall_mem_cons.mpr ⟨lw_p25, List.forall_mem_cons.mpr ⟨lw_p26, List.forall_mem_cons.mpr ⟨lw_p27, List.forall_mem_cons.mpr ⟨lw_p28, List.forall_mem_cons.mpr ⟨lw_p29, List.forall_mem_cons.mpr ⟨lw_p30, List.forall_mem_cons.mpr ⟨lw_p31, fun _ h => absurd h List.not_mem_nil⟩⟩⟩⟩⟩⟩⟩⟩⟩⟩⟩⟩⟩⟩⟩⟩
theorem lw_p32 : lw_okq (⟨"HouseKeepers$Match", "hasPlace", "(I)Z"⟩, 13) := ⟨⟨by decide +kernel, by decide +kernel⟩, List.mem_of_getElem? (i := 370) (by decide +kernel), List.mem_of_getElem? (i := 997) (by decide +kernel), List.mem_of_getElem? (i := 998) (by decide +kernel)⟩
theorem lw_p33 : lw_okq (⟨"HouseKeepers$Match", "bestToAsk", "(I)I"⟩, 13) := ⟨⟨by decide +kernel, by decide +kernel⟩, List.mem_of_getElem? (i := 370) (by decide +kernel), List.mem_of_getElem? (i := 1001) (by decide +kernel), List.mem_of_getElem? (i := 1002) (by decide +kernel)⟩
theorem lw_p34 : lw_okq (⟨"HouseKeepers$Match", "mayTake", "(II)Z"⟩, 13) := ⟨⟨by decide +kernel, by decide +kernel⟩, List.mem_of_getElem? (i := 370) (by decide +kernel), List.mem_of_getElem? (i := 1005) (by decide +kernel), List.mem_of_getElem? (i := 1006) (by decide +kernel)⟩
theorem lw_p35 : lw_okq (⟨"HouseKeepers$Match", "keeperPrefers", "(III)Z"⟩, 13) := ⟨⟨by decide +kernel, by decide +kernel⟩, List.mem_of_getElem? (i := 370) (by decide +kernel), List.mem_of_getElem? (i := 1009) (by decide +kernel), List.mem_of_getElem? (i := 1010) (by decide +kernel)⟩
theorem lw_p36 : lw_okq (⟨"HouseKeepers$Match", "ask", "(II)V"⟩, 13) := ⟨⟨by decide +kernel, by decide +kernel⟩, List.mem_of_getElem? (i := 370) (by decide +kernel), List.mem_of_getElem? (i := 1014) (by decide +kernel), List.mem_of_getElem? (i := 1015) (by decide +kernel)⟩
theorem lw_p37 : lw_okq (⟨"HouseKeepers$Match", "stayPrefers", "(II)Z"⟩, 13) := ⟨⟨by decide +kernel, by decide +kernel⟩, List.mem_of_getElem? (i := 370) (by decide +kernel), List.mem_of_getElem? (i := 1018) (by decide +kernel), List.mem_of_getElem? (i := 1019) (by decide +kernel)⟩
theorem lw_p38 : lw_okq (⟨"HouseKeepers$Match", "wouldBeLeft", "(LHouseKeepers$Row;I)Z"⟩, 13) := ⟨⟨by decide +kernel, by decide +kernel⟩, List.mem_of_getElem? (i := 370) (by decide +kernel), List.mem_of_getElem? (i := 1036) (by decide +kernel), List.mem_of_getElem? (i := 1037) (by decide +kernel)⟩
theorem lw_p39 : lw_okq (⟨"HouseKeepers$Match", "addKeeperToWays", "(I)V"⟩, 13) := ⟨⟨by decide +kernel, by decide +kernel⟩, List.mem_of_getElem? (i := 370) (by decide +kernel), List.mem_of_getElem? (i := 1065) (by decide +kernel), List.mem_of_getElem? (i := 1066) (by decide +kernel)⟩
theorem lw_p40 : lw_okq (⟨"HouseKeepers$Match", "weightOfEmptyBeside", "(I)J"⟩, 13) := ⟨⟨by decide +kernel, by decide +kernel⟩, List.mem_of_getElem? (i := 370) (by decide +kernel), List.mem_of_getElem? (i := 1073) (by decide +kernel), List.mem_of_getElem? (i := 1074) (by decide +kernel)⟩
theorem lw_p41 : lw_okq (⟨"HouseKeepers$Match", "readWay", "(J)V"⟩, 13) := ⟨⟨by decide +kernel, by decide +kernel⟩, List.mem_of_getElem? (i := 370) (by decide +kernel), List.mem_of_getElem? (i := 1079) (by decide +kernel), List.mem_of_getElem? (i := 1080) (by decide +kernel)⟩
theorem lw_p42 : lw_okq (⟨"HouseKeepers$Keepers", "withThoseAlike", "(I)I"⟩, 6) := ⟨⟨by decide +kernel, by decide +kernel⟩, List.mem_of_getElem? (i := 60) (by decide +kernel), List.mem_of_getElem? (i := 1093) (by decide +kernel), List.mem_of_getElem? (i := 1094) (by decide +kernel)⟩
theorem lw_p43 : lw_okq (⟨"HouseKeepers$Keepers", "isAlikeToOneOf", "(II)Z"⟩, 6) := ⟨⟨by decide +kernel, by decide +kernel⟩, List.mem_of_getElem? (i := 60) (by decide +kernel), List.mem_of_getElem? (i := 1097) (by decide +kernel), List.mem_of_getElem? (i := 1098) (by decide +kernel)⟩
theorem lw_p44 : lw_okq (⟨"HouseKeepersModel", "no", "(I)I"⟩, 53) := ⟨⟨by decide +kernel, by decide +kernel⟩, List.mem_of_getElem? (i := 1142) (by decide +kernel), List.mem_of_getElem? (i := 1313) (by decide +kernel), List.mem_of_getElem? (i := 1314) (by decide +kernel)⟩
theorem lw_p45 : lw_okq (⟨"HouseKeepersModel", "isTown", "(I)Z"⟩, 53) := ⟨⟨by decide +kernel, by decide +kernel⟩, List.mem_of_getElem? (i := 1142) (by decide +kernel), List.mem_of_getElem? (i := 1321) (by decide +kernel), List.mem_of_getElem? (i := 1322) (by decide +kernel)⟩
theorem lw_p46 : lw_okq (⟨"HouseKeepersModel", "isHouse", "(I)Z"⟩, 53) := ⟨⟨by decide +kernel, by decide +kernel⟩, List.mem_of_getElem? (i := 1142) (by decide +kernel), List.mem_of_getElem? (i := 1346) (by decide +kernel), List.mem_of_getElem? (i := 1347) (by decide +kernel)⟩
theorem lw_p47 : lw_okq (⟨"HouseKeepersModel", "isStay", "(I)Z"⟩, 53) := ⟨⟨by decide +kernel, by decide +kernel⟩, List.mem_of_getElem? (i := 1142) (by decide +kernel), List.mem_of_getElem? (i := 1354) (by decide +kernel), List.mem_of_getElem? (i := 1355) (by decide +kernel)⟩
def lw_privs_3 : List (MethodName × Nat) := [(⟨"HouseKeepers$Match", "hasPlace", "(I)Z"⟩, 13), (⟨"HouseKeepers$Match", "bestToAsk", "(I)I"⟩, 13), (⟨"HouseKeepers$Match", "mayTake", "(II)Z"⟩, 13), (⟨"HouseKeepers$Match", "keeperPrefers", "(III)Z"⟩, 13), (⟨"HouseKeepers$Match", "ask", "(II)V"⟩, 13), (⟨"HouseKeepers$Match", "stayPrefers", "(II)Z"⟩, 13), (⟨"HouseKeepers$Match", "wouldBeLeft", "(LHouseKeepers$Row;I)Z"⟩, 13), (⟨"HouseKeepers$Match", "addKeeperToWays", "(I)V"⟩, 13), (⟨"HouseKeepers$Match", "weightOfEmptyBeside", "(I)J"⟩, 13), (⟨"HouseKeepers$Match", "readWay", "(J)V"⟩, 13), (⟨"HouseKeepers$Keepers", "withThoseAlike", "(I)I"⟩, 6), (⟨"HouseKeepers$Keepers", "isAlikeToOneOf", "(II)Z"⟩, 6), (⟨"HouseKeepersModel", "no", "(I)I"⟩, 53), (⟨"HouseKeepersModel", "isTown", "(I)Z"⟩, 53), (⟨"HouseKeepersModel", "isHouse", "(I)Z"⟩, 53), (⟨"HouseKeepersModel", "isStay", "(I)Z"⟩, 53)]
theorem lw_r3 : ∀ q ∈ lw_privs_3, lw_okq q := List.forall_mem_cons.mpr ⟨lw_p32, List.forall_mem_cons.mpr ⟨lw_p33, List.forall_mem_cons.mpr ⟨lw_p34, List.forall_mem_cons.mpr ⟨lw_p35, List.forall_mem_cons.mpr ⟨lw_p36, List.forall_mem_cons.mpr ⟨lw_p37, List.forall_mem_cons.mpr ⟨lw_p38, List.forall_mem_cons.mpr ⟨lw_p39, List.forall_mem_cons.mpr ⟨lw_p40, List.forall_mem_cons.mpr ⟨lw_p41, List.forall_mem_cons.mpr ⟨lw_p42, List.forall_mem_cons.mpr ⟨lw_p43, List.forall_mem_cons.mpr ⟨lw_p44, List.forall_mem_cons.mpr ⟨lw_p45, List.forall_mem_cons.mpr ⟨lw_p46, List.forall_mem_cons.mpr ⟨lw_p47, fun _ h => absurd h List.not_mem_nil⟩⟩⟩⟩⟩⟩⟩⟩⟩⟩⟩⟩⟩⟩⟩⟩
theorem lw_p48 : lw_okq (⟨"HouseKeepersModel", "isOver", "(I)Z"⟩, 53) := ⟨⟨by decide +kernel, by decide +kernel⟩, List.mem_of_getElem? (i := 1142) (by decide +kernel), List.mem_of_getElem? (i := 1358) (by decide +kernel), List.mem_of_getElem? (i := 1359) (by decide +kernel)⟩
theorem lw_p49 : lw_okq (⟨"HouseKeepersModel", "isKeeper", "(I)Z"⟩, 53) := ⟨⟨by decide +kernel, by decide +kernel⟩, List.mem_of_getElem? (i := 1142) (by decide +kernel), List.mem_of_getElem? (i := 1366) (by decide +kernel), List.mem_of_getElem? (i := 1367) (by decide +kernel)⟩
theorem lw_p50 : lw_okq (⟨"HouseKeepersModel", "whyNot", "(II)I"⟩, 53) := ⟨⟨by decide +kernel, by decide +kernel⟩, List.mem_of_getElem? (i := 1142) (by decide +kernel), List.mem_of_getElem? (i := 1370) (by decide +kernel), List.mem_of_getElem? (i := 1371) (by decide +kernel)⟩
theorem lw_p51 : lw_okq (⟨"HouseKeepersModel", "meets", "(II)Z"⟩, 53) := ⟨⟨by decide +kernel, by decide +kernel⟩, List.mem_of_getElem? (i := 1142) (by decide +kernel), List.mem_of_getElem? (i := 1374) (by decide +kernel), List.mem_of_getElem? (i := 1375) (by decide +kernel)⟩
theorem lw_p52 : lw_okq (⟨"HouseKeepersModel", "has", "(II)Z"⟩, 53) := ⟨⟨by decide +kernel, by decide +kernel⟩, List.mem_of_getElem? (i := 1142) (by decide +kernel), List.mem_of_getElem? (i := 1378) (by decide +kernel), List.mem_of_getElem? (i := 1379) (by decide +kernel)⟩
theorem lw_p53 : lw_okq (⟨"HouseKeepersModel", "isLate", "(II)Z"⟩, 53) := ⟨⟨by decide +kernel, by decide +kernel⟩, List.mem_of_getElem? (i := 1142) (by decide +kernel), List.mem_of_getElem? (i := 1382) (by decide +kernel), List.mem_of_getElem? (i := 1383) (by decide +kernel)⟩
theorem lw_p54 : lw_okq (⟨"HouseKeepersModel", "townOf", "(I)I"⟩, 53) := ⟨⟨by decide +kernel, by decide +kernel⟩, List.mem_of_getElem? (i := 1142) (by decide +kernel), List.mem_of_getElem? (i := 1386) (by decide +kernel), List.mem_of_getElem? (i := 1387) (by decide +kernel)⟩
theorem lw_p55 : lw_okq (⟨"HouseKeepersModel", "isFar", "(III)Z"⟩, 53) := ⟨⟨by decide +kernel, by decide +kernel⟩, List.mem_of_getElem? (i := 1142) (by decide +kernel), List.mem_of_getElem? (i := 1390) (by decide +kernel), List.mem_of_getElem? (i := 1391) (by decide +kernel)⟩
theorem lw_p56 : lw_okq (⟨"HouseKeepersModel", "isTooLong", "(II)Z"⟩, 53) := ⟨⟨by decide +kernel, by decide +kernel⟩, List.mem_of_getElem? (i := 1142) (by decide +kernel), List.mem_of_getElem? (i := 1394) (by decide +kernel), List.mem_of_getElem? (i := 1395) (by decide +kernel)⟩
theorem lw_p57 : lw_okq (⟨"HouseKeepersModel", "worthOf", "(II)I"⟩, 53) := ⟨⟨by decide +kernel, by decide +kernel⟩, List.mem_of_getElem? (i := 1142) (by decide +kernel), List.mem_of_getElem? (i := 1398) (by decide +kernel), List.mem_of_getElem? (i := 1399) (by decide +kernel)⟩
theorem lw_p58 : lw_okq (⟨"HouseKeepersModel", "latest", "(I)I"⟩, 53) := ⟨⟨by decide +kernel, by decide +kernel⟩, List.mem_of_getElem? (i := 1142) (by decide +kernel), List.mem_of_getElem? (i := 1402) (by decide +kernel), List.mem_of_getElem? (i := 1403) (by decide +kernel)⟩
theorem lw_p59 : lw_okq (⟨"HouseKeepersModel", "evaluated", "(III)J"⟩, 53) := ⟨⟨by decide +kernel, by decide +kernel⟩, List.mem_of_getElem? (i := 1142) (by decide +kernel), List.mem_of_getElem? (i := 1406) (by decide +kernel), List.mem_of_getElem? (i := 1407) (by decide +kernel)⟩
theorem lw_p60 : lw_okq (⟨"HouseKeepersModel", "open", "(I)V"⟩, 53) := ⟨⟨by decide +kernel, by decide +kernel⟩, List.mem_of_getElem? (i := 1142) (by decide +kernel), List.mem_of_getElem? (i := 1410) (by decide +kernel), List.mem_of_getElem? (i := 1411) (by decide +kernel)⟩
theorem lw_p61 : lw_okq (⟨"HouseKeepersModel", "closed", "(I)J"⟩, 53) := ⟨⟨by decide +kernel, by decide +kernel⟩, List.mem_of_getElem? (i := 1142) (by decide +kernel), List.mem_of_getElem? (i := 1414) (by decide +kernel), List.mem_of_getElem? (i := 1415) (by decide +kernel)⟩
theorem lw_p62 : lw_okq (⟨"HouseKeepersModel", "total", "(I)J"⟩, 53) := ⟨⟨by decide +kernel, by decide +kernel⟩, List.mem_of_getElem? (i := 1142) (by decide +kernel), List.mem_of_getElem? (i := 1418) (by decide +kernel), List.mem_of_getElem? (i := 1419) (by decide +kernel)⟩
theorem lw_p63 : lw_okq (⟨"HouseKeepersModel", "kept", "(J)J"⟩, 53) := ⟨⟨by decide +kernel, by decide +kernel⟩, List.mem_of_getElem? (i := 1142) (by decide +kernel), List.mem_of_getElem? (i := 1422) (by decide +kernel), List.mem_of_getElem? (i := 1423) (by decide +kernel)⟩
def lw_privs_4 : List (MethodName × Nat) := [(⟨"HouseKeepersModel", "isOver", "(I)Z"⟩, 53), (⟨"HouseKeepersModel", "isKeeper", "(I)Z"⟩, 53), (⟨"HouseKeepersModel", "whyNot", "(II)I"⟩, 53), (⟨"HouseKeepersModel", "meets", "(II)Z"⟩, 53), (⟨"HouseKeepersModel", "has", "(II)Z"⟩, 53), (⟨"HouseKeepersModel", "isLate", "(II)Z"⟩, 53), (⟨"HouseKeepersModel", "townOf", "(I)I"⟩, 53), (⟨"HouseKeepersModel", "isFar", "(III)Z"⟩, 53), (⟨"HouseKeepersModel", "isTooLong", "(II)Z"⟩, 53), (⟨"HouseKeepersModel", "worthOf", "(II)I"⟩, 53), (⟨"HouseKeepersModel", "latest", "(I)I"⟩, 53), (⟨"HouseKeepersModel", "evaluated", "(III)J"⟩, 53), (⟨"HouseKeepersModel", "open", "(I)V"⟩, 53), (⟨"HouseKeepersModel", "closed", "(I)J"⟩, 53), (⟨"HouseKeepersModel", "total", "(I)J"⟩, 53), (⟨"HouseKeepersModel", "kept", "(J)J"⟩, 53)]
theorem lw_r4 : ∀ q ∈ lw_privs_4, lw_okq q := List.forall_mem_cons.mpr ⟨lw_p48, List.forall_mem_cons.mpr ⟨lw_p49, List.forall_mem_cons.mpr ⟨lw_p50, List.forall_mem_cons.mpr ⟨lw_p51, List.forall_mem_cons.mpr ⟨lw_p52, List.forall_mem_cons.mpr ⟨lw_p53, List.forall_mem_cons.mpr ⟨lw_p54, List.forall_mem_cons.mpr ⟨lw_p55, List.forall_mem_cons.mpr ⟨lw_p56, List.forall_mem_cons.mpr ⟨lw_p57, List.forall_mem_cons.mpr ⟨lw_p58, List.forall_mem_cons.mpr ⟨lw_p59, List.forall_mem_cons.mpr ⟨lw_p60, List.forall_mem_cons.mpr ⟨lw_p61, List.forall_mem_cons.mpr ⟨lw_p62, List.forall_mem_cons.mpr ⟨lw_p63, fun _ h => absurd h List.not_mem_nil⟩⟩⟩⟩⟩⟩⟩⟩⟩⟩⟩⟩⟩⟩⟩⟩
theorem lw_p64 : lw_okq (⟨"HouseKeepersModel", "unit", "(IJ)V"⟩, 53) := ⟨⟨by decide +kernel, by decide +kernel⟩, List.mem_of_getElem? (i := 1142) (by decide +kernel), List.mem_of_getElem? (i := 1428) (by decide +kernel), List.mem_of_getElem? (i := 1429) (by decide +kernel)⟩
theorem lw_p65 : lw_okq (⟨"HouseKeepersModel", "isSign", "(I)Z"⟩, 53) := ⟨⟨by decide +kernel, by decide +kernel⟩, List.mem_of_getElem? (i := 1142) (by decide +kernel), List.mem_of_getElem? (i := 1432) (by decide +kernel), List.mem_of_getElem? (i := 1433) (by decide +kernel)⟩
theorem lw_p66 : lw_okq (⟨"HouseKeepersModel", "isRelation", "(I)Z"⟩, 53) := ⟨⟨by decide +kernel, by decide +kernel⟩, List.mem_of_getElem? (i := 1142) (by decide +kernel), List.mem_of_getElem? (i := 1436) (by decide +kernel), List.mem_of_getElem? (i := 1437) (by decide +kernel)⟩
theorem lw_p67 : lw_okq (⟨"HouseKeepersModel", "isLetter", "(I)Z"⟩, 53) := ⟨⟨by decide +kernel, by decide +kernel⟩, List.mem_of_getElem? (i := 1142) (by decide +kernel), List.mem_of_getElem? (i := 1440) (by decide +kernel), List.mem_of_getElem? (i := 1441) (by decide +kernel)⟩
theorem lw_p68 : lw_okq (⟨"HouseKeepersModel", "letter", "(III)J"⟩, 53) := ⟨⟨by decide +kernel, by decide +kernel⟩, List.mem_of_getElem? (i := 1142) (by decide +kernel), List.mem_of_getElem? (i := 1444) (by decide +kernel), List.mem_of_getElem? (i := 1445) (by decide +kernel)⟩
theorem lw_p69 : lw_okq (⟨"HouseKeepersModel", "trustOf", "(II)I"⟩, 53) := ⟨⟨by decide +kernel, by decide +kernel⟩, List.mem_of_getElem? (i := 1142) (by decide +kernel), List.mem_of_getElem? (i := 1448) (by decide +kernel), List.mem_of_getElem? (i := 1449) (by decide +kernel)⟩
theorem lw_p70 : lw_okq (⟨"HouseKeepersModel", "counts", "(II)Z"⟩, 53) := ⟨⟨by decide +kernel, by decide +kernel⟩, List.mem_of_getElem? (i := 1142) (by decide +kernel), List.mem_of_getElem? (i := 1452) (by decide +kernel), List.mem_of_getElem? (i := 1453) (by decide +kernel)⟩
theorem lw_p71 : lw_okq (⟨"HouseKeepersModel", "handOf", "(II)I"⟩, 53) := ⟨⟨by decide +kernel, by decide +kernel⟩, List.mem_of_getElem? (i := 1142) (by decide +kernel), List.mem_of_getElem? (i := 1456) (by decide +kernel), List.mem_of_getElem? (i := 1457) (by decide +kernel)⟩
theorem lw_p72 : lw_okq (⟨"HouseKeepersModel", "reviewsOf", "(II)I"⟩, 53) := ⟨⟨by decide +kernel, by decide +kernel⟩, List.mem_of_getElem? (i := 1142) (by decide +kernel), List.mem_of_getElem? (i := 1460) (by decide +kernel), List.mem_of_getElem? (i := 1461) (by decide +kernel)⟩
theorem lw_p73 : lw_okq (⟨"HouseKeepersModel", "sorts", "(I)I"⟩, 53) := ⟨⟨by decide +kernel, by decide +kernel⟩, List.mem_of_getElem? (i := 1142) (by decide +kernel), List.mem_of_getElem? (i := 1464) (by decide +kernel), List.mem_of_getElem? (i := 1465) (by decide +kernel)⟩
theorem lw_p74 : lw_okq (⟨"HouseKeepersModel", "alike", "(II)Z"⟩, 53) := ⟨⟨by decide +kernel, by decide +kernel⟩, List.mem_of_getElem? (i := 1142) (by decide +kernel), List.mem_of_getElem? (i := 1468) (by decide +kernel), List.mem_of_getElem? (i := 1469) (by decide +kernel)⟩
theorem lw_p75 : lw_okq (⟨"HouseKeepersModel", "isDigit", "(I)Z"⟩, 53) := ⟨⟨by decide +kernel, by decide +kernel⟩, List.mem_of_getElem? (i := 1142) (by decide +kernel), List.mem_of_getElem? (i := 1472) (by decide +kernel), List.mem_of_getElem? (i := 1473) (by decide +kernel)⟩
theorem lw_p76 : lw_okq (⟨"HouseKeepersModel", "whereOf", "(II)I"⟩, 53) := ⟨⟨by decide +kernel, by decide +kernel⟩, List.mem_of_getElem? (i := 1142) (by decide +kernel), List.mem_of_getElem? (i := 1490) (by decide +kernel), List.mem_of_getElem? (i := 1491) (by decide +kernel)⟩
theorem lw_p77 : lw_okq (⟨"HouseKeepersModel", "fault", "()I"⟩, 53) := ⟨⟨by decide +kernel, by decide +kernel⟩, List.mem_of_getElem? (i := 1142) (by decide +kernel), List.mem_of_getElem? (i := 1502) (by decide +kernel), List.mem_of_getElem? (i := 1503) (by decide +kernel)⟩
theorem lw_p78 : lw_okq (⟨"HouseKeepersModel", "far", "(I)I"⟩, 53) := ⟨⟨by decide +kernel, by decide +kernel⟩, List.mem_of_getElem? (i := 1142) (by decide +kernel), List.mem_of_getElem? (i := 1510) (by decide +kernel), List.mem_of_getElem? (i := 1511) (by decide +kernel)⟩
theorem lw_p79 : lw_okq (⟨"HouseKeepersModel", "isAllStays", "()Z"⟩, 53) := ⟨⟨by decide +kernel, by decide +kernel⟩, List.mem_of_getElem? (i := 1142) (by decide +kernel), List.mem_of_getElem? (i := 1547) (by decide +kernel), List.mem_of_getElem? (i := 1548) (by decide +kernel)⟩
def lw_privs_5 : List (MethodName × Nat) := [(⟨"HouseKeepersModel", "unit", "(IJ)V"⟩, 53), (⟨"HouseKeepersModel", "isSign", "(I)Z"⟩, 53), (⟨"HouseKeepersModel", "isRelation", "(I)Z"⟩, 53), (⟨"HouseKeepersModel", "isLetter", "(I)Z"⟩, 53), (⟨"HouseKeepersModel", "letter", "(III)J"⟩, 53), (⟨"HouseKeepersModel", "trustOf", "(II)I"⟩, 53), (⟨"HouseKeepersModel", "counts", "(II)Z"⟩, 53), (⟨"HouseKeepersModel", "handOf", "(II)I"⟩, 53), (⟨"HouseKeepersModel", "reviewsOf", "(II)I"⟩, 53), (⟨"HouseKeepersModel", "sorts", "(I)I"⟩, 53), (⟨"HouseKeepersModel", "alike", "(II)Z"⟩, 53), (⟨"HouseKeepersModel", "isDigit", "(I)Z"⟩, 53), (⟨"HouseKeepersModel", "whereOf", "(II)I"⟩, 53), (⟨"HouseKeepersModel", "fault", "()I"⟩, 53), (⟨"HouseKeepersModel", "far", "(I)I"⟩, 53), (⟨"HouseKeepersModel", "isAllStays", "()Z"⟩, 53)]
theorem lw_r5 : ∀ q ∈ lw_privs_5, lw_okq q := List.forall_mem_cons.mpr ⟨lw_p64, List.forall_mem_cons.mpr ⟨lw_p65, List.forall_mem_cons.mpr ⟨lw_p66, List.forall_mem_cons.mpr ⟨lw_p67, List.forall_mem_cons.mpr ⟨lw_p68, List.forall_mem_cons.mpr ⟨lw_p69, List.forall_mem_cons.mpr ⟨lw_p70, List.forall_mem_cons.mpr ⟨lw_p71, List.forall_mem_cons.mpr ⟨lw_p72, List.forall_mem_cons.mpr ⟨lw_p73, List.forall_mem_cons.mpr ⟨lw_p74, List.forall_mem_cons.mpr ⟨lw_p75, List.forall_mem_cons.mpr ⟨lw_p76, List.forall_mem_cons.mpr ⟨lw_p77, List.forall_mem_cons.mpr ⟨lw_p78, List.forall_mem_cons.mpr ⟨lw_p79, fun _ h => absurd h List.not_mem_nil⟩⟩⟩⟩⟩⟩⟩⟩⟩⟩⟩⟩⟩⟩⟩⟩
theorem lw_p80 : lw_okq (⟨"HouseKeepersModel", "isOpenOnce", "()Z"⟩, 53) := ⟨⟨by decide +kernel, by decide +kernel⟩, List.mem_of_getElem? (i := 1142) (by decide +kernel), List.mem_of_getElem? (i := 1551) (by decide +kernel), List.mem_of_getElem? (i := 1552) (by decide +kernel)⟩
theorem lw_p81 : lw_okq (⟨"HouseKeepersModel", "sortRow", "()V"⟩, 53) := ⟨⟨by decide +kernel, by decide +kernel⟩, List.mem_of_getElem? (i := 1142) (by decide +kernel), List.mem_of_getElem? (i := 1555) (by decide +kernel), List.mem_of_getElem? (i := 1556) (by decide +kernel)⟩
theorem lw_p82 : lw_okq (⟨"HouseKeepersModel", "sorts10", "(I)I"⟩, 53) := ⟨⟨by decide +kernel, by decide +kernel⟩, List.mem_of_getElem? (i := 1142) (by decide +kernel), List.mem_of_getElem? (i := 1559) (by decide +kernel), List.mem_of_getElem? (i := 1560) (by decide +kernel)⟩
theorem lw_p83 : lw_okq (⟨"HouseKeepersModel", "couldTake", "(II)Z"⟩, 53) := ⟨⟨by decide +kernel, by decide +kernel⟩, List.mem_of_getElem? (i := 1142) (by decide +kernel), List.mem_of_getElem? (i := 1563) (by decide +kernel), List.mem_of_getElem? (i := 1564) (by decide +kernel)⟩
theorem lw_p84 : lw_okq (⟨"HouseKeepersModel", "bars", "()I"⟩, 53) := ⟨⟨by decide +kernel, by decide +kernel⟩, List.mem_of_getElem? (i := 1142) (by decide +kernel), List.mem_of_getElem? (i := 1575) (by decide +kernel), List.mem_of_getElem? (i := 1576) (by decide +kernel)⟩
theorem lw_p85 : lw_okq (⟨"HouseKeepersModel", "makePairs", "()V"⟩, 53) := ⟨⟨by decide +kernel, by decide +kernel⟩, List.mem_of_getElem? (i := 1142) (by decide +kernel), List.mem_of_getElem? (i := 1579) (by decide +kernel), List.mem_of_getElem? (i := 1580) (by decide +kernel)⟩
theorem lw_p86 : lw_okq (⟨"HouseKeepersModel", "prepare", "()V"⟩, 53) := ⟨⟨by decide +kernel, by decide +kernel⟩, List.mem_of_getElem? (i := 1142) (by decide +kernel), List.mem_of_getElem? (i := 1583) (by decide +kernel), List.mem_of_getElem? (i := 1584) (by decide +kernel)⟩
theorem lw_p87 : lw_okq (⟨"HouseKeepersModel", "hoursTo", "(II)I"⟩, 53) := ⟨⟨by decide +kernel, by decide +kernel⟩, List.mem_of_getElem? (i := 1142) (by decide +kernel), List.mem_of_getElem? (i := 1587) (by decide +kernel), List.mem_of_getElem? (i := 1588) (by decide +kernel)⟩
theorem lw_p88 : lw_okq (⟨"HouseKeepersModel", "holds", "(I)I"⟩, 53) := ⟨⟨by decide +kernel, by decide +kernel⟩, List.mem_of_getElem? (i := 1142) (by decide +kernel), List.mem_of_getElem? (i := 1591) (by decide +kernel), List.mem_of_getElem? (i := 1592) (by decide +kernel)⟩
theorem lw_p89 : lw_okq (⟨"HouseKeepersModel", "nextPlace", "(I)I"⟩, 53) := ⟨⟨by decide +kernel, by decide +kernel⟩, List.mem_of_getElem? (i := 1142) (by decide +kernel), List.mem_of_getElem? (i := 1595) (by decide +kernel), List.mem_of_getElem? (i := 1596) (by decide +kernel)⟩
theorem lw_p90 : lw_okq (⟨"HouseKeepersModel", "rather", "(III)Z"⟩, 53) := ⟨⟨by decide +kernel, by decide +kernel⟩, List.mem_of_getElem? (i := 1142) (by decide +kernel), List.mem_of_getElem? (i := 1599) (by decide +kernel), List.mem_of_getElem? (i := 1600) (by decide +kernel)⟩
theorem lw_p91 : lw_okq (⟨"HouseKeepersModel", "wished", "(II)I"⟩, 53) := ⟨⟨by decide +kernel, by decide +kernel⟩, List.mem_of_getElem? (i := 1142) (by decide +kernel), List.mem_of_getElem? (i := 1603) (by decide +kernel), List.mem_of_getElem? (i := 1604) (by decide +kernel)⟩
theorem lw_p92 : lw_okq (⟨"HouseKeepersModel", "prefers", "(II)Z"⟩, 53) := ⟨⟨by decide +kernel, by decide +kernel⟩, List.mem_of_getElem? (i := 1142) (by decide +kernel), List.mem_of_getElem? (i := 1607) (by decide +kernel), List.mem_of_getElem? (i := 1608) (by decide +kernel)⟩
theorem lw_p93 : lw_okq (⟨"HouseKeepersModel", "wrong", "()I"⟩, 53) := ⟨⟨by decide +kernel, by decide +kernel⟩, List.mem_of_getElem? (i := 1142) (by decide +kernel), List.mem_of_getElem? (i := 1619) (by decide +kernel), List.mem_of_getElem? (i := 1620) (by decide +kernel)⟩
theorem lw_p94 : lw_okq (⟨"HouseKeepersModel", "unrest", "()I"⟩, 53) := ⟨⟨by decide +kernel, by decide +kernel⟩, List.mem_of_getElem? (i := 1142) (by decide +kernel), List.mem_of_getElem? (i := 1623) (by decide +kernel), List.mem_of_getElem? (i := 1624) (by decide +kernel)⟩
theorem lw_p95 : lw_okq (⟨"HouseKeepersModel", "makePlaces", "()V"⟩, 53) := ⟨⟨by decide +kernel, by decide +kernel⟩, List.mem_of_getElem? (i := 1142) (by decide +kernel), List.mem_of_getElem? (i := 1635) (by decide +kernel), List.mem_of_getElem? (i := 1636) (by decide +kernel)⟩
def lw_privs_6 : List (MethodName × Nat) := [(⟨"HouseKeepersModel", "isOpenOnce", "()Z"⟩, 53), (⟨"HouseKeepersModel", "sortRow", "()V"⟩, 53), (⟨"HouseKeepersModel", "sorts10", "(I)I"⟩, 53), (⟨"HouseKeepersModel", "couldTake", "(II)Z"⟩, 53), (⟨"HouseKeepersModel", "bars", "()I"⟩, 53), (⟨"HouseKeepersModel", "makePairs", "()V"⟩, 53), (⟨"HouseKeepersModel", "prepare", "()V"⟩, 53), (⟨"HouseKeepersModel", "hoursTo", "(II)I"⟩, 53), (⟨"HouseKeepersModel", "holds", "(I)I"⟩, 53), (⟨"HouseKeepersModel", "nextPlace", "(I)I"⟩, 53), (⟨"HouseKeepersModel", "rather", "(III)Z"⟩, 53), (⟨"HouseKeepersModel", "wished", "(II)I"⟩, 53), (⟨"HouseKeepersModel", "prefers", "(II)Z"⟩, 53), (⟨"HouseKeepersModel", "wrong", "()I"⟩, 53), (⟨"HouseKeepersModel", "unrest", "()I"⟩, 53), (⟨"HouseKeepersModel", "makePlaces", "()V"⟩, 53)]
theorem lw_r6 : ∀ q ∈ lw_privs_6, lw_okq q := List.forall_mem_cons.mpr ⟨lw_p80, List.forall_mem_cons.mpr ⟨lw_p81, List.forall_mem_cons.mpr ⟨lw_p82, List.forall_mem_cons.mpr ⟨lw_p83, List.forall_mem_cons.mpr ⟨lw_p84, List.forall_mem_cons.mpr ⟨lw_p85, List.forall_mem_cons.mpr ⟨lw_p86, List.forall_mem_cons.mpr ⟨lw_p87, List.forall_mem_cons.mpr ⟨lw_p88, List.forall_mem_cons.mpr ⟨lw_p89, List.forall_mem_cons.mpr ⟨lw_p90, List.forall_mem_cons.mpr ⟨lw_p91, List.forall_mem_cons.mpr ⟨lw_p92, List.forall_mem_cons.mpr ⟨lw_p93, List.forall_mem_cons.mpr ⟨lw_p94, List.forall_mem_cons.mpr ⟨lw_p95, fun _ h => absurd h List.not_mem_nil⟩⟩⟩⟩⟩⟩⟩⟩⟩⟩⟩⟩⟩⟩⟩⟩
theorem lw_p96 : lw_okq (⟨"HouseKeepersModel", "goodness", "(II)I"⟩, 53) := ⟨⟨by decide +kernel, by decide +kernel⟩, List.mem_of_getElem? (i := 1142) (by decide +kernel), List.mem_of_getElem? (i := 1639) (by decide +kernel), List.mem_of_getElem? (i := 1640) (by decide +kernel)⟩
theorem lw_p97 : lw_okq (⟨"HouseKeepersModel", "fill", "(II)V"⟩, 53) := ⟨⟨by decide +kernel, by decide +kernel⟩, List.mem_of_getElem? (i := 1142) (by decide +kernel), List.mem_of_getElem? (i := 1643) (by decide +kernel), List.mem_of_getElem? (i := 1644) (by decide +kernel)⟩
theorem lw_p98 : lw_okq (⟨"HouseKeepersModel", "goneOf", "(I)I"⟩, 53) := ⟨⟨by decide +kernel, by decide +kernel⟩, List.mem_of_getElem? (i := 1142) (by decide +kernel), List.mem_of_getElem? (i := 1663) (by decide +kernel), List.mem_of_getElem? (i := 1664) (by decide +kernel)⟩
theorem lw_p99 : lw_okq (⟨"HouseKeepersModel", "inState", "(I)I"⟩, 53) := ⟨⟨by decide +kernel, by decide +kernel⟩, List.mem_of_getElem? (i := 1142) (by decide +kernel), List.mem_of_getElem? (i := 1675) (by decide +kernel), List.mem_of_getElem? (i := 1676) (by decide +kernel)⟩
theorem lw_p100 : lw_okq (⟨"HouseKeepersModel", "reviews", "(Z)I"⟩, 53) := ⟨⟨by decide +kernel, by decide +kernel⟩, List.mem_of_getElem? (i := 1142) (by decide +kernel), List.mem_of_getElem? (i := 1679) (by decide +kernel), List.mem_of_getElem? (i := 1680) (by decide +kernel)⟩
def lw_privs_7 : List (MethodName × Nat) := [(⟨"HouseKeepersModel", "goodness", "(II)I"⟩, 53), (⟨"HouseKeepersModel", "fill", "(II)V"⟩, 53), (⟨"HouseKeepersModel", "goneOf", "(I)I"⟩, 53), (⟨"HouseKeepersModel", "inState", "(I)I"⟩, 53), (⟨"HouseKeepersModel", "reviews", "(Z)I"⟩, 53)]
theorem lw_r7 : ∀ q ∈ lw_privs_7, lw_okq q := List.forall_mem_cons.mpr ⟨lw_p96, List.forall_mem_cons.mpr ⟨lw_p97, List.forall_mem_cons.mpr ⟨lw_p98, List.forall_mem_cons.mpr ⟨lw_p99, List.forall_mem_cons.mpr ⟨lw_p100, fun _ h => absurd h List.not_mem_nil⟩⟩⟩⟩⟩
def lw_privs : List (MethodName × Nat) := lw_privs_1 ++ (lw_privs_2 ++ (lw_privs_3 ++ (lw_privs_4 ++ (lw_privs_5 ++ (lw_privs_6 ++ (lw_privs_7))))))
def lw_tbl : List Cond := k2_sels lw_privs ++ tables_1
theorem lw_privs_ok : ∀ q ∈ lw_privs, lw_okq q := by
  show ∀ q ∈ lw_privs_1 ++ (lw_privs_2 ++ (lw_privs_3 ++ (lw_privs_4 ++ (lw_privs_5 ++ (lw_privs_6 ++ (lw_privs_7)))))), lw_okq q
  exact List.forall_mem_append.mpr ⟨lw_r1, List.forall_mem_append.mpr ⟨lw_r2, List.forall_mem_append.mpr ⟨lw_r3, List.forall_mem_append.mpr ⟨lw_r4, List.forall_mem_append.mpr ⟨lw_r5, List.forall_mem_append.mpr ⟨lw_r6, lw_r7⟩⟩⟩⟩⟩⟩
end
section
/-! names, fields, methods, their code as lists, links: printed by wip/whole/gen02.py out of claim/Statement.lean -/
def am_cns : List String := ["HouseKeepers", "HouseKeepers$Chain", "HouseKeepers$Houses", "HouseKeepers$Keepers", "HouseKeepers$Match", "HouseKeepers$Reviews", "HouseKeepers$Row", "HouseKeepers$Rules", "HouseKeepers$Stays", "HouseKeepers$Terms", "HouseKeepers$Text", "HouseKeepers$Towns", "HouseKeepersModel", "HouseKeepersLaw", "java/util/Arrays", "java/lang/Math", "java/lang/Integer", "java/lang/String", "java/lang/StringLatin1", "java/lang/System"]
def am_cn (c : Nat) : String := am_cns.getD c ""
def am_fl : List (List (String × String × String × Bool)) := [[("HouseKeepers", "refusals", "[I", true), ("HouseKeepers", "towns", "LHouseKeepers$Towns;", true), ("HouseKeepers", "keepers", "LHouseKeepers$Keepers;", true), ("HouseKeepers", "houses", "LHouseKeepers$Houses;", true), ("HouseKeepers", "stays", "LHouseKeepers$Stays;", true), ("HouseKeepers", "reviews", "LHouseKeepers$Reviews;", true), ("HouseKeepers", "terms", "LHouseKeepers$Terms;", true), ("HouseKeepers", "tape", "LHouseKeepers$Row;", true), ("HouseKeepers", "text", "LHouseKeepers$Text;", true), ("HouseKeepers", "row", "LHouseKeepers$Row;", true), ("HouseKeepers", "told", "LHouseKeepers$Row;", true), ("HouseKeepers", "rules", "LHouseKeepers$Rules;", true), ("HouseKeepers", "chain", "LHouseKeepers$Chain;", true), ("HouseKeepers", "match", "LHouseKeepers$Match;", true)],
  [("HouseKeepers$Chain", "bestDays", "I", false), ("HouseKeepers$Chain", "bestSet", "I", false), ("HouseKeepers$Chain", "stays", "LHouseKeepers$Stays;", true), ("HouseKeepers$Chain", "rules", "LHouseKeepers$Rules;", true), ("HouseKeepers$Chain", "stayAt", "[I", true), ("HouseKeepers$Chain", "bitAt", "[I", true), ("HouseKeepers$Chain", "daysLeft", "[I", true), ("HouseKeepers$Chain", "size", "I", false)],
  [("HouseKeepers$Houses", "count", "I", false), ("HouseKeepers$Houses", "town", "[I", true), ("HouseKeepers$Houses", "beasts", "[I", true), ("HouseKeepers$Houses", "look", "[[I", true)],
  [("HouseKeepers$Keepers", "count", "I", false), ("HouseKeepers$Keepers", "town", "[I", true), ("HouseKeepers$Keepers", "beasts", "[I", true), ("HouseKeepers$Keepers", "persons", "[I", true), ("HouseKeepers$Keepers", "marks", "[I", true), ("HouseKeepers$Keepers", "wish", "[[I", true)],
  [("HouseKeepers$Match", "chosen", "[I", true), ("HouseKeepers$Match", "hoursInAll", "I", false), ("HouseKeepers$Match", "placedInAll", "I", false), ("HouseKeepers$Match", "keepers", "LHouseKeepers$Keepers;", true), ("HouseKeepers$Match", "stays", "LHouseKeepers$Stays;", true), ("HouseKeepers$Match", "reviews", "LHouseKeepers$Reviews;", true), ("HouseKeepers$Match", "rules", "LHouseKeepers$Rules;", true), ("HouseKeepers$Match", "stayAt", "[I", true), ("HouseKeepers$Match", "may", "[I", true), ("HouseKeepers$Match", "size", "I", false), ("HouseKeepers$Match", "refused", "[I", true), ("HouseKeepers$Match", "hoursTo", "[I", true), ("HouseKeepers$Match", "least", "[J", true)],
  [("HouseKeepers$Reviews", "count", "I", false), ("HouseKeepers$Reviews", "hand", "[I", true), ("HouseKeepers$Reviews", "trust", "[I", true), ("HouseKeepers$Reviews", "known", "[I", true), ("HouseKeepers$Reviews", "stays", "LHouseKeepers$Stays;", true), ("HouseKeepers$Reviews", "stars", "[[I", true), ("HouseKeepers$Reviews", "toldOn", "[[I", true), ("HouseKeepers$Reviews", "given", "[I", true), ("HouseKeepers$Reviews", "knownOn", "I", false)],
  [("HouseKeepers$Row", "size", "I", false), ("HouseKeepers$Row", "numbers", "[I", true)],
  [("HouseKeepers$Rules", "towns", "LHouseKeepers$Towns;", true), ("HouseKeepers$Rules", "keepers", "LHouseKeepers$Keepers;", true), ("HouseKeepers$Rules", "houses", "LHouseKeepers$Houses;", true), ("HouseKeepers$Rules", "stays", "LHouseKeepers$Stays;", true), ("HouseKeepers$Rules", "reviews", "LHouseKeepers$Reviews;", true), ("HouseKeepers$Rules", "terms", "LHouseKeepers$Terms;", true), ("HouseKeepers$Rules", "letters", "[I", true), ("HouseKeepers$Rules", "mine", "[I", true), ("HouseKeepers$Rules", "mineCount", "I", false)],
  [("HouseKeepers$Stays", "now", "I", false), ("HouseKeepers$Stays", "count", "I", false), ("HouseKeepers$Stays", "house", "[I", true), ("HouseKeepers$Stays", "from", "[I", true), ("HouseKeepers$Stays", "to", "[I", true), ("HouseKeepers$Stays", "state", "[I", true), ("HouseKeepers$Stays", "keeper", "[I", true), ("HouseKeepers$Stays", "before", "[I", true), ("HouseKeepers$Stays", "after", "[I", true)],
  [("HouseKeepers$Terms", "count", "I", false), ("HouseKeepers$Terms", "house", "[I", true), ("HouseKeepers$Terms", "day", "[I", true), ("HouseKeepers$Terms", "size", "[I", true), ("HouseKeepers$Terms", "steps", "[I", true), ("HouseKeepers$Terms", "stack", "[J", true)],
  [("HouseKeepers$Text", "size", "I", false), ("HouseKeepers$Text", "steps", "[I", true), ("HouseKeepers$Text", "tape", "LHouseKeepers$Row;", true), ("HouseKeepers$Text", "at", "I", false), ("HouseKeepers$Text", "fault", "I", false)],
  [("HouseKeepers$Towns", "land", "[I", true), ("HouseKeepers$Towns", "limit", "[I", true), ("HouseKeepers$Towns", "hours", "[[I", true)],
  [("HouseKeepersModel", "today", "I", false), ("HouseKeepersModel", "landOf", "[I", true), ("HouseKeepersModel", "hours", "[I", true), ("HouseKeepersModel", "limitOf", "[I", true), ("HouseKeepersModel", "keepers", "I", false), ("HouseKeepersModel", "keTown", "[I", true), ("HouseKeepersModel", "keBeasts", "[I", true), ("HouseKeepersModel", "kePersons", "[I", true), ("HouseKeepersModel", "keMarks", "[I", true), ("HouseKeepersModel", "wishOf", "[I", true), ("HouseKeepersModel", "houses", "I", false), ("HouseKeepersModel", "hoTown", "[I", true), ("HouseKeepersModel", "hoBeasts", "[I", true), ("HouseKeepersModel", "lookOf", "[I", true), ("HouseKeepersModel", "stays", "I", false), ("HouseKeepersModel", "sHouse", "[I", true), ("HouseKeepersModel", "sFrom", "[I", true), ("HouseKeepersModel", "sTo", "[I", true), ("HouseKeepersModel", "sState", "[I", true), ("HouseKeepersModel", "sKeeper", "[I", true), ("HouseKeepersModel", "stars", "[I", true), ("HouseKeepersModel", "starsDay", "[I", true), ("HouseKeepersModel", "items", "[I", true), ("HouseKeepersModel", "tape", "[B", true), ("HouseKeepersModel", "taped", "I", false), ("HouseKeepersModel", "terms", "I", false), ("HouseKeepersModel", "tHouse", "[I", true), ("HouseKeepersModel", "tDay", "[I", true), ("HouseKeepersModel", "tLength", "[I", true), ("HouseKeepersModel", "tText", "[B", true), ("HouseKeepersModel", "related", "[Z", true), ("HouseKeepersModel", "sumOf", "[J", true), ("HouseKeepersModel", "sumSign", "[I", true), ("HouseKeepersModel", "termOf", "[J", true), ("HouseKeepersModel", "termSign", "[I", true), ("HouseKeepersModel", "relation", "[I", true), ("HouseKeepersModel", "leftOf", "[J", true), ("HouseKeepersModel", "spent", "[Z", true), ("HouseKeepersModel", "row", "[I", true), ("HouseKeepersModel", "rowLength", "I", false), ("HouseKeepersModel", "told", "[I", true), ("HouseKeepersModel", "toldLength", "I", false), ("HouseKeepersModel", "order", "[I", true), ("HouseKeepersModel", "held", "[I", true), ("HouseKeepersModel", "asked", "[I", true), ("HouseKeepersModel", "manyOf", "[I", true), ("HouseKeepersModel", "farOf", "[I", true), ("HouseKeepersModel", "mayOf", "[I", true), ("HouseKeepersModel", "wayOf", "[I", true), ("HouseKeepersModel", "placed", "[I", true), ("HouseKeepersModel", "placedSum", "I", false), ("HouseKeepersModel", "placedMany", "I", false), ("HouseKeepersModel", "refusals", "[I", true)]]
def am_F (c : Nat) : u_T := fun k => (am_fl.getD c []).getD k ("", "", "", false)
def am_tl : List (List FieldType) := [[(.array .int), (.object "HouseKeepers$Towns"), (.object "HouseKeepers$Keepers"), (.object "HouseKeepers$Houses"), (.object "HouseKeepers$Stays"), (.object "HouseKeepers$Reviews"), (.object "HouseKeepers$Terms"), (.object "HouseKeepers$Row"), (.object "HouseKeepers$Text"), (.object "HouseKeepers$Row"), (.object "HouseKeepers$Row"), (.object "HouseKeepers$Rules"), (.object "HouseKeepers$Chain"), (.object "HouseKeepers$Match")],
  [.int, .int, (.object "HouseKeepers$Stays"), (.object "HouseKeepers$Rules"), (.array .int), (.array .int), (.array .int), .int],
  [.int, (.array .int), (.array .int), (.array (.array .int))],
  [.int, (.array .int), (.array .int), (.array .int), (.array .int), (.array (.array .int))],
  [(.array .int), .int, .int, (.object "HouseKeepers$Keepers"), (.object "HouseKeepers$Stays"), (.object "HouseKeepers$Reviews"), (.object "HouseKeepers$Rules"), (.array .int), (.array .int), .int, (.array .int), (.array .int), (.array .long)],
  [.int, (.array .int), (.array .int), (.array .int), (.object "HouseKeepers$Stays"), (.array (.array .int)), (.array (.array .int)), (.array .int), .int],
  [.int, (.array .int)],
  [(.object "HouseKeepers$Towns"), (.object "HouseKeepers$Keepers"), (.object "HouseKeepers$Houses"), (.object "HouseKeepers$Stays"), (.object "HouseKeepers$Reviews"), (.object "HouseKeepers$Terms"), (.array .int), (.array .int), .int],
  [.int, .int, (.array .int), (.array .int), (.array .int), (.array .int), (.array .int), (.array .int), (.array .int)],
  [.int, (.array .int), (.array .int), (.array .int), (.array .int), (.array .long)],
  [.int, (.array .int), (.object "HouseKeepers$Row"), .int, .int],
  [(.array .int), (.array .int), (.array (.array .int))],
  [.int, (.array .int), (.array .int), (.array .int), .int, (.array .int), (.array .int), (.array .int), (.array .int), (.array .int), .int, (.array .int), (.array .int), (.array .int), .int, (.array .int), (.array .int), (.array .int), (.array .int), (.array .int), (.array .int), (.array .int), (.array .int), (.array .byte), .int, .int, (.array .int), (.array .int), (.array .int), (.array .byte), (.array .boolean), (.array .long), (.array .int), (.array .long), (.array .int), (.array .int), (.array .long), (.array .boolean), (.array .int), .int, (.array .int), .int, (.array .int), (.array .int), (.array .int), (.array .int), (.array .int), (.array .int), (.array .int), (.array .int), .int, .int, (.array .int)]]
def am_T (c : Nat) : Nat → FieldType := fun k => (am_tl.getD c []).getD k .int
def am_N (c : Nat) : Nat := (am_tl.getD c []).length
def am_df (c : Nat) : List Value := (am_tl.getD c []).map (fun t => match t with | .int => .int 0 | _ => .null)
def am_nO : Nat := 13
def classes : List vw_C := (List.range am_nO).map (fun c => (am_cn c, am_F c, am_N c))
/-- a method: class, name, descriptor, bytes, locals, answer, parameters, kind (0 of an object, 1 static, 2 constructor), cells and slots that it makes at most -/
abbrev am_MI : Type := Nat × String × String × ByteArray × Nat × Option FieldType × Nat × Nat × Nat × Nat
def am_ms : List am_MI := [
  (0, "<init>", "()V", prog_1_method_1_code, 1, none, 0, 2, 112, 4347),
  (0, "days", "(I)I", prog_1_method_2_code, 2, (some .int), 1, 0, 0, 0),
  (0, "refuse", "(I)I", prog_1_method_37_code, 3, (some .int), 1, 0, 0, 0),
  (0, "town", "(II)I", prog_1_method_3_code, 4, (some .int), 2, 0, 0, 0),
  (0, "way", "(III)I", prog_1_method_4_code, 6, (some .int), 3, 0, 0, 0),
  (0, "boundRefusal", "(III)I", prog_1_method_39_code, 3, (some .int), 3, 1, 0, 0),
  (0, "limit", "(II)I", prog_1_method_5_code, 5, (some .int), 2, 0, 0, 0),
  (0, "keeper", "(IIII)I", prog_1_method_6_code, 5, (some .int), 4, 0, 0, 0),
  (0, "house", "(II)I", prog_1_method_7_code, 4, (some .int), 2, 0, 0, 0),
  (0, "stay", "(III)I", prog_1_method_8_code, 4, (some .int), 3, 0, 0, 0),
  (0, "stayOf", "(II)I", prog_1_method_9_code, 3, (some .int), 2, 0, 0, 0),
  (0, "why", "(II)I", prog_1_method_10_code, 3, (some .int), 2, 0, 0, 0),
  (0, "take", "(II)I", prog_1_method_11_code, 3, (some .int), 2, 0, 0, 0),
  (0, "cancel", "(I)I", prog_1_method_12_code, 2, (some .int), 1, 0, 0, 0),
  (0, "where", "(II)I", prog_1_method_13_code, 4, (some .int), 2, 0, 0, 0),
  (0, "feed", "(IJ)I", prog_1_method_14_code, 6, (some .int), 2, 0, 0, 0),
  (0, "term", "(II)I", prog_1_method_15_code, 5, (some .int), 2, 0, 0, 0),
  (0, "worth", "(II)I", prog_1_method_16_code, 3, (some .int), 2, 0, 0, 0),
  (0, "refuseBeyond", "(I)I", prog_1_method_38_code, 2, (some .int), 1, 0, 0, 0),
  (0, "review", "(IZI)I", prog_1_method_17_code, 6, (some .int), 3, 0, 0, 0),
  (0, "hand", "(II)I", prog_1_method_18_code, 4, (some .int), 2, 0, 0, 0),
  (0, "trust", "(II)I", prog_1_method_19_code, 4, (some .int), 2, 0, 0, 0),
  (0, "bound", "(II)I", prog_1_method_20_code, 4, (some .int), 2, 0, 0, 0),
  (0, "stars", "(II)I", prog_1_method_21_code, 4, (some .int), 2, 0, 0, 0),
  (0, "put", "(I)I", prog_1_method_22_code, 2, (some .int), 1, 0, 0, 0),
  (0, "putInto", "(LHouseKeepers$Row;I)I", prog_1_method_40_code, 4, (some .int), 2, 0, 0, 0),
  (0, "unput", "()I", prog_1_method_23_code, 2, (some .int), 0, 0, 0, 0),
  (0, "chain", "(II)I", prog_1_method_24_code, 3, (some .int), 2, 0, 0, 0),
  (0, "rowHasStaysAlone", "()Z", prog_1_method_41_code, 2, (some .boolean), 0, 0, 0, 0),
  (0, "rowIsOpenAndSingle", "()Z", prog_1_method_42_code, 3, (some .boolean), 0, 0, 0, 0),
  (0, "wish", "(III)I", prog_1_method_25_code, 6, (some .int), 3, 0, 0, 0),
  (0, "pair", "(I)I", prog_1_method_26_code, 3, (some .int), 1, 0, 0, 0),
  (0, "rowRefusal", "()I", prog_1_method_43_code, 1, (some .int), 0, 0, 0, 0),
  (0, "tell", "(I)I", prog_1_method_27_code, 2, (some .int), 1, 0, 0, 0),
  (0, "judge", "()I", prog_1_method_28_code, 3, (some .int), 0, 0, 0, 0),
  (0, "whoElse", "(I)I", prog_1_method_29_code, 2, (some .int), 1, 0, 0, 0),
  (0, "place", "(I)I", prog_1_method_30_code, 4, (some .int), 1, 0, 0, 0),
  (0, "group", "(I)I", prog_1_method_31_code, 2, (some .int), 1, 0, 0, 0),
  (0, "list", "(IZI)I", prog_1_method_32_code, 7, (some .int), 3, 0, 0, 0),
  (0, "look", "(III)I", prog_1_method_33_code, 5, (some .int), 3, 0, 0, 0),
  (0, "gone", "(I)I", prog_1_method_34_code, 2, (some .int), 1, 0, 0, 0),
  (0, "claim", "(I)I", prog_1_method_35_code, 2, (some .int), 1, 0, 0, 0),
  (0, "count", "(I)I", prog_1_method_36_code, 2, (some .int), 1, 0, 0, 0),
  (1, "<init>", "(LHouseKeepers$Stays;LHouseKeepers$Rules;)V", prog_2_method_1_code, 3, none, 2, 2, 3, 31),
  (1, "find", "(ILHouseKeepers$Row;)V", prog_2_method_2_code, 4, none, 2, 0, 0, 0),
  (1, "insert", "(II)V", prog_2_method_3_code, 4, none, 2, 0, 0, 0),
  (1, "search", "(IIII)V", prog_2_method_4_code, 5, none, 4, 0, 0, 0),
  (1, "weigh", "(II)V", prog_2_method_5_code, 4, none, 2, 0, 0, 0),
  (2, "<init>", "()V", prog_3_method_1_code, 2, none, 0, 2, 23, 680),
  (2, "add", "(II)I", prog_3_method_3_code, 4, (some .int), 2, 0, 0, 0),
  (2, "has", "(I)Z", prog_3_method_2_code, 2, (some .boolean), 1, 0, 0, 0),
  (2, "priceOf", "(II)I", prog_3_method_4_code, 5, (some .int), 2, 0, 0, 0),
  (3, "<init>", "()V", prog_4_method_1_code, 1, none, 0, 2, 25, 200),
  (3, "add", "(IIII)I", prog_4_method_3_code, 6, (some .int), 4, 0, 0, 0),
  (3, "has", "(I)Z", prog_4_method_2_code, 2, (some .boolean), 1, 0, 0, 0),
  (3, "areAlike", "(II)Z", prog_4_method_4_code, 7, (some .boolean), 2, 0, 0, 0),
  (3, "leastOfGroup", "(I)I", prog_4_method_5_code, 5, (some .int), 1, 0, 0, 0),
  (3, "withThoseAlike", "(I)I", prog_4_method_6_code, 4, (some .int), 1, 0, 0, 0),
  (3, "isAlikeToOneOf", "(II)Z", prog_4_method_7_code, 4, (some .boolean), 2, 0, 0, 0),
  (4, "<init>", "(LHouseKeepers$Keepers;LHouseKeepers$Stays;LHouseKeepers$Reviews;LHouseKeepers$Rules;)V", prog_5_method_1_code, 5, none, 4, 2, 6, 108),
  (4, "survey", "(LHouseKeepers$Row;)V", prog_5_method_2_code, 4, none, 1, 0, 0, 0),
  (4, "makePairs", "()V", prog_5_method_3_code, 5, none, 0, 0, 0, 0),
  (4, "hasPlace", "(I)Z", prog_5_method_4_code, 3, (some .boolean), 1, 0, 0, 0),
  (4, "bestToAsk", "(I)I", prog_5_method_5_code, 4, (some .int), 1, 0, 0, 0),
  (4, "mayTake", "(II)Z", prog_5_method_7_code, 3, (some .boolean), 2, 0, 0, 0),
  (4, "keeperPrefers", "(III)Z", prog_5_method_8_code, 6, (some .boolean), 3, 0, 0, 0),
  (4, "ask", "(II)V", prog_5_method_6_code, 4, none, 2, 0, 0, 0),
  (4, "stayPrefers", "(II)Z", prog_5_method_9_code, 5, (some .boolean), 2, 0, 0, 0),
  (4, "verdictOn", "(LHouseKeepers$Row;)I", prog_5_method_10_code, 4, (some .int), 1, 0, 0, 0),
  (4, "wouldBeLeft", "(LHouseKeepers$Row;I)Z", prog_5_method_11_code, 7, (some .boolean), 2, 0, 0, 0),
  (4, "nearestFor", "(I)I", prog_5_method_12_code, 7, (some .int), 1, 0, 0, 0),
  (4, "makePlaces", "()V", prog_5_method_13_code, 4, none, 0, 0, 0, 0),
  (4, "addKeeperToWays", "(I)V", prog_5_method_14_code, 6, none, 1, 0, 0, 0),
  (4, "weightOfEmptyBeside", "(I)J", prog_5_method_15_code, 5, (some .long), 1, 0, 0, 0),
  (4, "readWay", "(J)V", prog_5_method_16_code, 5, none, 1, 0, 0, 0),
  (5, "<init>", "(LHouseKeepers$Stays;)V", prog_6_method_1_code, 2, none, 1, 2, 10, 324),
  (5, "know", "(I)V", prog_6_method_8_code, 2, none, 1, 0, 0, 0),
  (5, "knowHands", "(I)V", prog_6_method_9_code, 3, none, 1, 0, 0, 0),
  (5, "isCounting", "(III)Z", prog_6_method_4_code, 4, (some .boolean), 3, 0, 0, 0),
  (5, "knowTrust", "(I)V", prog_6_method_10_code, 4, none, 1, 0, 0, 0),
  (5, "mayBeTold", "(II)Z", prog_6_method_2_code, 4, (some .boolean), 2, 0, 0, 0),
  (5, "add", "(III)V", prog_6_method_3_code, 4, none, 3, 0, 0, 0),
  (5, "doubtOf", "(I)I", prog_6_method_7_code, 2, (some .int), 1, 0, 0, 0),
  (5, "meanOfHouse", "(II)I", prog_6_method_6_code, 6, (some .int), 2, 0, 0, 0),
  (5, "countingOn", "(I)I", prog_6_method_5_code, 4, (some .int), 1, 0, 0, 0),
  (6, "<init>", "(I)V", prog_7_method_1_code, 2, none, 1, 2, 1, 60),
  (6, "hasRoomFor", "(I)Z", prog_7_method_2_code, 2, (some .boolean), 1, 0, 0, 0),
  (6, "add", "(I)V", prog_7_method_3_code, 2, none, 1, 0, 0, 0),
  (6, "at", "(I)I", prog_7_method_4_code, 2, (some .int), 1, 0, 0, 0),
  (6, "clear", "()V", prog_7_method_6_code, 1, none, 0, 0, 0, 0),
  (6, "firstPlaceOf", "(I)I", prog_7_method_5_code, 3, (some .int), 1, 0, 0, 0),
  (7, "<init>", "(LHouseKeepers$Towns;LHouseKeepers$Keepers;LHouseKeepers$Houses;LHouseKeepers$Stays;LHouseKeepers$Reviews;LHouseKeepers$Terms;)V", prog_8_method_1_code, 7, none, 6, 2, 2, 184),
  (7, "whyNot", "(II)I", prog_8_method_2_code, 3, (some .int), 2, 0, 0, 0),
  (7, "gatherStaysOf", "(I)V", prog_8_method_3_code, 3, none, 1, 0, 0, 0),
  (7, "addToMine", "(I)V", prog_8_method_4_code, 2, none, 1, 0, 0, 0),
  (7, "whyNotBesideMine", "(II)I", prog_8_method_6_code, 4, (some .int), 2, 0, 0, 0),
  (7, "hasBegun", "(I)Z", prog_8_method_14_code, 2, (some .boolean), 1, 0, 0, 0),
  (7, "hasStrangeBeasts", "(II)Z", prog_8_method_15_code, 3, (some .boolean), 2, 0, 0, 0),
  (7, "whyNotByDays", "(II)I", prog_8_method_8_code, 3, (some .int), 2, 0, 0, 0),
  (7, "clashesWithMine", "(I)Z", prog_8_method_16_code, 3, (some .boolean), 1, 0, 0, 0),
  (7, "isTooFar", "(II)Z", prog_8_method_17_code, 7, (some .boolean), 2, 0, 0, 0),
  (7, "lastOfMineAheadOf", "(I)I", prog_8_method_18_code, 4, (some .int), 1, 0, 0, 0),
  (7, "townOf", "(I)I", prog_8_method_13_code, 2, (some .int), 1, 0, 0, 0),
  (7, "firstOfMineBehind", "(I)I", prog_8_method_19_code, 4, (some .int), 1, 0, 0, 0),
  (7, "isTooLongInLand", "(I)Z", prog_8_method_20_code, 5, (some .boolean), 1, 0, 0, 0),
  (7, "landOf", "(I)I", prog_8_method_12_code, 2, (some .int), 1, 0, 0, 0),
  (7, "daysInLand", "(III)I", prog_8_method_21_code, 7, (some .int), 3, 0, 0, 0),
  (7, "worthOfTerm", "(II)I", prog_8_method_9_code, 4, (some .int), 2, 0, 0, 0),
  (7, "setLetters", "(II)V", prog_8_method_22_code, 4, none, 2, 0, 0, 0),
  (7, "hasBadTwin", "(I)Z", prog_8_method_23_code, 3, (some .boolean), 1, 0, 0, 0),
  (7, "townOn", "(II)I", prog_8_method_10_code, 5, (some .int), 2, 0, 0, 0),
  (7, "mayAlone", "(II)Z", prog_8_method_7_code, 3, (some .boolean), 2, 0, 0, 0),
  (7, "dropLastOfMine", "()V", prog_8_method_5_code, 1, none, 0, 0, 0, 0),
  (7, "hoursTo", "(II)I", prog_8_method_11_code, 3, (some .int), 2, 0, 0, 0),
  (8, "<init>", "()V", prog_9_method_1_code, 1, none, 0, 2, 7, 420),
  (8, "isHouseKept", "(III)Z", prog_9_method_8_code, 6, (some .boolean), 3, 0, 0, 0),
  (8, "daysWithin", "(III)I", prog_9_method_7_code, 6, (some .int), 3, 0, 0, 0),
  (8, "add", "(III)I", prog_9_method_3_code, 5, (some .int), 3, 0, 0, 0),
  (8, "has", "(I)Z", prog_9_method_2_code, 2, (some .boolean), 1, 0, 0, 0),
  (8, "isOver", "(I)Z", prog_9_method_4_code, 2, (some .boolean), 1, 0, 0, 0),
  (8, "isTakenBy", "(II)Z", prog_9_method_5_code, 3, (some .boolean), 2, 0, 0, 0),
  (8, "lengthOf", "(I)I", prog_9_method_6_code, 2, (some .int), 1, 0, 0, 0),
  (8, "hasBothLists", "(I)Z", prog_9_method_10_code, 2, (some .boolean), 1, 0, 0, 0),
  (8, "itemsGone", "(I)I", prog_9_method_11_code, 2, (some .int), 1, 0, 0, 0),
  (8, "howMany", "(I)I", prog_9_method_9_code, 4, (some .int), 1, 0, 0, 0),
  (9, "<init>", "()V", prog_10_method_1_code, 1, none, 0, 2, 5, 1950),
  (9, "inForce", "(II)I", prog_10_method_3_code, 4, (some .int), 2, 0, 0, 0),
  (9, "latest", "(II)I", prog_10_method_4_code, 5, (some .int), 2, 0, 0, 0),
  (9, "valueOf", "(I[I)I", prog_10_method_5_code, 6, (some .int), 2, 0, 0, 0),
  (9, "unit", "(I[I)J", prog_10_method_6_code, 3, (some .long), 2, 1, 0, 0),
  (9, "joined", "(IJJ)J", prog_10_method_7_code, 5, (some .long), 3, 1, 0, 0),
  (9, "held", "(J)J", prog_10_method_8_code, 2, (some .long), 1, 1, 0, 0),
  (9, "add", "(IILHouseKeepers$Text;)I", prog_10_method_2_code, 4, (some .int), 3, 0, 0, 0),
  (10, "<init>", "(LHouseKeepers$Row;)V", prog_11_method_1_code, 2, none, 1, 2, 1, 60),
  (10, "read", "()I", prog_11_method_2_code, 1, (some .int), 0, 0, 0, 0),
  (10, "readSum", "(I)V", prog_11_method_6_code, 4, none, 1, 0, 0, 0),
  (10, "readProduct", "(I)V", prog_11_method_7_code, 4, none, 1, 0, 0, 0),
  (10, "readUnit", "(I)V", prog_11_method_8_code, 3, none, 1, 0, 0, 0),
  (10, "next", "()I", prog_11_method_3_code, 1, (some .int), 0, 0, 0, 0),
  (10, "isDigit", "(I)Z", prog_11_method_9_code, 1, (some .boolean), 1, 1, 0, 0),
  (10, "readNumber", "()V", prog_11_method_10_code, 3, none, 0, 0, 0, 0),
  (10, "addStep", "(I)V", prog_11_method_5_code, 2, none, 1, 0, 0, 0),
  (10, "readBracket", "(I)V", prog_11_method_12_code, 3, none, 1, 0, 0, 0),
  (10, "fail", "()V", prog_11_method_4_code, 1, none, 0, 0, 0, 0),
  (10, "readLetter", "(I)V", prog_11_method_11_code, 3, none, 1, 0, 0, 0),
  (11, "<init>", "()V", prog_12_method_1_code, 2, none, 0, 2, 13, 125),
  (11, "hasTown", "(I)Z", prog_12_method_2_code, 2, (some .boolean), 1, 0, 0, 0),
  (11, "hasLand", "(I)Z", prog_12_method_3_code, 2, (some .boolean), 1, 0, 0, 0),
  (11, "daysBetween", "(II)I", prog_12_method_4_code, 3, (some .int), 2, 0, 0, 0),
  (12, "<init>", "()V", prog_14_method_1_code, 3, none, 0, 2, 43, 5450),
  (12, "days", "(I)I", prog_14_method_10_code, 2, (some .int), 1, 0, 0, 0),
  (12, "no", "(I)I", prog_14_method_2_code, 2, (some .int), 1, 0, 0, 0),
  (12, "town", "(II)I", prog_14_method_11_code, 4, (some .int), 2, 0, 0, 0),
  (12, "isTown", "(I)Z", prog_14_method_7_code, 2, (some .boolean), 1, 0, 0, 0),
  (12, "way", "(III)I", prog_14_method_12_code, 5, (some .int), 3, 0, 0, 0),
  (12, "limit", "(II)I", prog_14_method_13_code, 4, (some .int), 2, 0, 0, 0),
  (12, "keeper", "(IIII)I", prog_14_method_14_code, 5, (some .int), 4, 0, 0, 0),
  (12, "house", "(II)I", prog_14_method_15_code, 3, (some .int), 2, 0, 0, 0),
  (12, "stay", "(III)I", prog_14_method_16_code, 5, (some .int), 3, 0, 0, 0),
  (12, "isHouse", "(I)Z", prog_14_method_5_code, 2, (some .boolean), 1, 0, 0, 0),
  (12, "stayOf", "(II)I", prog_14_method_17_code, 3, (some .int), 2, 0, 0, 0),
  (12, "isStay", "(I)Z", prog_14_method_6_code, 2, (some .boolean), 1, 0, 0, 0),
  (12, "isOver", "(I)Z", prog_14_method_9_code, 2, (some .boolean), 1, 0, 0, 0),
  (12, "why", "(II)I", prog_14_method_24_code, 3, (some .int), 2, 0, 0, 0),
  (12, "isKeeper", "(I)Z", prog_14_method_4_code, 2, (some .boolean), 1, 0, 0, 0),
  (12, "whyNot", "(II)I", prog_14_method_23_code, 3, (some .int), 2, 0, 0, 0),
  (12, "meets", "(II)Z", prog_14_method_22_code, 4, (some .boolean), 2, 0, 0, 0),
  (12, "has", "(II)Z", prog_14_method_18_code, 3, (some .boolean), 2, 0, 0, 0),
  (12, "isLate", "(II)Z", prog_14_method_20_code, 6, (some .boolean), 2, 0, 0, 0),
  (12, "townOf", "(I)I", prog_14_method_8_code, 2, (some .int), 1, 0, 0, 0),
  (12, "isFar", "(III)Z", prog_14_method_19_code, 4, (some .boolean), 3, 0, 0, 0),
  (12, "isTooLong", "(II)Z", prog_14_method_21_code, 6, (some .boolean), 2, 0, 0, 0),
  (12, "worthOf", "(II)I", prog_14_method_46_code, 4, (some .int), 2, 0, 0, 0),
  (12, "latest", "(I)I", prog_14_method_36_code, 4, (some .int), 1, 0, 0, 0),
  (12, "evaluated", "(III)J", prog_14_method_45_code, 9, (some .long), 3, 0, 0, 0),
  (12, "open", "(I)V", prog_14_method_41_code, 2, none, 1, 0, 0, 0),
  (12, "closed", "(I)J", prog_14_method_44_code, 5, (some .long), 1, 0, 0, 0),
  (12, "total", "(I)J", prog_14_method_43_code, 2, (some .long), 1, 0, 0, 0),
  (12, "kept", "(J)J", prog_14_method_40_code, 3, (some .long), 1, 0, 0, 0),
  (12, "unit", "(IJ)V", prog_14_method_42_code, 4, none, 2, 0, 0, 0),
  (12, "isSign", "(I)Z", prog_14_method_32_code, 2, (some .boolean), 1, 0, 0, 0),
  (12, "isRelation", "(I)Z", prog_14_method_33_code, 2, (some .boolean), 1, 0, 0, 0),
  (12, "isLetter", "(I)Z", prog_14_method_31_code, 2, (some .boolean), 1, 0, 0, 0),
  (12, "letter", "(III)J", prog_14_method_39_code, 5, (some .long), 3, 0, 0, 0),
  (12, "trustOf", "(II)I", prog_14_method_52_code, 5, (some .int), 2, 0, 0, 0),
  (12, "counts", "(II)Z", prog_14_method_48_code, 4, (some .boolean), 2, 0, 0, 0),
  (12, "handOf", "(II)I", prog_14_method_50_code, 6, (some .int), 2, 0, 0, 0),
  (12, "reviewsOf", "(II)I", prog_14_method_51_code, 5, (some .int), 2, 0, 0, 0),
  (12, "sorts", "(I)I", prog_14_method_37_code, 4, (some .int), 1, 0, 0, 0),
  (12, "alike", "(II)Z", prog_14_method_38_code, 7, (some .boolean), 2, 0, 0, 0),
  (12, "isDigit", "(I)Z", prog_14_method_30_code, 2, (some .boolean), 1, 0, 0, 0),
  (12, "take", "(II)I", prog_14_method_25_code, 3, (some .int), 2, 0, 0, 0),
  (12, "cancel", "(I)I", prog_14_method_26_code, 2, (some .int), 1, 0, 0, 0),
  (12, "where", "(II)I", prog_14_method_28_code, 3, (some .int), 2, 0, 0, 0),
  (12, "whereOf", "(II)I", prog_14_method_27_code, 5, (some .int), 2, 0, 0, 0),
  (12, "feed", "(IJ)I", prog_14_method_29_code, 5, (some .int), 2, 0, 0, 0),
  (12, "term", "(II)I", prog_14_method_35_code, 6, (some .int), 2, 0, 0, 0),
  (12, "fault", "()I", prog_14_method_34_code, 6, (some .int), 0, 0, 0, 0),
  (12, "worth", "(II)I", prog_14_method_47_code, 3, (some .int), 2, 0, 0, 0),
  (12, "far", "(I)I", prog_14_method_3_code, 2, (some .int), 1, 0, 0, 0),
  (12, "review", "(IZI)I", prog_14_method_49_code, 5, (some .int), 3, 0, 0, 0),
  (12, "hand", "(II)I", prog_14_method_53_code, 3, (some .int), 2, 0, 0, 0),
  (12, "trust", "(II)I", prog_14_method_54_code, 3, (some .int), 2, 0, 0, 0),
  (12, "bound", "(II)I", prog_14_method_55_code, 4, (some .int), 2, 0, 0, 0),
  (12, "stars", "(II)I", prog_14_method_56_code, 6, (some .int), 2, 0, 0, 0),
  (12, "put", "(I)I", prog_14_method_57_code, 2, (some .int), 1, 0, 0, 0),
  (12, "unput", "()I", prog_14_method_58_code, 2, (some .int), 0, 0, 0, 0),
  (12, "chain", "(II)I", prog_14_method_63_code, 8, (some .int), 2, 0, 0, 0),
  (12, "isAllStays", "()Z", prog_14_method_59_code, 2, (some .boolean), 0, 0, 0, 0),
  (12, "isOpenOnce", "()Z", prog_14_method_60_code, 3, (some .boolean), 0, 0, 0, 0),
  (12, "sortRow", "()V", prog_14_method_61_code, 3, none, 0, 0, 0, 0),
  (12, "sorts10", "(I)I", prog_14_method_64_code, 4, (some .int), 1, 0, 0, 0),
  (12, "couldTake", "(II)Z", prog_14_method_62_code, 6, (some .boolean), 2, 0, 0, 0),
  (12, "wish", "(III)I", prog_14_method_65_code, 5, (some .int), 3, 0, 0, 0),
  (12, "pair", "(I)I", prog_14_method_74_code, 3, (some .int), 1, 0, 0, 0),
  (12, "bars", "()I", prog_14_method_73_code, 1, (some .int), 0, 0, 0, 0),
  (12, "makePairs", "()V", prog_14_method_72_code, 4, none, 0, 0, 0, 0),
  (12, "prepare", "()V", prog_14_method_69_code, 3, none, 0, 0, 0, 0),
  (12, "hoursTo", "(II)I", prog_14_method_79_code, 3, (some .int), 2, 0, 0, 0),
  (12, "holds", "(I)I", prog_14_method_71_code, 3, (some .int), 1, 0, 0, 0),
  (12, "nextPlace", "(I)I", prog_14_method_70_code, 4, (some .int), 1, 0, 0, 0),
  (12, "rather", "(III)Z", prog_14_method_67_code, 6, (some .boolean), 3, 0, 0, 0),
  (12, "wished", "(II)I", prog_14_method_66_code, 3, (some .int), 2, 0, 0, 0),
  (12, "prefers", "(II)Z", prog_14_method_68_code, 5, (some .boolean), 2, 0, 0, 0),
  (12, "tell", "(I)I", prog_14_method_75_code, 2, (some .int), 1, 0, 0, 0),
  (12, "judge", "()I", prog_14_method_78_code, 4, (some .int), 0, 0, 0, 0),
  (12, "wrong", "()I", prog_14_method_76_code, 4, (some .int), 0, 0, 0, 0),
  (12, "unrest", "()I", prog_14_method_77_code, 3, (some .int), 0, 0, 0, 0),
  (12, "whoElse", "(I)I", prog_14_method_80_code, 5, (some .int), 1, 0, 0, 0),
  (12, "place", "(I)I", prog_14_method_84_code, 3, (some .int), 1, 0, 0, 0),
  (12, "makePlaces", "()V", prog_14_method_83_code, 7, none, 0, 0, 0, 0),
  (12, "goodness", "(II)I", prog_14_method_82_code, 6, (some .int), 2, 0, 0, 0),
  (12, "fill", "(II)V", prog_14_method_81_code, 8, none, 2, 0, 0, 0),
  (12, "group", "(I)I", prog_14_method_85_code, 6, (some .int), 1, 0, 0, 0),
  (12, "list", "(IZI)I", prog_14_method_86_code, 6, (some .int), 3, 0, 0, 0),
  (12, "look", "(III)I", prog_14_method_87_code, 5, (some .int), 3, 0, 0, 0),
  (12, "gone", "(I)I", prog_14_method_89_code, 2, (some .int), 1, 0, 0, 0),
  (12, "goneOf", "(I)I", prog_14_method_88_code, 2, (some .int), 1, 0, 0, 0),
  (12, "claim", "(I)I", prog_14_method_90_code, 5, (some .int), 1, 0, 0, 0),
  (12, "count", "(I)I", prog_14_method_93_code, 2, (some .int), 1, 0, 0, 0),
  (12, "inState", "(I)I", prog_14_method_91_code, 4, (some .int), 1, 0, 0, 0),
  (12, "reviews", "(Z)I", prog_14_method_92_code, 4, (some .int), 1, 0, 0, 0),
  (14, "fill", "([II)V", prog_22_method_103_code, 4, none, 2, 1, 0, 0),
  (14, "fill", "([JJ)V", prog_22_method_101_code, 5, none, 2, 1, 0, 0),
  (15, "max", "(II)I", prog_17_method_65_code, 2, (some .int), 2, 1, 0, 0),
  (15, "min", "(II)I", prog_17_method_69_code, 2, (some .int), 2, 1, 0, 0),
  (15, "min", "(JJ)J", prog_17_method_70_code, 4, (some .long), 2, 1, 0, 0),
  (15, "max", "(JJ)J", prog_17_method_66_code, 4, (some .long), 2, 1, 0, 0),
  (16, "bitCount", "(I)I", prog_16_method_49_code, 1, (some .int), 1, 1, 0, 0),
  (16, "compare", "(II)I", prog_16_method_40_code, 2, (some .int), 2, 1, 0, 0),
  (17, "length", "()I", prog_18_method_54_code, 1, (some .int), 0, 0, 0, 0),
  (17, "coder", "()B", prog_18_method_152_code, 1, (some .byte), 0, 0, 0, 0),
  (17, "indexOf", "(I)I", prog_18_method_79_code, 2, (some .int), 1, 0, 0, 0),
  (17, "indexOf", "(II)I", prog_18_method_80_code, 3, (some .int), 2, 0, 0, 0),
  (17, "isLatin1", "()Z", prog_18_method_154_code, 1, (some .boolean), 0, 0, 0, 0),
  (18, "indexOf", "([BIII)I", prog_19_method_22_code, 4, (some .int), 4, 1, 0, 0),
  (18, "canEncode", "(I)Z", prog_19_method_4_code, 1, (some .boolean), 1, 1, 0, 0),
  (18, "indexOfChar", "([BIII)I", prog_19_method_23_code, 6, (some .int), 4, 1, 0, 0),
  (13, "law", "([I)Z", code, 4, (some .boolean), 1, 1, 0, 0),
  (19, "arraycopy", "(Ljava/lang/Object;ILjava/lang/Object;II)V", .empty, 0, none, 5, 1, 0, 0)]
def am_m0 : am_MI := (0, "", "", .empty, 0, none, 0, 0, 0, 0)
def am_mi (k : Nat) : am_MI := am_ms.getD k am_m0
def am_own (k : Nat) : Nat := (am_mi k).1
def am_y (k : Nat) : MethodName := ⟨am_cn (am_mi k).1, (am_mi k).2.1, (am_mi k).2.2.1⟩
def am_by (k : Nat) : ByteArray := (am_mi k).2.2.2.1
def am_ml (k : Nat) : Nat := (am_mi k).2.2.2.2.1
def am_rt (k : Nat) : Option FieldType := (am_mi k).2.2.2.2.2.1
def am_na (k : Nat) : Nat := (am_mi k).2.2.2.2.2.2.1
def am_kd (k : Nat) : Nat := (am_mi k).2.2.2.2.2.2.2.1
def am_bc (k : Nat) : Nat := (am_mi k).2.2.2.2.2.2.2.2.1
def am_bs (k : Nat) : Nat := (am_mi k).2.2.2.2.2.2.2.2.2
abbrev am_Cd : Type := List (Nat × Instr × Nat)
def am_c0 : am_Cd := [(0, .aload_n 0, 1), (1, .invokespecial 1, 3), (4, .aload_n 0, 1), (5, .bipush 7, 2), (7, .newarray .int, 2), (9, .putfield 7, 3), (12, .aload_n 0, 1), (13, .new 13, 3), (16, .dup, 1), (17, .invokespecial 15, 3), (20, .putfield 16, 3), (23, .aload_n 0, 1), (24, .new 20, 3), (27, .dup, 1), (28, .invokespecial 22, 3), (31, .putfield 23, 3), (34, .aload_n 0, 1), (35, .new 27, 3), (38, .dup, 1), (39, .invokespecial 29, 3), (42, .putfield 30, 3), (45, .aload_n 0, 1), (46, .new 34, 3), (49, .dup, 1), (50, .invokespecial 36, 3), (53, .putfield 37, 3), (56, .aload_n 0, 1), (57, .new 41, 3), (60, .dup, 1), (61, .aload_n 0, 1), (62, .getfield 37, 3), (65, .invokespecial 43, 3), (68, .putfield 46, 3), (71, .aload_n 0, 1), (72, .new 50, 3), (75, .dup, 1), (76, .invokespecial 52, 3), (79, .putfield 53, 3), (82, .aload_n 0, 1), (83, .new 57, 3), (86, .dup, 1), (87, .bipush 60, 2), (89, .invokespecial 61, 3), (92, .putfield 64, 3), (95, .aload_n 0, 1), (96, .new 59, 3), (99, .dup, 1), (100, .aload_n 0, 1), (101, .getfield 64, 3), (104, .invokespecial 68, 3), (107, .putfield 71, 3), (110, .aload_n 0, 1), (111, .new 57, 3), (114, .dup, 1), (115, .bipush 12, 2), (117, .invokespecial 61, 3), (120, .putfield 75, 3), (123, .aload_n 0, 1), (124, .new 57, 3), (127, .dup, 1), (128, .bipush 6, 2), (130, .invokespecial 61, 3), (133, .putfield 80, 3), (136, .aload_n 0, 1), (137, .new 83, 3), (140, .dup, 1), (141, .aload_n 0, 1), (142, .getfield 16, 3), (145, .aload_n 0, 1), (146, .getfield 23, 3), (149, .aload_n 0, 1), (150, .getfield 30, 3), (153, .aload_n 0, 1), (154, .getfield 37, 3), (157, .aload_n 0, 1), (158, .getfield 46, 3), (161, .aload_n 0, 1), (162, .getfield 53, 3), (165, .invokespecial 85, 3), (168, .putfield 88, 3), (171, .aload_n 0, 1), (172, .new 92, 3), (175, .dup, 1), (176, .aload_n 0, 1), (177, .getfield 37, 3), (180, .aload_n 0, 1), (181, .getfield 88, 3), (184, .invokespecial 94, 3), (187, .putfield 97, 3), (190, .aload_n 0, 1), (191, .new 78, 3), (194, .dup, 1), (195, .aload_n 0, 1), (196, .getfield 23, 3), (199, .aload_n 0, 1), (200, .getfield 37, 3), (203, .aload_n 0, 1), (204, .getfield 46, 3), (207, .aload_n 0, 1), (208, .getfield 88, 3), (211, .invokespecial 101, 3), (214, .putfield 104, 3), (217, .return_, 1)]
def am_c1 : am_Cd := [(0, .iload_n 1, 1), (1, .iconst 1, 1), (2, .if_icmp .ge 10, 3), (5, .aload_n 0, 1), (6, .bipush (-4), 2), (8, .invokevirtual 108, 3), (11, .ireturn, 1), (12, .iload_n 1, 1), (13, .sipush 1500, 3), (16, .aload_n 0, 1), (17, .getfield 37, 3), (20, .getfield 112, 3), (23, .isub, 1), (24, .if_icmp .le 10, 3), (27, .aload_n 0, 1), (28, .bipush (-6), 2), (30, .invokevirtual 108, 3), (33, .ireturn, 1), (34, .aload_n 0, 1), (35, .getfield 37, 3), (38, .dup, 1), (39, .getfield 112, 3), (42, .iload_n 1, 1), (43, .iadd, 1), (44, .putfield 112, 3), (47, .aload_n 0, 1), (48, .getfield 37, 3), (51, .getfield 112, 3), (54, .ireturn, 1)]
def am_c2 : am_Cd := [(0, .iload_n 1, 1), (1, .ineg, 1), (2, .istore_n 2, 1), (3, .iload_n 2, 1), (4, .ifCond .lt 22, 3), (7, .iload_n 2, 1), (8, .aload_n 0, 1), (9, .getfield 7, 3), (12, .arraylength, 1), (13, .if_icmp .ge 13, 3), (16, .aload_n 0, 1), (17, .getfield 7, 3), (20, .iload_n 2, 1), (21, .dup2, 1), (22, .iaload, 1), (23, .iconst 1, 1), (24, .iadd, 1), (25, .iastore, 1), (26, .iload_n 1, 1), (27, .ireturn, 1)]
def am_c3 : am_Cd := [(0, .aload_n 0, 1), (1, .getfield 16, 3), (4, .iload_n 1, 1), (5, .invokevirtual 116, 3), (8, .ifCond .eq 14, 3), (11, .aload_n 0, 1), (12, .getfield 16, 3), (15, .iload_n 2, 1), (16, .invokevirtual 120, 3), (19, .ifCond .ne 9, 3), (22, .aload_n 0, 1), (23, .iconst (-1), 1), (24, .invokevirtual 108, 3), (27, .ireturn, 1), (28, .aload_n 0, 1), (29, .getfield 16, 3), (32, .getfield 123, 3), (35, .iload_n 1, 1), (36, .iaload, 1), (37, .istore_n 3, 1), (38, .aload_n 0, 1), (39, .getfield 16, 3), (42, .getfield 123, 3), (45, .iload_n 1, 1), (46, .iload_n 2, 1), (47, .iastore, 1), (48, .iload_n 3, 1), (49, .ireturn, 1)]
def am_c4 : am_Cd := [(0, .aload_n 0, 1), (1, .getfield 16, 3), (4, .iload_n 1, 1), (5, .invokevirtual 116, 3), (8, .ifCond .eq 19, 3), (11, .aload_n 0, 1), (12, .getfield 16, 3), (15, .iload_n 2, 1), (16, .invokevirtual 116, 3), (19, .ifCond .eq 8, 3), (22, .iload_n 1, 1), (23, .iload_n 2, 1), (24, .if_icmp .ne 9, 3), (27, .aload_n 0, 1), (28, .iconst (-1), 1), (29, .invokevirtual 108, 3), (32, .ireturn, 1), (33, .iload_n 3, 1), (34, .iconst 1, 1), (35, .sipush 240, 3), (38, .invokestatic 126, 3), (41, .istore 4, 2), (43, .iload 4, 2), (45, .ifCond .eq 10, 3), (48, .aload_n 0, 1), (49, .iload 4, 2), (51, .invokevirtual 108, 3), (54, .ireturn, 1), (55, .aload_n 0, 1), (56, .getfield 16, 3), (59, .getfield 130, 3), (62, .iload_n 1, 1), (63, .aaload, 1), (64, .iload_n 2, 1), (65, .iaload, 1), (66, .istore 5, 2), (68, .aload_n 0, 1), (69, .getfield 16, 3), (72, .getfield 130, 3), (75, .iload_n 1, 1), (76, .aaload, 1), (77, .iload_n 2, 1), (78, .iload_n 3, 1), (79, .iastore, 1), (80, .aload_n 0, 1), (81, .getfield 16, 3), (84, .getfield 130, 3), (87, .iload_n 2, 1), (88, .aaload, 1), (89, .iload_n 1, 1), (90, .iload_n 3, 1), (91, .iastore, 1), (92, .iload 5, 2), (94, .ireturn, 1)]
def am_c5 : am_Cd := [(0, .iload_n 0, 1), (1, .iload_n 1, 1), (2, .if_icmp .ge 6, 3), (5, .bipush (-4), 2), (7, .ireturn, 1), (8, .iload_n 0, 1), (9, .iload_n 2, 1), (10, .if_icmp .le 8, 3), (13, .bipush (-6), 2), (15, .goto 4, 3), (18, .iconst 0, 1), (19, .ireturn, 1)]
def am_c6 : am_Cd := [(0, .aload_n 0, 1), (1, .getfield 16, 3), (4, .iload_n 1, 1), (5, .invokevirtual 120, 3), (8, .ifCond .ne 9, 3), (11, .aload_n 0, 1), (12, .iconst (-1), 1), (13, .invokevirtual 108, 3), (16, .ireturn, 1), (17, .iload_n 2, 1), (18, .iconst 0, 1), (19, .sipush 180, 3), (22, .invokestatic 126, 3), (25, .istore_n 3, 1), (26, .iload_n 3, 1), (27, .ifCond .eq 9, 3), (30, .aload_n 0, 1), (31, .iload_n 3, 1), (32, .invokevirtual 108, 3), (35, .ireturn, 1), (36, .aload_n 0, 1), (37, .getfield 16, 3), (40, .getfield 134, 3), (43, .iload_n 1, 1), (44, .iaload, 1), (45, .istore 4, 2), (47, .aload_n 0, 1), (48, .getfield 16, 3), (51, .getfield 134, 3), (54, .iload_n 1, 1), (55, .iload_n 2, 1), (56, .iastore, 1), (57, .iload 4, 2), (59, .ireturn, 1)]
def am_c7 : am_Cd := [(0, .aload_n 0, 1), (1, .getfield 16, 3), (4, .iload_n 1, 1), (5, .invokevirtual 116, 3), (8, .ifCond .ne 9, 3), (11, .aload_n 0, 1), (12, .iconst (-1), 1), (13, .invokevirtual 108, 3), (16, .ireturn, 1), (17, .iload_n 2, 1), (18, .ifCond .lt 13, 3), (21, .iload_n 3, 1), (22, .iconst 1, 1), (23, .if_icmp .lt 8, 3), (26, .iload 4, 2), (28, .ifCond .ge 10, 3), (31, .aload_n 0, 1), (32, .bipush (-4), 2), (34, .invokevirtual 108, 3), (37, .ireturn, 1), (38, .iload_n 2, 1), (39, .sipush 255, 3), (42, .if_icmp .gt 15, 3), (45, .iload_n 3, 1), (46, .iconst 2, 1), (47, .if_icmp .gt 10, 3), (50, .iload 4, 2), (52, .ldc 137, 2), (54, .if_icmp .le 10, 3), (57, .aload_n 0, 1), (58, .bipush (-6), 2), (60, .invokevirtual 108, 3), (63, .ireturn, 1), (64, .aload_n 0, 1), (65, .getfield 23, 3), (68, .getfield 138, 3), (71, .bipush 20, 2), (73, .if_icmp .lt 10, 3), (76, .aload_n 0, 1), (77, .bipush (-6), 2), (79, .invokevirtual 108, 3), (82, .ireturn, 1), (83, .aload_n 0, 1), (84, .getfield 23, 3), (87, .iload_n 1, 1), (88, .iload_n 2, 1), (89, .iload_n 3, 1), (90, .iload 4, 2), (92, .invokevirtual 141, 3), (95, .ireturn, 1)]
def am_c8 : am_Cd := [(0, .aload_n 0, 1), (1, .getfield 16, 3), (4, .iload_n 1, 1), (5, .invokevirtual 116, 3), (8, .ifCond .ne 9, 3), (11, .aload_n 0, 1), (12, .iconst (-1), 1), (13, .invokevirtual 108, 3), (16, .ireturn, 1), (17, .iload_n 2, 1), (18, .iconst 0, 1), (19, .sipush 255, 3), (22, .invokestatic 126, 3), (25, .istore_n 3, 1), (26, .iload_n 3, 1), (27, .ifCond .eq 9, 3), (30, .aload_n 0, 1), (31, .iload_n 3, 1), (32, .invokevirtual 108, 3), (35, .ireturn, 1), (36, .aload_n 0, 1), (37, .getfield 30, 3), (40, .getfield 145, 3), (43, .bipush 20, 2), (45, .if_icmp .lt 10, 3), (48, .aload_n 0, 1), (49, .bipush (-6), 2), (51, .invokevirtual 108, 3), (54, .ireturn, 1), (55, .aload_n 0, 1), (56, .getfield 30, 3), (59, .iload_n 1, 1), (60, .iload_n 2, 1), (61, .invokevirtual 146, 3), (64, .ireturn, 1)]
def am_c9 : am_Cd := [(0, .aload_n 0, 1), (1, .getfield 30, 3), (4, .iload_n 1, 1), (5, .invokevirtual 149, 3), (8, .ifCond .ne 9, 3), (11, .aload_n 0, 1), (12, .iconst (-1), 1), (13, .invokevirtual 108, 3), (16, .ireturn, 1), (17, .iload_n 2, 1), (18, .aload_n 0, 1), (19, .getfield 37, 3), (22, .getfield 112, 3), (25, .if_icmp .le 8, 3), (28, .iload_n 3, 1), (29, .iload_n 2, 1), (30, .if_icmp .ge 10, 3), (33, .aload_n 0, 1), (34, .bipush (-4), 2), (36, .invokevirtual 108, 3), (39, .ireturn, 1), (40, .iload_n 3, 1), (41, .sipush 1500, 3), (44, .if_icmp .gt 15, 3), (47, .aload_n 0, 1), (48, .getfield 37, 3), (51, .getfield 152, 3), (54, .bipush 60, 2), (56, .if_icmp .lt 10, 3), (59, .aload_n 0, 1), (60, .bipush (-6), 2), (62, .invokevirtual 108, 3), (65, .ireturn, 1), (66, .aload_n 0, 1), (67, .getfield 37, 3), (70, .iload_n 1, 1), (71, .iload_n 2, 1), (72, .iload_n 3, 1), (73, .invokevirtual 153, 3), (76, .ifCond .eq 10, 3), (79, .aload_n 0, 1), (80, .bipush (-3), 2), (82, .invokevirtual 108, 3), (85, .ireturn, 1), (86, .aload_n 0, 1), (87, .getfield 37, 3), (90, .iload_n 1, 1), (91, .iload_n 2, 1), (92, .iload_n 3, 1), (93, .invokevirtual 157, 3), (96, .ireturn, 1)]
def am_c10 : am_Cd := [(0, .aload_n 0, 1), (1, .getfield 37, 3), (4, .iload_n 1, 1), (5, .invokevirtual 159, 3), (8, .ifCond .ne 9, 3), (11, .aload_n 0, 1), (12, .iconst (-1), 1), (13, .invokevirtual 108, 3), (16, .ireturn, 1), (17, .iload_n 2, 1), (18, .tableswitch 105 0 5 #[38, 48, 58, 68, 78, 88], 38), (56, .aload_n 0, 1), (57, .getfield 37, 3), (60, .getfield 160, 3), (63, .iload_n 1, 1), (64, .iaload, 1), (65, .ireturn, 1), (66, .aload_n 0, 1), (67, .getfield 37, 3), (70, .getfield 163, 3), (73, .iload_n 1, 1), (74, .iaload, 1), (75, .ireturn, 1), (76, .aload_n 0, 1), (77, .getfield 37, 3), (80, .getfield 166, 3), (83, .iload_n 1, 1), (84, .iaload, 1), (85, .ireturn, 1), (86, .aload_n 0, 1), (87, .getfield 37, 3), (90, .getfield 169, 3), (93, .iload_n 1, 1), (94, .iaload, 1), (95, .ireturn, 1), (96, .aload_n 0, 1), (97, .getfield 37, 3), (100, .getfield 172, 3), (103, .iload_n 1, 1), (104, .iaload, 1), (105, .ireturn, 1), (106, .aload_n 0, 1), (107, .getfield 37, 3), (110, .iload_n 1, 1), (111, .invokevirtual 175, 3), (114, .ifCond .eq 7, 3), (117, .iconst 1, 1), (118, .goto 4, 3), (121, .iconst 0, 1), (122, .ireturn, 1), (123, .aload_n 0, 1), (124, .bipush (-2), 2), (126, .invokevirtual 108, 3), (129, .ireturn, 1)]
def am_c11 : am_Cd := [(0, .aload_n 0, 1), (1, .getfield 23, 3), (4, .iload_n 1, 1), (5, .invokevirtual 178, 3), (8, .ifCond .eq 14, 3), (11, .aload_n 0, 1), (12, .getfield 37, 3), (15, .iload_n 2, 1), (16, .invokevirtual 159, 3), (19, .ifCond .ne 9, 3), (22, .aload_n 0, 1), (23, .iconst (-1), 1), (24, .invokevirtual 108, 3), (27, .ireturn, 1), (28, .aload_n 0, 1), (29, .getfield 88, 3), (32, .iload_n 1, 1), (33, .iload_n 2, 1), (34, .invokevirtual 179, 3), (37, .ireturn, 1)]
def am_c12 : am_Cd := [(0, .aload_n 0, 1), (1, .getfield 23, 3), (4, .iload_n 1, 1), (5, .invokevirtual 178, 3), (8, .ifCond .eq 14, 3), (11, .aload_n 0, 1), (12, .getfield 37, 3), (15, .iload_n 2, 1), (16, .invokevirtual 159, 3), (19, .ifCond .ne 9, 3), (22, .aload_n 0, 1), (23, .iconst (-1), 1), (24, .invokevirtual 108, 3), (27, .ireturn, 1), (28, .aload_n 0, 1), (29, .getfield 88, 3), (32, .iload_n 1, 1), (33, .iload_n 2, 1), (34, .invokevirtual 179, 3), (37, .ifCond .eq 10, 3), (40, .aload_n 0, 1), (41, .bipush (-3), 2), (43, .invokevirtual 108, 3), (46, .ireturn, 1), (47, .aload_n 0, 1), (48, .getfield 37, 3), (51, .getfield 169, 3), (54, .iload_n 2, 1), (55, .iconst 1, 1), (56, .iastore, 1), (57, .aload_n 0, 1), (58, .getfield 37, 3), (61, .getfield 172, 3), (64, .iload_n 2, 1), (65, .iload_n 1, 1), (66, .iastore, 1), (67, .iconst 1, 1), (68, .ireturn, 1)]
def am_c13 : am_Cd := [(0, .aload_n 0, 1), (1, .getfield 37, 3), (4, .iload_n 1, 1), (5, .invokevirtual 159, 3), (8, .ifCond .ne 9, 3), (11, .aload_n 0, 1), (12, .iconst (-1), 1), (13, .invokevirtual 108, 3), (16, .ireturn, 1), (17, .aload_n 0, 1), (18, .getfield 37, 3), (21, .iload_n 1, 1), (22, .invokevirtual 175, 3), (25, .ifCond .ne 16, 3), (28, .aload_n 0, 1), (29, .getfield 37, 3), (32, .getfield 169, 3), (35, .iload_n 1, 1), (36, .iaload, 1), (37, .iconst 2, 1), (38, .if_icmp .ne 10, 3), (41, .aload_n 0, 1), (42, .bipush (-3), 2), (44, .invokevirtual 108, 3), (47, .ireturn, 1), (48, .aload_n 0, 1), (49, .getfield 37, 3), (52, .getfield 169, 3), (55, .iload_n 1, 1), (56, .iconst 2, 1), (57, .iastore, 1), (58, .aload_n 0, 1), (59, .getfield 37, 3), (62, .getfield 172, 3), (65, .iload_n 1, 1), (66, .iaload, 1), (67, .ireturn, 1)]
def am_c14 : am_Cd := [(0, .aload_n 0, 1), (1, .getfield 23, 3), (4, .iload_n 1, 1), (5, .invokevirtual 178, 3), (8, .ifCond .ne 9, 3), (11, .aload_n 0, 1), (12, .iconst (-1), 1), (13, .invokevirtual 108, 3), (16, .ireturn, 1), (17, .iload_n 2, 1), (18, .iconst 0, 1), (19, .sipush 1500, 3), (22, .invokestatic 126, 3), (25, .istore_n 3, 1), (26, .iload_n 3, 1), (27, .ifCond .eq 9, 3), (30, .aload_n 0, 1), (31, .iload_n 3, 1), (32, .invokevirtual 108, 3), (35, .ireturn, 1), (36, .aload_n 0, 1), (37, .getfield 88, 3), (40, .iload_n 1, 1), (41, .iload_n 2, 1), (42, .invokevirtual 182, 3), (45, .ireturn, 1)]
def am_c15 : am_Cd := [(0, .iload_n 1, 1), (1, .iconst 1, 1), (2, .bipush 8, 2), (4, .invokestatic 126, 3), (7, .istore 4, 2), (9, .iload 4, 2), (11, .ifCond .eq 10, 3), (14, .aload_n 0, 1), (15, .iload 4, 2), (17, .invokevirtual 108, 3), (20, .ireturn, 1), (21, .aload_n 0, 1), (22, .getfield 64, 3), (25, .iload_n 1, 1), (26, .invokevirtual 185, 3), (29, .ifCond .ne 10, 3), (32, .aload_n 0, 1), (33, .bipush (-6), 2), (35, .invokevirtual 108, 3), (38, .ireturn, 1), (39, .iconst 0, 1), (40, .istore 5, 2), (42, .iload 5, 2), (44, .iload_n 1, 1), (45, .if_icmp .ge 28, 3), (48, .aload_n 0, 1), (49, .getfield 64, 3), (52, .lload_n 2, 1), (53, .bipush 8, 2), (55, .iload 5, 2), (57, .imul, 1), (58, .lushr, 1), (59, .l2i, 1), (60, .sipush 255, 3), (63, .iand, 1), (64, .invokevirtual 188, 3), (67, .iinc 5 1, 3), (70, .goto (-28), 3), (73, .aload_n 0, 1), (74, .getfield 64, 3), (77, .getfield 190, 3), (80, .ireturn, 1)]
def am_c16 : am_Cd := [(0, .iload_n 1, 1), (1, .iconst (-1), 1), (2, .if_icmp .eq 20, 3), (5, .aload_n 0, 1), (6, .getfield 30, 3), (9, .iload_n 1, 1), (10, .invokevirtual 149, 3), (13, .ifCond .ne 9, 3), (16, .aload_n 0, 1), (17, .iconst (-1), 1), (18, .invokevirtual 108, 3), (21, .ireturn, 1), (22, .iload_n 2, 1), (23, .aload_n 0, 1), (24, .getfield 37, 3), (27, .getfield 112, 3), (30, .sipush 1500, 3), (33, .invokestatic 126, 3), (36, .istore_n 3, 1), (37, .iload_n 3, 1), (38, .ifCond .eq 9, 3), (41, .aload_n 0, 1), (42, .iload_n 3, 1), (43, .invokevirtual 108, 3), (46, .ireturn, 1), (47, .aload_n 0, 1), (48, .getfield 53, 3), (51, .getfield 193, 3), (54, .bipush 30, 2), (56, .if_icmp .lt 10, 3), (59, .aload_n 0, 1), (60, .bipush (-6), 2), (62, .invokevirtual 108, 3), (65, .ireturn, 1), (66, .aload_n 0, 1), (67, .getfield 71, 3), (70, .invokevirtual 194, 3), (73, .istore 4, 2), (75, .aload_n 0, 1), (76, .getfield 64, 3), (79, .invokevirtual 198, 3), (82, .iload 4, 2), (84, .iconst (-1), 1), (85, .if_icmp .ne 19, 3), (88, .aload_n 0, 1), (89, .getfield 53, 3), (92, .iload_n 1, 1), (93, .iload_n 2, 1), (94, .aload_n 0, 1), (95, .getfield 71, 3), (98, .invokevirtual 201, 3), (101, .goto 8, 3), (104, .bipush (-20), 2), (106, .iload 4, 2), (108, .isub, 1), (109, .ireturn, 1)]
def am_c17 : am_Cd := [(0, .aload_n 0, 1), (1, .getfield 23, 3), (4, .iload_n 1, 1), (5, .invokevirtual 178, 3), (8, .ifCond .eq 14, 3), (11, .aload_n 0, 1), (12, .getfield 37, 3), (15, .iload_n 2, 1), (16, .invokevirtual 159, 3), (19, .ifCond .ne 9, 3), (22, .aload_n 0, 1), (23, .iconst (-1), 1), (24, .invokevirtual 204, 3), (27, .ireturn, 1), (28, .aload_n 0, 1), (29, .getfield 88, 3), (32, .iload_n 1, 1), (33, .iload_n 2, 1), (34, .invokevirtual 207, 3), (37, .ireturn, 1)]
def am_c18 : am_Cd := [(0, .ldc_w 315, 3), (3, .aload_n 0, 1), (4, .iload_n 1, 1), (5, .invokevirtual 108, 3), (8, .isub, 1), (9, .ireturn, 1)]
def am_c19 : am_Cd := [(0, .aload_n 0, 1), (1, .getfield 37, 3), (4, .iload_n 1, 1), (5, .invokevirtual 159, 3), (8, .ifCond .ne 9, 3), (11, .aload_n 0, 1), (12, .iconst (-1), 1), (13, .invokevirtual 108, 3), (16, .ireturn, 1), (17, .iload_n 2, 1), (18, .ifCond .eq 7, 3), (21, .iconst 0, 1), (22, .goto 4, 3), (25, .iconst 1, 1), (26, .istore 4, 2), (28, .aload_n 0, 1), (29, .getfield 46, 3), (32, .iload 4, 2), (34, .iload_n 1, 1), (35, .invokevirtual 210, 3), (38, .ifCond .ne 10, 3), (41, .aload_n 0, 1), (42, .bipush (-3), 2), (44, .invokevirtual 108, 3), (47, .ireturn, 1), (48, .iload_n 3, 1), (49, .iconst 1, 1), (50, .iconst 5, 1), (51, .invokestatic 126, 3), (54, .istore 5, 2), (56, .iload 5, 2), (58, .ifCond .eq 10, 3), (61, .aload_n 0, 1), (62, .iload 5, 2), (64, .invokevirtual 108, 3), (67, .ireturn, 1), (68, .aload_n 0, 1), (69, .getfield 46, 3), (72, .iload 4, 2), (74, .iload_n 1, 1), (75, .iload_n 3, 1), (76, .invokevirtual 214, 3), (79, .aload_n 0, 1), (80, .getfield 46, 3), (83, .iload 4, 2), (85, .iload_n 1, 1), (86, .aload_n 0, 1), (87, .getfield 37, 3), (90, .getfield 112, 3), (93, .invokevirtual 217, 3), (96, .ifCond .eq 7, 3), (99, .iconst 1, 1), (100, .goto 4, 3), (103, .iconst 0, 1), (104, .ireturn, 1)]
def am_c20 : am_Cd := [(0, .aload_n 0, 1), (1, .getfield 30, 3), (4, .iload_n 1, 1), (5, .invokevirtual 149, 3), (8, .ifCond .ne 9, 3), (11, .aload_n 0, 1), (12, .iconst (-1), 1), (13, .invokevirtual 108, 3), (16, .ireturn, 1), (17, .iload_n 2, 1), (18, .iconst 0, 1), (19, .aload_n 0, 1), (20, .getfield 37, 3), (23, .getfield 112, 3), (26, .invokestatic 126, 3), (29, .istore_n 3, 1), (30, .iload_n 3, 1), (31, .ifCond .eq 9, 3), (34, .aload_n 0, 1), (35, .iload_n 3, 1), (36, .invokevirtual 108, 3), (39, .ireturn, 1), (40, .aload_n 0, 1), (41, .getfield 46, 3), (44, .iload_n 2, 1), (45, .invokevirtual 220, 3), (48, .aload_n 0, 1), (49, .getfield 46, 3), (52, .getfield 223, 3), (55, .iload_n 1, 1), (56, .iaload, 1), (57, .ireturn, 1)]
def am_c21 : am_Cd := [(0, .aload_n 0, 1), (1, .getfield 23, 3), (4, .iload_n 1, 1), (5, .invokevirtual 178, 3), (8, .ifCond .ne 9, 3), (11, .aload_n 0, 1), (12, .iconst (-1), 1), (13, .invokevirtual 204, 3), (16, .ireturn, 1), (17, .iload_n 2, 1), (18, .iconst 0, 1), (19, .aload_n 0, 1), (20, .getfield 37, 3), (23, .getfield 112, 3), (26, .invokestatic 126, 3), (29, .istore_n 3, 1), (30, .iload_n 3, 1), (31, .ifCond .eq 9, 3), (34, .aload_n 0, 1), (35, .iload_n 3, 1), (36, .invokevirtual 204, 3), (39, .ireturn, 1), (40, .aload_n 0, 1), (41, .getfield 46, 3), (44, .iload_n 2, 1), (45, .invokevirtual 220, 3), (48, .aload_n 0, 1), (49, .getfield 46, 3), (52, .getfield 226, 3), (55, .iload_n 1, 1), (56, .iaload, 1), (57, .ireturn, 1)]
def am_c22 : am_Cd := [(0, .aload_n 0, 1), (1, .getfield 23, 3), (4, .iload_n 1, 1), (5, .invokevirtual 178, 3), (8, .ifCond .ne 9, 3), (11, .aload_n 0, 1), (12, .iconst (-1), 1), (13, .invokevirtual 204, 3), (16, .ireturn, 1), (17, .iload_n 2, 1), (18, .ifCond .eq 15, 3), (21, .iload_n 2, 1), (22, .iconst 1, 1), (23, .if_icmp .eq 10, 3), (26, .aload_n 0, 1), (27, .bipush (-2), 2), (29, .invokevirtual 204, 3), (32, .ireturn, 1), (33, .aload_n 0, 1), (34, .getfield 46, 3), (37, .aload_n 0, 1), (38, .getfield 37, 3), (41, .getfield 112, 3), (44, .invokevirtual 220, 3), (47, .aload_n 0, 1), (48, .getfield 46, 3), (51, .iload_n 1, 1), (52, .invokevirtual 229, 3), (55, .istore_n 3, 1), (56, .iload_n 2, 1), (57, .ifCond .ne 17, 3), (60, .aload_n 0, 1), (61, .getfield 46, 3), (64, .getfield 226, 3), (67, .iload_n 1, 1), (68, .iaload, 1), (69, .iload_n 3, 1), (70, .isub, 1), (71, .goto 14, 3), (74, .aload_n 0, 1), (75, .getfield 46, 3), (78, .getfield 226, 3), (81, .iload_n 1, 1), (82, .iaload, 1), (83, .iload_n 3, 1), (84, .iadd, 1), (85, .ireturn, 1)]
def am_c23 : am_Cd := [(0, .aload_n 0, 1), (1, .getfield 30, 3), (4, .iload_n 1, 1), (5, .invokevirtual 149, 3), (8, .ifCond .ne 9, 3), (11, .aload_n 0, 1), (12, .iconst (-1), 1), (13, .invokevirtual 108, 3), (16, .ireturn, 1), (17, .iload_n 2, 1), (18, .iconst 0, 1), (19, .aload_n 0, 1), (20, .getfield 37, 3), (23, .getfield 112, 3), (26, .invokestatic 126, 3), (29, .istore_n 3, 1), (30, .iload_n 3, 1), (31, .ifCond .eq 9, 3), (34, .aload_n 0, 1), (35, .iload_n 3, 1), (36, .invokevirtual 108, 3), (39, .ireturn, 1), (40, .aload_n 0, 1), (41, .getfield 46, 3), (44, .iload_n 1, 1), (45, .iload_n 2, 1), (46, .invokevirtual 232, 3), (49, .ireturn, 1)]
def am_c24 : am_Cd := [(0, .aload_n 0, 1), (1, .aload_n 0, 1), (2, .getfield 75, 3), (5, .iload_n 1, 1), (6, .invokevirtual 235, 3), (9, .ireturn, 1)]
def am_c25 : am_Cd := [(0, .iload_n 2, 1), (1, .iconst (-1), 1), (2, .bipush 99, 2), (4, .invokestatic 126, 3), (7, .istore_n 3, 1), (8, .iload_n 3, 1), (9, .ifCond .eq 9, 3), (12, .aload_n 0, 1), (13, .iload_n 3, 1), (14, .invokevirtual 108, 3), (17, .ireturn, 1), (18, .aload_n 1, 1), (19, .iconst 1, 1), (20, .invokevirtual 185, 3), (23, .ifCond .ne 10, 3), (26, .aload_n 0, 1), (27, .bipush (-6), 2), (29, .invokevirtual 108, 3), (32, .ireturn, 1), (33, .aload_n 1, 1), (34, .iload_n 2, 1), (35, .invokevirtual 188, 3), (38, .aload_n 1, 1), (39, .getfield 190, 3), (42, .ireturn, 1)]
def am_c26 : am_Cd := [(0, .aload_n 0, 1), (1, .getfield 75, 3), (4, .getfield 190, 3), (7, .istore_n 1, 1), (8, .aload_n 0, 1), (9, .getfield 75, 3), (12, .invokevirtual 198, 3), (15, .iload_n 1, 1), (16, .ireturn, 1)]
def am_c27 : am_Cd := [(0, .aload_n 0, 1), (1, .getfield 23, 3), (4, .iload_n 1, 1), (5, .invokevirtual 178, 3), (8, .ifCond .eq 10, 3), (11, .aload_n 0, 1), (12, .invokevirtual 239, 3), (15, .ifCond .ne 9, 3), (18, .aload_n 0, 1), (19, .iconst (-1), 1), (20, .invokevirtual 108, 3), (23, .ireturn, 1), (24, .iload_n 2, 1), (25, .ifCond .eq 15, 3), (28, .iload_n 2, 1), (29, .iconst 1, 1), (30, .if_icmp .eq 10, 3), (33, .aload_n 0, 1), (34, .bipush (-2), 2), (36, .invokevirtual 108, 3), (39, .ireturn, 1), (40, .aload_n 0, 1), (41, .invokevirtual 243, 3), (44, .ifCond .ne 10, 3), (47, .aload_n 0, 1), (48, .bipush (-3), 2), (50, .invokevirtual 108, 3), (53, .ireturn, 1), (54, .aload_n 0, 1), (55, .getfield 75, 3), (58, .getfield 190, 3), (61, .bipush 10, 2), (63, .if_icmp .le 10, 3), (66, .aload_n 0, 1), (67, .bipush (-6), 2), (69, .invokevirtual 108, 3), (72, .ireturn, 1), (73, .aload_n 0, 1), (74, .getfield 97, 3), (77, .iload_n 1, 1), (78, .aload_n 0, 1), (79, .getfield 75, 3), (82, .invokevirtual 246, 3), (85, .iload_n 2, 1), (86, .ifCond .ne 13, 3), (89, .aload_n 0, 1), (90, .getfield 97, 3), (93, .getfield 250, 3), (96, .goto 10, 3), (99, .aload_n 0, 1), (100, .getfield 97, 3), (103, .getfield 253, 3), (106, .ireturn, 1)]
def am_c28 : am_Cd := [(0, .iconst 0, 1), (1, .istore_n 1, 1), (2, .iload_n 1, 1), (3, .aload_n 0, 1), (4, .getfield 75, 3), (7, .getfield 190, 3), (10, .if_icmp .ge 29, 3), (13, .aload_n 0, 1), (14, .getfield 37, 3), (17, .aload_n 0, 1), (18, .getfield 75, 3), (21, .iload_n 1, 1), (22, .invokevirtual 316, 3), (25, .invokevirtual 159, 3), (28, .ifCond .ne 5, 3), (31, .iconst 0, 1), (32, .ireturn, 1), (33, .iinc 1 1, 3), (36, .goto (-34), 3), (39, .iconst 1, 1), (40, .ireturn, 1)]
def am_c29 : am_Cd := [(0, .iconst 0, 1), (1, .istore_n 1, 1), (2, .iload_n 1, 1), (3, .aload_n 0, 1), (4, .getfield 75, 3), (7, .getfield 190, 3), (10, .if_icmp .ge 44, 3), (13, .aload_n 0, 1), (14, .getfield 75, 3), (17, .iload_n 1, 1), (18, .invokevirtual 316, 3), (21, .istore_n 2, 1), (22, .aload_n 0, 1), (23, .getfield 37, 3), (26, .getfield 169, 3), (29, .iload_n 2, 1), (30, .iaload, 1), (31, .ifCond .ne 15, 3), (34, .aload_n 0, 1), (35, .getfield 75, 3), (38, .iload_n 2, 1), (39, .invokevirtual 319, 3), (42, .iload_n 1, 1), (43, .if_icmp .ge 5, 3), (46, .iconst 0, 1), (47, .ireturn, 1), (48, .iinc 1 1, 3), (51, .goto (-49), 3), (54, .iconst 1, 1), (55, .ireturn, 1)]
def am_c30 : am_Cd := [(0, .aload_n 0, 1), (1, .getfield 23, 3), (4, .iload_n 1, 1), (5, .invokevirtual 178, 3), (8, .ifCond .eq 14, 3), (11, .aload_n 0, 1), (12, .getfield 16, 3), (15, .iload_n 2, 1), (16, .invokevirtual 120, 3), (19, .ifCond .ne 9, 3), (22, .aload_n 0, 1), (23, .iconst (-1), 1), (24, .invokevirtual 108, 3), (27, .ireturn, 1), (28, .iload_n 3, 1), (29, .iconst 0, 1), (30, .bipush 99, 2), (32, .invokestatic 126, 3), (35, .istore 4, 2), (37, .iload 4, 2), (39, .ifCond .eq 10, 3), (42, .aload_n 0, 1), (43, .iload 4, 2), (45, .invokevirtual 108, 3), (48, .ireturn, 1), (49, .aload_n 0, 1), (50, .getfield 23, 3), (53, .getfield 256, 3), (56, .iload_n 1, 1), (57, .aaload, 1), (58, .iload_n 2, 1), (59, .iaload, 1), (60, .istore 5, 2), (62, .aload_n 0, 1), (63, .getfield 23, 3), (66, .getfield 256, 3), (69, .iload_n 1, 1), (70, .aaload, 1), (71, .iload_n 2, 1), (72, .iload_n 3, 1), (73, .iastore, 1), (74, .iload 5, 2), (76, .ireturn, 1)]
def am_c31 : am_Cd := [(0, .aload_n 0, 1), (1, .invokevirtual 259, 3), (4, .istore_n 2, 1), (5, .iload_n 2, 1), (6, .ifCond .eq 9, 3), (9, .aload_n 0, 1), (10, .iload_n 2, 1), (11, .invokevirtual 108, 3), (14, .ireturn, 1), (15, .iload_n 1, 1), (16, .ifCond .lt 14, 3), (19, .iload_n 1, 1), (20, .aload_n 0, 1), (21, .getfield 75, 3), (24, .getfield 190, 3), (27, .if_icmp .lt 10, 3), (30, .aload_n 0, 1), (31, .bipush (-2), 2), (33, .invokevirtual 108, 3), (36, .ireturn, 1), (37, .aload_n 0, 1), (38, .getfield 104, 3), (41, .aload_n 0, 1), (42, .getfield 75, 3), (45, .invokevirtual 262, 3), (48, .aload_n 0, 1), (49, .getfield 104, 3), (52, .invokevirtual 265, 3), (55, .aload_n 0, 1), (56, .getfield 104, 3), (59, .getfield 268, 3), (62, .iload_n 1, 1), (63, .iaload, 1), (64, .ireturn, 1)]
def am_c32 : am_Cd := [(0, .aload_n 0, 1), (1, .invokevirtual 239, 3), (4, .ifCond .ne 5, 3), (7, .iconst (-1), 1), (8, .ireturn, 1), (9, .aload_n 0, 1), (10, .invokevirtual 243, 3), (13, .ifCond .ne 6, 3), (16, .bipush (-3), 2), (18, .ireturn, 1), (19, .aload_n 0, 1), (20, .getfield 75, 3), (23, .getfield 190, 3), (26, .bipush 6, 2), (28, .if_icmp .le 8, 3), (31, .bipush (-6), 2), (33, .goto 4, 3), (36, .iconst 0, 1), (37, .ireturn, 1)]
def am_c33 : am_Cd := [(0, .aload_n 0, 1), (1, .aload_n 0, 1), (2, .getfield 80, 3), (5, .iload_n 1, 1), (6, .invokevirtual 235, 3), (9, .ireturn, 1)]
def am_c34 : am_Cd := [(0, .aload_n 0, 1), (1, .invokevirtual 259, 3), (4, .istore_n 1, 1), (5, .iload_n 1, 1), (6, .ifCond .eq 9, 3), (9, .aload_n 0, 1), (10, .iload_n 1, 1), (11, .invokevirtual 108, 3), (14, .ireturn, 1), (15, .aload_n 0, 1), (16, .getfield 80, 3), (19, .getfield 190, 3), (22, .aload_n 0, 1), (23, .getfield 75, 3), (26, .getfield 190, 3), (29, .if_icmp .eq 10, 3), (32, .aload_n 0, 1), (33, .bipush (-3), 2), (35, .invokevirtual 108, 3), (38, .ireturn, 1), (39, .aload_n 0, 1), (40, .getfield 104, 3), (43, .aload_n 0, 1), (44, .getfield 75, 3), (47, .invokevirtual 262, 3), (50, .aload_n 0, 1), (51, .getfield 104, 3), (54, .aload_n 0, 1), (55, .getfield 80, 3), (58, .invokevirtual 271, 3), (61, .istore_n 2, 1), (62, .aload_n 0, 1), (63, .getfield 80, 3), (66, .invokevirtual 198, 3), (69, .iload_n 2, 1), (70, .ireturn, 1)]
def am_c35 : am_Cd := [(0, .aload_n 0, 1), (1, .getfield 37, 3), (4, .iload_n 1, 1), (5, .invokevirtual 159, 3), (8, .ifCond .ne 9, 3), (11, .aload_n 0, 1), (12, .iconst (-1), 1), (13, .invokevirtual 108, 3), (16, .ireturn, 1), (17, .aload_n 0, 1), (18, .getfield 104, 3), (21, .iload_n 1, 1), (22, .invokevirtual 275, 3), (25, .ireturn, 1)]
def am_c36 : am_Cd := [(0, .aload_n 0, 1), (1, .invokevirtual 259, 3), (4, .istore_n 2, 1), (5, .iload_n 2, 1), (6, .ifCond .eq 9, 3), (9, .aload_n 0, 1), (10, .iload_n 2, 1), (11, .invokevirtual 108, 3), (14, .ireturn, 1), (15, .iload_n 1, 1), (16, .ifCond .lt 18, 3), (19, .iload_n 1, 1), (20, .aload_n 0, 1), (21, .getfield 75, 3), (24, .getfield 190, 3), (27, .if_icmp .ge 7, 3), (30, .iconst 1, 1), (31, .goto 4, 3), (34, .iconst 0, 1), (35, .istore_n 3, 1), (36, .iload_n 3, 1), (37, .ifCond .ne 22, 3), (40, .iload_n 1, 1), (41, .bipush 10, 2), (43, .if_icmp .eq 16, 3), (46, .iload_n 1, 1), (47, .bipush 11, 2), (49, .if_icmp .eq 10, 3), (52, .aload_n 0, 1), (53, .bipush (-2), 2), (55, .invokevirtual 108, 3), (58, .ireturn, 1), (59, .aload_n 0, 1), (60, .getfield 104, 3), (63, .aload_n 0, 1), (64, .getfield 75, 3), (67, .invokevirtual 262, 3), (70, .aload_n 0, 1), (71, .getfield 104, 3), (74, .invokevirtual 278, 3), (77, .iload_n 3, 1), (78, .ifCond .eq 13, 3), (81, .aload_n 0, 1), (82, .getfield 104, 3), (85, .getfield 268, 3), (88, .iload_n 1, 1), (89, .iaload, 1), (90, .ireturn, 1), (91, .iload_n 1, 1), (92, .bipush 10, 2), (94, .if_icmp .ne 13, 3), (97, .aload_n 0, 1), (98, .getfield 104, 3), (101, .getfield 281, 3), (104, .goto 10, 3), (107, .aload_n 0, 1), (108, .getfield 104, 3), (111, .getfield 284, 3), (114, .ireturn, 1)]
def am_c37 : am_Cd := [(0, .aload_n 0, 1), (1, .getfield 23, 3), (4, .iload_n 1, 1), (5, .invokevirtual 178, 3), (8, .ifCond .ne 9, 3), (11, .aload_n 0, 1), (12, .iconst (-1), 1), (13, .invokevirtual 108, 3), (16, .ireturn, 1), (17, .aload_n 0, 1), (18, .getfield 23, 3), (21, .iload_n 1, 1), (22, .invokevirtual 287, 3), (25, .ireturn, 1)]
def am_c38 : am_Cd := [(0, .aload_n 0, 1), (1, .getfield 37, 3), (4, .iload_n 1, 1), (5, .invokevirtual 159, 3), (8, .ifCond .ne 9, 3), (11, .aload_n 0, 1), (12, .iconst (-1), 1), (13, .invokevirtual 108, 3), (16, .ireturn, 1), (17, .iload_n 2, 1), (18, .ifCond .eq 14, 3), (21, .aload_n 0, 1), (22, .getfield 37, 3), (25, .iload_n 1, 1), (26, .invokevirtual 175, 3), (29, .goto 27, 3), (32, .aload_n 0, 1), (33, .getfield 37, 3), (36, .getfield 112, 3), (39, .aload_n 0, 1), (40, .getfield 37, 3), (43, .getfield 163, 3), (46, .iload_n 1, 1), (47, .iaload, 1), (48, .if_icmp .gt 7, 3), (51, .iconst 1, 1), (52, .goto 4, 3), (55, .iconst 0, 1), (56, .istore 4, 2), (58, .aload_n 0, 1), (59, .getfield 37, 3), (62, .getfield 169, 3), (65, .iload_n 1, 1), (66, .iaload, 1), (67, .iconst 1, 1), (68, .if_icmp .ne 8, 3), (71, .iload 4, 2), (73, .ifCond .ne 10, 3), (76, .aload_n 0, 1), (77, .bipush (-3), 2), (79, .invokevirtual 108, 3), (82, .ireturn, 1), (83, .iload_n 3, 1), (84, .ifCond .ge 10, 3), (87, .aload_n 0, 1), (88, .bipush (-4), 2), (90, .invokevirtual 108, 3), (93, .ireturn, 1), (94, .iload_n 2, 1), (95, .ifCond .eq 13, 3), (98, .aload_n 0, 1), (99, .getfield 37, 3), (102, .getfield 290, 3), (105, .goto 10, 3), (108, .aload_n 0, 1), (109, .getfield 37, 3), (112, .getfield 293, 3), (115, .astore 5, 2), (117, .aload 5, 2), (119, .iload_n 1, 1), (120, .iaload, 1), (121, .iconst (-1), 1), (122, .if_icmp .ne 7, 3), (125, .iconst 1, 1), (126, .goto 4, 3), (129, .iconst 0, 1), (130, .istore 6, 2), (132, .aload 5, 2), (134, .iload_n 1, 1), (135, .iload_n 3, 1), (136, .iastore, 1), (137, .iload 6, 2), (139, .ireturn, 1)]
def am_c39 : am_Cd := [(0, .aload_n 0, 1), (1, .getfield 30, 3), (4, .iload_n 1, 1), (5, .invokevirtual 149, 3), (8, .ifCond .ne 9, 3), (11, .aload_n 0, 1), (12, .iconst (-1), 1), (13, .invokevirtual 108, 3), (16, .ireturn, 1), (17, .iload_n 2, 1), (18, .ifCond .lt 7, 3), (21, .iload_n 3, 1), (22, .ifCond .ge 10, 3), (25, .aload_n 0, 1), (26, .bipush (-4), 2), (28, .invokevirtual 108, 3), (31, .ireturn, 1), (32, .iload_n 2, 1), (33, .bipush 31, 2), (35, .if_icmp .ge 9, 3), (38, .iload_n 3, 1), (39, .bipush 9, 2), (41, .if_icmp .le 10, 3), (44, .aload_n 0, 1), (45, .bipush (-6), 2), (47, .invokevirtual 108, 3), (50, .ireturn, 1), (51, .aload_n 0, 1), (52, .getfield 30, 3), (55, .getfield 296, 3), (58, .iload_n 1, 1), (59, .aaload, 1), (60, .iload_n 2, 1), (61, .iaload, 1), (62, .istore 4, 2), (64, .aload_n 0, 1), (65, .getfield 30, 3), (68, .getfield 296, 3), (71, .iload_n 1, 1), (72, .aaload, 1), (73, .iload_n 2, 1), (74, .iload_n 3, 1), (75, .iastore, 1), (76, .iload 4, 2), (78, .ireturn, 1)]
def am_c40 : am_Cd := [(0, .aload_n 0, 1), (1, .getfield 37, 3), (4, .iload_n 1, 1), (5, .invokevirtual 159, 3), (8, .ifCond .ne 9, 3), (11, .aload_n 0, 1), (12, .iconst (-1), 1), (13, .invokevirtual 108, 3), (16, .ireturn, 1), (17, .aload_n 0, 1), (18, .getfield 37, 3), (21, .iload_n 1, 1), (22, .invokevirtual 299, 3), (25, .ifCond .eq 14, 3), (28, .aload_n 0, 1), (29, .getfield 37, 3), (32, .iload_n 1, 1), (33, .invokevirtual 302, 3), (36, .goto 5, 3), (39, .bipush (-9), 2), (41, .ireturn, 1)]
def am_c41 : am_Cd := [(0, .aload_n 0, 1), (1, .getfield 37, 3), (4, .iload_n 1, 1), (5, .invokevirtual 159, 3), (8, .ifCond .ne 9, 3), (11, .aload_n 0, 1), (12, .iconst (-1), 1), (13, .invokevirtual 108, 3), (16, .ireturn, 1), (17, .aload_n 0, 1), (18, .getfield 37, 3), (21, .iload_n 1, 1), (22, .invokevirtual 299, 3), (25, .ifCond .ne 10, 3), (28, .aload_n 0, 1), (29, .bipush (-3), 2), (31, .invokevirtual 108, 3), (34, .ireturn, 1), (35, .aload_n 0, 1), (36, .getfield 30, 3), (39, .aload_n 0, 1), (40, .getfield 37, 3), (43, .getfield 160, 3), (46, .iload_n 1, 1), (47, .iaload, 1), (48, .aload_n 0, 1), (49, .getfield 37, 3), (52, .iload_n 1, 1), (53, .invokevirtual 302, 3), (56, .invokevirtual 305, 3), (59, .ireturn, 1)]
def am_c42 : am_Cd := [(0, .iload_n 1, 1), (1, .bipush 11, 2), (3, .if_icmp .lt 19, 3), (6, .iload_n 1, 1), (7, .bipush 16, 2), (9, .if_icmp .gt 13, 3), (12, .aload_n 0, 1), (13, .getfield 7, 3), (16, .iload_n 1, 1), (17, .bipush 10, 2), (19, .isub, 1), (20, .iaload, 1), (21, .ireturn, 1), (22, .iload_n 1, 1), (23, .tableswitch 203 0 18 #[89, 97, 105, 113, 121, 130, 139, 148, 156, 164, 179, 203, 203, 203, 203, 203, 203, 187, 195], 89), (112, .aload_n 0, 1), (113, .getfield 37, 3), (116, .getfield 112, 3), (119, .ireturn, 1), (120, .aload_n 0, 1), (121, .getfield 23, 3), (124, .getfield 138, 3), (127, .ireturn, 1), (128, .aload_n 0, 1), (129, .getfield 30, 3), (132, .getfield 145, 3), (135, .ireturn, 1), (136, .aload_n 0, 1), (137, .getfield 37, 3), (140, .getfield 152, 3), (143, .ireturn, 1), (144, .aload_n 0, 1), (145, .getfield 37, 3), (148, .iconst 0, 1), (149, .invokevirtual 308, 3), (152, .ireturn, 1), (153, .aload_n 0, 1), (154, .getfield 37, 3), (157, .iconst 1, 1), (158, .invokevirtual 308, 3), (161, .ireturn, 1), (162, .aload_n 0, 1), (163, .getfield 37, 3), (166, .iconst 2, 1), (167, .invokevirtual 308, 3), (170, .ireturn, 1), (171, .aload_n 0, 1), (172, .getfield 53, 3), (175, .getfield 193, 3), (178, .ireturn, 1), (179, .aload_n 0, 1), (180, .getfield 46, 3), (183, .getfield 311, 3), (186, .ireturn, 1), (187, .aload_n 0, 1), (188, .getfield 46, 3), (191, .aload_n 0, 1), (192, .getfield 37, 3), (195, .getfield 112, 3), (198, .invokevirtual 312, 3), (201, .ireturn, 1), (202, .aload_n 0, 1), (203, .getfield 64, 3), (206, .getfield 190, 3), (209, .ireturn, 1), (210, .aload_n 0, 1), (211, .getfield 75, 3), (214, .getfield 190, 3), (217, .ireturn, 1), (218, .aload_n 0, 1), (219, .getfield 80, 3), (222, .getfield 190, 3), (225, .ireturn, 1), (226, .bipush (-9), 2), (228, .ireturn, 1)]
def am_c43 : am_Cd := [(0, .aload_n 0, 1), (1, .invokespecial 1, 3), (4, .aload_n 0, 1), (5, .bipush 10, 2), (7, .newarray .int, 2), (9, .putfield 9, 3), (12, .aload_n 0, 1), (13, .bipush 10, 2), (15, .newarray .int, 2), (17, .putfield 13, 3), (20, .aload_n 0, 1), (21, .bipush 11, 2), (23, .newarray .int, 2), (25, .putfield 16, 3), (28, .aload_n 0, 1), (29, .aload_n 1, 1), (30, .putfield 19, 3), (33, .aload_n 0, 1), (34, .aload_n 2, 1), (35, .putfield 23, 3), (38, .return_, 1)]
def am_c44 : am_Cd := [(0, .aload_n 0, 1), (1, .iconst 0, 1), (2, .putfield 27, 3), (5, .iconst 0, 1), (6, .istore_n 3, 1), (7, .iload_n 3, 1), (8, .aload_n 2, 1), (9, .getfield 31, 3), (12, .if_icmp .ge 43, 3), (15, .iload_n 3, 1), (16, .bipush 10, 2), (18, .if_icmp .ge 37, 3), (21, .aload_n 0, 1), (22, .getfield 23, 3), (25, .iload_n 1, 1), (26, .aload_n 2, 1), (27, .iload_n 3, 1), (28, .invokevirtual 34, 3), (31, .invokevirtual 38, 3), (34, .ifCond .eq 15, 3), (37, .aload_n 0, 1), (38, .aload_n 2, 1), (39, .iload_n 3, 1), (40, .invokevirtual 34, 3), (43, .iconst 1, 1), (44, .iload_n 3, 1), (45, .ishl, 1), (46, .invokevirtual 44, 3), (49, .iinc 3 1, 3), (52, .goto (-45), 3), (55, .aload_n 0, 1), (56, .getfield 16, 3), (59, .aload_n 0, 1), (60, .getfield 27, 3), (63, .iconst 0, 1), (64, .iastore, 1), (65, .aload_n 0, 1), (66, .getfield 27, 3), (69, .iconst 1, 1), (70, .isub, 1), (71, .istore_n 3, 1), (72, .iload_n 3, 1), (73, .ifCond .lt 37, 3), (76, .aload_n 0, 1), (77, .getfield 16, 3), (80, .iload_n 3, 1), (81, .aload_n 0, 1), (82, .getfield 16, 3), (85, .iload_n 3, 1), (86, .iconst 1, 1), (87, .iadd, 1), (88, .iaload, 1), (89, .aload_n 0, 1), (90, .getfield 19, 3), (93, .aload_n 0, 1), (94, .getfield 9, 3), (97, .iload_n 3, 1), (98, .iaload, 1), (99, .invokevirtual 48, 3), (102, .iadd, 1), (103, .iastore, 1), (104, .iinc 3 (-1), 3), (107, .goto (-35), 3), (110, .aload_n 0, 1), (111, .iconst 0, 1), (112, .putfield 53, 3), (115, .aload_n 0, 1), (116, .iconst 0, 1), (117, .putfield 56, 3), (120, .aload_n 0, 1), (121, .getfield 23, 3), (124, .iload_n 1, 1), (125, .invokevirtual 59, 3), (128, .aload_n 0, 1), (129, .iload_n 1, 1), (130, .iconst 0, 1), (131, .iconst 0, 1), (132, .iconst 0, 1), (133, .invokevirtual 63, 3), (136, .return_, 1)]
def am_c45 : am_Cd := [(0, .aload_n 0, 1), (1, .getfield 27, 3), (4, .bipush 10, 2), (6, .if_icmp .lt 4, 3), (9, .return_, 1), (10, .aload_n 0, 1), (11, .dup, 1), (12, .getfield 27, 3), (15, .dup_x1, 1), (16, .iconst 1, 1), (17, .iadd, 1), (18, .putfield 27, 3), (21, .istore_n 3, 1), (22, .iload_n 3, 1), (23, .ifCond .le 65, 3), (26, .aload_n 0, 1), (27, .getfield 19, 3), (30, .getfield 67, 3), (33, .aload_n 0, 1), (34, .getfield 9, 3), (37, .iload_n 3, 1), (38, .iconst 1, 1), (39, .isub, 1), (40, .iaload, 1), (41, .iaload, 1), (42, .aload_n 0, 1), (43, .getfield 19, 3), (46, .getfield 67, 3), (49, .iload_n 1, 1), (50, .iaload, 1), (51, .if_icmp .le 37, 3), (54, .aload_n 0, 1), (55, .getfield 9, 3), (58, .iload_n 3, 1), (59, .aload_n 0, 1), (60, .getfield 9, 3), (63, .iload_n 3, 1), (64, .iconst 1, 1), (65, .isub, 1), (66, .iaload, 1), (67, .iastore, 1), (68, .aload_n 0, 1), (69, .getfield 13, 3), (72, .iload_n 3, 1), (73, .aload_n 0, 1), (74, .getfield 13, 3), (77, .iload_n 3, 1), (78, .iconst 1, 1), (79, .isub, 1), (80, .iaload, 1), (81, .iastore, 1), (82, .iinc 3 (-1), 3), (85, .goto (-63), 3), (88, .aload_n 0, 1), (89, .getfield 9, 3), (92, .iload_n 3, 1), (93, .iload_n 1, 1), (94, .iastore, 1), (95, .aload_n 0, 1), (96, .getfield 13, 3), (99, .iload_n 3, 1), (100, .iload_n 2, 1), (101, .iastore, 1), (102, .return_, 1)]
def am_c46 : am_Cd := [(0, .iload_n 2, 1), (1, .aload_n 0, 1), (2, .getfield 27, 3), (5, .if_icmp .lt 11, 3), (8, .aload_n 0, 1), (9, .iload_n 3, 1), (10, .iload 4, 2), (12, .invokevirtual 70, 3), (15, .return_, 1), (16, .iload 4, 2), (18, .aload_n 0, 1), (19, .getfield 16, 3), (22, .iload_n 2, 1), (23, .iaload, 1), (24, .iadd, 1), (25, .aload_n 0, 1), (26, .getfield 53, 3), (29, .if_icmp .ge 4, 3), (32, .return_, 1), (33, .aload_n 0, 1), (34, .getfield 23, 3), (37, .iload_n 1, 1), (38, .aload_n 0, 1), (39, .getfield 9, 3), (42, .iload_n 2, 1), (43, .iaload, 1), (44, .invokevirtual 73, 3), (47, .ifCond .ne 55, 3), (50, .aload_n 0, 1), (51, .getfield 23, 3), (54, .aload_n 0, 1), (55, .getfield 9, 3), (58, .iload_n 2, 1), (59, .iaload, 1), (60, .invokevirtual 77, 3), (63, .aload_n 0, 1), (64, .iload_n 1, 1), (65, .iload_n 2, 1), (66, .iconst 1, 1), (67, .iadd, 1), (68, .iload_n 3, 1), (69, .aload_n 0, 1), (70, .getfield 13, 3), (73, .iload_n 2, 1), (74, .iaload, 1), (75, .ior, 1), (76, .iload 4, 2), (78, .aload_n 0, 1), (79, .getfield 19, 3), (82, .aload_n 0, 1), (83, .getfield 9, 3), (86, .iload_n 2, 1), (87, .iaload, 1), (88, .invokevirtual 48, 3), (91, .iadd, 1), (92, .invokevirtual 63, 3), (95, .aload_n 0, 1), (96, .getfield 23, 3), (99, .invokevirtual 80, 3), (102, .aload_n 0, 1), (103, .iload_n 1, 1), (104, .iload_n 2, 1), (105, .iconst 1, 1), (106, .iadd, 1), (107, .iload_n 3, 1), (108, .iload 4, 2), (110, .invokevirtual 63, 3), (113, .return_, 1)]
def am_c47 : am_Cd := [(0, .iload_n 2, 1), (1, .aload_n 0, 1), (2, .getfield 53, 3), (5, .invokestatic 83, 3), (8, .istore_n 3, 1), (9, .iload_n 3, 1), (10, .ifCond .ne 18, 3), (13, .aload_n 0, 1), (14, .getfield 56, 3), (17, .invokestatic 88, 3), (20, .iload_n 1, 1), (21, .invokestatic 88, 3), (24, .invokestatic 83, 3), (27, .istore_n 3, 1), (28, .iload_n 3, 1), (29, .ifCond .ne 12, 3), (32, .aload_n 0, 1), (33, .getfield 56, 3), (36, .iload_n 1, 1), (37, .invokestatic 83, 3), (40, .istore_n 3, 1), (41, .iload_n 3, 1), (42, .ifCond .le 13, 3), (45, .aload_n 0, 1), (46, .iload_n 2, 1), (47, .putfield 53, 3), (50, .aload_n 0, 1), (51, .iload_n 1, 1), (52, .putfield 56, 3), (55, .return_, 1)]
def am_c48 : am_Cd := [(0, .aload_n 0, 1), (1, .invokespecial 1, 3), (4, .aload_n 0, 1), (5, .bipush 20, 2), (7, .newarray .int, 2), (9, .putfield 9, 3), (12, .aload_n 0, 1), (13, .bipush 20, 2), (15, .newarray .int, 2), (17, .putfield 13, 3), (20, .aload_n 0, 1), (21, .bipush 20, 2), (23, .bipush 31, 2), (25, .multianewarray 16 2, 4), (29, .putfield 18, 3), (32, .iconst 0, 1), (33, .istore_n 1, 1), (34, .iload_n 1, 1), (35, .bipush 20, 2), (37, .if_icmp .ge 19, 3), (40, .aload_n 0, 1), (41, .getfield 18, 3), (44, .iload_n 1, 1), (45, .aaload, 1), (46, .iconst 1, 1), (47, .invokestatic 21, 3), (50, .iinc 1 1, 3), (53, .goto (-19), 3), (56, .return_, 1)]
def am_c49 : am_Cd := [(0, .aload_n 0, 1), (1, .dup, 1), (2, .getfield 27, 3), (5, .dup_x1, 1), (6, .iconst 1, 1), (7, .iadd, 1), (8, .putfield 27, 3), (11, .istore_n 3, 1), (12, .aload_n 0, 1), (13, .getfield 9, 3), (16, .iload_n 3, 1), (17, .iload_n 1, 1), (18, .iastore, 1), (19, .aload_n 0, 1), (20, .getfield 13, 3), (23, .iload_n 3, 1), (24, .iload_n 2, 1), (25, .iastore, 1), (26, .iload_n 3, 1), (27, .ireturn, 1)]
def am_c50 : am_Cd := [(0, .iload_n 1, 1), (1, .ifCond .lt 15, 3), (4, .iload_n 1, 1), (5, .aload_n 0, 1), (6, .getfield 27, 3), (9, .if_icmp .ge 7, 3), (12, .iconst 1, 1), (13, .goto 4, 3), (16, .iconst 0, 1), (17, .ireturn, 1)]
def am_c51 : am_Cd := [(0, .iconst 0, 1), (1, .istore_n 3, 1), (2, .iconst 0, 1), (3, .istore 4, 2), (5, .iload 4, 2), (7, .bipush 31, 2), (9, .if_icmp .ge 36, 3), (12, .iload_n 2, 1), (13, .iload 4, 2), (15, .ishr, 1), (16, .iconst 1, 1), (17, .iand, 1), (18, .iconst 1, 1), (19, .if_icmp .ne 20, 3), (22, .iload_n 3, 1), (23, .iconst 5, 1), (24, .bipush 10, 2), (26, .aload_n 0, 1), (27, .getfield 18, 3), (30, .iload_n 1, 1), (31, .aaload, 1), (32, .iload 4, 2), (34, .iaload, 1), (35, .imul, 1), (36, .iadd, 1), (37, .iadd, 1), (38, .istore_n 3, 1), (39, .iinc 4 1, 3), (42, .goto (-37), 3), (45, .iload_n 3, 1), (46, .ireturn, 1)]
def am_c52 : am_Cd := [(0, .aload_n 0, 1), (1, .invokespecial 1, 3), (4, .aload_n 0, 1), (5, .bipush 20, 2), (7, .newarray .int, 2), (9, .putfield 9, 3), (12, .aload_n 0, 1), (13, .bipush 20, 2), (15, .newarray .int, 2), (17, .putfield 13, 3), (20, .aload_n 0, 1), (21, .bipush 20, 2), (23, .newarray .int, 2), (25, .putfield 16, 3), (28, .aload_n 0, 1), (29, .bipush 20, 2), (31, .newarray .int, 2), (33, .putfield 19, 3), (36, .aload_n 0, 1), (37, .bipush 20, 2), (39, .iconst 5, 1), (40, .multianewarray 24 2, 4), (44, .putfield 26, 3), (47, .return_, 1)]
def am_c53 : am_Cd := [(0, .aload_n 0, 1), (1, .dup, 1), (2, .getfield 29, 3), (5, .dup_x1, 1), (6, .iconst 1, 1), (7, .iadd, 1), (8, .putfield 29, 3), (11, .istore 5, 2), (13, .aload_n 0, 1), (14, .getfield 9, 3), (17, .iload 5, 2), (19, .iload_n 1, 1), (20, .iastore, 1), (21, .aload_n 0, 1), (22, .getfield 13, 3), (25, .iload 5, 2), (27, .iload_n 2, 1), (28, .iastore, 1), (29, .aload_n 0, 1), (30, .getfield 16, 3), (33, .iload 5, 2), (35, .iload_n 3, 1), (36, .iastore, 1), (37, .aload_n 0, 1), (38, .getfield 19, 3), (41, .iload 5, 2), (43, .iload 4, 2), (45, .iastore, 1), (46, .iload 5, 2), (48, .ireturn, 1)]
def am_c54 : am_Cd := [(0, .iload_n 1, 1), (1, .ifCond .lt 15, 3), (4, .iload_n 1, 1), (5, .aload_n 0, 1), (6, .getfield 29, 3), (9, .if_icmp .ge 7, 3), (12, .iconst 1, 1), (13, .goto 4, 3), (16, .iconst 0, 1), (17, .ireturn, 1)]
def am_c55 : am_Cd := [(0, .aload_n 0, 1), (1, .getfield 19, 3), (4, .iload_n 1, 1), (5, .iaload, 1), (6, .istore_n 3, 1), (7, .aload_n 0, 1), (8, .getfield 19, 3), (11, .iload_n 2, 1), (12, .iaload, 1), (13, .istore 4, 2), (15, .iconst 0, 1), (16, .istore 5, 2), (18, .iconst 0, 1), (19, .istore 6, 2), (21, .iload 6, 2), (23, .iconst 5, 1), (24, .if_icmp .ge 36, 3), (27, .iload_n 3, 1), (28, .bipush 10, 2), (30, .irem, 1), (31, .iload 4, 2), (33, .bipush 10, 2), (35, .irem, 1), (36, .if_icmp .eq 6, 3), (39, .iinc 5 1, 3), (42, .iload_n 3, 1), (43, .bipush 10, 2), (45, .idiv, 1), (46, .istore_n 3, 1), (47, .iload 4, 2), (49, .bipush 10, 2), (51, .idiv, 1), (52, .istore 4, 2), (54, .iinc 6 1, 3), (57, .goto (-36), 3), (60, .iload 5, 2), (62, .iconst 1, 1), (63, .if_icmp .gt 7, 3), (66, .iconst 1, 1), (67, .goto 4, 3), (70, .iconst 0, 1), (71, .ireturn, 1)]
def am_c56 : am_Cd := [(0, .iconst 1, 1), (1, .iload_n 1, 1), (2, .ishl, 1), (3, .istore_n 2, 1), (4, .iconst 0, 1), (5, .istore_n 3, 1), (6, .iload_n 3, 1), (7, .bipush 20, 2), (9, .if_icmp .ge 28, 3), (12, .aload_n 0, 1), (13, .iload_n 2, 1), (14, .invokevirtual 33, 3), (17, .istore 4, 2), (19, .iload 4, 2), (21, .iload_n 2, 1), (22, .if_icmp .ne 6, 3), (25, .goto 12, 3), (28, .iload 4, 2), (30, .istore_n 2, 1), (31, .iinc 3 1, 3), (34, .goto (-28), 3), (37, .iconst 0, 1), (38, .istore_n 3, 1), (39, .iload_n 3, 1), (40, .iload_n 1, 1), (41, .if_icmp .ge 20, 3), (44, .iload_n 2, 1), (45, .iload_n 3, 1), (46, .ishr, 1), (47, .iconst 1, 1), (48, .iand, 1), (49, .iconst 1, 1), (50, .if_icmp .ne 5, 3), (53, .iload_n 3, 1), (54, .ireturn, 1), (55, .iinc 3 1, 3), (58, .goto (-19), 3), (61, .iload_n 1, 1), (62, .ireturn, 1)]
def am_c57 : am_Cd := [(0, .iload_n 1, 1), (1, .istore_n 2, 1), (2, .iconst 0, 1), (3, .istore_n 3, 1), (4, .iload_n 3, 1), (5, .aload_n 0, 1), (6, .getfield 29, 3), (9, .if_icmp .ge 32, 3), (12, .iload_n 2, 1), (13, .iload_n 3, 1), (14, .ishr, 1), (15, .iconst 1, 1), (16, .iand, 1), (17, .ifCond .ne 18, 3), (20, .aload_n 0, 1), (21, .iload_n 1, 1), (22, .iload_n 3, 1), (23, .invokevirtual 37, 3), (26, .ifCond .eq 9, 3), (29, .iload_n 2, 1), (30, .iconst 1, 1), (31, .iload_n 3, 1), (32, .ishl, 1), (33, .ior, 1), (34, .istore_n 2, 1), (35, .iinc 3 1, 3), (38, .goto (-34), 3), (41, .iload_n 2, 1), (42, .ireturn, 1)]
def am_c58 : am_Cd := [(0, .iconst 0, 1), (1, .istore_n 3, 1), (2, .iload_n 3, 1), (3, .aload_n 0, 1), (4, .getfield 29, 3), (7, .if_icmp .ge 29, 3), (10, .iload_n 1, 1), (11, .iload_n 3, 1), (12, .ishr, 1), (13, .iconst 1, 1), (14, .iand, 1), (15, .iconst 1, 1), (16, .if_icmp .ne 14, 3), (19, .aload_n 0, 1), (20, .iload_n 3, 1), (21, .iload_n 2, 1), (22, .invokevirtual 41, 3), (25, .ifCond .eq 5, 3), (28, .iconst 1, 1), (29, .ireturn, 1), (30, .iinc 3 1, 3), (33, .goto (-31), 3), (36, .iconst 0, 1), (37, .ireturn, 1)]
def am_c59 : am_Cd := [(0, .aload_n 0, 1), (1, .invokespecial 5, 3), (4, .aload_n 0, 1), (5, .bipush 6, 2), (7, .newarray .int, 2), (9, .putfield 11, 3), (12, .aload_n 0, 1), (13, .bipush 6, 2), (15, .newarray .int, 2), (17, .putfield 15, 3), (20, .aload_n 0, 1), (21, .bipush 6, 2), (23, .newarray .int, 2), (25, .putfield 18, 3), (28, .aload_n 0, 1), (29, .bipush 20, 2), (31, .newarray .int, 2), (33, .putfield 23, 3), (36, .aload_n 0, 1), (37, .bipush 6, 2), (39, .newarray .int, 2), (41, .putfield 26, 3), (44, .aload_n 0, 1), (45, .bipush 64, 2), (47, .newarray .long, 2), (49, .putfield 29, 3), (52, .aload_n 0, 1), (53, .aload_n 1, 1), (54, .putfield 33, 3), (57, .aload_n 0, 1), (58, .aload_n 2, 1), (59, .putfield 37, 3), (62, .aload_n 0, 1), (63, .aload_n 3, 1), (64, .putfield 41, 3), (67, .aload_n 0, 1), (68, .aload 4, 2), (70, .putfield 45, 3), (73, .return_, 1)]
def am_c60 : am_Cd := [(0, .aload_n 0, 1), (1, .getfield 41, 3), (4, .aload_n 0, 1), (5, .getfield 37, 3), (8, .getfield 49, 3), (11, .invokevirtual 55, 3), (14, .aload_n 0, 1), (15, .aload_n 1, 1), (16, .getfield 61, 3), (19, .bipush 6, 2), (21, .invokestatic 66, 3), (24, .putfield 72, 3), (27, .iconst 0, 1), (28, .istore_n 2, 1), (29, .iload_n 2, 1), (30, .aload_n 0, 1), (31, .getfield 72, 3), (34, .if_icmp .ge 27, 3), (37, .aload_n 0, 1), (38, .getfield 15, 3), (41, .iload_n 2, 1), (42, .aload_n 1, 1), (43, .iload_n 2, 1), (44, .invokevirtual 73, 3), (47, .iastore, 1), (48, .aload_n 0, 1), (49, .getfield 18, 3), (52, .iload_n 2, 1), (53, .iconst 0, 1), (54, .iastore, 1), (55, .iinc 2 1, 3), (58, .goto (-29), 3), (61, .iconst 0, 1), (62, .istore_n 2, 1), (63, .iload_n 2, 1), (64, .aload_n 0, 1), (65, .getfield 33, 3), (68, .getfield 77, 3), (71, .if_icmp .ge 62, 3), (74, .aload_n 0, 1), (75, .getfield 45, 3), (78, .iload_n 2, 1), (79, .invokevirtual 80, 3), (82, .iconst 0, 1), (83, .istore_n 3, 1), (84, .iload_n 3, 1), (85, .aload_n 0, 1), (86, .getfield 72, 3), (89, .if_icmp .ge 38, 3), (92, .aload_n 0, 1), (93, .getfield 45, 3), (96, .iload_n 2, 1), (97, .aload_n 0, 1), (98, .getfield 15, 3), (101, .iload_n 3, 1), (102, .iaload, 1), (103, .invokevirtual 85, 3), (106, .ifCond .ne 15, 3), (109, .aload_n 0, 1), (110, .getfield 18, 3), (113, .iload_n 3, 1), (114, .dup2, 1), (115, .iaload, 1), (116, .iconst 1, 1), (117, .iload_n 2, 1), (118, .ishl, 1), (119, .ior, 1), (120, .iastore, 1), (121, .iinc 3 1, 3), (124, .goto (-40), 3), (127, .iinc 2 1, 3), (130, .goto (-67), 3), (133, .return_, 1)]
def am_c61 : am_Cd := [(0, .aload_n 0, 1), (1, .getfield 11, 3), (4, .bipush (-9), 2), (6, .invokestatic 88, 3), (9, .aload_n 0, 1), (10, .getfield 23, 3), (13, .iconst 0, 1), (14, .invokestatic 88, 3), (17, .iconst 0, 1), (18, .istore_n 1, 1), (19, .iload_n 1, 1), (20, .bipush 120, 2), (22, .if_icmp .gt 74, 3), (25, .iconst 0, 1), (26, .istore_n 2, 1), (27, .iconst 0, 1), (28, .istore_n 3, 1), (29, .iload_n 3, 1), (30, .aload_n 0, 1), (31, .getfield 33, 3), (34, .getfield 77, 3), (37, .if_icmp .ge 48, 3), (40, .aload_n 0, 1), (41, .iload_n 3, 1), (42, .invokevirtual 94, 3), (45, .ifCond .eq 8, 3), (48, .bipush (-9), 2), (50, .goto 8, 3), (53, .aload_n 0, 1), (54, .iload_n 3, 1), (55, .invokevirtual 98, 3), (58, .istore 4, 2), (60, .iload 4, 2), (62, .bipush (-9), 2), (64, .if_icmp .ne 6, 3), (67, .goto 12, 3), (70, .aload_n 0, 1), (71, .iload_n 3, 1), (72, .iload 4, 2), (74, .invokevirtual 101, 3), (77, .iconst 1, 1), (78, .istore_n 2, 1), (79, .iinc 3 1, 3), (82, .goto (-53), 3), (85, .iload_n 2, 1), (86, .ifCond .ne 4, 3), (89, .return_, 1), (90, .iinc 1 1, 3), (93, .goto (-74), 3), (96, .return_, 1)]
def am_c62 : am_Cd := [(0, .iconst 0, 1), (1, .istore_n 2, 1), (2, .iload_n 2, 1), (3, .aload_n 0, 1), (4, .getfield 72, 3), (7, .if_icmp .ge 21, 3), (10, .aload_n 0, 1), (11, .getfield 11, 3), (14, .iload_n 2, 1), (15, .iaload, 1), (16, .iload_n 1, 1), (17, .if_icmp .ne 5, 3), (20, .iconst 1, 1), (21, .ireturn, 1), (22, .iinc 2 1, 3), (25, .goto (-23), 3), (28, .iconst 0, 1), (29, .ireturn, 1)]
def am_c63 : am_Cd := [(0, .bipush (-9), 2), (2, .istore_n 2, 1), (3, .iconst 0, 1), (4, .istore_n 3, 1), (5, .iload_n 3, 1), (6, .aload_n 0, 1), (7, .getfield 72, 3), (10, .if_icmp .ge 53, 3), (13, .aload_n 0, 1), (14, .iload_n 1, 1), (15, .iload_n 3, 1), (16, .invokevirtual 105, 3), (19, .ifCond .eq 38, 3), (22, .aload_n 0, 1), (23, .getfield 23, 3), (26, .iload_n 1, 1), (27, .iaload, 1), (28, .iload_n 3, 1), (29, .ishr, 1), (30, .iconst 1, 1), (31, .iand, 1), (32, .iconst 1, 1), (33, .if_icmp .ne 6, 3), (36, .goto 21, 3), (39, .iload_n 2, 1), (40, .bipush (-9), 2), (42, .if_icmp .eq 13, 3), (45, .aload_n 0, 1), (46, .iload_n 1, 1), (47, .iload_n 3, 1), (48, .iload_n 2, 1), (49, .invokevirtual 109, 3), (52, .ifCond .eq 5, 3), (55, .iload_n 3, 1), (56, .istore_n 2, 1), (57, .iinc 3 1, 3), (60, .goto (-55), 3), (63, .iload_n 2, 1), (64, .ireturn, 1)]
def am_c64 : am_Cd := [(0, .aload_n 0, 1), (1, .getfield 18, 3), (4, .iload_n 2, 1), (5, .iaload, 1), (6, .iload_n 1, 1), (7, .ishr, 1), (8, .iconst 1, 1), (9, .iand, 1), (10, .iconst 1, 1), (11, .if_icmp .ne 7, 3), (14, .iconst 1, 1), (15, .goto 4, 3), (18, .iconst 0, 1), (19, .ireturn, 1)]
def am_c65 : am_Cd := [(0, .aload_n 0, 1), (1, .getfield 33, 3), (4, .getfield 116, 3), (7, .iload_n 1, 1), (8, .aaload, 1), (9, .aload_n 0, 1), (10, .getfield 45, 3), (13, .aload_n 0, 1), (14, .getfield 15, 3), (17, .iload_n 2, 1), (18, .iaload, 1), (19, .invokevirtual 120, 3), (22, .iaload, 1), (23, .istore 4, 2), (25, .aload_n 0, 1), (26, .getfield 33, 3), (29, .getfield 116, 3), (32, .iload_n 1, 1), (33, .aaload, 1), (34, .aload_n 0, 1), (35, .getfield 45, 3), (38, .aload_n 0, 1), (39, .getfield 15, 3), (42, .iload_n 3, 1), (43, .iaload, 1), (44, .invokevirtual 120, 3), (47, .iaload, 1), (48, .istore 5, 2), (50, .iload 4, 2), (52, .iload 5, 2), (54, .if_icmp .ne 16, 3), (57, .iload_n 2, 1), (58, .iload_n 3, 1), (59, .if_icmp .ge 7, 3), (62, .iconst 1, 1), (63, .goto 19, 3), (66, .iconst 0, 1), (67, .goto 15, 3), (70, .iload 4, 2), (72, .iload 5, 2), (74, .if_icmp .le 7, 3), (77, .iconst 1, 1), (78, .goto 4, 3), (81, .iconst 0, 1), (82, .ireturn, 1)]
def am_c66 : am_Cd := [(0, .aload_n 0, 1), (1, .getfield 11, 3), (4, .iload_n 2, 1), (5, .iaload, 1), (6, .istore_n 3, 1), (7, .iload_n 3, 1), (8, .bipush (-9), 2), (10, .if_icmp .eq 12, 3), (13, .aload_n 0, 1), (14, .iload_n 1, 1), (15, .iload_n 3, 1), (16, .invokevirtual 113, 3), (19, .ifCond .eq 29, 3), (22, .aload_n 0, 1), (23, .getfield 11, 3), (26, .iload_n 2, 1), (27, .iload_n 1, 1), (28, .iastore, 1), (29, .iload_n 3, 1), (30, .ifCond .lt 30, 3), (33, .aload_n 0, 1), (34, .getfield 23, 3), (37, .iload_n 3, 1), (38, .dup2, 1), (39, .iaload, 1), (40, .iconst 1, 1), (41, .iload_n 2, 1), (42, .ishl, 1), (43, .ior, 1), (44, .iastore, 1), (45, .goto 15, 3), (48, .aload_n 0, 1), (49, .getfield 23, 3), (52, .iload_n 1, 1), (53, .dup2, 1), (54, .iaload, 1), (55, .iconst 1, 1), (56, .iload_n 2, 1), (57, .ishl, 1), (58, .ior, 1), (59, .iastore, 1), (60, .return_, 1)]
def am_c67 : am_Cd := [(0, .aload_n 0, 1), (1, .getfield 41, 3), (4, .getfield 123, 3), (7, .iload_n 1, 1), (8, .iaload, 1), (9, .istore_n 3, 1), (10, .aload_n 0, 1), (11, .getfield 41, 3), (14, .getfield 123, 3), (17, .iload_n 2, 1), (18, .iaload, 1), (19, .istore 4, 2), (21, .iload_n 3, 1), (22, .iload 4, 2), (24, .if_icmp .ne 16, 3), (27, .iload_n 1, 1), (28, .iload_n 2, 1), (29, .if_icmp .ge 7, 3), (32, .iconst 1, 1), (33, .goto 18, 3), (36, .iconst 0, 1), (37, .goto 14, 3), (40, .iload_n 3, 1), (41, .iload 4, 2), (43, .if_icmp .le 7, 3), (46, .iconst 1, 1), (47, .goto 4, 3), (50, .iconst 0, 1), (51, .ireturn, 1)]
def am_c68 : am_Cd := [(0, .iconst 0, 1), (1, .istore_n 2, 1), (2, .iload_n 2, 1), (3, .aload_n 0, 1), (4, .getfield 72, 3), (7, .if_icmp .ge 56, 3), (10, .aload_n 1, 1), (11, .iload_n 2, 1), (12, .invokevirtual 73, 3), (15, .istore_n 3, 1), (16, .iload_n 3, 1), (17, .iconst (-1), 1), (18, .if_icmp .ne 6, 3), (21, .goto 36, 3), (24, .aload_n 0, 1), (25, .getfield 33, 3), (28, .iload_n 3, 1), (29, .invokevirtual 126, 3), (32, .ifCond .eq 12, 3), (35, .aload_n 0, 1), (36, .iload_n 3, 1), (37, .iload_n 2, 1), (38, .invokevirtual 105, 3), (41, .ifCond .ne 5, 3), (44, .iload_n 2, 1), (45, .ireturn, 1), (46, .aload_n 1, 1), (47, .iload_n 3, 1), (48, .invokevirtual 129, 3), (51, .iload_n 2, 1), (52, .if_icmp .ge 5, 3), (55, .iload_n 2, 1), (56, .ireturn, 1), (57, .iinc 2 1, 3), (60, .goto (-58), 3), (63, .iconst 0, 1), (64, .istore_n 2, 1), (65, .iload_n 2, 1), (66, .aload_n 0, 1), (67, .getfield 72, 3), (70, .if_icmp .ge 23, 3), (73, .aload_n 0, 1), (74, .aload_n 1, 1), (75, .iload_n 2, 1), (76, .invokevirtual 132, 3), (79, .ifCond .eq 8, 3), (82, .bipush 20, 2), (84, .iload_n 2, 1), (85, .iadd, 1), (86, .ireturn, 1), (87, .iinc 2 1, 3), (90, .goto (-25), 3), (93, .bipush (-9), 2), (95, .ireturn, 1)]
def am_c69 : am_Cd := [(0, .aload_n 1, 1), (1, .iload_n 2, 1), (2, .invokevirtual 73, 3), (5, .istore_n 3, 1), (6, .iconst 0, 1), (7, .istore 4, 2), (9, .iload 4, 2), (11, .aload_n 0, 1), (12, .getfield 33, 3), (15, .getfield 77, 3), (18, .if_icmp .ge 86, 3), (21, .iload 4, 2), (23, .iload_n 3, 1), (24, .if_icmp .eq 74, 3), (27, .aload_n 0, 1), (28, .iload 4, 2), (30, .iload_n 2, 1), (31, .invokevirtual 105, 3), (34, .ifCond .ne 6, 3), (37, .goto 61, 3), (40, .aload_n 1, 1), (41, .iload 4, 2), (43, .invokevirtual 129, 3), (46, .istore 5, 2), (48, .iload 5, 2), (50, .aload_n 0, 1), (51, .getfield 72, 3), (54, .if_icmp .ge 15, 3), (57, .aload_n 0, 1), (58, .iload 4, 2), (60, .iload_n 2, 1), (61, .iload 5, 2), (63, .invokevirtual 109, 3), (66, .ifCond .eq 7, 3), (69, .iconst 1, 1), (70, .goto 4, 3), (73, .iconst 0, 1), (74, .istore 6, 2), (76, .iload 6, 2), (78, .ifCond .eq 20, 3), (81, .iload_n 3, 1), (82, .iconst (-1), 1), (83, .if_icmp .eq 13, 3), (86, .aload_n 0, 1), (87, .iload 4, 2), (89, .iload_n 3, 1), (90, .invokevirtual 113, 3), (93, .ifCond .eq 5, 3), (96, .iconst 1, 1), (97, .ireturn, 1), (98, .iinc 4 1, 3), (101, .goto (-92), 3), (104, .iconst 0, 1), (105, .ireturn, 1)]
def am_c70 : am_Cd := [(0, .aload_n 0, 1), (1, .getfield 37, 3), (4, .getfield 136, 3), (7, .iload_n 1, 1), (8, .iaload, 1), (9, .ifCond .eq 6, 3), (12, .bipush (-9), 2), (14, .ireturn, 1), (15, .aload_n 0, 1), (16, .getfield 41, 3), (19, .aload_n 0, 1), (20, .getfield 37, 3), (23, .getfield 49, 3), (26, .invokevirtual 55, 3), (29, .bipush (-9), 2), (31, .istore_n 2, 1), (32, .iconst 0, 1), (33, .istore_n 3, 1), (34, .iconst 0, 1), (35, .istore 4, 2), (37, .iload 4, 2), (39, .aload_n 0, 1), (40, .getfield 33, 3), (43, .getfield 77, 3), (46, .if_icmp .ge 106, 3), (49, .aload_n 0, 1), (50, .getfield 45, 3), (53, .iload 4, 2), (55, .invokevirtual 80, 3), (58, .aload_n 0, 1), (59, .getfield 45, 3), (62, .iload 4, 2), (64, .iload_n 1, 1), (65, .invokevirtual 85, 3), (68, .ifCond .eq 6, 3), (71, .goto 75, 3), (74, .aload_n 0, 1), (75, .getfield 45, 3), (78, .iload 4, 2), (80, .iload_n 1, 1), (81, .invokevirtual 139, 3), (84, .istore 5, 2), (86, .iload 5, 2), (88, .iload_n 3, 1), (89, .if_icmp .ne 27, 3), (92, .iload_n 2, 1), (93, .bipush (-9), 2), (95, .if_icmp .eq 17, 3), (98, .aload_n 0, 1), (99, .iload 4, 2), (101, .iload_n 2, 1), (102, .invokevirtual 113, 3), (105, .ifCond .eq 7, 3), (108, .iconst 1, 1), (109, .goto 18, 3), (112, .iconst 0, 1), (113, .goto 14, 3), (116, .iload 5, 2), (118, .iload_n 3, 1), (119, .if_icmp .ge 7, 3), (122, .iconst 1, 1), (123, .goto 4, 3), (126, .iconst 0, 1), (127, .istore 6, 2), (129, .iload_n 2, 1), (130, .bipush (-9), 2), (132, .if_icmp .eq 8, 3), (135, .iload 6, 2), (137, .ifCond .eq 9, 3), (140, .iload 4, 2), (142, .istore_n 2, 1), (143, .iload 5, 2), (145, .istore_n 3, 1), (146, .iinc 4 1, 3), (149, .goto (-112), 3), (152, .iload_n 2, 1), (153, .ireturn, 1)]
def am_c71 : am_Cd := [(0, .aload_n 0, 1), (1, .getfield 29, 3), (4, .ldc2_w 141, 3), (7, .invokestatic 143, 3), (10, .aload_n 0, 1), (11, .getfield 29, 3), (14, .iconst 0, 1), (15, .lconst 0, 1), (16, .lastore, 1), (17, .iconst 0, 1), (18, .istore_n 1, 1), (19, .iload_n 1, 1), (20, .aload_n 0, 1), (21, .getfield 33, 3), (24, .getfield 77, 3), (27, .if_icmp .ge 14, 3), (30, .aload_n 0, 1), (31, .iload_n 1, 1), (32, .invokevirtual 146, 3), (35, .iinc 1 1, 3), (38, .goto (-19), 3), (41, .ldc2_w 141, 3), (44, .lstore_n 1, 1), (45, .iconst 0, 1), (46, .istore_n 3, 1), (47, .iload_n 3, 1), (48, .iconst 1, 1), (49, .aload_n 0, 1), (50, .getfield 72, 3), (53, .ishl, 1), (54, .if_icmp .ge 26, 3), (57, .lload_n 1, 1), (58, .aload_n 0, 1), (59, .getfield 29, 3), (62, .iload_n 3, 1), (63, .laload, 1), (64, .aload_n 0, 1), (65, .iload_n 3, 1), (66, .invokevirtual 149, 3), (69, .ladd, 1), (70, .invokestatic 153, 3), (73, .lstore_n 1, 1), (74, .iinc 3 1, 3), (77, .goto (-30), 3), (80, .aload_n 0, 1), (81, .lload_n 1, 1), (82, .invokevirtual 156, 3), (85, .return_, 1)]
def am_c72 : am_Cd := [(0, .iconst 0, 1), (1, .istore_n 2, 1), (2, .iload_n 2, 1), (3, .aload_n 0, 1), (4, .getfield 72, 3), (7, .if_icmp .ge 29, 3), (10, .aload_n 0, 1), (11, .getfield 26, 3), (14, .iload_n 2, 1), (15, .aload_n 0, 1), (16, .getfield 45, 3), (19, .iload_n 1, 1), (20, .aload_n 0, 1), (21, .getfield 15, 3), (24, .iload_n 2, 1), (25, .iaload, 1), (26, .invokevirtual 139, 3), (29, .iastore, 1), (30, .iinc 2 1, 3), (33, .goto (-31), 3), (36, .iconst 1, 1), (37, .aload_n 0, 1), (38, .getfield 72, 3), (41, .ishl, 1), (42, .iconst 1, 1), (43, .isub, 1), (44, .istore_n 2, 1), (45, .iload_n 2, 1), (46, .ifCond .le 95, 3), (49, .iconst 0, 1), (50, .istore_n 3, 1), (51, .iload_n 3, 1), (52, .aload_n 0, 1), (53, .getfield 72, 3), (56, .if_icmp .ge 79, 3), (59, .iload_n 2, 1), (60, .iload_n 3, 1), (61, .ishr, 1), (62, .iconst 1, 1), (63, .iand, 1), (64, .ifCond .eq 65, 3), (67, .aload_n 0, 1), (68, .iload_n 1, 1), (69, .iload_n 3, 1), (70, .invokevirtual 105, 3), (73, .ifCond .ne 6, 3), (76, .goto 53, 3), (79, .aload_n 0, 1), (80, .getfield 26, 3), (83, .iload_n 3, 1), (84, .iaload, 1), (85, .i2l, 1), (86, .ldc2_w 160, 3), (89, .lmul, 1), (90, .iload_n 1, 1), (91, .i2l, 1), (92, .getstatic 162, 3), (95, .iload_n 3, 1), (96, .laload, 1), (97, .lmul, 1), (98, .ladd, 1), (99, .lstore 4, 2), (101, .aload_n 0, 1), (102, .getfield 29, 3), (105, .iload_n 2, 1), (106, .aload_n 0, 1), (107, .getfield 29, 3), (110, .iload_n 2, 1), (111, .laload, 1), (112, .aload_n 0, 1), (113, .getfield 29, 3), (116, .iload_n 2, 1), (117, .iconst 1, 1), (118, .iload_n 3, 1), (119, .ishl, 1), (120, .ixor, 1), (121, .laload, 1), (122, .lload 4, 2), (124, .ladd, 1), (125, .invokestatic 153, 3), (128, .lastore, 1), (129, .iinc 3 1, 3), (132, .goto (-81), 3), (135, .iinc 2 (-1), 3), (138, .goto (-93), 3), (141, .return_, 1)]
def am_c73 : am_Cd := [(0, .lconst 0, 1), (1, .lstore_n 2, 1), (2, .iconst 0, 1), (3, .istore 4, 2), (5, .iload 4, 2), (7, .aload_n 0, 1), (8, .getfield 72, 3), (11, .if_icmp .ge 35, 3), (14, .iload_n 1, 1), (15, .iload 4, 2), (17, .ishr, 1), (18, .iconst 1, 1), (19, .iand, 1), (20, .ifCond .ne 20, 3), (23, .lload_n 2, 1), (24, .ldc2_w 165, 3), (27, .ldc2_w 167, 3), (30, .getstatic 162, 3), (33, .iload 4, 2), (35, .laload, 1), (36, .lmul, 1), (37, .ladd, 1), (38, .ladd, 1), (39, .lstore_n 2, 1), (40, .iinc 4 1, 3), (43, .goto (-38), 3), (46, .lload_n 2, 1), (47, .lreturn, 1)]
def am_c74 : am_Cd := [(0, .aload_n 0, 1), (1, .iconst 0, 1), (2, .putfield 169, 3), (5, .iconst 0, 1), (6, .istore_n 3, 1), (7, .iload_n 3, 1), (8, .aload_n 0, 1), (9, .getfield 72, 3), (12, .if_icmp .ge 64, 3), (15, .lload_n 1, 1), (16, .getstatic 162, 3), (19, .iload_n 3, 1), (20, .laload, 1), (21, .ldiv, 1), (22, .ldc2_w 172, 3), (25, .lrem, 1), (26, .l2i, 1), (27, .istore 4, 2), (29, .aload_n 0, 1), (30, .getfield 11, 3), (33, .iload_n 3, 1), (34, .iload 4, 2), (36, .bipush 20, 2), (38, .if_icmp .ne 8, 3), (41, .bipush (-9), 2), (43, .goto 5, 3), (46, .iload 4, 2), (48, .iastore, 1), (49, .aload_n 0, 1), (50, .getfield 11, 3), (53, .iload_n 3, 1), (54, .iaload, 1), (55, .bipush (-9), 2), (57, .if_icmp .eq 13, 3), (60, .aload_n 0, 1), (61, .dup, 1), (62, .getfield 169, 3), (65, .iconst 1, 1), (66, .iadd, 1), (67, .putfield 169, 3), (70, .iinc 3 1, 3), (73, .goto (-66), 3), (76, .aload_n 0, 1), (77, .lload_n 1, 1), (78, .ldc2_w 160, 3), (81, .ldiv, 1), (82, .ldc2_w 174, 3), (85, .lrem, 1), (86, .l2i, 1), (87, .putfield 176, 3), (90, .return_, 1)]
def am_c75 : am_Cd := [(0, .aload_n 0, 1), (1, .invokespecial 3, 3), (4, .aload_n 0, 1), (5, .bipush 20, 2), (7, .newarray .int, 2), (9, .putfield 11, 3), (12, .aload_n 0, 1), (13, .bipush 20, 2), (15, .newarray .int, 2), (17, .putfield 19, 3), (20, .aload_n 0, 1), (21, .bipush 20, 2), (23, .newarray .int, 2), (25, .putfield 22, 3), (28, .aload_n 0, 1), (29, .iconst 2, 1), (30, .bipush 60, 2), (32, .multianewarray 27 2, 4), (36, .putfield 29, 3), (39, .aload_n 0, 1), (40, .iconst 2, 1), (41, .bipush 60, 2), (43, .multianewarray 27 2, 4), (47, .putfield 32, 3), (50, .aload_n 0, 1), (51, .bipush 20, 2), (53, .newarray .int, 2), (55, .putfield 35, 3), (58, .aload_n 0, 1), (59, .sipush 1501, 3), (62, .putfield 38, 3), (65, .aload_n 0, 1), (66, .aload_n 1, 1), (67, .putfield 42, 3), (70, .aload_n 0, 1), (71, .getfield 32, 3), (74, .iconst 0, 1), (75, .aaload, 1), (76, .sipush 1501, 3), (79, .invokestatic 46, 3), (82, .aload_n 0, 1), (83, .getfield 32, 3), (86, .iconst 1, 1), (87, .aaload, 1), (88, .sipush 1501, 3), (91, .invokestatic 46, 3), (94, .return_, 1)]
def am_c76 : am_Cd := [(0, .iload_n 1, 1), (1, .aload_n 0, 1), (2, .getfield 38, 3), (5, .if_icmp .ne 4, 3), (8, .return_, 1), (9, .aload_n 0, 1), (10, .iload_n 1, 1), (11, .putfield 38, 3), (14, .aload_n 0, 1), (15, .iload_n 1, 1), (16, .invokevirtual 76, 3), (19, .aload_n 0, 1), (20, .iload_n 1, 1), (21, .invokevirtual 80, 3), (24, .return_, 1)]
def am_c77 : am_Cd := [(0, .aload_n 0, 1), (1, .getfield 35, 3), (4, .iconst 0, 1), (5, .invokestatic 46, 3), (8, .aload_n 0, 1), (9, .getfield 11, 3), (12, .iconst 0, 1), (13, .invokestatic 46, 3), (16, .iconst 0, 1), (17, .istore_n 2, 1), (18, .iload_n 2, 1), (19, .aload_n 0, 1), (20, .getfield 42, 3), (23, .getfield 68, 3), (26, .if_icmp .ge 65, 3), (29, .aload_n 0, 1), (30, .iconst 0, 1), (31, .iload_n 2, 1), (32, .iload_n 1, 1), (33, .invokevirtual 69, 3), (36, .ifCond .eq 49, 3), (39, .aload_n 0, 1), (40, .getfield 11, 3), (43, .aload_n 0, 1), (44, .getfield 42, 3), (47, .getfield 73, 3), (50, .iload_n 2, 1), (51, .iaload, 1), (52, .dup2, 1), (53, .iaload, 1), (54, .bipush 100, 2), (56, .aload_n 0, 1), (57, .getfield 29, 3), (60, .iconst 0, 1), (61, .aaload, 1), (62, .iload_n 2, 1), (63, .iaload, 1), (64, .imul, 1), (65, .iadd, 1), (66, .iastore, 1), (67, .aload_n 0, 1), (68, .getfield 35, 3), (71, .aload_n 0, 1), (72, .getfield 42, 3), (75, .getfield 73, 3), (78, .iload_n 2, 1), (79, .iaload, 1), (80, .dup2, 1), (81, .iaload, 1), (82, .iconst 1, 1), (83, .iadd, 1), (84, .iastore, 1), (85, .iinc 2 1, 3), (88, .goto (-70), 3), (91, .iconst 0, 1), (92, .istore_n 2, 1), (93, .iload_n 2, 1), (94, .bipush 20, 2), (96, .if_icmp .ge 43, 3), (99, .aload_n 0, 1), (100, .getfield 11, 3), (103, .iload_n 2, 1), (104, .aload_n 0, 1), (105, .getfield 35, 3), (108, .iload_n 2, 1), (109, .iaload, 1), (110, .ifCond .ne 9, 3), (113, .sipush 300, 3), (116, .goto 16, 3), (119, .aload_n 0, 1), (120, .getfield 11, 3), (123, .iload_n 2, 1), (124, .iaload, 1), (125, .aload_n 0, 1), (126, .getfield 35, 3), (129, .iload_n 2, 1), (130, .iaload, 1), (131, .idiv, 1), (132, .iastore, 1), (133, .iinc 2 1, 3), (136, .goto (-43), 3), (139, .return_, 1)]
def am_c78 : am_Cd := [(0, .aload_n 0, 1), (1, .getfield 32, 3), (4, .iload_n 1, 1), (5, .aaload, 1), (6, .iload_n 2, 1), (7, .iaload, 1), (8, .iload_n 3, 1), (9, .if_icmp .le 5, 3), (12, .iconst 0, 1), (13, .ireturn, 1), (14, .aload_n 0, 1), (15, .getfield 32, 3), (18, .iconst 1, 1), (19, .iload_n 1, 1), (20, .isub, 1), (21, .aaload, 1), (22, .iload_n 2, 1), (23, .iaload, 1), (24, .iload_n 3, 1), (25, .if_icmp .le 19, 3), (28, .iload_n 3, 1), (29, .aload_n 0, 1), (30, .getfield 42, 3), (33, .getfield 59, 3), (36, .iload_n 2, 1), (37, .iaload, 1), (38, .bipush 14, 2), (40, .iadd, 1), (41, .if_icmp .le 7, 3), (44, .iconst 1, 1), (45, .goto 4, 3), (48, .iconst 0, 1), (49, .ireturn, 1)]
def am_c79 : am_Cd := [(0, .aload_n 0, 1), (1, .getfield 22, 3), (4, .iconst 0, 1), (5, .invokestatic 46, 3), (8, .aload_n 0, 1), (9, .getfield 19, 3), (12, .iconst 0, 1), (13, .invokestatic 46, 3), (16, .iconst 0, 1), (17, .istore_n 2, 1), (18, .iload_n 2, 1), (19, .aload_n 0, 1), (20, .getfield 42, 3), (23, .getfield 68, 3), (26, .if_icmp .ge 78, 3), (29, .aload_n 0, 1), (30, .getfield 42, 3), (33, .getfield 83, 3), (36, .iload_n 2, 1), (37, .iaload, 1), (38, .istore_n 3, 1), (39, .iload_n 3, 1), (40, .ifCond .lt 58, 3), (43, .aload_n 0, 1), (44, .iconst 0, 1), (45, .iload_n 2, 1), (46, .iload_n 1, 1), (47, .invokevirtual 69, 3), (50, .ifCond .eq 48, 3), (53, .aload_n 0, 1), (54, .getfield 19, 3), (57, .iload_n 3, 1), (58, .dup2, 1), (59, .iaload, 1), (60, .bipush 100, 2), (62, .aload_n 0, 1), (63, .getfield 29, 3), (66, .iconst 0, 1), (67, .aaload, 1), (68, .iload_n 2, 1), (69, .iaload, 1), (70, .imul, 1), (71, .aload_n 0, 1), (72, .getfield 11, 3), (75, .aload_n 0, 1), (76, .getfield 42, 3), (79, .getfield 73, 3), (82, .iload_n 2, 1), (83, .iaload, 1), (84, .iaload, 1), (85, .isub, 1), (86, .iadd, 1), (87, .iastore, 1), (88, .aload_n 0, 1), (89, .getfield 22, 3), (92, .iload_n 3, 1), (93, .dup2, 1), (94, .iaload, 1), (95, .iconst 1, 1), (96, .iadd, 1), (97, .iastore, 1), (98, .iinc 2 1, 3), (101, .goto (-83), 3), (104, .iconst 0, 1), (105, .istore_n 2, 1), (106, .iload_n 2, 1), (107, .bipush 20, 2), (109, .if_icmp .ge 26, 3), (112, .aload_n 0, 1), (113, .getfield 19, 3), (116, .iload_n 2, 1), (117, .dup2, 1), (118, .iaload, 1), (119, .aload_n 0, 1), (120, .getfield 22, 3), (123, .iload_n 2, 1), (124, .iaload, 1), (125, .iconst 1, 1), (126, .iadd, 1), (127, .idiv, 1), (128, .iastore, 1), (129, .iinc 2 1, 3), (132, .goto (-26), 3), (135, .return_, 1)]
def am_c80 : am_Cd := [(0, .aload_n 0, 1), (1, .getfield 42, 3), (4, .iload_n 2, 1), (5, .invokevirtual 52, 3), (8, .ifCond .eq 29, 3), (11, .aload_n 0, 1), (12, .getfield 42, 3), (15, .getfield 56, 3), (18, .aload_n 0, 1), (19, .getfield 42, 3), (22, .getfield 59, 3), (25, .iload_n 2, 1), (26, .iaload, 1), (27, .bipush 30, 2), (29, .iadd, 1), (30, .if_icmp .gt 7, 3), (33, .iconst 1, 1), (34, .goto 4, 3), (37, .iconst 0, 1), (38, .istore_n 3, 1), (39, .aload_n 0, 1), (40, .getfield 42, 3), (43, .getfield 62, 3), (46, .iload_n 2, 1), (47, .iaload, 1), (48, .iconst 1, 1), (49, .if_icmp .ne 25, 3), (52, .iload_n 3, 1), (53, .ifCond .eq 21, 3), (56, .aload_n 0, 1), (57, .getfield 32, 3), (60, .iload_n 1, 1), (61, .aaload, 1), (62, .iload_n 2, 1), (63, .iaload, 1), (64, .sipush 1501, 3), (67, .if_icmp .ne 7, 3), (70, .iconst 1, 1), (71, .goto 4, 3), (74, .iconst 0, 1), (75, .ireturn, 1)]
def am_c81 : am_Cd := [(0, .aload_n 0, 1), (1, .getfield 29, 3), (4, .iload_n 1, 1), (5, .aaload, 1), (6, .iload_n 2, 1), (7, .iload_n 3, 1), (8, .iastore, 1), (9, .aload_n 0, 1), (10, .getfield 32, 3), (13, .iload_n 1, 1), (14, .aaload, 1), (15, .iload_n 2, 1), (16, .aload_n 0, 1), (17, .getfield 42, 3), (20, .getfield 56, 3), (23, .iastore, 1), (24, .aload_n 0, 1), (25, .dup, 1), (26, .getfield 65, 3), (29, .iconst 1, 1), (30, .iadd, 1), (31, .putfield 65, 3), (34, .aload_n 0, 1), (35, .sipush 1501, 3), (38, .putfield 38, 3), (41, .return_, 1)]
def am_c82 : am_Cd := [(0, .sipush 400, 3), (3, .aload_n 0, 1), (4, .getfield 22, 3), (7, .iload_n 1, 1), (8, .iaload, 1), (9, .iconst 1, 1), (10, .iadd, 1), (11, .idiv, 1), (12, .ireturn, 1)]
def am_c83 : am_Cd := [(0, .iconst 0, 1), (1, .istore_n 3, 1), (2, .iconst 0, 1), (3, .istore 4, 2), (5, .iconst 0, 1), (6, .istore 5, 2), (8, .iload 5, 2), (10, .aload_n 0, 1), (11, .getfield 42, 3), (14, .getfield 68, 3), (17, .if_icmp .ge 49, 3), (20, .aload_n 0, 1), (21, .getfield 42, 3), (24, .getfield 73, 3), (27, .iload 5, 2), (29, .iaload, 1), (30, .iload_n 1, 1), (31, .if_icmp .ne 29, 3), (34, .aload_n 0, 1), (35, .iconst 1, 1), (36, .iload 5, 2), (38, .iload_n 2, 1), (39, .invokevirtual 69, 3), (42, .ifCond .eq 18, 3), (45, .iload_n 3, 1), (46, .aload_n 0, 1), (47, .getfield 29, 3), (50, .iconst 1, 1), (51, .aaload, 1), (52, .iload 5, 2), (54, .iaload, 1), (55, .iadd, 1), (56, .istore_n 3, 1), (57, .iinc 4 1, 3), (60, .iinc 5 1, 3), (63, .goto (-55), 3), (66, .iload 4, 2), (68, .ifCond .ne 8, 3), (71, .bipush (-9), 2), (73, .goto 10, 3), (76, .bipush 100, 2), (78, .iload_n 3, 1), (79, .imul, 1), (80, .iload 4, 2), (82, .idiv, 1), (83, .ireturn, 1)]
def am_c84 : am_Cd := [(0, .iconst 0, 1), (1, .istore_n 2, 1), (2, .iconst 0, 1), (3, .istore_n 3, 1), (4, .iload_n 3, 1), (5, .aload_n 0, 1), (6, .getfield 42, 3), (9, .getfield 68, 3), (12, .if_icmp .ge 35, 3), (15, .aload_n 0, 1), (16, .iconst 0, 1), (17, .iload_n 3, 1), (18, .iload_n 1, 1), (19, .invokevirtual 69, 3), (22, .ifCond .eq 6, 3), (25, .iinc 2 1, 3), (28, .aload_n 0, 1), (29, .iconst 1, 1), (30, .iload_n 3, 1), (31, .iload_n 1, 1), (32, .invokevirtual 69, 3), (35, .ifCond .eq 6, 3), (38, .iinc 2 1, 3), (41, .iinc 3 1, 3), (44, .goto (-40), 3), (47, .iload_n 2, 1), (48, .ireturn, 1)]
def am_c85 : am_Cd := [(0, .aload_n 0, 1), (1, .invokespecial 1, 3), (4, .aload_n 0, 1), (5, .iload_n 1, 1), (6, .iconst 0, 1), (7, .invokestatic 7, 3), (10, .newarray .int, 2), (12, .putfield 13, 3), (15, .return_, 1)]
def am_c86 : am_Cd := [(0, .iload_n 1, 1), (1, .aload_n 0, 1), (2, .getfield 13, 3), (5, .arraylength, 1), (6, .aload_n 0, 1), (7, .getfield 19, 3), (10, .isub, 1), (11, .if_icmp .gt 7, 3), (14, .iconst 1, 1), (15, .goto 4, 3), (18, .iconst 0, 1), (19, .ireturn, 1)]
def am_c87 : am_Cd := [(0, .aload_n 0, 1), (1, .getfield 19, 3), (4, .aload_n 0, 1), (5, .getfield 13, 3), (8, .arraylength, 1), (9, .if_icmp .ge 20, 3), (12, .aload_n 0, 1), (13, .getfield 13, 3), (16, .aload_n 0, 1), (17, .dup, 1), (18, .getfield 19, 3), (21, .dup_x1, 1), (22, .iconst 1, 1), (23, .iadd, 1), (24, .putfield 19, 3), (27, .iload_n 1, 1), (28, .iastore, 1), (29, .return_, 1)]
def am_c88 : am_Cd := [(0, .iload_n 1, 1), (1, .ifCond .lt 20, 3), (4, .iload_n 1, 1), (5, .aload_n 0, 1), (6, .getfield 19, 3), (9, .if_icmp .ge 12, 3), (12, .aload_n 0, 1), (13, .getfield 13, 3), (16, .iload_n 1, 1), (17, .iaload, 1), (18, .goto 4, 3), (21, .iconst (-1), 1), (22, .ireturn, 1)]
def am_c89 : am_Cd := [(0, .aload_n 0, 1), (1, .iconst 0, 1), (2, .putfield 19, 3), (5, .return_, 1)]
def am_c90 : am_Cd := [(0, .iconst 0, 1), (1, .istore_n 2, 1), (2, .iload_n 2, 1), (3, .aload_n 0, 1), (4, .getfield 19, 3), (7, .if_icmp .ge 21, 3), (10, .aload_n 0, 1), (11, .getfield 13, 3), (14, .iload_n 2, 1), (15, .iaload, 1), (16, .iload_n 1, 1), (17, .if_icmp .ne 5, 3), (20, .iload_n 2, 1), (21, .ireturn, 1), (22, .iinc 2 1, 3), (25, .goto (-23), 3), (28, .aload_n 0, 1), (29, .getfield 19, 3), (32, .ireturn, 1)]
def am_c91 : am_Cd := [(0, .aload_n 0, 1), (1, .invokespecial 3, 3), (4, .aload_n 0, 1), (5, .ldc 11, 2), (7, .invokevirtual 13, 3), (10, .newarray .int, 2), (12, .putfield 19, 3), (15, .aload_n 0, 1), (16, .bipush 120, 2), (18, .newarray .int, 2), (20, .putfield 27, 3), (23, .aload_n 0, 1), (24, .aload_n 1, 1), (25, .putfield 30, 3), (28, .aload_n 0, 1), (29, .aload_n 2, 1), (30, .putfield 34, 3), (33, .aload_n 0, 1), (34, .aload_n 3, 1), (35, .putfield 38, 3), (38, .aload_n 0, 1), (39, .aload 4, 2), (41, .putfield 42, 3), (44, .aload_n 0, 1), (45, .aload 5, 2), (47, .putfield 46, 3), (50, .aload_n 0, 1), (51, .aload 6, 2), (53, .putfield 50, 3), (56, .return_, 1)]
def am_c92 : am_Cd := [(0, .aload_n 0, 1), (1, .getfield 42, 3), (4, .getfield 54, 3), (7, .iload_n 2, 1), (8, .iaload, 1), (9, .ifCond .eq 6, 3), (12, .bipush 9, 2), (14, .ireturn, 1), (15, .aload_n 0, 1), (16, .iload_n 1, 1), (17, .invokevirtual 57, 3), (20, .aload_n 0, 1), (21, .iload_n 1, 1), (22, .iload_n 2, 1), (23, .invokevirtual 61, 3), (26, .ireturn, 1)]
def am_c93 : am_Cd := [(0, .aload_n 0, 1), (1, .iconst 0, 1), (2, .putfield 65, 3), (5, .iconst 0, 1), (6, .istore_n 2, 1), (7, .iload_n 2, 1), (8, .aload_n 0, 1), (9, .getfield 42, 3), (12, .getfield 69, 3), (15, .if_icmp .ge 26, 3), (18, .aload_n 0, 1), (19, .getfield 42, 3), (22, .iload_n 2, 1), (23, .iload_n 1, 1), (24, .invokevirtual 72, 3), (27, .ifCond .eq 8, 3), (30, .aload_n 0, 1), (31, .iload_n 2, 1), (32, .invokevirtual 76, 3), (35, .iinc 2 1, 3), (38, .goto (-31), 3), (41, .return_, 1)]
def am_c94 : am_Cd := [(0, .aload_n 0, 1), (1, .getfield 65, 3), (4, .aload_n 0, 1), (5, .getfield 27, 3), (8, .arraylength, 1), (9, .if_icmp .ge 20, 3), (12, .aload_n 0, 1), (13, .getfield 27, 3), (16, .aload_n 0, 1), (17, .dup, 1), (18, .getfield 65, 3), (21, .dup_x1, 1), (22, .iconst 1, 1), (23, .iadd, 1), (24, .putfield 65, 3), (27, .iload_n 1, 1), (28, .iastore, 1), (29, .return_, 1)]
def am_c95 : am_Cd := [(0, .aload_n 0, 1), (1, .iload_n 2, 1), (2, .invokevirtual 79, 3), (5, .ifCond .eq 5, 3), (8, .iconst 1, 1), (9, .ireturn, 1), (10, .aload_n 0, 1), (11, .iload_n 1, 1), (12, .iload_n 2, 1), (13, .invokevirtual 83, 3), (16, .ifCond .eq 5, 3), (19, .iconst 2, 1), (20, .ireturn, 1), (21, .aload_n 0, 1), (22, .iload_n 1, 1), (23, .iload_n 2, 1), (24, .invokevirtual 86, 3), (27, .istore_n 3, 1), (28, .iload_n 3, 1), (29, .ifCond .eq 5, 3), (32, .iload_n 3, 1), (33, .ireturn, 1), (34, .aload_n 0, 1), (35, .iload_n 1, 1), (36, .iload_n 2, 1), (37, .invokevirtual 89, 3), (40, .ifCond .le 7, 3), (43, .iconst 0, 1), (44, .goto 5, 3), (47, .bipush 6, 2), (49, .ireturn, 1)]
def am_c96 : am_Cd := [(0, .aload_n 0, 1), (1, .getfield 42, 3), (4, .getfield 138, 3), (7, .iload_n 1, 1), (8, .iaload, 1), (9, .aload_n 0, 1), (10, .getfield 42, 3), (13, .getfield 104, 3), (16, .if_icmp .gt 7, 3), (19, .iconst 1, 1), (20, .goto 4, 3), (23, .iconst 0, 1), (24, .ireturn, 1)]
def am_c97 : am_Cd := [(0, .aload_n 0, 1), (1, .getfield 38, 3), (4, .getfield 150, 3), (7, .aload_n 0, 1), (8, .getfield 42, 3), (11, .getfield 101, 3), (14, .iload_n 2, 1), (15, .iaload, 1), (16, .iaload, 1), (17, .aload_n 0, 1), (18, .getfield 34, 3), (21, .getfield 153, 3), (24, .iload_n 1, 1), (25, .iaload, 1), (26, .iconst (-1), 1), (27, .ixor, 1), (28, .iand, 1), (29, .ifCond .eq 7, 3), (32, .iconst 1, 1), (33, .goto 4, 3), (36, .iconst 0, 1), (37, .ireturn, 1)]
def am_c98 : am_Cd := [(0, .aload_n 0, 1), (1, .iload_n 2, 1), (2, .invokevirtual 92, 3), (5, .ifCond .eq 5, 3), (8, .iconst 3, 1), (9, .ireturn, 1), (10, .aload_n 0, 1), (11, .iload_n 1, 1), (12, .iload_n 2, 1), (13, .invokevirtual 95, 3), (16, .ifCond .eq 5, 3), (19, .iconst 4, 1), (20, .ireturn, 1), (21, .aload_n 0, 1), (22, .iload_n 2, 1), (23, .invokevirtual 98, 3), (26, .ifCond .eq 7, 3), (29, .iconst 5, 1), (30, .goto 4, 3), (33, .iconst 0, 1), (34, .ireturn, 1)]
def am_c99 : am_Cd := [(0, .iconst 0, 1), (1, .istore_n 2, 1), (2, .iload_n 2, 1), (3, .aload_n 0, 1), (4, .getfield 65, 3), (7, .if_icmp .ge 45, 3), (10, .aload_n 0, 1), (11, .getfield 42, 3), (14, .aload_n 0, 1), (15, .getfield 27, 3), (18, .iload_n 2, 1), (19, .iaload, 1), (20, .aload_n 0, 1), (21, .getfield 42, 3), (24, .getfield 138, 3), (27, .iload_n 1, 1), (28, .iaload, 1), (29, .aload_n 0, 1), (30, .getfield 42, 3), (33, .getfield 120, 3), (36, .iload_n 1, 1), (37, .iaload, 1), (38, .invokevirtual 154, 3), (41, .ifCond .le 5, 3), (44, .iconst 1, 1), (45, .ireturn, 1), (46, .iinc 2 1, 3), (49, .goto (-47), 3), (52, .iconst 0, 1), (53, .ireturn, 1)]
def am_c100 : am_Cd := [(0, .aload_n 0, 1), (1, .iload_n 2, 1), (2, .invokevirtual 158, 3), (5, .istore_n 3, 1), (6, .iload_n 3, 1), (7, .bipush (-9), 2), (9, .if_icmp .ne 15, 3), (12, .aload_n 0, 1), (13, .getfield 34, 3), (16, .getfield 123, 3), (19, .iload_n 1, 1), (20, .iaload, 1), (21, .goto 8, 3), (24, .aload_n 0, 1), (25, .iload_n 3, 1), (26, .invokevirtual 128, 3), (29, .istore 4, 2), (31, .iload_n 3, 1), (32, .bipush (-9), 2), (34, .if_icmp .ne 13, 3), (37, .aload_n 0, 1), (38, .getfield 42, 3), (41, .getfield 104, 3), (44, .goto 12, 3), (47, .aload_n 0, 1), (48, .getfield 42, 3), (51, .getfield 120, 3), (54, .iload_n 3, 1), (55, .iaload, 1), (56, .istore 5, 2), (58, .aload_n 0, 1), (59, .getfield 42, 3), (62, .getfield 138, 3), (65, .iload_n 2, 1), (66, .iaload, 1), (67, .iload 5, 2), (69, .isub, 1), (70, .aload_n 0, 1), (71, .getfield 30, 3), (74, .iload 4, 2), (76, .aload_n 0, 1), (77, .iload_n 2, 1), (78, .invokevirtual 128, 3), (81, .invokevirtual 161, 3), (84, .if_icmp .ge 5, 3), (87, .iconst 1, 1), (88, .ireturn, 1), (89, .aload_n 0, 1), (90, .iload_n 2, 1), (91, .invokevirtual 164, 3), (94, .istore 6, 2), (96, .iload 6, 2), (98, .bipush (-9), 2), (100, .if_icmp .ne 5, 3), (103, .iconst 0, 1), (104, .ireturn, 1), (105, .aload_n 0, 1), (106, .getfield 42, 3), (109, .getfield 138, 3), (112, .iload 6, 2), (114, .iaload, 1), (115, .aload_n 0, 1), (116, .getfield 42, 3), (119, .getfield 120, 3), (122, .iload_n 2, 1), (123, .iaload, 1), (124, .isub, 1), (125, .aload_n 0, 1), (126, .getfield 30, 3), (129, .aload_n 0, 1), (130, .iload_n 2, 1), (131, .invokevirtual 128, 3), (134, .aload_n 0, 1), (135, .iload 6, 2), (137, .invokevirtual 128, 3), (140, .invokevirtual 161, 3), (143, .if_icmp .ge 7, 3), (146, .iconst 1, 1), (147, .goto 4, 3), (150, .iconst 0, 1), (151, .ireturn, 1)]
def am_c101 : am_Cd := [(0, .bipush (-9), 2), (2, .istore_n 2, 1), (3, .iconst 0, 1), (4, .istore_n 3, 1), (5, .iload_n 3, 1), (6, .aload_n 0, 1), (7, .getfield 65, 3), (10, .if_icmp .ge 77, 3), (13, .aload_n 0, 1), (14, .getfield 42, 3), (17, .getfield 120, 3), (20, .aload_n 0, 1), (21, .getfield 27, 3), (24, .iload_n 3, 1), (25, .iaload, 1), (26, .iaload, 1), (27, .aload_n 0, 1), (28, .getfield 42, 3), (31, .getfield 138, 3), (34, .iload_n 1, 1), (35, .iaload, 1), (36, .if_icmp .lt 6, 3), (39, .goto 42, 3), (42, .iload_n 2, 1), (43, .bipush (-9), 2), (45, .if_icmp .eq 29, 3), (48, .aload_n 0, 1), (49, .getfield 42, 3), (52, .getfield 120, 3), (55, .aload_n 0, 1), (56, .getfield 27, 3), (59, .iload_n 3, 1), (60, .iaload, 1), (61, .iaload, 1), (62, .aload_n 0, 1), (63, .getfield 42, 3), (66, .getfield 120, 3), (69, .iload_n 2, 1), (70, .iaload, 1), (71, .if_icmp .le 10, 3), (74, .aload_n 0, 1), (75, .getfield 27, 3), (78, .iload_n 3, 1), (79, .iaload, 1), (80, .istore_n 2, 1), (81, .iinc 3 1, 3), (84, .goto (-79), 3), (87, .iload_n 2, 1), (88, .ireturn, 1)]
def am_c102 : am_Cd := [(0, .aload_n 0, 1), (1, .getfield 38, 3), (4, .getfield 147, 3), (7, .aload_n 0, 1), (8, .getfield 42, 3), (11, .getfield 101, 3), (14, .iload_n 1, 1), (15, .iaload, 1), (16, .iaload, 1), (17, .ireturn, 1)]
def am_c103 : am_Cd := [(0, .bipush (-9), 2), (2, .istore_n 2, 1), (3, .iconst 0, 1), (4, .istore_n 3, 1), (5, .iload_n 3, 1), (6, .aload_n 0, 1), (7, .getfield 65, 3), (10, .if_icmp .ge 77, 3), (13, .aload_n 0, 1), (14, .getfield 42, 3), (17, .getfield 138, 3), (20, .aload_n 0, 1), (21, .getfield 27, 3), (24, .iload_n 3, 1), (25, .iaload, 1), (26, .iaload, 1), (27, .aload_n 0, 1), (28, .getfield 42, 3), (31, .getfield 120, 3), (34, .iload_n 1, 1), (35, .iaload, 1), (36, .if_icmp .gt 6, 3), (39, .goto 42, 3), (42, .iload_n 2, 1), (43, .bipush (-9), 2), (45, .if_icmp .eq 29, 3), (48, .aload_n 0, 1), (49, .getfield 42, 3), (52, .getfield 138, 3), (55, .aload_n 0, 1), (56, .getfield 27, 3), (59, .iload_n 3, 1), (60, .iaload, 1), (61, .iaload, 1), (62, .aload_n 0, 1), (63, .getfield 42, 3), (66, .getfield 138, 3), (69, .iload_n 2, 1), (70, .iaload, 1), (71, .if_icmp .ge 10, 3), (74, .aload_n 0, 1), (75, .getfield 27, 3), (78, .iload_n 3, 1), (79, .iaload, 1), (80, .istore_n 2, 1), (81, .iinc 3 1, 3), (84, .goto (-79), 3), (87, .iload_n 2, 1), (88, .ireturn, 1)]
def am_c104 : am_Cd := [(0, .aload_n 0, 1), (1, .getfield 30, 3), (4, .getfield 167, 3), (7, .aload_n 0, 1), (8, .iload_n 1, 1), (9, .invokevirtual 170, 3), (12, .iaload, 1), (13, .istore_n 2, 1), (14, .aload_n 0, 1), (15, .iload_n 1, 1), (16, .iconst 0, 1), (17, .sipush 1500, 3), (20, .invokevirtual 173, 3), (23, .iload_n 2, 1), (24, .if_icmp .gt 5, 3), (27, .iconst 0, 1), (28, .ireturn, 1), (29, .aload_n 0, 1), (30, .iload_n 1, 1), (31, .aload_n 0, 1), (32, .getfield 42, 3), (35, .getfield 138, 3), (38, .iload_n 1, 1), (39, .iaload, 1), (40, .aload_n 0, 1), (41, .getfield 42, 3), (44, .getfield 138, 3), (47, .iload_n 1, 1), (48, .iaload, 1), (49, .sipush 180, 3), (52, .iadd, 1), (53, .iconst 1, 1), (54, .isub, 1), (55, .invokevirtual 173, 3), (58, .iload_n 2, 1), (59, .if_icmp .le 5, 3), (62, .iconst 1, 1), (63, .ireturn, 1), (64, .iconst 0, 1), (65, .istore_n 3, 1), (66, .iload_n 3, 1), (67, .aload_n 0, 1), (68, .getfield 65, 3), (71, .if_icmp .ge 46, 3), (74, .aload_n 0, 1), (75, .getfield 42, 3), (78, .getfield 138, 3), (81, .aload_n 0, 1), (82, .getfield 27, 3), (85, .iload_n 3, 1), (86, .iaload, 1), (87, .iaload, 1), (88, .istore 4, 2), (90, .aload_n 0, 1), (91, .iload_n 1, 1), (92, .iload 4, 2), (94, .iload 4, 2), (96, .sipush 180, 3), (99, .iadd, 1), (100, .iconst 1, 1), (101, .isub, 1), (102, .invokevirtual 173, 3), (105, .iload_n 2, 1), (106, .if_icmp .le 5, 3), (109, .iconst 1, 1), (110, .ireturn, 1), (111, .iinc 3 1, 3), (114, .goto (-48), 3), (117, .iconst 0, 1), (118, .ireturn, 1)]
def am_c105 : am_Cd := [(0, .aload_n 0, 1), (1, .getfield 30, 3), (4, .getfield 144, 3), (7, .aload_n 0, 1), (8, .getfield 38, 3), (11, .getfield 147, 3), (14, .aload_n 0, 1), (15, .getfield 42, 3), (18, .getfield 101, 3), (21, .iload_n 1, 1), (22, .iaload, 1), (23, .iaload, 1), (24, .iaload, 1), (25, .ireturn, 1)]
def am_c106 : am_Cd := [(0, .aload_n 0, 1), (1, .iload_n 1, 1), (2, .invokevirtual 170, 3), (5, .istore 4, 2), (7, .aload_n 0, 1), (8, .getfield 42, 3), (11, .iload_n 1, 1), (12, .iload_n 2, 1), (13, .iload_n 3, 1), (14, .invokevirtual 154, 3), (17, .istore 5, 2), (19, .iconst 0, 1), (20, .istore 6, 2), (22, .iload 6, 2), (24, .aload_n 0, 1), (25, .getfield 65, 3), (28, .if_icmp .ge 46, 3), (31, .aload_n 0, 1), (32, .aload_n 0, 1), (33, .getfield 27, 3), (36, .iload 6, 2), (38, .iaload, 1), (39, .invokevirtual 170, 3), (42, .iload 4, 2), (44, .if_icmp .ne 24, 3), (47, .iload 5, 2), (49, .aload_n 0, 1), (50, .getfield 42, 3), (53, .aload_n 0, 1), (54, .getfield 27, 3), (57, .iload 6, 2), (59, .iaload, 1), (60, .iload_n 2, 1), (61, .iload_n 3, 1), (62, .invokevirtual 154, 3), (65, .iadd, 1), (66, .istore 5, 2), (68, .iinc 6 1, 3), (71, .goto (-49), 3), (74, .iload 5, 2), (76, .ireturn, 1)]
def am_c107 : am_Cd := [(0, .aload_n 0, 1), (1, .getfield 50, 3), (4, .aload_n 0, 1), (5, .getfield 42, 3), (8, .getfield 101, 3), (11, .iload_n 2, 1), (12, .iaload, 1), (13, .aload_n 0, 1), (14, .getfield 42, 3), (17, .getfield 104, 3), (20, .invokevirtual 107, 3), (23, .istore_n 3, 1), (24, .iload_n 3, 1), (25, .bipush (-9), 2), (27, .if_icmp .ne 5, 3), (30, .iconst 1, 1), (31, .ireturn, 1), (32, .aload_n 0, 1), (33, .iload_n 1, 1), (34, .iload_n 2, 1), (35, .invokevirtual 112, 3), (38, .aload_n 0, 1), (39, .getfield 50, 3), (42, .iload_n 3, 1), (43, .aload_n 0, 1), (44, .getfield 19, 3), (47, .invokevirtual 116, 3), (50, .ireturn, 1)]
def am_c108 : am_Cd := [(0, .aload_n 0, 1), (1, .getfield 42, 3), (4, .getfield 101, 3), (7, .iload_n 2, 1), (8, .iaload, 1), (9, .istore_n 3, 1), (10, .aload_n 0, 1), (11, .getfield 46, 3), (14, .aload_n 0, 1), (15, .getfield 42, 3), (18, .getfield 104, 3), (21, .invokevirtual 176, 3), (24, .aload_n 0, 1), (25, .getfield 19, 3), (28, .iconst 0, 1), (29, .aload_n 0, 1), (30, .getfield 46, 3), (33, .getfield 181, 3), (36, .iload_n 1, 1), (37, .iaload, 1), (38, .iastore, 1), (39, .aload_n 0, 1), (40, .getfield 19, 3), (43, .iconst 1, 1), (44, .aload_n 0, 1), (45, .getfield 46, 3), (48, .getfield 184, 3), (51, .iload_n 1, 1), (52, .iaload, 1), (53, .iastore, 1), (54, .aload_n 0, 1), (55, .getfield 19, 3), (58, .iconst 2, 1), (59, .aload_n 0, 1), (60, .getfield 34, 3), (63, .getfield 187, 3), (66, .iload_n 1, 1), (67, .iaload, 1), (68, .iastore, 1), (69, .aload_n 0, 1), (70, .getfield 19, 3), (73, .iconst 3, 1), (74, .aload_n 0, 1), (75, .getfield 38, 3), (78, .getfield 150, 3), (81, .iload_n 3, 1), (82, .iaload, 1), (83, .invokestatic 190, 3), (86, .iastore, 1), (87, .aload_n 0, 1), (88, .getfield 19, 3), (91, .iconst 4, 1), (92, .aload_n 0, 1), (93, .getfield 42, 3), (96, .iload_n 2, 1), (97, .invokevirtual 195, 3), (100, .iastore, 1), (101, .aload_n 0, 1), (102, .getfield 19, 3), (105, .iconst 5, 1), (106, .aload_n 0, 1), (107, .iload_n 2, 1), (108, .invokevirtual 170, 3), (111, .iastore, 1), (112, .aload_n 0, 1), (113, .getfield 19, 3), (116, .bipush 6, 2), (118, .iload_n 3, 1), (119, .iastore, 1), (120, .aload_n 0, 1), (121, .getfield 19, 3), (124, .bipush 7, 2), (126, .iload_n 1, 1), (127, .iastore, 1), (128, .aload_n 0, 1), (129, .getfield 19, 3), (132, .bipush 8, 2), (134, .aload_n 0, 1), (135, .getfield 42, 3), (138, .getfield 138, 3), (141, .iload_n 2, 1), (142, .iaload, 1), (143, .aload_n 0, 1), (144, .getfield 42, 3), (147, .getfield 104, 3), (150, .isub, 1), (151, .iastore, 1), (152, .aload_n 0, 1), (153, .getfield 19, 3), (156, .bipush 9, 2), (158, .aload_n 0, 1), (159, .iload_n 1, 1), (160, .invokevirtual 198, 3), (163, .ifCond .eq 7, 3), (166, .iconst 1, 1), (167, .goto 4, 3), (170, .iconst 0, 1), (171, .iastore, 1), (172, .return_, 1)]
def am_c109 : am_Cd := [(0, .iconst 0, 1), (1, .istore_n 2, 1), (2, .iload_n 2, 1), (3, .aload_n 0, 1), (4, .getfield 34, 3), (7, .getfield 201, 3), (10, .if_icmp .ge 40, 3), (13, .iload_n 2, 1), (14, .iload_n 1, 1), (15, .if_icmp .eq 29, 3), (18, .aload_n 0, 1), (19, .getfield 46, 3), (22, .getfield 181, 3), (25, .iload_n 2, 1), (26, .iaload, 1), (27, .ifCond .ge 17, 3), (30, .aload_n 0, 1), (31, .getfield 34, 3), (34, .iload_n 2, 1), (35, .iload_n 1, 1), (36, .invokevirtual 202, 3), (39, .ifCond .eq 5, 3), (42, .iconst 1, 1), (43, .ireturn, 1), (44, .iinc 2 1, 3), (47, .goto (-45), 3), (50, .iconst 0, 1), (51, .ireturn, 1)]
def am_c110 : am_Cd := [(0, .bipush (-9), 2), (2, .istore_n 3, 1), (3, .iconst 0, 1), (4, .istore 4, 2), (6, .iload 4, 2), (8, .aload_n 0, 1), (9, .getfield 42, 3), (12, .getfield 69, 3), (15, .if_icmp .ge 70, 3), (18, .aload_n 0, 1), (19, .getfield 42, 3), (22, .iload 4, 2), (24, .iload_n 1, 1), (25, .invokevirtual 72, 3), (28, .ifCond .eq 51, 3), (31, .aload_n 0, 1), (32, .getfield 42, 3), (35, .getfield 120, 3), (38, .iload 4, 2), (40, .iaload, 1), (41, .iload_n 2, 1), (42, .if_icmp .lt 6, 3), (45, .goto 34, 3), (48, .iload_n 3, 1), (49, .bipush (-9), 2), (51, .if_icmp .eq 25, 3), (54, .aload_n 0, 1), (55, .getfield 42, 3), (58, .getfield 120, 3), (61, .iload 4, 2), (63, .iaload, 1), (64, .aload_n 0, 1), (65, .getfield 42, 3), (68, .getfield 120, 3), (71, .iload_n 3, 1), (72, .iaload, 1), (73, .if_icmp .le 6, 3), (76, .iload 4, 2), (78, .istore_n 3, 1), (79, .iinc 4 1, 3), (82, .goto (-76), 3), (85, .iload_n 3, 1), (86, .bipush (-9), 2), (88, .if_icmp .ne 15, 3), (91, .aload_n 0, 1), (92, .getfield 34, 3), (95, .getfield 123, 3), (98, .iload_n 1, 1), (99, .iaload, 1), (100, .goto 8, 3), (103, .aload_n 0, 1), (104, .iload_n 3, 1), (105, .invokevirtual 128, 3), (108, .ireturn, 1)]
def am_c111 : am_Cd := [(0, .aload_n 0, 1), (1, .iload_n 2, 1), (2, .invokevirtual 79, 3), (5, .ifCond .ne 25, 3), (8, .aload_n 0, 1), (9, .iload_n 1, 1), (10, .iload_n 2, 1), (11, .invokevirtual 83, 3), (14, .ifCond .ne 16, 3), (17, .aload_n 0, 1), (18, .iload_n 1, 1), (19, .iload_n 2, 1), (20, .invokevirtual 89, 3), (23, .ifCond .le 7, 3), (26, .iconst 1, 1), (27, .goto 4, 3), (30, .iconst 0, 1), (31, .ireturn, 1)]
def am_c112 : am_Cd := [(0, .aload_n 0, 1), (1, .getfield 65, 3), (4, .ifCond .le 13, 3), (7, .aload_n 0, 1), (8, .dup, 1), (9, .getfield 65, 3), (12, .iconst 1, 1), (13, .isub, 1), (14, .putfield 65, 3), (17, .return_, 1)]
def am_c113 : am_Cd := [(0, .aload_n 0, 1), (1, .getfield 30, 3), (4, .getfield 132, 3), (7, .aload_n 0, 1), (8, .iload_n 1, 1), (9, .aload_n 0, 1), (10, .getfield 42, 3), (13, .getfield 138, 3), (16, .iload_n 2, 1), (17, .iaload, 1), (18, .invokevirtual 141, 3), (21, .aaload, 1), (22, .aload_n 0, 1), (23, .iload_n 2, 1), (24, .invokevirtual 128, 3), (27, .iaload, 1), (28, .ireturn, 1)]
def am_c114 : am_Cd := [(0, .aload_n 0, 1), (1, .invokespecial 3, 3), (4, .aload_n 0, 1), (5, .bipush 60, 2), (7, .newarray .int, 2), (9, .putfield 11, 3), (12, .aload_n 0, 1), (13, .bipush 60, 2), (15, .newarray .int, 2), (17, .putfield 15, 3), (20, .aload_n 0, 1), (21, .bipush 60, 2), (23, .newarray .int, 2), (25, .putfield 18, 3), (28, .aload_n 0, 1), (29, .bipush 60, 2), (31, .newarray .int, 2), (33, .putfield 21, 3), (36, .aload_n 0, 1), (37, .bipush 60, 2), (39, .newarray .int, 2), (41, .putfield 24, 3), (44, .aload_n 0, 1), (45, .bipush 60, 2), (47, .newarray .int, 2), (49, .putfield 27, 3), (52, .aload_n 0, 1), (53, .bipush 60, 2), (55, .newarray .int, 2), (57, .putfield 30, 3), (60, .aload_n 0, 1), (61, .getfield 24, 3), (64, .bipush (-9), 2), (66, .invokestatic 33, 3), (69, .aload_n 0, 1), (70, .getfield 27, 3), (73, .iconst (-1), 1), (74, .invokestatic 33, 3), (77, .aload_n 0, 1), (78, .getfield 30, 3), (81, .iconst (-1), 1), (82, .invokestatic 33, 3), (85, .return_, 1)]
def am_c115 : am_Cd := [(0, .iconst 0, 1), (1, .istore 4, 2), (3, .iload 4, 2), (5, .aload_n 0, 1), (6, .getfield 39, 3), (9, .if_icmp .ge 56, 3), (12, .aload_n 0, 1), (13, .getfield 11, 3), (16, .iload 4, 2), (18, .iaload, 1), (19, .iload_n 1, 1), (20, .if_icmp .ne 18, 3), (23, .aload_n 0, 1), (24, .getfield 21, 3), (27, .iload 4, 2), (29, .iaload, 1), (30, .iconst 2, 1), (31, .if_icmp .eq 7, 3), (34, .iconst 1, 1), (35, .goto 4, 3), (38, .iconst 0, 1), (39, .istore 5, 2), (41, .iload 5, 2), (43, .ifCond .eq 16, 3), (46, .aload_n 0, 1), (47, .iload 4, 2), (49, .iload_n 2, 1), (50, .iload_n 3, 1), (51, .invokevirtual 55, 3), (54, .ifCond .le 5, 3), (57, .iconst 1, 1), (58, .ireturn, 1), (59, .iinc 4 1, 3), (62, .goto (-59), 3), (65, .iconst 0, 1), (66, .ireturn, 1)]
def am_c116 : am_Cd := [(0, .aload_n 0, 1), (1, .getfield 15, 3), (4, .iload_n 1, 1), (5, .iaload, 1), (6, .iload_n 2, 1), (7, .invokestatic 46, 3), (10, .istore 4, 2), (12, .aload_n 0, 1), (13, .getfield 18, 3), (16, .iload_n 1, 1), (17, .iaload, 1), (18, .iload_n 3, 1), (19, .invokestatic 52, 3), (22, .istore 5, 2), (24, .iload 5, 2), (26, .iload 4, 2), (28, .isub, 1), (29, .iconst 1, 1), (30, .iadd, 1), (31, .iconst 0, 1), (32, .invokestatic 46, 3), (35, .ireturn, 1)]
def am_c117 : am_Cd := [(0, .aload_n 0, 1), (1, .dup, 1), (2, .getfield 39, 3), (5, .dup_x1, 1), (6, .iconst 1, 1), (7, .iadd, 1), (8, .putfield 39, 3), (11, .istore 4, 2), (13, .aload_n 0, 1), (14, .getfield 11, 3), (17, .iload 4, 2), (19, .iload_n 1, 1), (20, .iastore, 1), (21, .aload_n 0, 1), (22, .getfield 15, 3), (25, .iload 4, 2), (27, .iload_n 2, 1), (28, .iastore, 1), (29, .aload_n 0, 1), (30, .getfield 18, 3), (33, .iload 4, 2), (35, .iload_n 3, 1), (36, .iastore, 1), (37, .iload 4, 2), (39, .ireturn, 1)]
def am_c118 : am_Cd := [(0, .iload_n 1, 1), (1, .ifCond .lt 15, 3), (4, .iload_n 1, 1), (5, .aload_n 0, 1), (6, .getfield 39, 3), (9, .if_icmp .ge 7, 3), (12, .iconst 1, 1), (13, .goto 4, 3), (16, .iconst 0, 1), (17, .ireturn, 1)]
def am_c119 : am_Cd := [(0, .aload_n 0, 1), (1, .getfield 18, 3), (4, .iload_n 1, 1), (5, .iaload, 1), (6, .aload_n 0, 1), (7, .getfield 43, 3), (10, .if_icmp .ge 7, 3), (13, .iconst 1, 1), (14, .goto 4, 3), (17, .iconst 0, 1), (18, .ireturn, 1)]
def am_c120 : am_Cd := [(0, .aload_n 0, 1), (1, .getfield 21, 3), (4, .iload_n 1, 1), (5, .iaload, 1), (6, .iconst 1, 1), (7, .if_icmp .ne 17, 3), (10, .aload_n 0, 1), (11, .getfield 24, 3), (14, .iload_n 1, 1), (15, .iaload, 1), (16, .iload_n 2, 1), (17, .if_icmp .ne 7, 3), (20, .iconst 1, 1), (21, .goto 4, 3), (24, .iconst 0, 1), (25, .ireturn, 1)]
def am_c121 : am_Cd := [(0, .aload_n 0, 1), (1, .getfield 18, 3), (4, .iload_n 1, 1), (5, .iaload, 1), (6, .aload_n 0, 1), (7, .getfield 15, 3), (10, .iload_n 1, 1), (11, .iaload, 1), (12, .isub, 1), (13, .iconst 1, 1), (14, .iadd, 1), (15, .ireturn, 1)]
def am_c122 : am_Cd := [(0, .aload_n 0, 1), (1, .getfield 27, 3), (4, .iload_n 1, 1), (5, .iaload, 1), (6, .iconst (-1), 1), (7, .if_icmp .eq 17, 3), (10, .aload_n 0, 1), (11, .getfield 30, 3), (14, .iload_n 1, 1), (15, .iaload, 1), (16, .iconst (-1), 1), (17, .if_icmp .eq 7, 3), (20, .iconst 1, 1), (21, .goto 4, 3), (24, .iconst 0, 1), (25, .ireturn, 1)]
def am_c123 : am_Cd := [(0, .aload_n 0, 1), (1, .getfield 27, 3), (4, .iload_n 1, 1), (5, .iaload, 1), (6, .aload_n 0, 1), (7, .getfield 30, 3), (10, .iload_n 1, 1), (11, .iaload, 1), (12, .iconst (-1), 1), (13, .ixor, 1), (14, .iand, 1), (15, .ireturn, 1)]
def am_c124 : am_Cd := [(0, .iconst 0, 1), (1, .istore_n 2, 1), (2, .iconst 0, 1), (3, .istore_n 3, 1), (4, .iload_n 3, 1), (5, .aload_n 0, 1), (6, .getfield 39, 3), (9, .if_icmp .ge 22, 3), (12, .aload_n 0, 1), (13, .getfield 21, 3), (16, .iload_n 3, 1), (17, .iaload, 1), (18, .iload_n 1, 1), (19, .if_icmp .ne 6, 3), (22, .iinc 2 1, 3), (25, .iinc 3 1, 3), (28, .goto (-24), 3), (31, .iload_n 2, 1), (32, .ireturn, 1)]
def am_c125 : am_Cd := [(0, .aload_n 0, 1), (1, .invokespecial 3, 3), (4, .aload_n 0, 1), (5, .bipush 30, 2), (7, .newarray .int, 2), (9, .putfield 11, 3), (12, .aload_n 0, 1), (13, .bipush 30, 2), (15, .newarray .int, 2), (17, .putfield 15, 3), (20, .aload_n 0, 1), (21, .bipush 30, 2), (23, .newarray .int, 2), (25, .putfield 18, 3), (28, .aload_n 0, 1), (29, .sipush 1800, 3), (32, .newarray .int, 2), (34, .putfield 23, 3), (37, .aload_n 0, 1), (38, .bipush 60, 2), (40, .newarray .long, 2), (42, .putfield 26, 3), (45, .return_, 1)]
def am_c126 : am_Cd := [(0, .aload_n 0, 1), (1, .iload_n 1, 1), (2, .iload_n 2, 1), (3, .invokevirtual 43, 3), (6, .istore_n 3, 1), (7, .iload_n 3, 1), (8, .bipush (-9), 2), (10, .if_icmp .ne 12, 3), (13, .aload_n 0, 1), (14, .iconst (-1), 1), (15, .iload_n 2, 1), (16, .invokevirtual 43, 3), (19, .goto 4, 3), (22, .iload_n 3, 1), (23, .ireturn, 1)]
def am_c127 : am_Cd := [(0, .bipush (-9), 2), (2, .istore_n 3, 1), (3, .iconst 0, 1), (4, .istore 4, 2), (6, .iload 4, 2), (8, .aload_n 0, 1), (9, .getfield 30, 3), (12, .if_icmp .ge 59, 3), (15, .aload_n 0, 1), (16, .getfield 11, 3), (19, .iload 4, 2), (21, .iaload, 1), (22, .iload_n 1, 1), (23, .if_icmp .ne 42, 3), (26, .aload_n 0, 1), (27, .getfield 15, 3), (30, .iload 4, 2), (32, .iaload, 1), (33, .iload_n 2, 1), (34, .if_icmp .le 6, 3), (37, .goto 28, 3), (40, .iload_n 3, 1), (41, .bipush (-9), 2), (43, .if_icmp .eq 19, 3), (46, .aload_n 0, 1), (47, .getfield 15, 3), (50, .iload 4, 2), (52, .iaload, 1), (53, .aload_n 0, 1), (54, .getfield 15, 3), (57, .iload_n 3, 1), (58, .iaload, 1), (59, .if_icmp .lt 6, 3), (62, .iload 4, 2), (64, .istore_n 3, 1), (65, .iinc 4 1, 3), (68, .goto (-62), 3), (71, .iload_n 3, 1), (72, .ireturn, 1)]
def am_c128 : am_Cd := [(0, .iconst 0, 1), (1, .istore_n 3, 1), (2, .iconst 0, 1), (3, .istore 4, 2), (5, .iload 4, 2), (7, .aload_n 0, 1), (8, .getfield 18, 3), (11, .iload_n 1, 1), (12, .iaload, 1), (13, .if_icmp .ge 99, 3), (16, .aload_n 0, 1), (17, .getfield 23, 3), (20, .iload_n 1, 1), (21, .bipush 60, 2), (23, .imul, 1), (24, .iload 4, 2), (26, .iadd, 1), (27, .iaload, 1), (28, .istore 5, 2), (30, .iload 5, 2), (32, .ifCond .lt 30, 3), (35, .iload_n 3, 1), (36, .aload_n 0, 1), (37, .getfield 26, 3), (40, .arraylength, 1), (41, .if_icmp .ge 21, 3), (44, .aload_n 0, 1), (45, .getfield 26, 3), (48, .iload_n 3, 1), (49, .iinc 3 1, 3), (52, .iload 5, 2), (54, .aload_n 2, 1), (55, .invokestatic 47, 3), (58, .lastore, 1), (59, .goto 47, 3), (62, .iload 5, 2), (64, .ifCond .ge 42, 3), (67, .iload_n 3, 1), (68, .iconst 2, 1), (69, .if_icmp .lt 37, 3), (72, .iinc 3 (-1), 3), (75, .aload_n 0, 1), (76, .getfield 26, 3), (79, .iload_n 3, 1), (80, .iconst 1, 1), (81, .isub, 1), (82, .iload 5, 2), (84, .ineg, 1), (85, .aload_n 0, 1), (86, .getfield 26, 3), (89, .iload_n 3, 1), (90, .iconst 1, 1), (91, .isub, 1), (92, .laload, 1), (93, .aload_n 0, 1), (94, .getfield 26, 3), (97, .iload_n 3, 1), (98, .laload, 1), (99, .invokestatic 51, 3), (102, .invokestatic 55, 3), (105, .lastore, 1), (106, .iinc 4 1, 3), (109, .goto (-104), 3), (112, .aload_n 0, 1), (113, .getfield 26, 3), (116, .iconst 0, 1), (117, .laload, 1), (118, .l2i, 1), (119, .ireturn, 1)]
def am_c129 : am_Cd := [(0, .iload_n 0, 1), (1, .ldc 59, 2), (3, .isub, 1), (4, .istore_n 2, 1), (5, .iload_n 2, 1), (6, .ifCond .lt 16, 3), (9, .iload_n 2, 1), (10, .aload_n 1, 1), (11, .arraylength, 1), (12, .if_icmp .ge 10, 3), (15, .aload_n 1, 1), (16, .iload_n 2, 1), (17, .iaload, 1), (18, .i2l, 1), (19, .goto 5, 3), (22, .iload_n 0, 1), (23, .i2l, 1), (24, .lreturn, 1)]
def am_c130 : am_Cd := [(0, .iload_n 0, 1), (1, .tableswitch 145 42 61 #[103, 95, 145, 99, 145, 107, 145, 145, 145, 145, 145, 145, 145, 145, 145, 145, 145, 145, 121, 133], 95), (96, .lload_n 1, 1), (97, .lload_n 3, 1), (98, .ladd, 1), (99, .lreturn, 1), (100, .lload_n 1, 1), (101, .lload_n 3, 1), (102, .lsub, 1), (103, .lreturn, 1), (104, .lload_n 1, 1), (105, .lload_n 3, 1), (106, .lmul, 1), (107, .lreturn, 1), (108, .lload_n 3, 1), (109, .lconst 0, 1), (110, .lcmp, 1), (111, .ifCond .ne 7, 3), (114, .lconst 0, 1), (115, .goto 6, 3), (118, .lload_n 1, 1), (119, .lload_n 3, 1), (120, .ldiv, 1), (121, .lreturn, 1), (122, .lload_n 1, 1), (123, .lload_n 3, 1), (124, .lcmp, 1), (125, .ifCond .ge 7, 3), (128, .lconst 1, 1), (129, .goto 4, 3), (132, .lconst 0, 1), (133, .lreturn, 1), (134, .lload_n 1, 1), (135, .lload_n 3, 1), (136, .lcmp, 1), (137, .ifCond .ne 7, 3), (140, .lconst 1, 1), (141, .goto 4, 3), (144, .lconst 0, 1), (145, .lreturn, 1), (146, .lload_n 1, 1), (147, .lload_n 3, 1), (148, .lcmp, 1), (149, .ifCond .le 7, 3), (152, .lconst 1, 1), (153, .goto 4, 3), (156, .lconst 0, 1), (157, .lreturn, 1)]
def am_c131 : am_Cd := [(0, .ldc2_w 60, 3), (3, .ldc2_w 62, 3), (6, .lload_n 0, 1), (7, .invokestatic 64, 3), (10, .invokestatic 70, 3), (13, .lreturn, 1)]
def am_c132 : am_Cd := [(0, .aload_n 0, 1), (1, .getfield 11, 3), (4, .aload_n 0, 1), (5, .getfield 30, 3), (8, .iload_n 1, 1), (9, .iastore, 1), (10, .aload_n 0, 1), (11, .getfield 15, 3), (14, .aload_n 0, 1), (15, .getfield 30, 3), (18, .iload_n 2, 1), (19, .iastore, 1), (20, .aload_n 0, 1), (21, .getfield 18, 3), (24, .aload_n 0, 1), (25, .getfield 30, 3), (28, .aload_n 3, 1), (29, .getfield 34, 3), (32, .iastore, 1), (33, .aload_n 3, 1), (34, .getfield 36, 3), (37, .iconst 0, 1), (38, .aload_n 0, 1), (39, .getfield 23, 3), (42, .aload_n 0, 1), (43, .getfield 30, 3), (46, .bipush 60, 2), (48, .imul, 1), (49, .aload_n 3, 1), (50, .getfield 34, 3), (53, .invokestatic 37, 3), (56, .aload_n 0, 1), (57, .dup, 1), (58, .getfield 30, 3), (61, .iconst 1, 1), (62, .iadd, 1), (63, .putfield 30, 3), (66, .aload_n 0, 1), (67, .getfield 30, 3), (70, .ireturn, 1)]
def am_c133 : am_Cd := [(0, .aload_n 0, 1), (1, .invokespecial 1, 3), (4, .aload_n 0, 1), (5, .bipush 60, 2), (7, .newarray .int, 2), (9, .putfield 9, 3), (12, .aload_n 0, 1), (13, .aload_n 1, 1), (14, .putfield 13, 3), (17, .return_, 1)]
def am_c134 : am_Cd := [(0, .aload_n 0, 1), (1, .iconst 0, 1), (2, .putfield 17, 3), (5, .aload_n 0, 1), (6, .iconst 0, 1), (7, .putfield 21, 3), (10, .aload_n 0, 1), (11, .iconst (-1), 1), (12, .putfield 24, 3), (15, .aload_n 0, 1), (16, .iconst 0, 1), (17, .invokevirtual 27, 3), (20, .aload_n 0, 1), (21, .getfield 21, 3), (24, .aload_n 0, 1), (25, .getfield 13, 3), (28, .getfield 31, 3), (31, .if_icmp .ge 7, 3), (34, .aload_n 0, 1), (35, .invokevirtual 34, 3), (38, .aload_n 0, 1), (39, .getfield 24, 3), (42, .ireturn, 1)]
def am_c135 : am_Cd := [(0, .aload_n 0, 1), (1, .iload_n 1, 1), (2, .invokevirtual 40, 3), (5, .iconst 0, 1), (6, .istore_n 2, 1), (7, .iload_n 2, 1), (8, .bipush 60, 2), (10, .if_icmp .ge 58, 3), (13, .aload_n 0, 1), (14, .getfield 24, 3), (17, .iconst (-1), 1), (18, .if_icmp .ne 50, 3), (21, .aload_n 0, 1), (22, .invokevirtual 43, 3), (25, .istore_n 3, 1), (26, .iload_n 3, 1), (27, .bipush 43, 2), (29, .if_icmp .eq 12, 3), (32, .iload_n 3, 1), (33, .bipush 45, 2), (35, .if_icmp .eq 6, 3), (38, .goto 30, 3), (41, .aload_n 0, 1), (42, .dup, 1), (43, .getfield 21, 3), (46, .iconst 1, 1), (47, .iadd, 1), (48, .putfield 21, 3), (51, .aload_n 0, 1), (52, .iload_n 1, 1), (53, .invokevirtual 40, 3), (56, .aload_n 0, 1), (57, .iload_n 3, 1), (58, .ineg, 1), (59, .invokevirtual 47, 3), (62, .iinc 2 1, 3), (65, .goto (-58), 3), (68, .return_, 1)]
def am_c136 : am_Cd := [(0, .aload_n 0, 1), (1, .iload_n 1, 1), (2, .invokevirtual 50, 3), (5, .iconst 0, 1), (6, .istore_n 2, 1), (7, .iload_n 2, 1), (8, .bipush 60, 2), (10, .if_icmp .ge 58, 3), (13, .aload_n 0, 1), (14, .getfield 24, 3), (17, .iconst (-1), 1), (18, .if_icmp .ne 50, 3), (21, .aload_n 0, 1), (22, .invokevirtual 43, 3), (25, .istore_n 3, 1), (26, .iload_n 3, 1), (27, .bipush 42, 2), (29, .if_icmp .eq 12, 3), (32, .iload_n 3, 1), (33, .bipush 47, 2), (35, .if_icmp .eq 6, 3), (38, .goto 30, 3), (41, .aload_n 0, 1), (42, .dup, 1), (43, .getfield 21, 3), (46, .iconst 1, 1), (47, .iadd, 1), (48, .putfield 21, 3), (51, .aload_n 0, 1), (52, .iload_n 1, 1), (53, .invokevirtual 50, 3), (56, .aload_n 0, 1), (57, .iload_n 3, 1), (58, .ineg, 1), (59, .invokevirtual 47, 3), (62, .iinc 2 1, 3), (65, .goto (-58), 3), (68, .return_, 1)]
def am_c137 : am_Cd := [(0, .aload_n 0, 1), (1, .invokevirtual 43, 3), (4, .istore_n 2, 1), (5, .iload_n 2, 1), (6, .invokestatic 53, 3), (9, .ifCond .eq 10, 3), (12, .aload_n 0, 1), (13, .invokevirtual 57, 3), (16, .goto 39, 3), (19, .iload_n 2, 1), (20, .bipush 40, 2), (22, .if_icmp .ne 28, 3), (25, .iload_n 1, 1), (26, .iconst 5, 1), (27, .if_icmp .ge 23, 3), (30, .aload_n 0, 1), (31, .dup, 1), (32, .getfield 21, 3), (35, .iconst 1, 1), (36, .iadd, 1), (37, .putfield 21, 3), (40, .aload_n 0, 1), (41, .iload_n 1, 1), (42, .iconst 1, 1), (43, .iadd, 1), (44, .invokevirtual 60, 3), (47, .goto 8, 3), (50, .aload_n 0, 1), (51, .iload_n 2, 1), (52, .invokevirtual 63, 3), (55, .return_, 1)]
def am_c138 : am_Cd := [(0, .aload_n 0, 1), (1, .getfield 13, 3), (4, .aload_n 0, 1), (5, .getfield 21, 3), (8, .invokevirtual 37, 3), (11, .ireturn, 1)]
def am_c139 : am_Cd := [(0, .iload_n 0, 1), (1, .bipush 48, 2), (3, .if_icmp .lt 13, 3), (6, .iload_n 0, 1), (7, .bipush 57, 2), (9, .if_icmp .gt 7, 3), (12, .iconst 1, 1), (13, .goto 4, 3), (16, .iconst 0, 1), (17, .ireturn, 1)]
def am_c140 : am_Cd := [(0, .iconst 0, 1), (1, .istore_n 1, 1), (2, .iconst 0, 1), (3, .istore_n 2, 1), (4, .iload_n 2, 1), (5, .iconst 5, 1), (6, .if_icmp .ge 42, 3), (9, .aload_n 0, 1), (10, .invokevirtual 43, 3), (13, .invokestatic 53, 3), (16, .ifCond .eq 32, 3), (19, .iload_n 1, 1), (20, .bipush 10, 2), (22, .imul, 1), (23, .aload_n 0, 1), (24, .invokevirtual 43, 3), (27, .iadd, 1), (28, .bipush 48, 2), (30, .isub, 1), (31, .istore_n 1, 1), (32, .aload_n 0, 1), (33, .dup, 1), (34, .getfield 21, 3), (37, .iconst 1, 1), (38, .iadd, 1), (39, .putfield 21, 3), (42, .iinc 2 1, 3), (45, .goto (-41), 3), (48, .aload_n 0, 1), (49, .iload_n 1, 1), (50, .invokevirtual 47, 3), (53, .return_, 1)]
def am_c141 : am_Cd := [(0, .aload_n 0, 1), (1, .getfield 17, 3), (4, .bipush 60, 2), (6, .if_icmp .ge 20, 3), (9, .aload_n 0, 1), (10, .getfield 9, 3), (13, .aload_n 0, 1), (14, .dup, 1), (15, .getfield 17, 3), (18, .dup_x1, 1), (19, .iconst 1, 1), (20, .iadd, 1), (21, .putfield 17, 3), (24, .iload_n 1, 1), (25, .iastore, 1), (26, .return_, 1)]
def am_c142 : am_Cd := [(0, .aload_n 0, 1), (1, .iload_n 1, 1), (2, .invokevirtual 27, 3), (5, .aload_n 0, 1), (6, .getfield 24, 3), (9, .iconst (-1), 1), (10, .if_icmp .eq 4, 3), (13, .return_, 1), (14, .aload_n 0, 1), (15, .invokevirtual 43, 3), (18, .istore_n 2, 1), (19, .iload_n 2, 1), (20, .bipush 60, 2), (22, .if_icmp .eq 15, 3), (25, .iload_n 2, 1), (26, .bipush 61, 2), (28, .if_icmp .eq 9, 3), (31, .iload_n 2, 1), (32, .bipush 62, 2), (34, .if_icmp .ne 24, 3), (37, .aload_n 0, 1), (38, .dup, 1), (39, .getfield 21, 3), (42, .iconst 1, 1), (43, .iadd, 1), (44, .putfield 21, 3), (47, .aload_n 0, 1), (48, .iload_n 1, 1), (49, .invokevirtual 27, 3), (52, .aload_n 0, 1), (53, .iload_n 2, 1), (54, .ineg, 1), (55, .invokevirtual 47, 3), (58, .aload_n 0, 1), (59, .getfield 24, 3), (62, .iconst (-1), 1), (63, .if_icmp .eq 4, 3), (66, .return_, 1), (67, .aload_n 0, 1), (68, .invokevirtual 43, 3), (71, .bipush 41, 2), (73, .if_icmp .ne 16, 3), (76, .aload_n 0, 1), (77, .dup, 1), (78, .getfield 21, 3), (81, .iconst 1, 1), (82, .iadd, 1), (83, .putfield 21, 3), (86, .goto 7, 3), (89, .aload_n 0, 1), (90, .invokevirtual 34, 3), (93, .return_, 1)]
def am_c143 : am_Cd := [(0, .aload_n 0, 1), (1, .getfield 24, 3), (4, .iconst (-1), 1), (5, .if_icmp .ne 11, 3), (8, .aload_n 0, 1), (9, .aload_n 0, 1), (10, .getfield 21, 3), (13, .putfield 24, 3), (16, .return_, 1)]
def am_c144 : am_Cd := [(0, .iload_n 1, 1), (1, .iconst (-1), 1), (2, .if_icmp .ne 7, 3), (5, .iconst (-1), 1), (6, .goto 10, 3), (9, .ldc 66, 2), (11, .iload_n 1, 1), (12, .i2c, 1), (13, .invokevirtual 68, 3), (16, .istore_n 2, 1), (17, .iload_n 2, 1), (18, .ifCond .ge 10, 3), (21, .aload_n 0, 1), (22, .invokevirtual 34, 3), (25, .goto 21, 3), (28, .aload_n 0, 1), (29, .ldc 73, 2), (31, .iload_n 2, 1), (32, .iadd, 1), (33, .invokevirtual 47, 3), (36, .aload_n 0, 1), (37, .dup, 1), (38, .getfield 21, 3), (41, .iconst 1, 1), (42, .iadd, 1), (43, .putfield 21, 3), (46, .return_, 1)]
def am_c145 : am_Cd := [(0, .aload_n 0, 1), (1, .invokespecial 1, 3), (4, .aload_n 0, 1), (5, .bipush 10, 2), (7, .newarray .int, 2), (9, .putfield 9, 3), (12, .aload_n 0, 1), (13, .iconst 5, 1), (14, .newarray .int, 2), (16, .putfield 13, 3), (19, .aload_n 0, 1), (20, .bipush 10, 2), (22, .bipush 10, 2), (24, .multianewarray 16 2, 4), (28, .putfield 18, 3), (31, .aload_n 0, 1), (32, .getfield 13, 3), (35, .sipush 180, 3), (38, .invokestatic 21, 3), (41, .iconst 0, 1), (42, .istore_n 1, 1), (43, .iload_n 1, 1), (44, .bipush 10, 2), (46, .if_icmp .ge 29, 3), (49, .aload_n 0, 1), (50, .getfield 18, 3), (53, .iload_n 1, 1), (54, .aaload, 1), (55, .bipush 24, 2), (57, .invokestatic 21, 3), (60, .aload_n 0, 1), (61, .getfield 18, 3), (64, .iload_n 1, 1), (65, .aaload, 1), (66, .iload_n 1, 1), (67, .iconst 0, 1), (68, .iastore, 1), (69, .iinc 1 1, 3), (72, .goto (-29), 3), (75, .return_, 1)]
def am_c146 : am_Cd := [(0, .iload_n 1, 1), (1, .ifCond .lt 13, 3), (4, .iload_n 1, 1), (5, .bipush 10, 2), (7, .if_icmp .ge 7, 3), (10, .iconst 1, 1), (11, .goto 4, 3), (14, .iconst 0, 1), (15, .ireturn, 1)]
def am_c147 : am_Cd := [(0, .iload_n 1, 1), (1, .ifCond .lt 12, 3), (4, .iload_n 1, 1), (5, .iconst 5, 1), (6, .if_icmp .ge 7, 3), (9, .iconst 1, 1), (10, .goto 4, 3), (13, .iconst 0, 1), (14, .ireturn, 1)]
def am_c148 : am_Cd := [(0, .aload_n 0, 1), (1, .getfield 18, 3), (4, .iload_n 1, 1), (5, .aaload, 1), (6, .iload_n 2, 1), (7, .iaload, 1), (8, .bipush 23, 2), (10, .iadd, 1), (11, .bipush 24, 2), (13, .idiv, 1), (14, .ireturn, 1)]
def am_c149 : am_Cd := [(0, .aload_n 0, 1), (1, .invokespecial 1, 3), (4, .aload_n 0, 1), (5, .bipush 10, 2), (7, .newarray .int, 2), (9, .putfield 7, 3), (12, .aload_n 0, 1), (13, .bipush 100, 2), (15, .newarray .int, 2), (17, .putfield 13, 3), (20, .aload_n 0, 1), (21, .iconst 5, 1), (22, .newarray .int, 2), (24, .putfield 16, 3), (27, .aload_n 0, 1), (28, .bipush 20, 2), (30, .newarray .int, 2), (32, .putfield 19, 3), (35, .aload_n 0, 1), (36, .bipush 20, 2), (38, .newarray .int, 2), (40, .putfield 22, 3), (43, .aload_n 0, 1), (44, .bipush 20, 2), (46, .newarray .int, 2), (48, .putfield 25, 3), (51, .aload_n 0, 1), (52, .bipush 20, 2), (54, .newarray .int, 2), (56, .putfield 28, 3), (59, .aload_n 0, 1), (60, .bipush 100, 2), (62, .newarray .int, 2), (64, .putfield 31, 3), (67, .aload_n 0, 1), (68, .bipush 20, 2), (70, .newarray .int, 2), (72, .putfield 34, 3), (75, .aload_n 0, 1), (76, .bipush 20, 2), (78, .newarray .int, 2), (80, .putfield 37, 3), (83, .aload_n 0, 1), (84, .sipush 620, 3), (87, .newarray .int, 2), (89, .putfield 40, 3), (92, .aload_n 0, 1), (93, .bipush 60, 2), (95, .newarray .int, 2), (97, .putfield 43, 3), (100, .aload_n 0, 1), (101, .bipush 60, 2), (103, .newarray .int, 2), (105, .putfield 46, 3), (108, .aload_n 0, 1), (109, .bipush 60, 2), (111, .newarray .int, 2), (113, .putfield 49, 3), (116, .aload_n 0, 1), (117, .bipush 60, 2), (119, .newarray .int, 2), (121, .putfield 52, 3), (124, .aload_n 0, 1), (125, .bipush 60, 2), (127, .newarray .int, 2), (129, .putfield 55, 3), (132, .aload_n 0, 1), (133, .bipush 120, 2), (135, .newarray .int, 2), (137, .putfield 58, 3), (140, .aload_n 0, 1), (141, .bipush 120, 2), (143, .newarray .int, 2), (145, .putfield 61, 3), (148, .aload_n 0, 1), (149, .bipush 120, 2), (151, .newarray .int, 2), (153, .putfield 64, 3), (156, .aload_n 0, 1), (157, .bipush 60, 2), (159, .newarray .byte, 2), (161, .putfield 67, 3), (164, .aload_n 0, 1), (165, .bipush 30, 2), (167, .newarray .int, 2), (169, .putfield 71, 3), (172, .aload_n 0, 1), (173, .bipush 30, 2), (175, .newarray .int, 2), (177, .putfield 74, 3), (180, .aload_n 0, 1), (181, .bipush 30, 2), (183, .newarray .int, 2), (185, .putfield 77, 3), (188, .aload_n 0, 1), (189, .sipush 1800, 3), (192, .newarray .byte, 2), (194, .putfield 80, 3), (197, .aload_n 0, 1), (198, .bipush 7, 2), (200, .newarray .boolean, 2), (202, .putfield 83, 3), (205, .aload_n 0, 1), (206, .bipush 7, 2), (208, .newarray .long, 2), (210, .putfield 87, 3), (213, .aload_n 0, 1), (214, .bipush 7, 2), (216, .newarray .int, 2), (218, .putfield 91, 3), (221, .aload_n 0, 1), (222, .bipush 7, 2), (224, .newarray .long, 2), (226, .putfield 94, 3), (229, .aload_n 0, 1), (230, .bipush 7, 2), (232, .newarray .int, 2), (234, .putfield 97, 3), (237, .aload_n 0, 1), (238, .bipush 7, 2), (240, .newarray .int, 2), (242, .putfield 100, 3), (245, .aload_n 0, 1), (246, .bipush 7, 2), (248, .newarray .long, 2), (250, .putfield 103, 3), (253, .aload_n 0, 1), (254, .sipush 1501, 3), (257, .newarray .boolean, 2), (259, .putfield 106, 3), (262, .aload_n 0, 1), (263, .bipush 12, 2), (265, .newarray .int, 2), (267, .putfield 109, 3), (270, .aload_n 0, 1), (271, .bipush 6, 2), (273, .newarray .int, 2), (275, .putfield 112, 3), (278, .aload_n 0, 1), (279, .bipush 10, 2), (281, .newarray .int, 2), (283, .putfield 115, 3), (286, .aload_n 0, 1), (287, .bipush 6, 2), (289, .newarray .int, 2), (291, .putfield 118, 3), (294, .aload_n 0, 1), (295, .bipush 20, 2), (297, .newarray .int, 2), (299, .putfield 121, 3), (302, .aload_n 0, 1), (303, .bipush 64, 2), (305, .newarray .int, 2), (307, .putfield 124, 3), (310, .aload_n 0, 1), (311, .bipush 64, 2), (313, .newarray .int, 2), (315, .putfield 127, 3), (318, .aload_n 0, 1), (319, .bipush 20, 2), (321, .newarray .int, 2), (323, .putfield 130, 3), (326, .aload_n 0, 1), (327, .bipush 120, 2), (329, .newarray .int, 2), (331, .putfield 133, 3), (334, .aload_n 0, 1), (335, .bipush 6, 2), (337, .newarray .int, 2), (339, .putfield 136, 3), (342, .aload_n 0, 1), (343, .bipush 7, 2), (345, .newarray .int, 2), (347, .putfield 139, 3), (350, .iconst 0, 1), (351, .istore_n 1, 1), (352, .iload_n 1, 1), (353, .bipush 10, 2), (355, .if_icmp .ge 45, 3), (358, .iconst 0, 1), (359, .istore_n 2, 1), (360, .iload_n 2, 1), (361, .bipush 10, 2), (363, .if_icmp .ge 31, 3), (366, .aload_n 0, 1), (367, .getfield 13, 3), (370, .bipush 10, 2), (372, .iload_n 1, 1), (373, .imul, 1), (374, .iload_n 2, 1), (375, .iadd, 1), (376, .iload_n 1, 1), (377, .iload_n 2, 1), (378, .if_icmp .ne 7, 3), (381, .iconst 0, 1), (382, .goto 5, 3), (385, .bipush 24, 2), (387, .iastore, 1), (388, .iinc 2 1, 3), (391, .goto (-31), 3), (394, .iinc 1 1, 3), (397, .goto (-45), 3), (400, .iconst 0, 1), (401, .istore_n 1, 1), (402, .iload_n 1, 1), (403, .iconst 5, 1), (404, .if_icmp .ge 18, 3), (407, .aload_n 0, 1), (408, .getfield 16, 3), (411, .iload_n 1, 1), (412, .sipush 180, 3), (415, .iastore, 1), (416, .iinc 1 1, 3), (419, .goto (-17), 3), (422, .iconst 0, 1), (423, .istore_n 1, 1), (424, .iload_n 1, 1), (425, .sipush 620, 3), (428, .if_icmp .ge 16, 3), (431, .aload_n 0, 1), (432, .getfield 40, 3), (435, .iload_n 1, 1), (436, .iconst 1, 1), (437, .iastore, 1), (438, .iinc 1 1, 3), (441, .goto (-17), 3), (444, .iconst 0, 1), (445, .istore_n 1, 1), (446, .iload_n 1, 1), (447, .bipush 120, 2), (449, .if_icmp .ge 16, 3), (452, .aload_n 0, 1), (453, .getfield 64, 3), (456, .iload_n 1, 1), (457, .iconst (-1), 1), (458, .iastore, 1), (459, .iinc 1 1, 3), (462, .goto (-16), 3), (465, .return_, 1)]
def am_c150 : am_Cd := [(0, .iload_n 1, 1), (1, .iconst 1, 1), (2, .if_icmp .ge 10, 3), (5, .aload_n 0, 1), (6, .bipush (-4), 2), (8, .invokevirtual 143, 3), (11, .ireturn, 1), (12, .iload_n 1, 1), (13, .sipush 1500, 3), (16, .aload_n 0, 1), (17, .getfield 157, 3), (20, .isub, 1), (21, .if_icmp .le 10, 3), (24, .aload_n 0, 1), (25, .bipush (-6), 2), (27, .invokevirtual 143, 3), (30, .ireturn, 1), (31, .aload_n 0, 1), (32, .dup, 1), (33, .getfield 157, 3), (36, .iload_n 1, 1), (37, .iadd, 1), (38, .putfield 157, 3), (41, .aload_n 0, 1), (42, .getfield 157, 3), (45, .ireturn, 1)]
def am_c151 : am_Cd := [(0, .aload_n 0, 1), (1, .getfield 139, 3), (4, .iload_n 1, 1), (5, .ineg, 1), (6, .dup2, 1), (7, .iaload, 1), (8, .iconst 1, 1), (9, .iadd, 1), (10, .iastore, 1), (11, .iload_n 1, 1), (12, .ireturn, 1)]
def am_c152 : am_Cd := [(0, .aload_n 0, 1), (1, .iload_n 1, 1), (2, .invokevirtual 160, 3), (5, .ifCond .eq 12, 3), (8, .iload_n 2, 1), (9, .ifCond .lt 8, 3), (12, .iload_n 2, 1), (13, .iconst 4, 1), (14, .if_icmp .le 9, 3), (17, .aload_n 0, 1), (18, .iconst (-1), 1), (19, .invokevirtual 143, 3), (22, .ireturn, 1), (23, .aload_n 0, 1), (24, .getfield 7, 3), (27, .iload_n 1, 1), (28, .iaload, 1), (29, .istore_n 3, 1), (30, .aload_n 0, 1), (31, .getfield 7, 3), (34, .iload_n 1, 1), (35, .iload_n 2, 1), (36, .iastore, 1), (37, .iload_n 3, 1), (38, .ireturn, 1)]
def am_c153 : am_Cd := [(0, .iload_n 1, 1), (1, .ifCond .lt 13, 3), (4, .iload_n 1, 1), (5, .bipush 10, 2), (7, .if_icmp .ge 7, 3), (10, .iconst 1, 1), (11, .goto 4, 3), (14, .iconst 0, 1), (15, .ireturn, 1)]
def am_c154 : am_Cd := [(0, .aload_n 0, 1), (1, .iload_n 1, 1), (2, .invokevirtual 160, 3), (5, .ifCond .eq 16, 3), (8, .aload_n 0, 1), (9, .iload_n 2, 1), (10, .invokevirtual 160, 3), (13, .ifCond .eq 8, 3), (16, .iload_n 1, 1), (17, .iload_n 2, 1), (18, .if_icmp .ne 9, 3), (21, .aload_n 0, 1), (22, .iconst (-1), 1), (23, .invokevirtual 143, 3), (26, .ireturn, 1), (27, .iload_n 3, 1), (28, .iconst 1, 1), (29, .if_icmp .ge 10, 3), (32, .aload_n 0, 1), (33, .bipush (-4), 2), (35, .invokevirtual 143, 3), (38, .ireturn, 1), (39, .iload_n 3, 1), (40, .sipush 240, 3), (43, .if_icmp .le 10, 3), (46, .aload_n 0, 1), (47, .bipush (-6), 2), (49, .invokevirtual 143, 3), (52, .ireturn, 1), (53, .aload_n 0, 1), (54, .getfield 13, 3), (57, .bipush 10, 2), (59, .iload_n 1, 1), (60, .imul, 1), (61, .iload_n 2, 1), (62, .iadd, 1), (63, .iaload, 1), (64, .istore 4, 2), (66, .aload_n 0, 1), (67, .getfield 13, 3), (70, .bipush 10, 2), (72, .iload_n 1, 1), (73, .imul, 1), (74, .iload_n 2, 1), (75, .iadd, 1), (76, .iload_n 3, 1), (77, .iastore, 1), (78, .aload_n 0, 1), (79, .getfield 13, 3), (82, .bipush 10, 2), (84, .iload_n 2, 1), (85, .imul, 1), (86, .iload_n 1, 1), (87, .iadd, 1), (88, .iload_n 3, 1), (89, .iastore, 1), (90, .iload 4, 2), (92, .ireturn, 1)]
def am_c155 : am_Cd := [(0, .iload_n 1, 1), (1, .ifCond .lt 8, 3), (4, .iload_n 1, 1), (5, .iconst 4, 1), (6, .if_icmp .le 9, 3), (9, .aload_n 0, 1), (10, .iconst (-1), 1), (11, .invokevirtual 143, 3), (14, .ireturn, 1), (15, .iload_n 2, 1), (16, .ifCond .ge 10, 3), (19, .aload_n 0, 1), (20, .bipush (-4), 2), (22, .invokevirtual 143, 3), (25, .ireturn, 1), (26, .iload_n 2, 1), (27, .sipush 180, 3), (30, .if_icmp .le 10, 3), (33, .aload_n 0, 1), (34, .bipush (-6), 2), (36, .invokevirtual 143, 3), (39, .ireturn, 1), (40, .aload_n 0, 1), (41, .getfield 16, 3), (44, .iload_n 1, 1), (45, .iaload, 1), (46, .istore_n 3, 1), (47, .aload_n 0, 1), (48, .getfield 16, 3), (51, .iload_n 1, 1), (52, .iload_n 2, 1), (53, .iastore, 1), (54, .iload_n 3, 1), (55, .ireturn, 1)]
def am_c156 : am_Cd := [(0, .aload_n 0, 1), (1, .iload_n 1, 1), (2, .invokevirtual 160, 3), (5, .ifCond .ne 9, 3), (8, .aload_n 0, 1), (9, .iconst (-1), 1), (10, .invokevirtual 143, 3), (13, .ireturn, 1), (14, .iload_n 2, 1), (15, .ifCond .lt 13, 3), (18, .iload_n 3, 1), (19, .iconst 1, 1), (20, .if_icmp .lt 8, 3), (23, .iload 4, 2), (25, .ifCond .ge 10, 3), (28, .aload_n 0, 1), (29, .bipush (-4), 2), (31, .invokevirtual 143, 3), (34, .ireturn, 1), (35, .iload_n 2, 1), (36, .sipush 255, 3), (39, .if_icmp .gt 24, 3), (42, .iload_n 3, 1), (43, .iconst 2, 1), (44, .if_icmp .gt 19, 3), (47, .iload 4, 2), (49, .ldc 164, 2), (51, .if_icmp .gt 12, 3), (54, .aload_n 0, 1), (55, .getfield 147, 3), (58, .bipush 20, 2), (60, .if_icmp .ne 10, 3), (63, .aload_n 0, 1), (64, .bipush (-6), 2), (66, .invokevirtual 143, 3), (69, .ireturn, 1), (70, .aload_n 0, 1), (71, .getfield 19, 3), (74, .aload_n 0, 1), (75, .getfield 147, 3), (78, .iload_n 1, 1), (79, .iastore, 1), (80, .aload_n 0, 1), (81, .getfield 22, 3), (84, .aload_n 0, 1), (85, .getfield 147, 3), (88, .iload_n 2, 1), (89, .iastore, 1), (90, .aload_n 0, 1), (91, .getfield 25, 3), (94, .aload_n 0, 1), (95, .getfield 147, 3), (98, .iload_n 3, 1), (99, .iastore, 1), (100, .aload_n 0, 1), (101, .getfield 28, 3), (104, .aload_n 0, 1), (105, .getfield 147, 3), (108, .iload 4, 2), (110, .iastore, 1), (111, .aload_n 0, 1), (112, .dup, 1), (113, .getfield 147, 3), (116, .iconst 1, 1), (117, .iadd, 1), (118, .putfield 147, 3), (121, .aload_n 0, 1), (122, .getfield 147, 3), (125, .iconst 1, 1), (126, .isub, 1), (127, .ireturn, 1)]
def am_c157 : am_Cd := [(0, .aload_n 0, 1), (1, .iload_n 1, 1), (2, .invokevirtual 160, 3), (5, .ifCond .ne 9, 3), (8, .aload_n 0, 1), (9, .iconst (-1), 1), (10, .invokevirtual 143, 3), (13, .ireturn, 1), (14, .iload_n 2, 1), (15, .ifCond .ge 10, 3), (18, .aload_n 0, 1), (19, .bipush (-4), 2), (21, .invokevirtual 143, 3), (24, .ireturn, 1), (25, .iload_n 2, 1), (26, .sipush 255, 3), (29, .if_icmp .gt 12, 3), (32, .aload_n 0, 1), (33, .getfield 151, 3), (36, .bipush 20, 2), (38, .if_icmp .ne 10, 3), (41, .aload_n 0, 1), (42, .bipush (-6), 2), (44, .invokevirtual 143, 3), (47, .ireturn, 1), (48, .aload_n 0, 1), (49, .getfield 34, 3), (52, .aload_n 0, 1), (53, .getfield 151, 3), (56, .iload_n 1, 1), (57, .iastore, 1), (58, .aload_n 0, 1), (59, .getfield 37, 3), (62, .aload_n 0, 1), (63, .getfield 151, 3), (66, .iload_n 2, 1), (67, .iastore, 1), (68, .aload_n 0, 1), (69, .dup, 1), (70, .getfield 151, 3), (73, .iconst 1, 1), (74, .iadd, 1), (75, .putfield 151, 3), (78, .aload_n 0, 1), (79, .getfield 151, 3), (82, .iconst 1, 1), (83, .isub, 1), (84, .ireturn, 1)]
def am_c158 : am_Cd := [(0, .aload_n 0, 1), (1, .iload_n 1, 1), (2, .invokevirtual 165, 3), (5, .ifCond .ne 9, 3), (8, .aload_n 0, 1), (9, .iconst (-1), 1), (10, .invokevirtual 143, 3), (13, .ireturn, 1), (14, .iload_n 2, 1), (15, .aload_n 0, 1), (16, .getfield 157, 3), (19, .if_icmp .le 8, 3), (22, .iload_n 3, 1), (23, .iload_n 2, 1), (24, .if_icmp .ge 10, 3), (27, .aload_n 0, 1), (28, .bipush (-4), 2), (30, .invokevirtual 143, 3), (33, .ireturn, 1), (34, .iload_n 2, 1), (35, .sipush 1500, 3), (38, .if_icmp .gt 19, 3), (41, .iload_n 3, 1), (42, .sipush 1500, 3), (45, .if_icmp .gt 12, 3), (48, .aload_n 0, 1), (49, .getfield 154, 3), (52, .bipush 60, 2), (54, .if_icmp .ne 10, 3), (57, .aload_n 0, 1), (58, .bipush (-6), 2), (60, .invokevirtual 143, 3), (63, .ireturn, 1), (64, .iconst 0, 1), (65, .istore 4, 2), (67, .iload 4, 2), (69, .aload_n 0, 1), (70, .getfield 154, 3), (73, .if_icmp .ge 60, 3), (76, .aload_n 0, 1), (77, .getfield 43, 3), (80, .iload 4, 2), (82, .iaload, 1), (83, .iload_n 1, 1), (84, .if_icmp .ne 43, 3), (87, .aload_n 0, 1), (88, .getfield 52, 3), (91, .iload 4, 2), (93, .iaload, 1), (94, .iconst 2, 1), (95, .if_icmp .ge 32, 3), (98, .aload_n 0, 1), (99, .getfield 46, 3), (102, .iload 4, 2), (104, .iaload, 1), (105, .iload_n 3, 1), (106, .if_icmp .gt 21, 3), (109, .aload_n 0, 1), (110, .getfield 49, 3), (113, .iload 4, 2), (115, .iaload, 1), (116, .iload_n 2, 1), (117, .if_icmp .lt 10, 3), (120, .aload_n 0, 1), (121, .bipush (-3), 2), (123, .invokevirtual 143, 3), (126, .ireturn, 1), (127, .iinc 4 1, 3), (130, .goto (-63), 3), (133, .aload_n 0, 1), (134, .getfield 43, 3), (137, .aload_n 0, 1), (138, .getfield 154, 3), (141, .iload_n 1, 1), (142, .iastore, 1), (143, .aload_n 0, 1), (144, .getfield 46, 3), (147, .aload_n 0, 1), (148, .getfield 154, 3), (151, .iload_n 2, 1), (152, .iastore, 1), (153, .aload_n 0, 1), (154, .getfield 49, 3), (157, .aload_n 0, 1), (158, .getfield 154, 3), (161, .iload_n 3, 1), (162, .iastore, 1), (163, .aload_n 0, 1), (164, .getfield 52, 3), (167, .aload_n 0, 1), (168, .getfield 154, 3), (171, .iconst 0, 1), (172, .iastore, 1), (173, .aload_n 0, 1), (174, .getfield 55, 3), (177, .aload_n 0, 1), (178, .getfield 154, 3), (181, .bipush (-9), 2), (183, .iastore, 1), (184, .aload_n 0, 1), (185, .dup, 1), (186, .getfield 154, 3), (189, .iconst 1, 1), (190, .iadd, 1), (191, .putfield 154, 3), (194, .aload_n 0, 1), (195, .getfield 154, 3), (198, .iconst 1, 1), (199, .isub, 1), (200, .ireturn, 1)]
def am_c159 : am_Cd := [(0, .iload_n 1, 1), (1, .ifCond .lt 15, 3), (4, .iload_n 1, 1), (5, .aload_n 0, 1), (6, .getfield 151, 3), (9, .if_icmp .ge 7, 3), (12, .iconst 1, 1), (13, .goto 4, 3), (16, .iconst 0, 1), (17, .ireturn, 1)]
def am_c160 : am_Cd := [(0, .aload_n 0, 1), (1, .iload_n 1, 1), (2, .invokevirtual 168, 3), (5, .ifCond .ne 9, 3), (8, .aload_n 0, 1), (9, .iconst (-1), 1), (10, .invokevirtual 143, 3), (13, .ireturn, 1), (14, .iload_n 2, 1), (15, .ifCond .lt 8, 3), (18, .iload_n 2, 1), (19, .iconst 5, 1), (20, .if_icmp .le 10, 3), (23, .aload_n 0, 1), (24, .bipush (-2), 2), (26, .invokevirtual 143, 3), (29, .ireturn, 1), (30, .iload_n 2, 1), (31, .ifCond .ne 10, 3), (34, .aload_n 0, 1), (35, .getfield 43, 3), (38, .iload_n 1, 1), (39, .iaload, 1), (40, .ireturn, 1), (41, .iload_n 2, 1), (42, .iconst 1, 1), (43, .if_icmp .ne 10, 3), (46, .aload_n 0, 1), (47, .getfield 46, 3), (50, .iload_n 1, 1), (51, .iaload, 1), (52, .ireturn, 1), (53, .iload_n 2, 1), (54, .iconst 2, 1), (55, .if_icmp .ne 10, 3), (58, .aload_n 0, 1), (59, .getfield 49, 3), (62, .iload_n 1, 1), (63, .iaload, 1), (64, .ireturn, 1), (65, .iload_n 2, 1), (66, .iconst 3, 1), (67, .if_icmp .ne 10, 3), (70, .aload_n 0, 1), (71, .getfield 52, 3), (74, .iload_n 1, 1), (75, .iaload, 1), (76, .ireturn, 1), (77, .iload_n 2, 1), (78, .iconst 4, 1), (79, .if_icmp .ne 10, 3), (82, .aload_n 0, 1), (83, .getfield 55, 3), (86, .iload_n 1, 1), (87, .iaload, 1), (88, .ireturn, 1), (89, .aload_n 0, 1), (90, .iload_n 1, 1), (91, .invokevirtual 171, 3), (94, .ifCond .eq 7, 3), (97, .iconst 1, 1), (98, .goto 4, 3), (101, .iconst 0, 1), (102, .ireturn, 1)]
def am_c161 : am_Cd := [(0, .iload_n 1, 1), (1, .ifCond .lt 15, 3), (4, .iload_n 1, 1), (5, .aload_n 0, 1), (6, .getfield 154, 3), (9, .if_icmp .ge 7, 3), (12, .iconst 1, 1), (13, .goto 4, 3), (16, .iconst 0, 1), (17, .ireturn, 1)]
def am_c162 : am_Cd := [(0, .aload_n 0, 1), (1, .getfield 49, 3), (4, .iload_n 1, 1), (5, .iaload, 1), (6, .aload_n 0, 1), (7, .getfield 157, 3), (10, .if_icmp .ge 7, 3), (13, .iconst 1, 1), (14, .goto 4, 3), (17, .iconst 0, 1), (18, .ireturn, 1)]
def am_c163 : am_Cd := [(0, .aload_n 0, 1), (1, .iload_n 1, 1), (2, .invokevirtual 198, 3), (5, .ifCond .eq 11, 3), (8, .aload_n 0, 1), (9, .iload_n 2, 1), (10, .invokevirtual 168, 3), (13, .ifCond .ne 9, 3), (16, .aload_n 0, 1), (17, .iconst (-1), 1), (18, .invokevirtual 143, 3), (21, .ireturn, 1), (22, .aload_n 0, 1), (23, .iload_n 1, 1), (24, .iload_n 2, 1), (25, .invokevirtual 201, 3), (28, .ireturn, 1)]
def am_c164 : am_Cd := [(0, .iload_n 1, 1), (1, .ifCond .lt 15, 3), (4, .iload_n 1, 1), (5, .aload_n 0, 1), (6, .getfield 147, 3), (9, .if_icmp .ge 7, 3), (12, .iconst 1, 1), (13, .goto 4, 3), (16, .iconst 0, 1), (17, .ireturn, 1)]
def am_c165 : am_Cd := [(0, .aload_n 0, 1), (1, .getfield 52, 3), (4, .iload_n 2, 1), (5, .iaload, 1), (6, .ifCond .eq 6, 3), (9, .bipush 9, 2), (11, .ireturn, 1), (12, .aload_n 0, 1), (13, .getfield 46, 3), (16, .iload_n 2, 1), (17, .iaload, 1), (18, .aload_n 0, 1), (19, .getfield 157, 3), (22, .if_icmp .gt 5, 3), (25, .iconst 1, 1), (26, .ireturn, 1), (27, .aload_n 0, 1), (28, .getfield 37, 3), (31, .aload_n 0, 1), (32, .getfield 43, 3), (35, .iload_n 2, 1), (36, .iaload, 1), (37, .iaload, 1), (38, .aload_n 0, 1), (39, .getfield 22, 3), (42, .iload_n 1, 1), (43, .iaload, 1), (44, .iconst (-1), 1), (45, .ixor, 1), (46, .iand, 1), (47, .ifCond .eq 5, 3), (50, .iconst 2, 1), (51, .ireturn, 1), (52, .aload_n 0, 1), (53, .iload_n 1, 1), (54, .iload_n 2, 1), (55, .invokevirtual 185, 3), (58, .ifCond .eq 5, 3), (61, .iconst 3, 1), (62, .ireturn, 1), (63, .aload_n 0, 1), (64, .iload_n 1, 1), (65, .iload_n 2, 1), (66, .invokevirtual 188, 3), (69, .ifCond .eq 5, 3), (72, .iconst 4, 1), (73, .ireturn, 1), (74, .aload_n 0, 1), (75, .iload_n 1, 1), (76, .iload_n 2, 1), (77, .invokevirtual 191, 3), (80, .ifCond .eq 5, 3), (83, .iconst 5, 1), (84, .ireturn, 1), (85, .aload_n 0, 1), (86, .iload_n 1, 1), (87, .iload_n 2, 1), (88, .invokevirtual 194, 3), (91, .ifCond .le 7, 3), (94, .iconst 0, 1), (95, .goto 5, 3), (98, .bipush 6, 2), (100, .ireturn, 1)]
def am_c166 : am_Cd := [(0, .iconst 0, 1), (1, .istore_n 3, 1), (2, .iload_n 3, 1), (3, .aload_n 0, 1), (4, .getfield 154, 3), (7, .if_icmp .ge 55, 3), (10, .iload_n 3, 1), (11, .iload_n 2, 1), (12, .if_icmp .eq 44, 3), (15, .aload_n 0, 1), (16, .iload_n 1, 1), (17, .iload_n 3, 1), (18, .invokevirtual 174, 3), (21, .ifCond .eq 35, 3), (24, .aload_n 0, 1), (25, .getfield 46, 3), (28, .iload_n 3, 1), (29, .iaload, 1), (30, .aload_n 0, 1), (31, .getfield 49, 3), (34, .iload_n 2, 1), (35, .iaload, 1), (36, .if_icmp .gt 20, 3), (39, .aload_n 0, 1), (40, .getfield 49, 3), (43, .iload_n 3, 1), (44, .iaload, 1), (45, .aload_n 0, 1), (46, .getfield 46, 3), (49, .iload_n 2, 1), (50, .iaload, 1), (51, .if_icmp .lt 5, 3), (54, .iconst 1, 1), (55, .ireturn, 1), (56, .iinc 3 1, 3), (59, .goto (-57), 3), (62, .iconst 0, 1), (63, .ireturn, 1)]
def am_c167 : am_Cd := [(0, .aload_n 0, 1), (1, .getfield 52, 3), (4, .iload_n 2, 1), (5, .iaload, 1), (6, .iconst 1, 1), (7, .if_icmp .ne 17, 3), (10, .aload_n 0, 1), (11, .getfield 55, 3), (14, .iload_n 2, 1), (15, .iaload, 1), (16, .iload_n 1, 1), (17, .if_icmp .ne 7, 3), (20, .iconst 1, 1), (21, .goto 4, 3), (24, .iconst 0, 1), (25, .ireturn, 1)]
def am_c168 : am_Cd := [(0, .iconst (-1), 1), (1, .istore_n 3, 1), (2, .iconst (-1), 1), (3, .istore 4, 2), (5, .iconst 0, 1), (6, .istore 5, 2), (8, .iload 5, 2), (10, .aload_n 0, 1), (11, .getfield 154, 3), (14, .if_icmp .ge 109, 3), (17, .iload 5, 2), (19, .iload_n 2, 1), (20, .if_icmp .eq 97, 3), (23, .aload_n 0, 1), (24, .iload_n 1, 1), (25, .iload 5, 2), (27, .invokevirtual 174, 3), (30, .ifCond .ne 6, 3), (33, .goto 84, 3), (36, .aload_n 0, 1), (37, .getfield 49, 3), (40, .iload 5, 2), (42, .iaload, 1), (43, .aload_n 0, 1), (44, .getfield 46, 3), (47, .iload_n 2, 1), (48, .iaload, 1), (49, .if_icmp .ge 26, 3), (52, .iload_n 3, 1), (53, .ifCond .lt 19, 3), (56, .aload_n 0, 1), (57, .getfield 49, 3), (60, .iload 5, 2), (62, .iaload, 1), (63, .aload_n 0, 1), (64, .getfield 49, 3), (67, .iload_n 3, 1), (68, .iaload, 1), (69, .if_icmp .le 6, 3), (72, .iload 5, 2), (74, .istore_n 3, 1), (75, .aload_n 0, 1), (76, .getfield 46, 3), (79, .iload 5, 2), (81, .iaload, 1), (82, .aload_n 0, 1), (83, .getfield 49, 3), (86, .iload_n 2, 1), (87, .iaload, 1), (88, .if_icmp .le 29, 3), (91, .iload 4, 2), (93, .ifCond .lt 20, 3), (96, .aload_n 0, 1), (97, .getfield 46, 3), (100, .iload 5, 2), (102, .iaload, 1), (103, .aload_n 0, 1), (104, .getfield 46, 3), (107, .iload 4, 2), (109, .iaload, 1), (110, .if_icmp .ge 7, 3), (113, .iload 5, 2), (115, .istore 4, 2), (117, .iinc 5 1, 3), (120, .goto (-112), 3), (123, .aload_n 0, 1), (124, .iload_n 2, 1), (125, .invokevirtual 178, 3), (128, .istore 5, 2), (130, .iload_n 3, 1), (131, .ifCond .ge 31, 3), (134, .aload_n 0, 1), (135, .aload_n 0, 1), (136, .getfield 19, 3), (139, .iload_n 1, 1), (140, .iaload, 1), (141, .iload 5, 2), (143, .aload_n 0, 1), (144, .getfield 46, 3), (147, .iload_n 2, 1), (148, .iaload, 1), (149, .aload_n 0, 1), (150, .getfield 157, 3), (153, .isub, 1), (154, .invokevirtual 181, 3), (157, .ifCond .eq 5, 3), (160, .iconst 1, 1), (161, .ireturn, 1), (162, .iload_n 3, 1), (163, .ifCond .lt 32, 3), (166, .aload_n 0, 1), (167, .aload_n 0, 1), (168, .iload_n 3, 1), (169, .invokevirtual 178, 3), (172, .iload 5, 2), (174, .aload_n 0, 1), (175, .getfield 46, 3), (178, .iload_n 2, 1), (179, .iaload, 1), (180, .aload_n 0, 1), (181, .getfield 49, 3), (184, .iload_n 3, 1), (185, .iaload, 1), (186, .isub, 1), (187, .invokevirtual 181, 3), (190, .ifCond .eq 5, 3), (193, .iconst 1, 1), (194, .ireturn, 1), (195, .iload 4, 2), (197, .ifCond .lt 36, 3), (200, .aload_n 0, 1), (201, .iload 5, 2), (203, .aload_n 0, 1), (204, .iload 4, 2), (206, .invokevirtual 178, 3), (209, .aload_n 0, 1), (210, .getfield 46, 3), (213, .iload 4, 2), (215, .iaload, 1), (216, .aload_n 0, 1), (217, .getfield 49, 3), (220, .iload_n 2, 1), (221, .iaload, 1), (222, .isub, 1), (223, .invokevirtual 181, 3), (226, .ifCond .eq 7, 3), (229, .iconst 1, 1), (230, .goto 4, 3), (233, .iconst 0, 1), (234, .ireturn, 1)]
def am_c169 : am_Cd := [(0, .aload_n 0, 1), (1, .getfield 34, 3), (4, .aload_n 0, 1), (5, .getfield 43, 3), (8, .iload_n 1, 1), (9, .iaload, 1), (10, .iaload, 1), (11, .ireturn, 1)]
def am_c170 : am_Cd := [(0, .iload_n 3, 1), (1, .aload_n 0, 1), (2, .getfield 13, 3), (5, .bipush 10, 2), (7, .iload_n 1, 1), (8, .imul, 1), (9, .iload_n 2, 1), (10, .iadd, 1), (11, .iaload, 1), (12, .bipush 23, 2), (14, .iadd, 1), (15, .bipush 24, 2), (17, .idiv, 1), (18, .if_icmp .ge 7, 3), (21, .iconst 1, 1), (22, .goto 4, 3), (25, .iconst 0, 1), (26, .ireturn, 1)]
def am_c171 : am_Cd := [(0, .aload_n 0, 1), (1, .getfield 7, 3), (4, .aload_n 0, 1), (5, .iload_n 2, 1), (6, .invokevirtual 178, 3), (9, .iaload, 1), (10, .istore_n 3, 1), (11, .iconst 0, 1), (12, .istore 4, 2), (14, .iload 4, 2), (16, .sipush 1500, 3), (19, .if_icmp .gt 17, 3), (22, .aload_n 0, 1), (23, .getfield 106, 3), (26, .iload 4, 2), (28, .iconst 0, 1), (29, .bastore, 1), (30, .iinc 4 1, 3), (33, .goto (-19), 3), (36, .iconst 0, 1), (37, .istore 4, 2), (39, .iload 4, 2), (41, .aload_n 0, 1), (42, .getfield 154, 3), (45, .if_icmp .ge 78, 3), (48, .iload 4, 2), (50, .iload_n 2, 1), (51, .if_icmp .eq 13, 3), (54, .aload_n 0, 1), (55, .iload_n 1, 1), (56, .iload 4, 2), (58, .invokevirtual 174, 3), (61, .ifCond .eq 56, 3), (64, .aload_n 0, 1), (65, .getfield 7, 3), (68, .aload_n 0, 1), (69, .iload 4, 2), (71, .invokevirtual 178, 3), (74, .iaload, 1), (75, .iload_n 3, 1), (76, .if_icmp .eq 6, 3), (79, .goto 38, 3), (82, .aload_n 0, 1), (83, .getfield 46, 3), (86, .iload 4, 2), (88, .iaload, 1), (89, .istore 5, 2), (91, .iload 5, 2), (93, .aload_n 0, 1), (94, .getfield 49, 3), (97, .iload 4, 2), (99, .iaload, 1), (100, .if_icmp .gt 17, 3), (103, .aload_n 0, 1), (104, .getfield 106, 3), (107, .iload 5, 2), (109, .iconst 1, 1), (110, .bastore, 1), (111, .iinc 5 1, 3), (114, .goto (-23), 3), (117, .iinc 4 1, 3), (120, .goto (-81), 3), (123, .iconst 0, 1), (124, .istore 4, 2), (126, .iconst 0, 1), (127, .istore 5, 2), (129, .iload 5, 2), (131, .sipush 1500, 3), (134, .if_icmp .gt 60, 3), (137, .aload_n 0, 1), (138, .getfield 106, 3), (141, .iload 5, 2), (143, .baload, 1), (144, .ifCond .eq 6, 3), (147, .iinc 4 1, 3), (150, .iload 5, 2), (152, .sipush 180, 3), (155, .if_icmp .lt 20, 3), (158, .aload_n 0, 1), (159, .getfield 106, 3), (162, .iload 5, 2), (164, .sipush 180, 3), (167, .isub, 1), (168, .baload, 1), (169, .ifCond .eq 6, 3), (172, .iinc 4 (-1), 3), (175, .iload 4, 2), (177, .aload_n 0, 1), (178, .getfield 16, 3), (181, .iload_n 3, 1), (182, .iaload, 1), (183, .if_icmp .le 5, 3), (186, .iconst 1, 1), (187, .ireturn, 1), (188, .iinc 5 1, 3), (191, .goto (-62), 3), (194, .iconst 0, 1), (195, .ireturn, 1)]
def am_c172 : am_Cd := [(0, .aload_n 0, 1), (1, .aload_n 0, 1), (2, .getfield 43, 3), (5, .iload_n 2, 1), (6, .iaload, 1), (7, .invokevirtual 272, 3), (10, .istore_n 3, 1), (11, .iload_n 3, 1), (12, .ifCond .ge 9, 3), (15, .aload_n 0, 1), (16, .iconst (-1), 1), (17, .invokevirtual 272, 3), (20, .istore_n 3, 1), (21, .iload_n 3, 1), (22, .ifCond .ge 7, 3), (25, .iconst 1, 1), (26, .goto 11, 3), (29, .aload_n 0, 1), (30, .iload_n 3, 1), (31, .iload_n 1, 1), (32, .iload_n 2, 1), (33, .invokevirtual 275, 3), (36, .l2i, 1), (37, .ireturn, 1)]
def am_c173 : am_Cd := [(0, .iconst (-1), 1), (1, .istore_n 2, 1), (2, .iconst 0, 1), (3, .istore_n 3, 1), (4, .iload_n 3, 1), (5, .aload_n 0, 1), (6, .getfield 222, 3), (9, .if_icmp .ge 53, 3), (12, .aload_n 0, 1), (13, .getfield 71, 3), (16, .iload_n 3, 1), (17, .iaload, 1), (18, .iload_n 1, 1), (19, .if_icmp .ne 37, 3), (22, .aload_n 0, 1), (23, .getfield 74, 3), (26, .iload_n 3, 1), (27, .iaload, 1), (28, .aload_n 0, 1), (29, .getfield 157, 3), (32, .if_icmp .gt 24, 3), (35, .iload_n 2, 1), (36, .ifCond .lt 18, 3), (39, .aload_n 0, 1), (40, .getfield 74, 3), (43, .iload_n 3, 1), (44, .iaload, 1), (45, .aload_n 0, 1), (46, .getfield 74, 3), (49, .iload_n 2, 1), (50, .iaload, 1), (51, .if_icmp .lt 5, 3), (54, .iload_n 3, 1), (55, .istore_n 2, 1), (56, .iinc 3 1, 3), (59, .goto (-55), 3), (62, .iload_n 2, 1), (63, .ireturn, 1)]
def am_c174 : am_Cd := [(0, .iconst 0, 1), (1, .istore 4, 2), (3, .aload_n 0, 1), (4, .iconst 0, 1), (5, .invokevirtual 253, 3), (8, .iconst 0, 1), (9, .istore 5, 2), (11, .iload 5, 2), (13, .aload_n 0, 1), (14, .getfield 77, 3), (17, .iload_n 1, 1), (18, .iaload, 1), (19, .if_icmp .ge 291, 3), (22, .aload_n 0, 1), (23, .getfield 80, 3), (26, .iload_n 1, 1), (27, .bipush 60, 2), (29, .imul, 1), (30, .iload 5, 2), (32, .iadd, 1), (33, .baload, 1), (34, .istore 6, 2), (36, .iinc 5 1, 3), (39, .iload 6, 2), (41, .bipush 40, 2), (43, .if_icmp .ne 15, 3), (46, .iinc 4 1, 3), (49, .aload_n 0, 1), (50, .iload 4, 2), (52, .invokevirtual 253, 3), (55, .goto 252, 3), (58, .iload 6, 2), (60, .bipush 41, 2), (62, .if_icmp .ne 23, 3), (65, .iinc 4 (-1), 3), (68, .aload_n 0, 1), (69, .iload 4, 2), (71, .aload_n 0, 1), (72, .iload 4, 2), (74, .iconst 1, 1), (75, .iadd, 1), (76, .invokevirtual 257, 3), (79, .invokevirtual 260, 3), (82, .goto 225, 3), (85, .iload 6, 2), (87, .bipush 42, 2), (89, .if_icmp .eq 10, 3), (92, .iload 6, 2), (94, .bipush 47, 2), (96, .if_icmp .ne 15, 3), (99, .aload_n 0, 1), (100, .getfield 97, 3), (103, .iload 4, 2), (105, .iload 6, 2), (107, .iastore, 1), (108, .goto 199, 3), (111, .aload_n 0, 1), (112, .iload 6, 2), (114, .invokevirtual 216, 3), (117, .ifCond .eq 36, 3), (120, .aload_n 0, 1), (121, .getfield 87, 3), (124, .iload 4, 2), (126, .aload_n 0, 1), (127, .iload 4, 2), (129, .invokevirtual 249, 3), (132, .lastore, 1), (133, .aload_n 0, 1), (134, .getfield 91, 3), (137, .iload 4, 2), (139, .iload 6, 2), (141, .iastore, 1), (142, .aload_n 0, 1), (143, .getfield 97, 3), (146, .iload 4, 2), (148, .iconst 0, 1), (149, .iastore, 1), (150, .goto 157, 3), (153, .aload_n 0, 1), (154, .iload 6, 2), (156, .invokevirtual 219, 3), (159, .ifCond .eq 44, 3), (162, .aload_n 0, 1), (163, .getfield 103, 3), (166, .iload 4, 2), (168, .aload_n 0, 1), (169, .iload 4, 2), (171, .invokevirtual 249, 3), (174, .lastore, 1), (175, .aload_n 0, 1), (176, .getfield 100, 3), (179, .iload 4, 2), (181, .iload 6, 2), (183, .iastore, 1), (184, .aload_n 0, 1), (185, .getfield 91, 3), (188, .iload 4, 2), (190, .iconst 0, 1), (191, .iastore, 1), (192, .aload_n 0, 1), (193, .getfield 97, 3), (196, .iload 4, 2), (198, .iconst 0, 1), (199, .iastore, 1), (200, .goto 107, 3), (203, .aload_n 0, 1), (204, .iload 6, 2), (206, .invokevirtual 210, 3), (209, .ifCond .eq 20, 3), (212, .aload_n 0, 1), (213, .iload 4, 2), (215, .aload_n 0, 1), (216, .iload 6, 2), (218, .iload_n 2, 1), (219, .iload_n 3, 1), (220, .invokevirtual 264, 3), (223, .invokevirtual 260, 3), (226, .goto 81, 3), (229, .iload 6, 2), (231, .bipush 48, 2), (233, .isub, 1), (234, .i2l, 1), (235, .lstore 7, 2), (237, .iload 5, 2), (239, .aload_n 0, 1), (240, .getfield 77, 3), (243, .iload_n 1, 1), (244, .iaload, 1), (245, .if_icmp .ge 54, 3), (248, .aload_n 0, 1), (249, .aload_n 0, 1), (250, .getfield 80, 3), (253, .iload_n 1, 1), (254, .bipush 60, 2), (256, .imul, 1), (257, .iload 5, 2), (259, .iadd, 1), (260, .baload, 1), (261, .invokevirtual 213, 3), (264, .ifCond .eq 35, 3), (267, .ldc2_w 268, 3), (270, .lload 7, 2), (272, .lmul, 1), (273, .aload_n 0, 1), (274, .getfield 80, 3), (277, .iload_n 1, 1), (278, .bipush 60, 2), (280, .imul, 1), (281, .iload 5, 2), (283, .iadd, 1), (284, .baload, 1), (285, .i2l, 1), (286, .ladd, 1), (287, .ldc2_w 270, 3), (290, .lsub, 1), (291, .lstore 7, 2), (293, .iinc 5 1, 3), (296, .goto (-59), 3), (299, .aload_n 0, 1), (300, .iload 4, 2), (302, .lload 7, 2), (304, .invokevirtual 260, 3), (307, .goto (-296), 3), (310, .aload_n 0, 1), (311, .iconst 0, 1), (312, .invokevirtual 249, 3), (315, .lreturn, 1)]
def am_c175 : am_Cd := [(0, .aload_n 0, 1), (1, .getfield 91, 3), (4, .iload_n 1, 1), (5, .iconst 0, 1), (6, .iastore, 1), (7, .aload_n 0, 1), (8, .getfield 97, 3), (11, .iload_n 1, 1), (12, .iconst 0, 1), (13, .iastore, 1), (14, .aload_n 0, 1), (15, .getfield 100, 3), (18, .iload_n 1, 1), (19, .iconst 0, 1), (20, .iastore, 1), (21, .return_, 1)]
def am_c176 : am_Cd := [(0, .aload_n 0, 1), (1, .iload_n 1, 1), (2, .invokevirtual 249, 3), (5, .lstore_n 2, 1), (6, .aload_n 0, 1), (7, .getfield 100, 3), (10, .iload_n 1, 1), (11, .iaload, 1), (12, .ifCond .ne 5, 3), (15, .lload_n 2, 1), (16, .lreturn, 1), (17, .aload_n 0, 1), (18, .getfield 100, 3), (21, .iload_n 1, 1), (22, .iaload, 1), (23, .bipush 60, 2), (25, .if_icmp .ne 22, 3), (28, .aload_n 0, 1), (29, .getfield 103, 3), (32, .iload_n 1, 1), (33, .laload, 1), (34, .lload_n 2, 1), (35, .lcmp, 1), (36, .ifCond .ge 7, 3), (39, .iconst 1, 1), (40, .goto 53, 3), (43, .iconst 0, 1), (44, .goto 49, 3), (47, .aload_n 0, 1), (48, .getfield 100, 3), (51, .iload_n 1, 1), (52, .iaload, 1), (53, .bipush 61, 2), (55, .if_icmp .ne 22, 3), (58, .aload_n 0, 1), (59, .getfield 103, 3), (62, .iload_n 1, 1), (63, .laload, 1), (64, .lload_n 2, 1), (65, .lcmp, 1), (66, .ifCond .ne 7, 3), (69, .iconst 1, 1), (70, .goto 23, 3), (73, .iconst 0, 1), (74, .goto 19, 3), (77, .aload_n 0, 1), (78, .getfield 103, 3), (81, .iload_n 1, 1), (82, .laload, 1), (83, .lload_n 2, 1), (84, .lcmp, 1), (85, .ifCond .le 7, 3), (88, .iconst 1, 1), (89, .goto 4, 3), (92, .iconst 0, 1), (93, .istore 4, 2), (95, .iload 4, 2), (97, .ifCond .eq 7, 3), (100, .lconst 1, 1), (101, .goto 4, 3), (104, .lconst 0, 1), (105, .lreturn, 1)]
def am_c177 : am_Cd := [(0, .aload_n 0, 1), (1, .getfield 91, 3), (4, .iload_n 1, 1), (5, .iaload, 1), (6, .ifCond .ne 10, 3), (9, .aload_n 0, 1), (10, .getfield 94, 3), (13, .iload_n 1, 1), (14, .laload, 1), (15, .lreturn, 1), (16, .aload_n 0, 1), (17, .aload_n 0, 1), (18, .getfield 91, 3), (21, .iload_n 1, 1), (22, .iaload, 1), (23, .bipush 43, 2), (25, .if_icmp .ne 19, 3), (28, .aload_n 0, 1), (29, .getfield 87, 3), (32, .iload_n 1, 1), (33, .laload, 1), (34, .aload_n 0, 1), (35, .getfield 94, 3), (38, .iload_n 1, 1), (39, .laload, 1), (40, .ladd, 1), (41, .goto 16, 3), (44, .aload_n 0, 1), (45, .getfield 87, 3), (48, .iload_n 1, 1), (49, .laload, 1), (50, .aload_n 0, 1), (51, .getfield 94, 3), (54, .iload_n 1, 1), (55, .laload, 1), (56, .lsub, 1), (57, .invokevirtual 245, 3), (60, .lreturn, 1)]
def am_c178 : am_Cd := [(0, .lload_n 1, 1), (1, .ldc2_w 241, 3), (4, .lcmp, 1), (5, .ifCond .le 9, 3), (8, .ldc2_w 241, 3), (11, .goto 18, 3), (14, .lload_n 1, 1), (15, .ldc2_w 243, 3), (18, .lcmp, 1), (19, .ifCond .ge 9, 3), (22, .ldc2_w 243, 3), (25, .goto 4, 3), (28, .lload_n 1, 1), (29, .lreturn, 1)]
def am_c179 : am_Cd := [(0, .aload_n 0, 1), (1, .getfield 97, 3), (4, .iload_n 1, 1), (5, .iaload, 1), (6, .ifCond .ne 13, 3), (9, .aload_n 0, 1), (10, .getfield 94, 3), (13, .iload_n 1, 1), (14, .lload_n 2, 1), (15, .lastore, 1), (16, .goto 63, 3), (19, .aload_n 0, 1), (20, .getfield 97, 3), (23, .iload_n 1, 1), (24, .iaload, 1), (25, .bipush 42, 2), (27, .if_icmp .ne 24, 3), (30, .aload_n 0, 1), (31, .getfield 94, 3), (34, .iload_n 1, 1), (35, .aload_n 0, 1), (36, .aload_n 0, 1), (37, .getfield 94, 3), (40, .iload_n 1, 1), (41, .laload, 1), (42, .lload_n 2, 1), (43, .lmul, 1), (44, .invokevirtual 245, 3), (47, .lastore, 1), (48, .goto 31, 3), (51, .aload_n 0, 1), (52, .getfield 94, 3), (55, .iload_n 1, 1), (56, .lload_n 2, 1), (57, .lconst 0, 1), (58, .lcmp, 1), (59, .ifCond .ne 7, 3), (62, .lconst 0, 1), (63, .goto 15, 3), (66, .aload_n 0, 1), (67, .aload_n 0, 1), (68, .getfield 94, 3), (71, .iload_n 1, 1), (72, .laload, 1), (73, .lload_n 2, 1), (74, .ldiv, 1), (75, .invokevirtual 245, 3), (78, .lastore, 1), (79, .return_, 1)]
def am_c180 : am_Cd := [(0, .iload_n 1, 1), (1, .bipush 43, 2), (3, .if_icmp .eq 21, 3), (6, .iload_n 1, 1), (7, .bipush 45, 2), (9, .if_icmp .eq 15, 3), (12, .iload_n 1, 1), (13, .bipush 42, 2), (15, .if_icmp .eq 9, 3), (18, .iload_n 1, 1), (19, .bipush 47, 2), (21, .if_icmp .ne 7, 3), (24, .iconst 1, 1), (25, .goto 4, 3), (28, .iconst 0, 1), (29, .ireturn, 1)]
def am_c181 : am_Cd := [(0, .iload_n 1, 1), (1, .bipush 60, 2), (3, .if_icmp .eq 15, 3), (6, .iload_n 1, 1), (7, .bipush 61, 2), (9, .if_icmp .eq 9, 3), (12, .iload_n 1, 1), (13, .bipush 62, 2), (15, .if_icmp .ne 7, 3), (18, .iconst 1, 1), (19, .goto 4, 3), (22, .iconst 0, 1), (23, .ireturn, 1)]
def am_c182 : am_Cd := [(0, .iload_n 1, 1), (1, .bipush 116, 2), (3, .if_icmp .eq 57, 3), (6, .iload_n 1, 1), (7, .bipush 110, 2), (9, .if_icmp .eq 51, 3), (12, .iload_n 1, 1), (13, .bipush 112, 2), (15, .if_icmp .eq 45, 3), (18, .iload_n 1, 1), (19, .bipush 98, 2), (21, .if_icmp .eq 39, 3), (24, .iload_n 1, 1), (25, .bipush 100, 2), (27, .if_icmp .eq 33, 3), (30, .iload_n 1, 1), (31, .bipush 108, 2), (33, .if_icmp .eq 27, 3), (36, .iload_n 1, 1), (37, .bipush 104, 2), (39, .if_icmp .eq 21, 3), (42, .iload_n 1, 1), (43, .bipush 107, 2), (45, .if_icmp .eq 15, 3), (48, .iload_n 1, 1), (49, .bipush 121, 2), (51, .if_icmp .eq 9, 3), (54, .iload_n 1, 1), (55, .bipush 122, 2), (57, .if_icmp .ne 7, 3), (60, .iconst 1, 1), (61, .goto 4, 3), (64, .iconst 0, 1), (65, .ireturn, 1)]
def am_c183 : am_Cd := [(0, .iload_n 1, 1), (1, .bipush 116, 2), (3, .if_icmp .ne 14, 3), (6, .aload_n 0, 1), (7, .iload_n 2, 1), (8, .aload_n 0, 1), (9, .getfield 157, 3), (12, .invokevirtual 229, 3), (15, .i2l, 1), (16, .lreturn, 1), (17, .iload_n 1, 1), (18, .bipush 110, 2), (20, .if_icmp .ne 14, 3), (23, .aload_n 0, 1), (24, .iload_n 2, 1), (25, .aload_n 0, 1), (26, .getfield 157, 3), (29, .invokevirtual 232, 3), (32, .i2l, 1), (33, .lreturn, 1), (34, .iload_n 1, 1), (35, .bipush 112, 2), (37, .if_icmp .ne 11, 3), (40, .aload_n 0, 1), (41, .getfield 25, 3), (44, .iload_n 2, 1), (45, .iaload, 1), (46, .i2l, 1), (47, .lreturn, 1), (48, .iload_n 1, 1), (49, .bipush 98, 2), (51, .if_icmp .ne 20, 3), (54, .aload_n 0, 1), (55, .aload_n 0, 1), (56, .getfield 37, 3), (59, .aload_n 0, 1), (60, .getfield 43, 3), (63, .iload_n 3, 1), (64, .iaload, 1), (65, .iaload, 1), (66, .invokevirtual 235, 3), (69, .i2l, 1), (70, .lreturn, 1), (71, .iload_n 1, 1), (72, .bipush 100, 2), (74, .if_icmp .ne 20, 3), (77, .aload_n 0, 1), (78, .getfield 49, 3), (81, .iload_n 3, 1), (82, .iaload, 1), (83, .aload_n 0, 1), (84, .getfield 46, 3), (87, .iload_n 3, 1), (88, .iaload, 1), (89, .isub, 1), (90, .iconst 1, 1), (91, .iadd, 1), (92, .i2l, 1), (93, .lreturn, 1), (94, .iload_n 1, 1), (95, .bipush 108, 2), (97, .if_icmp .ne 15, 3), (100, .aload_n 0, 1), (101, .getfield 7, 3), (104, .aload_n 0, 1), (105, .iload_n 3, 1), (106, .invokevirtual 178, 3), (109, .iaload, 1), (110, .i2l, 1), (111, .lreturn, 1), (112, .iload_n 1, 1), (113, .bipush 104, 2), (115, .if_icmp .ne 11, 3), (118, .aload_n 0, 1), (119, .getfield 43, 3), (122, .iload_n 3, 1), (123, .iaload, 1), (124, .i2l, 1), (125, .lreturn, 1), (126, .iload_n 1, 1), (127, .bipush 107, 2), (129, .if_icmp .ne 6, 3), (132, .iload_n 2, 1), (133, .i2l, 1), (134, .lreturn, 1), (135, .iload_n 1, 1), (136, .bipush 121, 2), (138, .if_icmp .ne 16, 3), (141, .aload_n 0, 1), (142, .getfield 46, 3), (145, .iload_n 3, 1), (146, .iaload, 1), (147, .aload_n 0, 1), (148, .getfield 157, 3), (151, .isub, 1), (152, .i2l, 1), (153, .lreturn, 1), (154, .iconst 0, 1), (155, .istore 4, 2), (157, .iload 4, 2), (159, .aload_n 0, 1), (160, .getfield 147, 3), (163, .if_icmp .ge 40, 3), (166, .iload 4, 2), (168, .iload_n 2, 1), (169, .if_icmp .eq 28, 3), (172, .aload_n 0, 1), (173, .iload 4, 2), (175, .iload_n 2, 1), (176, .invokevirtual 238, 3), (179, .ifCond .eq 18, 3), (182, .aload_n 0, 1), (183, .iload 4, 2), (185, .aload_n 0, 1), (186, .getfield 157, 3), (189, .invokevirtual 229, 3), (192, .ifCond .ge 5, 3), (195, .lconst 1, 1), (196, .lreturn, 1), (197, .iinc 4 1, 3), (200, .goto (-43), 3), (203, .lconst 0, 1), (204, .lreturn, 1)]
def am_c184 : am_Cd := [(0, .iconst 0, 1), (1, .istore_n 3, 1), (2, .iconst 0, 1), (3, .istore 4, 2), (5, .iload 4, 2), (7, .aload_n 0, 1), (8, .getfield 154, 3), (11, .if_icmp .ge 60, 3), (14, .aload_n 0, 1), (15, .getfield 55, 3), (18, .iload 4, 2), (20, .iaload, 1), (21, .iload_n 1, 1), (22, .if_icmp .ne 43, 3), (25, .aload_n 0, 1), (26, .iconst 2, 1), (27, .iload 4, 2), (29, .imul, 1), (30, .iload_n 2, 1), (31, .invokevirtual 281, 3), (34, .ifCond .eq 31, 3), (37, .iload_n 3, 1), (38, .bipush 100, 2), (40, .aload_n 0, 1), (41, .getfield 58, 3), (44, .iconst 2, 1), (45, .iload 4, 2), (47, .imul, 1), (48, .iaload, 1), (49, .imul, 1), (50, .aload_n 0, 1), (51, .aload_n 0, 1), (52, .getfield 43, 3), (55, .iload 4, 2), (57, .iaload, 1), (58, .iload_n 2, 1), (59, .invokevirtual 284, 3), (62, .isub, 1), (63, .iadd, 1), (64, .istore_n 3, 1), (65, .iinc 4 1, 3), (68, .goto (-63), 3), (71, .iload_n 3, 1), (72, .aload_n 0, 1), (73, .iload_n 1, 1), (74, .iload_n 2, 1), (75, .invokevirtual 232, 3), (78, .iconst 1, 1), (79, .iadd, 1), (80, .idiv, 1), (81, .ireturn, 1)]
def am_c185 : am_Cd := [(0, .aload_n 0, 1), (1, .getfield 58, 3), (4, .iload_n 1, 1), (5, .iaload, 1), (6, .ifCond .eq 13, 3), (9, .aload_n 0, 1), (10, .getfield 61, 3), (13, .iload_n 1, 1), (14, .iaload, 1), (15, .iload_n 2, 1), (16, .if_icmp .le 5, 3), (19, .iconst 0, 1), (20, .ireturn, 1), (21, .iload_n 1, 1), (22, .iconst 2, 1), (23, .irem, 1), (24, .ifCond .ne 9, 3), (27, .iload_n 1, 1), (28, .iconst 1, 1), (29, .iadd, 1), (30, .goto 6, 3), (33, .iload_n 1, 1), (34, .iconst 1, 1), (35, .isub, 1), (36, .istore_n 3, 1), (37, .aload_n 0, 1), (38, .getfield 58, 3), (41, .iload_n 3, 1), (42, .iaload, 1), (43, .ifCond .le 13, 3), (46, .aload_n 0, 1), (47, .getfield 61, 3), (50, .iload_n 3, 1), (51, .iaload, 1), (52, .iload_n 2, 1), (53, .if_icmp .le 18, 3), (56, .iload_n 2, 1), (57, .aload_n 0, 1), (58, .getfield 49, 3), (61, .iload_n 1, 1), (62, .iconst 2, 1), (63, .idiv, 1), (64, .iaload, 1), (65, .bipush 14, 2), (67, .iadd, 1), (68, .if_icmp .le 7, 3), (71, .iconst 1, 1), (72, .goto 4, 3), (75, .iconst 0, 1), (76, .ireturn, 1)]
def am_c186 : am_Cd := [(0, .iconst 0, 1), (1, .istore_n 3, 1), (2, .iconst 0, 1), (3, .istore 4, 2), (5, .iconst 0, 1), (6, .istore 5, 2), (8, .iload 5, 2), (10, .aload_n 0, 1), (11, .getfield 154, 3), (14, .if_icmp .ge 52, 3), (17, .aload_n 0, 1), (18, .getfield 43, 3), (21, .iload 5, 2), (23, .iaload, 1), (24, .iload_n 1, 1), (25, .if_icmp .ne 35, 3), (28, .aload_n 0, 1), (29, .iconst 2, 1), (30, .iload 5, 2), (32, .imul, 1), (33, .iload_n 2, 1), (34, .invokevirtual 281, 3), (37, .ifCond .ne 6, 3), (40, .goto 20, 3), (43, .iinc 3 1, 3), (46, .iload 4, 2), (48, .aload_n 0, 1), (49, .getfield 58, 3), (52, .iconst 2, 1), (53, .iload 5, 2), (55, .imul, 1), (56, .iaload, 1), (57, .iadd, 1), (58, .istore 4, 2), (60, .iinc 5 1, 3), (63, .goto (-55), 3), (66, .iload_n 3, 1), (67, .ifCond .ne 9, 3), (70, .sipush 300, 3), (73, .goto 10, 3), (76, .bipush 100, 2), (78, .iload 4, 2), (80, .imul, 1), (81, .iload_n 3, 1), (82, .idiv, 1), (83, .ireturn, 1)]
def am_c187 : am_Cd := [(0, .iconst 0, 1), (1, .istore_n 3, 1), (2, .iconst 0, 1), (3, .istore 4, 2), (5, .iload 4, 2), (7, .aload_n 0, 1), (8, .getfield 154, 3), (11, .if_icmp .ge 35, 3), (14, .aload_n 0, 1), (15, .getfield 55, 3), (18, .iload 4, 2), (20, .iaload, 1), (21, .iload_n 1, 1), (22, .if_icmp .ne 18, 3), (25, .aload_n 0, 1), (26, .iconst 2, 1), (27, .iload 4, 2), (29, .imul, 1), (30, .iload_n 2, 1), (31, .invokevirtual 281, 3), (34, .ifCond .eq 6, 3), (37, .iinc 3 1, 3), (40, .iinc 4 1, 3), (43, .goto (-38), 3), (46, .iload_n 3, 1), (47, .ireturn, 1)]
def am_c188 : am_Cd := [(0, .iconst 0, 1), (1, .istore_n 2, 1), (2, .iconst 0, 1), (3, .istore_n 3, 1), (4, .iload_n 3, 1), (5, .bipush 8, 2), (7, .if_icmp .ge 17, 3), (10, .iload_n 2, 1), (11, .iload_n 1, 1), (12, .iload_n 3, 1), (13, .ishr, 1), (14, .iconst 1, 1), (15, .iand, 1), (16, .iadd, 1), (17, .istore_n 2, 1), (18, .iinc 3 1, 3), (21, .goto (-17), 3), (24, .iload_n 2, 1), (25, .ireturn, 1)]
def am_c189 : am_Cd := [(0, .iconst 0, 1), (1, .istore_n 3, 1), (2, .aload_n 0, 1), (3, .getfield 28, 3), (6, .iload_n 1, 1), (7, .iaload, 1), (8, .istore 4, 2), (10, .aload_n 0, 1), (11, .getfield 28, 3), (14, .iload_n 2, 1), (15, .iaload, 1), (16, .istore 5, 2), (18, .iconst 0, 1), (19, .istore 6, 2), (21, .iload 6, 2), (23, .iconst 5, 1), (24, .if_icmp .ge 39, 3), (27, .iload 4, 2), (29, .bipush 10, 2), (31, .irem, 1), (32, .iload 5, 2), (34, .bipush 10, 2), (36, .irem, 1), (37, .if_icmp .eq 6, 3), (40, .iinc 3 1, 3), (43, .iload 4, 2), (45, .bipush 10, 2), (47, .idiv, 1), (48, .istore 4, 2), (50, .iload 5, 2), (52, .bipush 10, 2), (54, .idiv, 1), (55, .istore 5, 2), (57, .iinc 6 1, 3), (60, .goto (-39), 3), (63, .iload_n 3, 1), (64, .iconst 2, 1), (65, .if_icmp .ge 7, 3), (68, .iconst 1, 1), (69, .goto 4, 3), (72, .iconst 0, 1), (73, .ireturn, 1)]
def am_c190 : am_Cd := [(0, .iload_n 1, 1), (1, .bipush 48, 2), (3, .if_icmp .lt 13, 3), (6, .iload_n 1, 1), (7, .bipush 57, 2), (9, .if_icmp .gt 7, 3), (12, .iconst 1, 1), (13, .goto 4, 3), (16, .iconst 0, 1), (17, .ireturn, 1)]
def am_c191 : am_Cd := [(0, .aload_n 0, 1), (1, .iload_n 1, 1), (2, .invokevirtual 198, 3), (5, .ifCond .eq 11, 3), (8, .aload_n 0, 1), (9, .iload_n 2, 1), (10, .invokevirtual 168, 3), (13, .ifCond .ne 9, 3), (16, .aload_n 0, 1), (17, .iconst (-1), 1), (18, .invokevirtual 143, 3), (21, .ireturn, 1), (22, .aload_n 0, 1), (23, .iload_n 1, 1), (24, .iload_n 2, 1), (25, .invokevirtual 201, 3), (28, .ifCond .eq 10, 3), (31, .aload_n 0, 1), (32, .bipush (-3), 2), (34, .invokevirtual 143, 3), (37, .ireturn, 1), (38, .aload_n 0, 1), (39, .getfield 52, 3), (42, .iload_n 2, 1), (43, .iconst 1, 1), (44, .iastore, 1), (45, .aload_n 0, 1), (46, .getfield 55, 3), (49, .iload_n 2, 1), (50, .iload_n 1, 1), (51, .iastore, 1), (52, .iconst 1, 1), (53, .ireturn, 1)]
def am_c192 : am_Cd := [(0, .aload_n 0, 1), (1, .iload_n 1, 1), (2, .invokevirtual 168, 3), (5, .ifCond .ne 9, 3), (8, .aload_n 0, 1), (9, .iconst (-1), 1), (10, .invokevirtual 143, 3), (13, .ireturn, 1), (14, .aload_n 0, 1), (15, .iload_n 1, 1), (16, .invokevirtual 171, 3), (19, .ifCond .ne 13, 3), (22, .aload_n 0, 1), (23, .getfield 52, 3), (26, .iload_n 1, 1), (27, .iaload, 1), (28, .iconst 2, 1), (29, .if_icmp .ne 10, 3), (32, .aload_n 0, 1), (33, .bipush (-3), 2), (35, .invokevirtual 143, 3), (38, .ireturn, 1), (39, .aload_n 0, 1), (40, .getfield 52, 3), (43, .iload_n 1, 1), (44, .iconst 2, 1), (45, .iastore, 1), (46, .aload_n 0, 1), (47, .getfield 55, 3), (50, .iload_n 1, 1), (51, .iaload, 1), (52, .ireturn, 1)]
def am_c193 : am_Cd := [(0, .aload_n 0, 1), (1, .iload_n 1, 1), (2, .invokevirtual 198, 3), (5, .ifCond .ne 9, 3), (8, .aload_n 0, 1), (9, .iconst (-1), 1), (10, .invokevirtual 143, 3), (13, .ireturn, 1), (14, .iload_n 2, 1), (15, .ifCond .ge 10, 3), (18, .aload_n 0, 1), (19, .bipush (-4), 2), (21, .invokevirtual 143, 3), (24, .ireturn, 1), (25, .iload_n 2, 1), (26, .sipush 1500, 3), (29, .if_icmp .le 10, 3), (32, .aload_n 0, 1), (33, .bipush (-6), 2), (35, .invokevirtual 143, 3), (38, .ireturn, 1), (39, .aload_n 0, 1), (40, .iload_n 1, 1), (41, .iload_n 2, 1), (42, .invokevirtual 204, 3), (45, .ireturn, 1)]
def am_c194 : am_Cd := [(0, .iconst (-1), 1), (1, .istore_n 3, 1), (2, .iconst 0, 1), (3, .istore 4, 2), (5, .iload 4, 2), (7, .aload_n 0, 1), (8, .getfield 154, 3), (11, .if_icmp .ge 53, 3), (14, .aload_n 0, 1), (15, .iload_n 1, 1), (16, .iload 4, 2), (18, .invokevirtual 174, 3), (21, .ifCond .eq 37, 3), (24, .aload_n 0, 1), (25, .getfield 49, 3), (28, .iload 4, 2), (30, .iaload, 1), (31, .iload_n 2, 1), (32, .if_icmp .ge 26, 3), (35, .iload_n 3, 1), (36, .ifCond .lt 19, 3), (39, .aload_n 0, 1), (40, .getfield 49, 3), (43, .iload 4, 2), (45, .iaload, 1), (46, .aload_n 0, 1), (47, .getfield 49, 3), (50, .iload_n 3, 1), (51, .iaload, 1), (52, .if_icmp .le 6, 3), (55, .iload 4, 2), (57, .istore_n 3, 1), (58, .iinc 4 1, 3), (61, .goto (-56), 3), (64, .iload_n 3, 1), (65, .ifCond .ge 12, 3), (68, .aload_n 0, 1), (69, .getfield 19, 3), (72, .iload_n 1, 1), (73, .iaload, 1), (74, .goto 8, 3), (77, .aload_n 0, 1), (78, .iload_n 3, 1), (79, .invokevirtual 178, 3), (82, .ireturn, 1)]
def am_c195 : am_Cd := [(0, .iload_n 1, 1), (1, .iconst 1, 1), (2, .if_icmp .ge 10, 3), (5, .aload_n 0, 1), (6, .bipush (-4), 2), (8, .invokevirtual 143, 3), (11, .ireturn, 1), (12, .iload_n 1, 1), (13, .bipush 8, 2), (15, .if_icmp .gt 14, 3), (18, .aload_n 0, 1), (19, .getfield 207, 3), (22, .iload_n 1, 1), (23, .iadd, 1), (24, .bipush 60, 2), (26, .if_icmp .le 10, 3), (29, .aload_n 0, 1), (30, .bipush (-6), 2), (32, .invokevirtual 143, 3), (35, .ireturn, 1), (36, .iconst 0, 1), (37, .istore 4, 2), (39, .iload 4, 2), (41, .iload_n 1, 1), (42, .if_icmp .ge 37, 3), (45, .aload_n 0, 1), (46, .getfield 67, 3), (49, .aload_n 0, 1), (50, .getfield 207, 3), (53, .lload_n 2, 1), (54, .bipush 8, 2), (56, .iload 4, 2), (58, .imul, 1), (59, .lshr, 1), (60, .l2i, 1), (61, .i2b, 1), (62, .bastore, 1), (63, .aload_n 0, 1), (64, .dup, 1), (65, .getfield 207, 3), (68, .iconst 1, 1), (69, .iadd, 1), (70, .putfield 207, 3), (73, .iinc 4 1, 3), (76, .goto (-37), 3), (79, .aload_n 0, 1), (80, .getfield 207, 3), (83, .ireturn, 1)]
def am_c196 : am_Cd := [(0, .iload_n 1, 1), (1, .iconst (-1), 1), (2, .if_icmp .eq 17, 3), (5, .aload_n 0, 1), (6, .iload_n 1, 1), (7, .invokevirtual 165, 3), (10, .ifCond .ne 9, 3), (13, .aload_n 0, 1), (14, .iconst (-1), 1), (15, .invokevirtual 143, 3), (18, .ireturn, 1), (19, .iload_n 2, 1), (20, .aload_n 0, 1), (21, .getfield 157, 3), (24, .if_icmp .ge 10, 3), (27, .aload_n 0, 1), (28, .bipush (-4), 2), (30, .invokevirtual 143, 3), (33, .ireturn, 1), (34, .iload_n 2, 1), (35, .sipush 1500, 3), (38, .if_icmp .gt 12, 3), (41, .aload_n 0, 1), (42, .getfield 222, 3), (45, .bipush 30, 2), (47, .if_icmp .ne 10, 3), (50, .aload_n 0, 1), (51, .bipush (-6), 2), (53, .invokevirtual 143, 3), (56, .ireturn, 1), (57, .aload_n 0, 1), (58, .invokevirtual 225, 3), (61, .istore_n 3, 1), (62, .aload_n 0, 1), (63, .getfield 207, 3), (66, .istore 4, 2), (68, .aload_n 0, 1), (69, .iconst 0, 1), (70, .putfield 207, 3), (73, .iload_n 3, 1), (74, .ifCond .lt 8, 3), (77, .bipush (-20), 2), (79, .iload_n 3, 1), (80, .isub, 1), (81, .ireturn, 1), (82, .iconst 0, 1), (83, .istore 5, 2), (85, .iload 5, 2), (87, .iload 4, 2), (89, .if_icmp .ge 31, 3), (92, .aload_n 0, 1), (93, .getfield 80, 3), (96, .aload_n 0, 1), (97, .getfield 222, 3), (100, .bipush 60, 2), (102, .imul, 1), (103, .iload 5, 2), (105, .iadd, 1), (106, .aload_n 0, 1), (107, .getfield 67, 3), (110, .iload 5, 2), (112, .baload, 1), (113, .bastore, 1), (114, .iinc 5 1, 3), (117, .goto (-32), 3), (120, .aload_n 0, 1), (121, .getfield 71, 3), (124, .aload_n 0, 1), (125, .getfield 222, 3), (128, .iload_n 1, 1), (129, .iastore, 1), (130, .aload_n 0, 1), (131, .getfield 74, 3), (134, .aload_n 0, 1), (135, .getfield 222, 3), (138, .iload_n 2, 1), (139, .iastore, 1), (140, .aload_n 0, 1), (141, .getfield 77, 3), (144, .aload_n 0, 1), (145, .getfield 222, 3), (148, .iload 4, 2), (150, .iastore, 1), (151, .aload_n 0, 1), (152, .dup, 1), (153, .getfield 222, 3), (156, .iconst 1, 1), (157, .iadd, 1), (158, .putfield 222, 3), (161, .aload_n 0, 1), (162, .getfield 222, 3), (165, .ireturn, 1)]
def am_c197 : am_Cd := [(0, .iconst 0, 1), (1, .istore_n 1, 1), (2, .iconst 0, 1), (3, .istore_n 2, 1), (4, .iconst 0, 1), (5, .istore_n 3, 1), (6, .iload_n 3, 1), (7, .aload_n 0, 1), (8, .getfield 207, 3), (11, .if_icmp .ge 209, 3), (14, .aload_n 0, 1), (15, .getfield 67, 3), (18, .iload_n 3, 1), (19, .baload, 1), (20, .istore 4, 2), (22, .iload_n 1, 1), (23, .ifCond .ne 33, 3), (26, .iload 4, 2), (28, .bipush 40, 2), (30, .if_icmp .ne 26, 3), (33, .iload_n 2, 1), (34, .iconst 5, 1), (35, .if_icmp .ne 5, 3), (38, .iload_n 3, 1), (39, .ireturn, 1), (40, .iinc 2 1, 3), (43, .aload_n 0, 1), (44, .getfield 83, 3), (47, .iload_n 2, 1), (48, .iconst 0, 1), (49, .bastore, 1), (50, .iinc 3 1, 3), (53, .goto 164, 3), (56, .iload_n 1, 1), (57, .ifCond .ne 84, 3), (60, .aload_n 0, 1), (61, .iload 4, 2), (63, .invokevirtual 210, 3), (66, .ifCond .eq 7, 3), (69, .iconst 1, 1), (70, .goto 4, 3), (73, .iconst 0, 1), (74, .istore 5, 2), (76, .aload_n 0, 1), (77, .iload 4, 2), (79, .invokevirtual 210, 3), (82, .ifCond .ne 42, 3), (85, .iload 5, 2), (87, .iconst 5, 1), (88, .if_icmp .ge 36, 3), (91, .iload_n 3, 1), (92, .iload 5, 2), (94, .iadd, 1), (95, .aload_n 0, 1), (96, .getfield 207, 3), (99, .if_icmp .ge 25, 3), (102, .aload_n 0, 1), (103, .aload_n 0, 1), (104, .getfield 67, 3), (107, .iload_n 3, 1), (108, .iload 5, 2), (110, .iadd, 1), (111, .baload, 1), (112, .invokevirtual 213, 3), (115, .ifCond .eq 9, 3), (118, .iinc 5 1, 3), (121, .goto (-45), 3), (124, .iload 5, 2), (126, .ifCond .ne 5, 3), (129, .iload_n 3, 1), (130, .ireturn, 1), (131, .iload_n 3, 1), (132, .iload 5, 2), (134, .iadd, 1), (135, .istore_n 3, 1), (136, .iconst 1, 1), (137, .istore_n 1, 1), (138, .goto 79, 3), (141, .aload_n 0, 1), (142, .iload 4, 2), (144, .invokevirtual 216, 3), (147, .ifCond .eq 11, 3), (150, .iconst 0, 1), (151, .istore_n 1, 1), (152, .iinc 3 1, 3), (155, .goto 62, 3), (158, .aload_n 0, 1), (159, .iload 4, 2), (161, .invokevirtual 219, 3), (164, .ifCond .eq 31, 3), (167, .iload_n 2, 1), (168, .ifCond .le 27, 3), (171, .aload_n 0, 1), (172, .getfield 83, 3), (175, .iload_n 2, 1), (176, .baload, 1), (177, .ifCond .ne 18, 3), (180, .aload_n 0, 1), (181, .getfield 83, 3), (184, .iload_n 2, 1), (185, .iconst 1, 1), (186, .bastore, 1), (187, .iconst 0, 1), (188, .istore_n 1, 1), (189, .iinc 3 1, 3), (192, .goto 25, 3), (195, .iload 4, 2), (197, .bipush 41, 2), (199, .if_icmp .ne 16, 3), (202, .iload_n 2, 1), (203, .ifCond .le 12, 3), (206, .iinc 2 (-1), 3), (209, .iinc 3 1, 3), (212, .goto 5, 3), (215, .iload_n 3, 1), (216, .ireturn, 1), (217, .goto (-211), 3), (220, .iload_n 2, 1), (221, .ifCond .gt 7, 3), (224, .iload_n 1, 1), (225, .ifCond .ne 10, 3), (228, .aload_n 0, 1), (229, .getfield 207, 3), (232, .goto 4, 3), (235, .iconst (-1), 1), (236, .ireturn, 1)]
def am_c198 : am_Cd := [(0, .aload_n 0, 1), (1, .iload_n 1, 1), (2, .invokevirtual 198, 3), (5, .ifCond .eq 11, 3), (8, .aload_n 0, 1), (9, .iload_n 2, 1), (10, .invokevirtual 168, 3), (13, .ifCond .ne 9, 3), (16, .aload_n 0, 1), (17, .iconst (-1), 1), (18, .invokevirtual 278, 3), (21, .ireturn, 1), (22, .aload_n 0, 1), (23, .iload_n 1, 1), (24, .iload_n 2, 1), (25, .invokevirtual 194, 3), (28, .ireturn, 1)]
def am_c199 : am_Cd := [(0, .ldc 142, 2), (2, .aload_n 0, 1), (3, .iload_n 1, 1), (4, .invokevirtual 143, 3), (7, .isub, 1), (8, .ireturn, 1)]
def am_c200 : am_Cd := [(0, .aload_n 0, 1), (1, .iload_n 1, 1), (2, .invokevirtual 168, 3), (5, .ifCond .ne 9, 3), (8, .aload_n 0, 1), (9, .iconst (-1), 1), (10, .invokevirtual 143, 3), (13, .ireturn, 1), (14, .iload_n 2, 1), (15, .ifCond .eq 9, 3), (18, .iconst 2, 1), (19, .iload_n 1, 1), (20, .imul, 1), (21, .goto 8, 3), (24, .iconst 2, 1), (25, .iload_n 1, 1), (26, .imul, 1), (27, .iconst 1, 1), (28, .iadd, 1), (29, .istore 4, 2), (31, .aload_n 0, 1), (32, .getfield 52, 3), (35, .iload_n 1, 1), (36, .iaload, 1), (37, .iconst 1, 1), (38, .if_icmp .ne 37, 3), (41, .aload_n 0, 1), (42, .iload_n 1, 1), (43, .invokevirtual 171, 3), (46, .ifCond .eq 29, 3), (49, .aload_n 0, 1), (50, .getfield 58, 3), (53, .iload 4, 2), (55, .iaload, 1), (56, .ifCond .gt 19, 3), (59, .aload_n 0, 1), (60, .getfield 157, 3), (63, .aload_n 0, 1), (64, .getfield 49, 3), (67, .iload_n 1, 1), (68, .iaload, 1), (69, .bipush 30, 2), (71, .iadd, 1), (72, .if_icmp .le 10, 3), (75, .aload_n 0, 1), (76, .bipush (-3), 2), (78, .invokevirtual 143, 3), (81, .ireturn, 1), (82, .iload_n 3, 1), (83, .iconst 1, 1), (84, .if_icmp .ge 10, 3), (87, .aload_n 0, 1), (88, .bipush (-4), 2), (90, .invokevirtual 143, 3), (93, .ireturn, 1), (94, .iload_n 3, 1), (95, .iconst 5, 1), (96, .if_icmp .le 10, 3), (99, .aload_n 0, 1), (100, .bipush (-6), 2), (102, .invokevirtual 143, 3), (105, .ireturn, 1), (106, .aload_n 0, 1), (107, .getfield 58, 3), (110, .iload 4, 2), (112, .iload_n 3, 1), (113, .iastore, 1), (114, .aload_n 0, 1), (115, .getfield 61, 3), (118, .iload 4, 2), (120, .aload_n 0, 1), (121, .getfield 157, 3), (124, .iastore, 1), (125, .aload_n 0, 1), (126, .iload 4, 2), (128, .aload_n 0, 1), (129, .getfield 157, 3), (132, .invokevirtual 281, 3), (135, .ifCond .eq 7, 3), (138, .iconst 1, 1), (139, .goto 4, 3), (142, .iconst 0, 1), (143, .ireturn, 1)]
def am_c201 : am_Cd := [(0, .aload_n 0, 1), (1, .iload_n 1, 1), (2, .invokevirtual 165, 3), (5, .ifCond .ne 9, 3), (8, .aload_n 0, 1), (9, .iconst (-1), 1), (10, .invokevirtual 143, 3), (13, .ireturn, 1), (14, .iload_n 2, 1), (15, .ifCond .ge 10, 3), (18, .aload_n 0, 1), (19, .bipush (-4), 2), (21, .invokevirtual 143, 3), (24, .ireturn, 1), (25, .iload_n 2, 1), (26, .aload_n 0, 1), (27, .getfield 157, 3), (30, .if_icmp .le 10, 3), (33, .aload_n 0, 1), (34, .bipush (-6), 2), (36, .invokevirtual 143, 3), (39, .ireturn, 1), (40, .aload_n 0, 1), (41, .iload_n 1, 1), (42, .iload_n 2, 1), (43, .invokevirtual 284, 3), (46, .ireturn, 1)]
def am_c202 : am_Cd := [(0, .aload_n 0, 1), (1, .iload_n 1, 1), (2, .invokevirtual 198, 3), (5, .ifCond .ne 9, 3), (8, .aload_n 0, 1), (9, .iconst (-1), 1), (10, .invokevirtual 278, 3), (13, .ireturn, 1), (14, .iload_n 2, 1), (15, .ifCond .ge 10, 3), (18, .aload_n 0, 1), (19, .bipush (-4), 2), (21, .invokevirtual 278, 3), (24, .ireturn, 1), (25, .iload_n 2, 1), (26, .aload_n 0, 1), (27, .getfield 157, 3), (30, .if_icmp .le 10, 3), (33, .aload_n 0, 1), (34, .bipush (-6), 2), (36, .invokevirtual 278, 3), (39, .ireturn, 1), (40, .aload_n 0, 1), (41, .iload_n 1, 1), (42, .iload_n 2, 1), (43, .invokevirtual 229, 3), (46, .ireturn, 1)]
def am_c203 : am_Cd := [(0, .aload_n 0, 1), (1, .iload_n 1, 1), (2, .invokevirtual 198, 3), (5, .ifCond .ne 9, 3), (8, .aload_n 0, 1), (9, .iconst (-1), 1), (10, .invokevirtual 278, 3), (13, .ireturn, 1), (14, .iload_n 2, 1), (15, .ifCond .lt 8, 3), (18, .iload_n 2, 1), (19, .iconst 1, 1), (20, .if_icmp .le 10, 3), (23, .aload_n 0, 1), (24, .bipush (-2), 2), (26, .invokevirtual 278, 3), (29, .ireturn, 1), (30, .sipush 400, 3), (33, .aload_n 0, 1), (34, .iload_n 1, 1), (35, .aload_n 0, 1), (36, .getfield 157, 3), (39, .invokevirtual 232, 3), (42, .iconst 1, 1), (43, .iadd, 1), (44, .idiv, 1), (45, .istore_n 3, 1), (46, .iload_n 2, 1), (47, .ifCond .ne 17, 3), (50, .aload_n 0, 1), (51, .iload_n 1, 1), (52, .aload_n 0, 1), (53, .getfield 157, 3), (56, .invokevirtual 229, 3), (59, .iload_n 3, 1), (60, .isub, 1), (61, .goto 14, 3), (64, .aload_n 0, 1), (65, .iload_n 1, 1), (66, .aload_n 0, 1), (67, .getfield 157, 3), (70, .invokevirtual 229, 3), (73, .iload_n 3, 1), (74, .iadd, 1), (75, .ireturn, 1)]
def am_c204 : am_Cd := [(0, .aload_n 0, 1), (1, .iload_n 1, 1), (2, .invokevirtual 165, 3), (5, .ifCond .ne 9, 3), (8, .aload_n 0, 1), (9, .iconst (-1), 1), (10, .invokevirtual 143, 3), (13, .ireturn, 1), (14, .iload_n 2, 1), (15, .ifCond .ge 10, 3), (18, .aload_n 0, 1), (19, .bipush (-4), 2), (21, .invokevirtual 143, 3), (24, .ireturn, 1), (25, .iload_n 2, 1), (26, .aload_n 0, 1), (27, .getfield 157, 3), (30, .if_icmp .le 10, 3), (33, .aload_n 0, 1), (34, .bipush (-6), 2), (36, .invokevirtual 143, 3), (39, .ireturn, 1), (40, .iconst 0, 1), (41, .istore_n 3, 1), (42, .iconst 0, 1), (43, .istore 4, 2), (45, .iconst 0, 1), (46, .istore 5, 2), (48, .iload 5, 2), (50, .aload_n 0, 1), (51, .getfield 154, 3), (54, .if_icmp .ge 56, 3), (57, .aload_n 0, 1), (58, .getfield 43, 3), (61, .iload 5, 2), (63, .iaload, 1), (64, .iload_n 1, 1), (65, .if_icmp .ne 39, 3), (68, .aload_n 0, 1), (69, .iconst 2, 1), (70, .iload 5, 2), (72, .imul, 1), (73, .iconst 1, 1), (74, .iadd, 1), (75, .iload_n 2, 1), (76, .invokevirtual 281, 3), (79, .ifCond .ne 6, 3), (82, .goto 22, 3), (85, .iinc 3 1, 3), (88, .iload 4, 2), (90, .aload_n 0, 1), (91, .getfield 58, 3), (94, .iconst 2, 1), (95, .iload 5, 2), (97, .imul, 1), (98, .iconst 1, 1), (99, .iadd, 1), (100, .iaload, 1), (101, .iadd, 1), (102, .istore 4, 2), (104, .iinc 5 1, 3), (107, .goto (-59), 3), (110, .iload_n 3, 1), (111, .ifCond .ne 8, 3), (114, .bipush (-9), 2), (116, .goto 10, 3), (119, .bipush 100, 2), (121, .iload 4, 2), (123, .imul, 1), (124, .iload_n 3, 1), (125, .idiv, 1), (126, .ireturn, 1)]
def am_c205 : am_Cd := [(0, .iload_n 1, 1), (1, .iconst (-1), 1), (2, .if_icmp .ge 10, 3), (5, .aload_n 0, 1), (6, .bipush (-4), 2), (8, .invokevirtual 143, 3), (11, .ireturn, 1), (12, .iload_n 1, 1), (13, .bipush 99, 2), (15, .if_icmp .gt 12, 3), (18, .aload_n 0, 1), (19, .getfield 287, 3), (22, .bipush 12, 2), (24, .if_icmp .ne 10, 3), (27, .aload_n 0, 1), (28, .bipush (-6), 2), (30, .invokevirtual 143, 3), (33, .ireturn, 1), (34, .aload_n 0, 1), (35, .getfield 109, 3), (38, .aload_n 0, 1), (39, .getfield 287, 3), (42, .iload_n 1, 1), (43, .iastore, 1), (44, .aload_n 0, 1), (45, .dup, 1), (46, .getfield 287, 3), (49, .iconst 1, 1), (50, .iadd, 1), (51, .putfield 287, 3), (54, .aload_n 0, 1), (55, .getfield 287, 3), (58, .ireturn, 1)]
def am_c206 : am_Cd := [(0, .aload_n 0, 1), (1, .getfield 287, 3), (4, .istore_n 1, 1), (5, .aload_n 0, 1), (6, .iconst 0, 1), (7, .putfield 287, 3), (10, .iload_n 1, 1), (11, .ireturn, 1)]
def am_c207 : am_Cd := [(0, .aload_n 0, 1), (1, .iload_n 1, 1), (2, .invokevirtual 198, 3), (5, .ifCond .eq 10, 3), (8, .aload_n 0, 1), (9, .invokevirtual 290, 3), (12, .ifCond .ne 9, 3), (15, .aload_n 0, 1), (16, .iconst (-1), 1), (17, .invokevirtual 143, 3), (20, .ireturn, 1), (21, .iload_n 2, 1), (22, .ifCond .lt 8, 3), (25, .iload_n 2, 1), (26, .iconst 1, 1), (27, .if_icmp .le 10, 3), (30, .aload_n 0, 1), (31, .bipush (-2), 2), (33, .invokevirtual 143, 3), (36, .ireturn, 1), (37, .aload_n 0, 1), (38, .invokevirtual 294, 3), (41, .ifCond .ne 10, 3), (44, .aload_n 0, 1), (45, .bipush (-3), 2), (47, .invokevirtual 143, 3), (50, .ireturn, 1), (51, .aload_n 0, 1), (52, .getfield 287, 3), (55, .bipush 10, 2), (57, .if_icmp .le 10, 3), (60, .aload_n 0, 1), (61, .bipush (-6), 2), (63, .invokevirtual 143, 3), (66, .ireturn, 1), (67, .aload_n 0, 1), (68, .invokevirtual 297, 3), (71, .iconst 0, 1), (72, .istore_n 3, 1), (73, .iconst 0, 1), (74, .istore 4, 2), (76, .iconst 1, 1), (77, .istore 5, 2), (79, .iload 5, 2), (81, .iconst 1, 1), (82, .aload_n 0, 1), (83, .getfield 287, 3), (86, .ishl, 1), (87, .if_icmp .ge 121, 3), (90, .iconst 0, 1), (91, .istore 6, 2), (93, .iconst 0, 1), (94, .istore 7, 2), (96, .iload 7, 2), (98, .aload_n 0, 1), (99, .getfield 287, 3), (102, .if_icmp .ge 52, 3), (105, .iload 5, 2), (107, .iload 7, 2), (109, .ishr, 1), (110, .iconst 1, 1), (111, .iand, 1), (112, .iconst 1, 1), (113, .if_icmp .ne 35, 3), (116, .iload 6, 2), (118, .aload_n 0, 1), (119, .getfield 49, 3), (122, .aload_n 0, 1), (123, .getfield 109, 3), (126, .iload 7, 2), (128, .iaload, 1), (129, .iaload, 1), (130, .aload_n 0, 1), (131, .getfield 46, 3), (134, .aload_n 0, 1), (135, .getfield 109, 3), (138, .iload 7, 2), (140, .iaload, 1), (141, .iaload, 1), (142, .isub, 1), (143, .iconst 1, 1), (144, .iadd, 1), (145, .iadd, 1), (146, .istore 6, 2), (148, .iinc 7 1, 3), (151, .goto (-55), 3), (154, .iload 6, 2), (156, .iload 4, 2), (158, .if_icmp .lt 44, 3), (161, .iload 6, 2), (163, .iload 4, 2), (165, .if_icmp .ne 17, 3), (168, .aload_n 0, 1), (169, .iload 5, 2), (171, .invokevirtual 300, 3), (174, .aload_n 0, 1), (175, .iload_n 3, 1), (176, .invokevirtual 300, 3), (179, .if_icmp .ge 23, 3), (182, .aload_n 0, 1), (183, .iload_n 1, 1), (184, .iload 5, 2), (186, .invokevirtual 303, 3), (189, .ifCond .ne 6, 3), (192, .goto 10, 3), (195, .iload 5, 2), (197, .istore_n 3, 1), (198, .iload 6, 2), (200, .istore 4, 2), (202, .iinc 5 1, 3), (205, .goto (-126), 3), (208, .iload_n 2, 1), (209, .ifCond .ne 8, 3), (212, .iload 4, 2), (214, .goto 4, 3), (217, .iload_n 3, 1), (218, .ireturn, 1)]
def am_c208 : am_Cd := [(0, .iconst 0, 1), (1, .istore_n 1, 1), (2, .iload_n 1, 1), (3, .aload_n 0, 1), (4, .getfield 287, 3), (7, .if_icmp .ge 24, 3), (10, .aload_n 0, 1), (11, .aload_n 0, 1), (12, .getfield 109, 3), (15, .iload_n 1, 1), (16, .iaload, 1), (17, .invokevirtual 168, 3), (20, .ifCond .ne 5, 3), (23, .iconst 0, 1), (24, .ireturn, 1), (25, .iinc 1 1, 3), (28, .goto (-26), 3), (31, .iconst 1, 1), (32, .ireturn, 1)]
def am_c209 : am_Cd := [(0, .iconst 0, 1), (1, .istore_n 1, 1), (2, .iload_n 1, 1), (3, .aload_n 0, 1), (4, .getfield 287, 3), (7, .if_icmp .ge 55, 3), (10, .aload_n 0, 1), (11, .getfield 52, 3), (14, .aload_n 0, 1), (15, .getfield 109, 3), (18, .iload_n 1, 1), (19, .iaload, 1), (20, .iaload, 1), (21, .ifCond .eq 5, 3), (24, .iconst 0, 1), (25, .ireturn, 1), (26, .iconst 0, 1), (27, .istore_n 2, 1), (28, .iload_n 2, 1), (29, .iload_n 1, 1), (30, .if_icmp .ge 26, 3), (33, .aload_n 0, 1), (34, .getfield 109, 3), (37, .iload_n 2, 1), (38, .iaload, 1), (39, .aload_n 0, 1), (40, .getfield 109, 3), (43, .iload_n 1, 1), (44, .iaload, 1), (45, .if_icmp .ne 5, 3), (48, .iconst 0, 1), (49, .ireturn, 1), (50, .iinc 2 1, 3), (53, .goto (-25), 3), (56, .iinc 1 1, 3), (59, .goto (-57), 3), (62, .iconst 1, 1), (63, .ireturn, 1)]
def am_c210 : am_Cd := [(0, .iconst 0, 1), (1, .istore_n 1, 1), (2, .iload_n 1, 1), (3, .aload_n 0, 1), (4, .getfield 287, 3), (7, .if_icmp .ge 74, 3), (10, .iload_n 1, 1), (11, .istore_n 2, 1), (12, .iload_n 2, 1), (13, .ifCond .le 55, 3), (16, .aload_n 0, 1), (17, .getfield 46, 3), (20, .aload_n 0, 1), (21, .getfield 109, 3), (24, .aload_n 0, 1), (25, .getfield 115, 3), (28, .iload_n 2, 1), (29, .iconst 1, 1), (30, .isub, 1), (31, .iaload, 1), (32, .iaload, 1), (33, .iaload, 1), (34, .aload_n 0, 1), (35, .getfield 46, 3), (38, .aload_n 0, 1), (39, .getfield 109, 3), (42, .iload_n 1, 1), (43, .iaload, 1), (44, .iaload, 1), (45, .if_icmp .le 23, 3), (48, .aload_n 0, 1), (49, .getfield 115, 3), (52, .iload_n 2, 1), (53, .aload_n 0, 1), (54, .getfield 115, 3), (57, .iload_n 2, 1), (58, .iconst 1, 1), (59, .isub, 1), (60, .iaload, 1), (61, .iastore, 1), (62, .iinc 2 (-1), 3), (65, .goto (-53), 3), (68, .aload_n 0, 1), (69, .getfield 115, 3), (72, .iload_n 2, 1), (73, .iload_n 1, 1), (74, .iastore, 1), (75, .iinc 1 1, 3), (78, .goto (-76), 3), (81, .return_, 1)]
def am_c211 : am_Cd := [(0, .iconst 0, 1), (1, .istore_n 2, 1), (2, .iconst 0, 1), (3, .istore_n 3, 1), (4, .iload_n 3, 1), (5, .bipush 10, 2), (7, .if_icmp .ge 17, 3), (10, .iload_n 2, 1), (11, .iload_n 1, 1), (12, .iload_n 3, 1), (13, .ishr, 1), (14, .iconst 1, 1), (15, .iand, 1), (16, .iadd, 1), (17, .istore_n 2, 1), (18, .iinc 3 1, 3), (21, .goto (-17), 3), (24, .iload_n 2, 1), (25, .ireturn, 1)]
def am_c212 : am_Cd := [(0, .iconst 1, 1), (1, .istore_n 3, 1), (2, .iconst 0, 1), (3, .istore 4, 2), (5, .iload 4, 2), (7, .aload_n 0, 1), (8, .getfield 287, 3), (11, .if_icmp .ge 83, 3), (14, .iload_n 3, 1), (15, .ifCond .eq 79, 3), (18, .aload_n 0, 1), (19, .getfield 109, 3), (22, .aload_n 0, 1), (23, .getfield 115, 3), (26, .iload 4, 2), (28, .iaload, 1), (29, .iaload, 1), (30, .istore 5, 2), (32, .iload_n 2, 1), (33, .aload_n 0, 1), (34, .getfield 115, 3), (37, .iload 4, 2), (39, .iaload, 1), (40, .ishr, 1), (41, .iconst 1, 1), (42, .iand, 1), (43, .ifCond .ne 6, 3), (46, .goto 42, 3), (49, .aload_n 0, 1), (50, .iload_n 1, 1), (51, .iload 5, 2), (53, .invokevirtual 201, 3), (56, .ifCond .ne 7, 3), (59, .iconst 1, 1), (60, .goto 4, 3), (63, .iconst 0, 1), (64, .istore_n 3, 1), (65, .iload_n 3, 1), (66, .ifCond .ne 6, 3), (69, .goto 19, 3), (72, .aload_n 0, 1), (73, .getfield 52, 3), (76, .iload 5, 2), (78, .iconst 1, 1), (79, .iastore, 1), (80, .aload_n 0, 1), (81, .getfield 55, 3), (84, .iload 5, 2), (86, .iload_n 1, 1), (87, .iastore, 1), (88, .iinc 4 1, 3), (91, .goto (-86), 3), (94, .iconst 0, 1), (95, .istore 4, 2), (97, .iload 4, 2), (99, .aload_n 0, 1), (100, .getfield 287, 3), (103, .if_icmp .ge 36, 3), (106, .aload_n 0, 1), (107, .getfield 52, 3), (110, .aload_n 0, 1), (111, .getfield 109, 3), (114, .iload 4, 2), (116, .iaload, 1), (117, .iconst 0, 1), (118, .iastore, 1), (119, .aload_n 0, 1), (120, .getfield 55, 3), (123, .aload_n 0, 1), (124, .getfield 109, 3), (127, .iload 4, 2), (129, .iaload, 1), (130, .bipush (-9), 2), (132, .iastore, 1), (133, .iinc 4 1, 3), (136, .goto (-39), 3), (139, .iload_n 3, 1), (140, .ireturn, 1)]
def am_c213 : am_Cd := [(0, .aload_n 0, 1), (1, .iload_n 1, 1), (2, .invokevirtual 198, 3), (5, .ifCond .eq 12, 3), (8, .iload_n 2, 1), (9, .ifCond .lt 8, 3), (12, .iload_n 2, 1), (13, .iconst 4, 1), (14, .if_icmp .le 9, 3), (17, .aload_n 0, 1), (18, .iconst (-1), 1), (19, .invokevirtual 143, 3), (22, .ireturn, 1), (23, .iload_n 3, 1), (24, .ifCond .ge 10, 3), (27, .aload_n 0, 1), (28, .bipush (-4), 2), (30, .invokevirtual 143, 3), (33, .ireturn, 1), (34, .iload_n 3, 1), (35, .bipush 99, 2), (37, .if_icmp .le 10, 3), (40, .aload_n 0, 1), (41, .bipush (-6), 2), (43, .invokevirtual 143, 3), (46, .ireturn, 1), (47, .aload_n 0, 1), (48, .getfield 31, 3), (51, .iload_n 1, 1), (52, .iconst 5, 1), (53, .imul, 1), (54, .iload_n 2, 1), (55, .iadd, 1), (56, .iaload, 1), (57, .istore 4, 2), (59, .aload_n 0, 1), (60, .getfield 31, 3), (63, .iload_n 1, 1), (64, .iconst 5, 1), (65, .imul, 1), (66, .iload_n 2, 1), (67, .iadd, 1), (68, .iload_n 3, 1), (69, .iastore, 1), (70, .iload 4, 2), (72, .ireturn, 1)]
def am_c214 : am_Cd := [(0, .aload_n 0, 1), (1, .invokevirtual 327, 3), (4, .istore_n 2, 1), (5, .iload_n 2, 1), (6, .ifCond .ge 9, 3), (9, .aload_n 0, 1), (10, .iload_n 2, 1), (11, .invokevirtual 143, 3), (14, .ireturn, 1), (15, .iload_n 1, 1), (16, .ifCond .lt 11, 3), (19, .iload_n 1, 1), (20, .aload_n 0, 1), (21, .getfield 287, 3), (24, .if_icmp .lt 10, 3), (27, .aload_n 0, 1), (28, .bipush (-2), 2), (30, .invokevirtual 143, 3), (33, .ireturn, 1), (34, .aload_n 0, 1), (35, .invokevirtual 330, 3), (38, .aload_n 0, 1), (39, .getfield 118, 3), (42, .iload_n 1, 1), (43, .iaload, 1), (44, .ifCond .ge 8, 3), (47, .bipush (-9), 2), (49, .goto 9, 3), (52, .aload_n 0, 1), (53, .getfield 118, 3), (56, .iload_n 1, 1), (57, .iaload, 1), (58, .ireturn, 1)]
def am_c215 : am_Cd := [(0, .aload_n 0, 1), (1, .invokevirtual 290, 3), (4, .ifCond .ne 5, 3), (7, .iconst (-1), 1), (8, .ireturn, 1), (9, .aload_n 0, 1), (10, .invokevirtual 294, 3), (13, .ifCond .ne 6, 3), (16, .bipush (-3), 2), (18, .ireturn, 1), (19, .aload_n 0, 1), (20, .getfield 287, 3), (23, .bipush 6, 2), (25, .if_icmp .le 8, 3), (28, .bipush (-6), 2), (30, .goto 4, 3), (33, .iconst 0, 1), (34, .ireturn, 1)]
def am_c216 : am_Cd := [(0, .aload_n 0, 1), (1, .invokevirtual 315, 3), (4, .iconst 0, 1), (5, .istore_n 1, 1), (6, .iload_n 1, 1), (7, .bipush 6, 2), (9, .if_icmp .ge 16, 3), (12, .aload_n 0, 1), (13, .getfield 118, 3), (16, .iload_n 1, 1), (17, .iconst (-1), 1), (18, .iastore, 1), (19, .iinc 1 1, 3), (22, .goto (-16), 3), (25, .iconst 0, 1), (26, .istore_n 1, 1), (27, .iload_n 1, 1), (28, .aload_n 0, 1), (29, .getfield 147, 3), (32, .if_icmp .ge 16, 3), (35, .aload_n 0, 1), (36, .getfield 121, 3), (39, .iload_n 1, 1), (40, .iconst 0, 1), (41, .iastore, 1), (42, .iinc 1 1, 3), (45, .goto (-18), 3), (48, .iconst 1, 1), (49, .istore_n 1, 1), (50, .iload_n 1, 1), (51, .ifCond .eq 83, 3), (54, .iconst 0, 1), (55, .istore_n 1, 1), (56, .iconst 0, 1), (57, .istore_n 2, 1), (58, .iload_n 2, 1), (59, .aload_n 0, 1), (60, .getfield 147, 3), (63, .if_icmp .ge 68, 3), (66, .aload_n 0, 1), (67, .iload_n 2, 1), (68, .invokevirtual 318, 3), (71, .ifCond .lt 6, 3), (74, .goto 51, 3), (77, .aload_n 0, 1), (78, .iload_n 2, 1), (79, .invokevirtual 321, 3), (82, .istore_n 3, 1), (83, .iload_n 3, 1), (84, .ifCond .ge 6, 3), (87, .goto 38, 3), (90, .aload_n 0, 1), (91, .getfield 121, 3), (94, .iload_n 2, 1), (95, .dup2, 1), (96, .iaload, 1), (97, .iconst 1, 1), (98, .iload_n 3, 1), (99, .ishl, 1), (100, .ior, 1), (101, .iastore, 1), (102, .iconst 1, 1), (103, .istore_n 1, 1), (104, .aload_n 0, 1), (105, .iload_n 2, 1), (106, .aload_n 0, 1), (107, .getfield 118, 3), (110, .iload_n 3, 1), (111, .iaload, 1), (112, .invokevirtual 324, 3), (115, .ifCond .eq 10, 3), (118, .aload_n 0, 1), (119, .getfield 118, 3), (122, .iload_n 3, 1), (123, .iload_n 2, 1), (124, .iastore, 1), (125, .iinc 2 1, 3), (128, .goto (-70), 3), (131, .goto (-81), 3), (134, .return_, 1)]
def am_c217 : am_Cd := [(0, .iconst 0, 1), (1, .istore_n 1, 1), (2, .iload_n 1, 1), (3, .aload_n 0, 1), (4, .getfield 147, 3), (7, .if_icmp .ge 80, 3), (10, .aload_n 0, 1), (11, .getfield 130, 3), (14, .iload_n 1, 1), (15, .iconst 0, 1), (16, .iastore, 1), (17, .iconst 0, 1), (18, .istore_n 2, 1), (19, .iload_n 2, 1), (20, .aload_n 0, 1), (21, .getfield 287, 3), (24, .if_icmp .ge 57, 3), (27, .aload_n 0, 1), (28, .iload_n 1, 1), (29, .aload_n 0, 1), (30, .getfield 109, 3), (33, .iload_n 2, 1), (34, .iaload, 1), (35, .invokevirtual 201, 3), (38, .ifCond .ne 15, 3), (41, .aload_n 0, 1), (42, .getfield 130, 3), (45, .iload_n 1, 1), (46, .dup2, 1), (47, .iaload, 1), (48, .iconst 1, 1), (49, .iload_n 2, 1), (50, .ishl, 1), (51, .ior, 1), (52, .iastore, 1), (53, .aload_n 0, 1), (54, .getfield 133, 3), (57, .iload_n 1, 1), (58, .bipush 6, 2), (60, .imul, 1), (61, .iload_n 2, 1), (62, .iadd, 1), (63, .aload_n 0, 1), (64, .iload_n 1, 1), (65, .aload_n 0, 1), (66, .getfield 109, 3), (69, .iload_n 2, 1), (70, .iaload, 1), (71, .invokevirtual 309, 3), (74, .iastore, 1), (75, .iinc 2 1, 3), (78, .goto (-59), 3), (81, .iinc 1 1, 3), (84, .goto (-82), 3), (87, .return_, 1)]
def am_c218 : am_Cd := [(0, .aload_n 0, 1), (1, .getfield 13, 3), (4, .bipush 10, 2), (6, .aload_n 0, 1), (7, .iload_n 1, 1), (8, .aload_n 0, 1), (9, .getfield 46, 3), (12, .iload_n 2, 1), (13, .iaload, 1), (14, .invokevirtual 204, 3), (17, .imul, 1), (18, .aload_n 0, 1), (19, .iload_n 2, 1), (20, .invokevirtual 178, 3), (23, .iadd, 1), (24, .iaload, 1), (25, .ireturn, 1)]
def am_c219 : am_Cd := [(0, .iconst 0, 1), (1, .istore_n 2, 1), (2, .iload_n 2, 1), (3, .aload_n 0, 1), (4, .getfield 287, 3), (7, .if_icmp .ge 21, 3), (10, .aload_n 0, 1), (11, .getfield 118, 3), (14, .iload_n 2, 1), (15, .iaload, 1), (16, .iload_n 1, 1), (17, .if_icmp .ne 5, 3), (20, .iload_n 2, 1), (21, .ireturn, 1), (22, .iinc 2 1, 3), (25, .goto (-23), 3), (28, .iconst (-1), 1), (29, .ireturn, 1)]
def am_c220 : am_Cd := [(0, .iconst (-1), 1), (1, .istore_n 2, 1), (2, .iconst 0, 1), (3, .istore_n 3, 1), (4, .iload_n 3, 1), (5, .aload_n 0, 1), (6, .getfield 287, 3), (9, .if_icmp .ge 51, 3), (12, .aload_n 0, 1), (13, .getfield 121, 3), (16, .iload_n 1, 1), (17, .iaload, 1), (18, .iload_n 3, 1), (19, .ishr, 1), (20, .iconst 1, 1), (21, .iand, 1), (22, .iconst 1, 1), (23, .if_icmp .eq 31, 3), (26, .aload_n 0, 1), (27, .getfield 130, 3), (30, .iload_n 1, 1), (31, .iaload, 1), (32, .iload_n 3, 1), (33, .ishr, 1), (34, .iconst 1, 1), (35, .iand, 1), (36, .ifCond .ne 6, 3), (39, .goto 15, 3), (42, .aload_n 0, 1), (43, .iload_n 1, 1), (44, .iload_n 3, 1), (45, .iload_n 2, 1), (46, .invokevirtual 312, 3), (49, .ifCond .eq 5, 3), (52, .iload_n 3, 1), (53, .istore_n 2, 1), (54, .iinc 3 1, 3), (57, .goto (-53), 3), (60, .iload_n 2, 1), (61, .ireturn, 1)]
def am_c221 : am_Cd := [(0, .iload_n 3, 1), (1, .ifCond .ge 5, 3), (4, .iconst 1, 1), (5, .ireturn, 1), (6, .aload_n 0, 1), (7, .iload_n 1, 1), (8, .iload_n 2, 1), (9, .invokevirtual 306, 3), (12, .istore 4, 2), (14, .aload_n 0, 1), (15, .iload_n 1, 1), (16, .iload_n 3, 1), (17, .invokevirtual 306, 3), (20, .istore 5, 2), (22, .iload 4, 2), (24, .iload 5, 2), (26, .if_icmp .gt 15, 3), (29, .iload 4, 2), (31, .iload 5, 2), (33, .if_icmp .ne 12, 3), (36, .iload_n 2, 1), (37, .iload_n 3, 1), (38, .if_icmp .ge 7, 3), (41, .iconst 1, 1), (42, .goto 4, 3), (45, .iconst 0, 1), (46, .ireturn, 1)]
def am_c222 : am_Cd := [(0, .aload_n 0, 1), (1, .getfield 31, 3), (4, .iload_n 1, 1), (5, .iconst 5, 1), (6, .imul, 1), (7, .aload_n 0, 1), (8, .getfield 7, 3), (11, .aload_n 0, 1), (12, .aload_n 0, 1), (13, .getfield 109, 3), (16, .iload_n 2, 1), (17, .iaload, 1), (18, .invokevirtual 178, 3), (21, .iaload, 1), (22, .iadd, 1), (23, .iaload, 1), (24, .ireturn, 1)]
def am_c223 : am_Cd := [(0, .iload_n 2, 1), (1, .ifCond .ge 5, 3), (4, .iconst 1, 1), (5, .ireturn, 1), (6, .aload_n 0, 1), (7, .iload_n 1, 1), (8, .aload_n 0, 1), (9, .getfield 157, 3), (12, .invokevirtual 229, 3), (15, .istore_n 3, 1), (16, .aload_n 0, 1), (17, .iload_n 2, 1), (18, .aload_n 0, 1), (19, .getfield 157, 3), (22, .invokevirtual 229, 3), (25, .istore 4, 2), (27, .iload_n 3, 1), (28, .iload 4, 2), (30, .if_icmp .gt 14, 3), (33, .iload_n 3, 1), (34, .iload 4, 2), (36, .if_icmp .ne 12, 3), (39, .iload_n 1, 1), (40, .iload_n 2, 1), (41, .if_icmp .ge 7, 3), (44, .iconst 1, 1), (45, .goto 4, 3), (48, .iconst 0, 1), (49, .ireturn, 1)]
def am_c224 : am_Cd := [(0, .iload_n 1, 1), (1, .iconst (-1), 1), (2, .if_icmp .ge 10, 3), (5, .aload_n 0, 1), (6, .bipush (-4), 2), (8, .invokevirtual 143, 3), (11, .ireturn, 1), (12, .iload_n 1, 1), (13, .bipush 99, 2), (15, .if_icmp .gt 12, 3), (18, .aload_n 0, 1), (19, .getfield 333, 3), (22, .bipush 6, 2), (24, .if_icmp .ne 10, 3), (27, .aload_n 0, 1), (28, .bipush (-6), 2), (30, .invokevirtual 143, 3), (33, .ireturn, 1), (34, .aload_n 0, 1), (35, .getfield 112, 3), (38, .aload_n 0, 1), (39, .getfield 333, 3), (42, .iload_n 1, 1), (43, .iastore, 1), (44, .aload_n 0, 1), (45, .dup, 1), (46, .getfield 333, 3), (49, .iconst 1, 1), (50, .iadd, 1), (51, .putfield 333, 3), (54, .aload_n 0, 1), (55, .getfield 333, 3), (58, .ireturn, 1)]
def am_c225 : am_Cd := [(0, .aload_n 0, 1), (1, .invokevirtual 327, 3), (4, .istore_n 1, 1), (5, .iload_n 1, 1), (6, .ifCond .ge 9, 3), (9, .aload_n 0, 1), (10, .iload_n 1, 1), (11, .invokevirtual 143, 3), (14, .ireturn, 1), (15, .aload_n 0, 1), (16, .getfield 333, 3), (19, .aload_n 0, 1), (20, .getfield 287, 3), (23, .if_icmp .eq 10, 3), (26, .aload_n 0, 1), (27, .bipush (-3), 2), (29, .invokevirtual 143, 3), (32, .ireturn, 1), (33, .aload_n 0, 1), (34, .iconst 0, 1), (35, .putfield 333, 3), (38, .aload_n 0, 1), (39, .invokevirtual 336, 3), (42, .istore_n 2, 1), (43, .iload_n 2, 1), (44, .ifCond .lt 5, 3), (47, .iload_n 2, 1), (48, .ireturn, 1), (49, .aload_n 0, 1), (50, .invokevirtual 339, 3), (53, .istore_n 3, 1), (54, .iload_n 3, 1), (55, .ifCond .ge 8, 3), (58, .bipush (-9), 2), (60, .goto 7, 3), (63, .bipush 20, 2), (65, .iload_n 3, 1), (66, .iadd, 1), (67, .ireturn, 1)]
def am_c226 : am_Cd := [(0, .iconst 0, 1), (1, .istore_n 1, 1), (2, .iload_n 1, 1), (3, .aload_n 0, 1), (4, .getfield 287, 3), (7, .if_icmp .ge 73, 3), (10, .aload_n 0, 1), (11, .getfield 112, 3), (14, .iload_n 1, 1), (15, .iaload, 1), (16, .istore_n 2, 1), (17, .iload_n 2, 1), (18, .iconst (-1), 1), (19, .if_icmp .ne 6, 3), (22, .goto 52, 3), (25, .aload_n 0, 1), (26, .iload_n 2, 1), (27, .invokevirtual 198, 3), (30, .ifCond .eq 17, 3), (33, .aload_n 0, 1), (34, .iload_n 2, 1), (35, .aload_n 0, 1), (36, .getfield 109, 3), (39, .iload_n 1, 1), (40, .iaload, 1), (41, .invokevirtual 201, 3), (44, .ifCond .eq 5, 3), (47, .iload_n 1, 1), (48, .ireturn, 1), (49, .iconst 0, 1), (50, .istore_n 3, 1), (51, .iload_n 3, 1), (52, .iload_n 1, 1), (53, .if_icmp .ge 21, 3), (56, .aload_n 0, 1), (57, .getfield 112, 3), (60, .iload_n 3, 1), (61, .iaload, 1), (62, .iload_n 2, 1), (63, .if_icmp .ne 5, 3), (66, .iload_n 1, 1), (67, .ireturn, 1), (68, .iinc 3 1, 3), (71, .goto (-20), 3), (74, .iinc 1 1, 3), (77, .goto (-75), 3), (80, .iconst (-1), 1), (81, .ireturn, 1)]
def am_c227 : am_Cd := [(0, .iconst 0, 1), (1, .istore_n 1, 1), (2, .iload_n 1, 1), (3, .aload_n 0, 1), (4, .getfield 287, 3), (7, .if_icmp .ge 21, 3), (10, .aload_n 0, 1), (11, .getfield 118, 3), (14, .iload_n 1, 1), (15, .aload_n 0, 1), (16, .getfield 112, 3), (19, .iload_n 1, 1), (20, .iaload, 1), (21, .iastore, 1), (22, .iinc 1 1, 3), (25, .goto (-23), 3), (28, .iconst 0, 1), (29, .istore_n 1, 1), (30, .iload_n 1, 1), (31, .aload_n 0, 1), (32, .getfield 287, 3), (35, .if_icmp .ge 82, 3), (38, .iconst 0, 1), (39, .istore_n 2, 1), (40, .iload_n 2, 1), (41, .aload_n 0, 1), (42, .getfield 147, 3), (45, .if_icmp .ge 66, 3), (48, .aload_n 0, 1), (49, .getfield 118, 3), (52, .iload_n 1, 1), (53, .iaload, 1), (54, .iload_n 2, 1), (55, .if_icmp .eq 50, 3), (58, .aload_n 0, 1), (59, .iload_n 2, 1), (60, .aload_n 0, 1), (61, .getfield 109, 3), (64, .iload_n 1, 1), (65, .iaload, 1), (66, .invokevirtual 201, 3), (69, .ifCond .eq 6, 3), (72, .goto 33, 3), (75, .aload_n 0, 1), (76, .iload_n 2, 1), (77, .aload_n 0, 1), (78, .getfield 118, 3), (81, .iload_n 1, 1), (82, .iaload, 1), (83, .invokevirtual 324, 3), (86, .ifCond .eq 19, 3), (89, .aload_n 0, 1), (90, .iload_n 2, 1), (91, .iload_n 1, 1), (92, .aload_n 0, 1), (93, .iload_n 2, 1), (94, .invokevirtual 318, 3), (97, .invokevirtual 312, 3), (100, .ifCond .eq 5, 3), (103, .iload_n 1, 1), (104, .ireturn, 1), (105, .iinc 2 1, 3), (108, .goto (-68), 3), (111, .iinc 1 1, 3), (114, .goto (-84), 3), (117, .iconst (-1), 1), (118, .ireturn, 1)]
def am_c228 : am_Cd := [(0, .aload_n 0, 1), (1, .iload_n 1, 1), (2, .invokevirtual 168, 3), (5, .ifCond .ne 9, 3), (8, .aload_n 0, 1), (9, .iconst (-1), 1), (10, .invokevirtual 143, 3), (13, .ireturn, 1), (14, .iconst (-1), 1), (15, .istore_n 2, 1), (16, .iconst 0, 1), (17, .istore_n 3, 1), (18, .iload_n 3, 1), (19, .aload_n 0, 1), (20, .getfield 147, 3), (23, .if_icmp .ge 64, 3), (26, .aload_n 0, 1), (27, .iload_n 3, 1), (28, .iload_n 1, 1), (29, .invokevirtual 201, 3), (32, .ifCond .eq 6, 3), (35, .goto 46, 3), (38, .iload_n 2, 1), (39, .ifCond .lt 40, 3), (42, .aload_n 0, 1), (43, .iload_n 3, 1), (44, .iload_n 1, 1), (45, .invokevirtual 309, 3), (48, .aload_n 0, 1), (49, .iload_n 2, 1), (50, .iload_n 1, 1), (51, .invokevirtual 309, 3), (54, .isub, 1), (55, .istore 4, 2), (57, .iload 4, 2), (59, .ifCond .gt 22, 3), (62, .iload 4, 2), (64, .ifCond .ne 15, 3), (67, .aload_n 0, 1), (68, .iload_n 3, 1), (69, .iload_n 2, 1), (70, .invokevirtual 324, 3), (73, .ifCond .ne 6, 3), (76, .goto 5, 3), (79, .iload_n 3, 1), (80, .istore_n 2, 1), (81, .iinc 3 1, 3), (84, .goto (-66), 3), (87, .iload_n 2, 1), (88, .ifCond .ge 8, 3), (91, .bipush (-9), 2), (93, .goto 4, 3), (96, .iload_n 2, 1), (97, .ireturn, 1)]
def am_c229 : am_Cd := [(0, .aload_n 0, 1), (1, .invokevirtual 327, 3), (4, .istore_n 2, 1), (5, .iload_n 2, 1), (6, .ifCond .ge 9, 3), (9, .aload_n 0, 1), (10, .iload_n 2, 1), (11, .invokevirtual 143, 3), (14, .ireturn, 1), (15, .iload_n 1, 1), (16, .ifCond .lt 11, 3), (19, .iload_n 1, 1), (20, .aload_n 0, 1), (21, .getfield 287, 3), (24, .if_icmp .lt 22, 3), (27, .iload_n 1, 1), (28, .bipush 10, 2), (30, .if_icmp .eq 16, 3), (33, .iload_n 1, 1), (34, .bipush 11, 2), (36, .if_icmp .eq 10, 3), (39, .aload_n 0, 1), (40, .bipush (-2), 2), (42, .invokevirtual 143, 3), (45, .ireturn, 1), (46, .aload_n 0, 1), (47, .invokevirtual 355, 3), (50, .iload_n 1, 1), (51, .bipush 10, 2), (53, .if_icmp .ne 8, 3), (56, .aload_n 0, 1), (57, .getfield 349, 3), (60, .ireturn, 1), (61, .iload_n 1, 1), (62, .bipush 11, 2), (64, .if_icmp .ne 8, 3), (67, .aload_n 0, 1), (68, .getfield 352, 3), (71, .ireturn, 1), (72, .aload_n 0, 1), (73, .getfield 136, 3), (76, .iload_n 1, 1), (77, .iaload, 1), (78, .ireturn, 1)]
def am_c230 : am_Cd := [(0, .aload_n 0, 1), (1, .invokevirtual 315, 3), (4, .iconst 0, 1), (5, .istore_n 1, 1), (6, .iconst 1, 1), (7, .aload_n 0, 1), (8, .getfield 287, 3), (11, .ishl, 1), (12, .iconst 1, 1), (13, .isub, 1), (14, .istore_n 2, 1), (15, .aload_n 0, 1), (16, .iconst 0, 1), (17, .iload_n 2, 1), (18, .invokevirtual 346, 3), (21, .istore_n 3, 1), (22, .aload_n 0, 1), (23, .iconst 0, 1), (24, .putfield 349, 3), (27, .aload_n 0, 1), (28, .iconst 0, 1), (29, .putfield 352, 3), (32, .iconst 0, 1), (33, .istore 4, 2), (35, .iload 4, 2), (37, .aload_n 0, 1), (38, .getfield 287, 3), (41, .if_icmp .ge 169, 3), (44, .iload_n 2, 1), (45, .iconst 1, 1), (46, .iload 4, 2), (48, .ishl, 1), (49, .iconst (-1), 1), (50, .ixor, 1), (51, .iand, 1), (52, .istore_n 2, 1), (53, .aload_n 0, 1), (54, .getfield 136, 3), (57, .iload 4, 2), (59, .bipush (-9), 2), (61, .iastore, 1), (62, .iconst 0, 1), (63, .istore 5, 2), (65, .iload 5, 2), (67, .aload_n 0, 1), (68, .getfield 147, 3), (71, .if_icmp .ge 133, 3), (74, .aload_n 0, 1), (75, .getfield 136, 3), (78, .iload 4, 2), (80, .iaload, 1), (81, .ifCond .ge 123, 3), (84, .iload_n 1, 1), (85, .iload 5, 2), (87, .ishr, 1), (88, .iconst 1, 1), (89, .iand, 1), (90, .iconst 1, 1), (91, .if_icmp .eq 107, 3), (94, .aload_n 0, 1), (95, .getfield 130, 3), (98, .iload 5, 2), (100, .iaload, 1), (101, .iload 4, 2), (103, .ishr, 1), (104, .iconst 1, 1), (105, .iand, 1), (106, .ifCond .ne 6, 3), (109, .goto 89, 3), (112, .sipush 10000, 3), (115, .aload_n 0, 1), (116, .getfield 133, 3), (119, .iload 5, 2), (121, .bipush 6, 2), (123, .imul, 1), (124, .iload 4, 2), (126, .iadd, 1), (127, .iaload, 1), (128, .isub, 1), (129, .istore 6, 2), (131, .iload 6, 2), (133, .aload_n 0, 1), (134, .iload_n 1, 1), (135, .iconst 1, 1), (136, .iload 5, 2), (138, .ishl, 1), (139, .ior, 1), (140, .iload_n 2, 1), (141, .invokevirtual 346, 3), (144, .iadd, 1), (145, .iload_n 3, 1), (146, .if_icmp .eq 6, 3), (149, .goto 49, 3), (152, .aload_n 0, 1), (153, .getfield 136, 3), (156, .iload 4, 2), (158, .iload 5, 2), (160, .iastore, 1), (161, .iload_n 1, 1), (162, .iconst 1, 1), (163, .iload 5, 2), (165, .ishl, 1), (166, .ior, 1), (167, .istore_n 1, 1), (168, .iload_n 3, 1), (169, .iload 6, 2), (171, .isub, 1), (172, .istore_n 3, 1), (173, .aload_n 0, 1), (174, .dup, 1), (175, .getfield 349, 3), (178, .sipush 10000, 3), (181, .iload 6, 2), (183, .isub, 1), (184, .iadd, 1), (185, .putfield 349, 3), (188, .aload_n 0, 1), (189, .dup, 1), (190, .getfield 352, 3), (193, .iconst 1, 1), (194, .iadd, 1), (195, .putfield 352, 3), (198, .iinc 5 1, 3), (201, .goto (-136), 3), (204, .iinc 4 1, 3), (207, .goto (-172), 3), (210, .return_, 1)]
def am_c231 : am_Cd := [(0, .aload_n 0, 1), (1, .iload_n 1, 1), (2, .iload_n 2, 1), (3, .invokevirtual 342, 3), (6, .iconst 0, 1), (7, .istore_n 3, 1), (8, .iconst 0, 1), (9, .istore 4, 2), (11, .iload 4, 2), (13, .bipush 64, 2), (15, .if_icmp .ge 52, 3), (18, .aload_n 0, 1), (19, .getfield 124, 3), (22, .iload 4, 2), (24, .iaload, 1), (25, .ifCond .ge 6, 3), (28, .goto 33, 3), (31, .aload_n 0, 1), (32, .getfield 124, 3), (35, .iload 4, 2), (37, .iaload, 1), (38, .sipush 10000, 3), (41, .imul, 1), (42, .aload_n 0, 1), (43, .getfield 127, 3), (46, .iload 4, 2), (48, .iaload, 1), (49, .isub, 1), (50, .istore 5, 2), (52, .iload 5, 2), (54, .iload_n 3, 1), (55, .if_icmp .le 6, 3), (58, .iload 5, 2), (60, .istore_n 3, 1), (61, .iinc 4 1, 3), (64, .goto (-53), 3), (67, .iload_n 3, 1), (68, .ireturn, 1)]
def am_c232 : am_Cd := [(0, .iconst 0, 1), (1, .istore_n 3, 1), (2, .iload_n 3, 1), (3, .bipush 64, 2), (5, .if_icmp .ge 23, 3), (8, .aload_n 0, 1), (9, .getfield 124, 3), (12, .iload_n 3, 1), (13, .iconst (-1), 1), (14, .iastore, 1), (15, .aload_n 0, 1), (16, .getfield 127, 3), (19, .iload_n 3, 1), (20, .iconst 0, 1), (21, .iastore, 1), (22, .iinc 3 1, 3), (25, .goto (-23), 3), (28, .aload_n 0, 1), (29, .getfield 124, 3), (32, .iconst 0, 1), (33, .iconst 0, 1), (34, .iastore, 1), (35, .iconst 0, 1), (36, .istore_n 3, 1), (37, .iload_n 3, 1), (38, .aload_n 0, 1), (39, .getfield 147, 3), (42, .if_icmp .ge 185, 3), (45, .iload_n 1, 1), (46, .iload_n 3, 1), (47, .ishr, 1), (48, .iconst 1, 1), (49, .iand, 1), (50, .iconst 1, 1), (51, .if_icmp .ne 6, 3), (54, .goto 167, 3), (57, .bipush 63, 2), (59, .istore 4, 2), (61, .iload 4, 2), (63, .ifCond .lt 158, 3), (66, .aload_n 0, 1), (67, .getfield 124, 3), (70, .iload 4, 2), (72, .iaload, 1), (73, .ifCond .ge 6, 3), (76, .goto 139, 3), (79, .iconst 0, 1), (80, .istore 5, 2), (82, .iload 5, 2), (84, .aload_n 0, 1), (85, .getfield 287, 3), (88, .if_icmp .ge 127, 3), (91, .iload_n 2, 1), (92, .iload 5, 2), (94, .ishr, 1), (95, .iconst 1, 1), (96, .iand, 1), (97, .ifCond .eq 112, 3), (100, .iload 4, 2), (102, .iload 5, 2), (104, .ishr, 1), (105, .iconst 1, 1), (106, .iand, 1), (107, .iconst 1, 1), (108, .if_icmp .eq 101, 3), (111, .aload_n 0, 1), (112, .getfield 130, 3), (115, .iload_n 3, 1), (116, .iaload, 1), (117, .iload 5, 2), (119, .ishr, 1), (120, .iconst 1, 1), (121, .iand, 1), (122, .ifCond .ne 6, 3), (125, .goto 84, 3), (128, .iload 4, 2), (130, .iconst 1, 1), (131, .iload 5, 2), (133, .ishl, 1), (134, .ior, 1), (135, .istore 6, 2), (137, .aload_n 0, 1), (138, .getfield 127, 3), (141, .iload 4, 2), (143, .iaload, 1), (144, .aload_n 0, 1), (145, .getfield 133, 3), (148, .iload_n 3, 1), (149, .bipush 6, 2), (151, .imul, 1), (152, .iload 5, 2), (154, .iadd, 1), (155, .iaload, 1), (156, .iadd, 1), (157, .istore 7, 2), (159, .aload_n 0, 1), (160, .getfield 124, 3), (163, .iload 6, 2), (165, .iaload, 1), (166, .ifCond .lt 18, 3), (169, .aload_n 0, 1), (170, .getfield 127, 3), (173, .iload 6, 2), (175, .iaload, 1), (176, .iload 7, 2), (178, .if_icmp .gt 6, 3), (181, .goto 28, 3), (184, .aload_n 0, 1), (185, .getfield 124, 3), (188, .iload 6, 2), (190, .aload_n 0, 1), (191, .getfield 124, 3), (194, .iload 4, 2), (196, .iaload, 1), (197, .iconst 1, 1), (198, .iadd, 1), (199, .iastore, 1), (200, .aload_n 0, 1), (201, .getfield 127, 3), (204, .iload 6, 2), (206, .iload 7, 2), (208, .iastore, 1), (209, .iinc 5 1, 3), (212, .goto (-130), 3), (215, .iinc 4 (-1), 3), (218, .goto (-157), 3), (221, .iinc 3 1, 3), (224, .goto (-187), 3), (227, .return_, 1)]
def am_c233 : am_Cd := [(0, .aload_n 0, 1), (1, .iload_n 1, 1), (2, .invokevirtual 198, 3), (5, .ifCond .ne 9, 3), (8, .aload_n 0, 1), (9, .iconst (-1), 1), (10, .invokevirtual 143, 3), (13, .ireturn, 1), (14, .iconst 1, 1), (15, .iload_n 1, 1), (16, .ishl, 1), (17, .istore_n 2, 1), (18, .iconst 0, 1), (19, .istore_n 3, 1), (20, .iload_n 3, 1), (21, .aload_n 0, 1), (22, .getfield 147, 3), (25, .if_icmp .ge 75, 3), (28, .iconst 0, 1), (29, .istore 4, 2), (31, .iload 4, 2), (33, .aload_n 0, 1), (34, .getfield 147, 3), (37, .if_icmp .ge 57, 3), (40, .iload_n 2, 1), (41, .iload 4, 2), (43, .ishr, 1), (44, .iconst 1, 1), (45, .iand, 1), (46, .ifCond .ne 6, 3), (49, .goto 39, 3), (52, .iconst 0, 1), (53, .istore 5, 2), (55, .iload 5, 2), (57, .aload_n 0, 1), (58, .getfield 147, 3), (61, .if_icmp .ge 27, 3), (64, .aload_n 0, 1), (65, .iload 4, 2), (67, .iload 5, 2), (69, .invokevirtual 238, 3), (72, .ifCond .eq 10, 3), (75, .iload_n 2, 1), (76, .iconst 1, 1), (77, .iload 5, 2), (79, .ishl, 1), (80, .ior, 1), (81, .istore_n 2, 1), (82, .iinc 5 1, 3), (85, .goto (-30), 3), (88, .iinc 4 1, 3), (91, .goto (-60), 3), (94, .iinc 3 1, 3), (97, .goto (-77), 3), (100, .iconst 0, 1), (101, .istore_n 3, 1), (102, .iload_n 2, 1), (103, .iload_n 3, 1), (104, .ishr, 1), (105, .iconst 1, 1), (106, .iand, 1), (107, .ifCond .ne 9, 3), (110, .iinc 3 1, 3), (113, .goto (-11), 3), (116, .iload_n 3, 1), (117, .ireturn, 1)]
def am_c234 : am_Cd := [(0, .aload_n 0, 1), (1, .iload_n 1, 1), (2, .invokevirtual 168, 3), (5, .ifCond .ne 9, 3), (8, .aload_n 0, 1), (9, .iconst (-1), 1), (10, .invokevirtual 143, 3), (13, .ireturn, 1), (14, .aload_n 0, 1), (15, .getfield 52, 3), (18, .iload_n 1, 1), (19, .iaload, 1), (20, .iconst 1, 1), (21, .if_icmp .ne 32, 3), (24, .iload_n 2, 1), (25, .ifCond .ne 16, 3), (28, .aload_n 0, 1), (29, .getfield 157, 3), (32, .aload_n 0, 1), (33, .getfield 46, 3), (36, .iload_n 1, 1), (37, .iaload, 1), (38, .if_icmp .gt 15, 3), (41, .iload_n 2, 1), (42, .ifCond .eq 18, 3), (45, .aload_n 0, 1), (46, .iload_n 1, 1), (47, .invokevirtual 171, 3), (50, .ifCond .ne 10, 3), (53, .aload_n 0, 1), (54, .bipush (-3), 2), (56, .invokevirtual 143, 3), (59, .ireturn, 1), (60, .iload_n 3, 1), (61, .ifCond .ge 10, 3), (64, .aload_n 0, 1), (65, .bipush (-4), 2), (67, .invokevirtual 143, 3), (70, .ireturn, 1), (71, .iload_n 2, 1), (72, .ifCond .eq 11, 3), (75, .iconst 2, 1), (76, .iload_n 1, 1), (77, .imul, 1), (78, .iconst 1, 1), (79, .iadd, 1), (80, .goto 6, 3), (83, .iconst 2, 1), (84, .iload_n 1, 1), (85, .imul, 1), (86, .istore 4, 2), (88, .aload_n 0, 1), (89, .getfield 64, 3), (92, .iload 4, 2), (94, .iaload, 1), (95, .ifCond .lt 7, 3), (98, .iconst 1, 1), (99, .goto 4, 3), (102, .iconst 0, 1), (103, .istore 5, 2), (105, .aload_n 0, 1), (106, .getfield 64, 3), (109, .iload 4, 2), (111, .iload_n 3, 1), (112, .iastore, 1), (113, .iload 5, 2), (115, .ifCond .eq 7, 3), (118, .iconst 0, 1), (119, .goto 4, 3), (122, .iconst 1, 1), (123, .ireturn, 1)]
def am_c235 : am_Cd := [(0, .aload_n 0, 1), (1, .iload_n 1, 1), (2, .invokevirtual 165, 3), (5, .ifCond .ne 9, 3), (8, .aload_n 0, 1), (9, .iconst (-1), 1), (10, .invokevirtual 143, 3), (13, .ireturn, 1), (14, .iload_n 2, 1), (15, .ifCond .lt 7, 3), (18, .iload_n 3, 1), (19, .ifCond .ge 10, 3), (22, .aload_n 0, 1), (23, .bipush (-4), 2), (25, .invokevirtual 143, 3), (28, .ireturn, 1), (29, .iload_n 2, 1), (30, .bipush 30, 2), (32, .if_icmp .gt 9, 3), (35, .iload_n 3, 1), (36, .bipush 9, 2), (38, .if_icmp .le 10, 3), (41, .aload_n 0, 1), (42, .bipush (-6), 2), (44, .invokevirtual 143, 3), (47, .ireturn, 1), (48, .aload_n 0, 1), (49, .getfield 40, 3), (52, .iload_n 1, 1), (53, .bipush 31, 2), (55, .imul, 1), (56, .iload_n 2, 1), (57, .iadd, 1), (58, .iaload, 1), (59, .istore 4, 2), (61, .aload_n 0, 1), (62, .getfield 40, 3), (65, .iload_n 1, 1), (66, .bipush 31, 2), (68, .imul, 1), (69, .iload_n 2, 1), (70, .iadd, 1), (71, .iload_n 3, 1), (72, .iastore, 1), (73, .iload 4, 2), (75, .ireturn, 1)]
def am_c236 : am_Cd := [(0, .aload_n 0, 1), (1, .iload_n 1, 1), (2, .invokevirtual 168, 3), (5, .ifCond .ne 9, 3), (8, .aload_n 0, 1), (9, .iconst (-1), 1), (10, .invokevirtual 143, 3), (13, .ireturn, 1), (14, .aload_n 0, 1), (15, .iload_n 1, 1), (16, .invokevirtual 358, 3), (19, .ireturn, 1)]
def am_c237 : am_Cd := [(0, .aload_n 0, 1), (1, .getfield 64, 3), (4, .iconst 2, 1), (5, .iload_n 1, 1), (6, .imul, 1), (7, .iaload, 1), (8, .ifCond .lt 16, 3), (11, .aload_n 0, 1), (12, .getfield 64, 3), (15, .iconst 2, 1), (16, .iload_n 1, 1), (17, .imul, 1), (18, .iconst 1, 1), (19, .iadd, 1), (20, .iaload, 1), (21, .ifCond .ge 6, 3), (24, .bipush (-9), 2), (26, .ireturn, 1), (27, .aload_n 0, 1), (28, .getfield 64, 3), (31, .iconst 2, 1), (32, .iload_n 1, 1), (33, .imul, 1), (34, .iaload, 1), (35, .aload_n 0, 1), (36, .getfield 64, 3), (39, .iconst 2, 1), (40, .iload_n 1, 1), (41, .imul, 1), (42, .iconst 1, 1), (43, .iadd, 1), (44, .iaload, 1), (45, .iconst (-1), 1), (46, .ixor, 1), (47, .iand, 1), (48, .ireturn, 1)]
def am_c238 : am_Cd := [(0, .aload_n 0, 1), (1, .iload_n 1, 1), (2, .invokevirtual 168, 3), (5, .ifCond .ne 9, 3), (8, .aload_n 0, 1), (9, .iconst (-1), 1), (10, .invokevirtual 143, 3), (13, .ireturn, 1), (14, .aload_n 0, 1), (15, .iload_n 1, 1), (16, .invokevirtual 358, 3), (19, .istore_n 2, 1), (20, .iload_n 2, 1), (21, .ifCond .ge 10, 3), (24, .aload_n 0, 1), (25, .bipush (-3), 2), (27, .invokevirtual 143, 3), (30, .ireturn, 1), (31, .iconst 0, 1), (32, .istore_n 3, 1), (33, .iconst 0, 1), (34, .istore 4, 2), (36, .iload 4, 2), (38, .bipush 31, 2), (40, .if_icmp .ge 44, 3), (43, .iload_n 2, 1), (44, .iload 4, 2), (46, .ishr, 1), (47, .iconst 1, 1), (48, .iand, 1), (49, .iconst 1, 1), (50, .if_icmp .ne 28, 3), (53, .iload_n 3, 1), (54, .iconst 5, 1), (55, .bipush 10, 2), (57, .aload_n 0, 1), (58, .getfield 40, 3), (61, .aload_n 0, 1), (62, .getfield 43, 3), (65, .iload_n 1, 1), (66, .iaload, 1), (67, .bipush 31, 2), (69, .imul, 1), (70, .iload 4, 2), (72, .iadd, 1), (73, .iaload, 1), (74, .imul, 1), (75, .iadd, 1), (76, .iadd, 1), (77, .istore_n 3, 1), (78, .iinc 4 1, 3), (81, .goto (-45), 3), (84, .iload_n 3, 1), (85, .ireturn, 1)]
def am_c239 : am_Cd := [(0, .iload_n 1, 1), (1, .bipush 11, 2), (3, .if_icmp .lt 19, 3), (6, .iload_n 1, 1), (7, .bipush 16, 2), (9, .if_icmp .gt 13, 3), (12, .aload_n 0, 1), (13, .getfield 139, 3), (16, .iload_n 1, 1), (17, .bipush 10, 2), (19, .isub, 1), (20, .iaload, 1), (21, .ireturn, 1), (22, .iload_n 1, 1), (23, .iconst 4, 1), (24, .if_icmp .lt 17, 3), (27, .iload_n 1, 1), (28, .bipush 6, 2), (30, .if_icmp .gt 11, 3), (33, .aload_n 0, 1), (34, .iload_n 1, 1), (35, .iconst 4, 1), (36, .isub, 1), (37, .invokevirtual 361, 3), (40, .ireturn, 1), (41, .iload_n 1, 1), (42, .ifCond .ne 8, 3), (45, .aload_n 0, 1), (46, .getfield 157, 3), (49, .ireturn, 1), (50, .iload_n 1, 1), (51, .iconst 1, 1), (52, .if_icmp .ne 8, 3), (55, .aload_n 0, 1), (56, .getfield 147, 3), (59, .ireturn, 1), (60, .iload_n 1, 1), (61, .iconst 2, 1), (62, .if_icmp .ne 8, 3), (65, .aload_n 0, 1), (66, .getfield 151, 3), (69, .ireturn, 1), (70, .iload_n 1, 1), (71, .iconst 3, 1), (72, .if_icmp .ne 8, 3), (75, .aload_n 0, 1), (76, .getfield 154, 3), (79, .ireturn, 1), (80, .iload_n 1, 1), (81, .bipush 7, 2), (83, .if_icmp .ne 8, 3), (86, .aload_n 0, 1), (87, .getfield 222, 3), (90, .ireturn, 1), (91, .iload_n 1, 1), (92, .bipush 8, 2), (94, .if_icmp .ne 9, 3), (97, .aload_n 0, 1), (98, .iconst 0, 1), (99, .invokevirtual 364, 3), (102, .ireturn, 1), (103, .iload_n 1, 1), (104, .bipush 9, 2), (106, .if_icmp .ne 9, 3), (109, .aload_n 0, 1), (110, .iconst 1, 1), (111, .invokevirtual 364, 3), (114, .ireturn, 1), (115, .iload_n 1, 1), (116, .bipush 10, 2), (118, .if_icmp .ne 8, 3), (121, .aload_n 0, 1), (122, .getfield 207, 3), (125, .ireturn, 1), (126, .iload_n 1, 1), (127, .bipush 17, 2), (129, .if_icmp .ne 8, 3), (132, .aload_n 0, 1), (133, .getfield 287, 3), (136, .ireturn, 1), (137, .iload_n 1, 1), (138, .bipush 18, 2), (140, .if_icmp .ne 10, 3), (143, .aload_n 0, 1), (144, .getfield 333, 3), (147, .goto 5, 3), (150, .bipush (-9), 2), (152, .ireturn, 1)]
def am_c240 : am_Cd := [(0, .iconst 0, 1), (1, .istore_n 2, 1), (2, .iconst 0, 1), (3, .istore_n 3, 1), (4, .iload_n 3, 1), (5, .aload_n 0, 1), (6, .getfield 154, 3), (9, .if_icmp .ge 22, 3), (12, .aload_n 0, 1), (13, .getfield 52, 3), (16, .iload_n 3, 1), (17, .iaload, 1), (18, .iload_n 1, 1), (19, .if_icmp .ne 6, 3), (22, .iinc 2 1, 3), (25, .iinc 3 1, 3), (28, .goto (-24), 3), (31, .iload_n 2, 1), (32, .ireturn, 1)]
def am_c241 : am_Cd := [(0, .iconst 0, 1), (1, .istore_n 2, 1), (2, .iconst 0, 1), (3, .istore_n 3, 1), (4, .iload_n 3, 1), (5, .iconst 2, 1), (6, .aload_n 0, 1), (7, .getfield 154, 3), (10, .imul, 1), (11, .if_icmp .ge 37, 3), (14, .aload_n 0, 1), (15, .getfield 58, 3), (18, .iload_n 3, 1), (19, .iaload, 1), (20, .ifCond .le 22, 3), (23, .iload_n 1, 1), (24, .ifCond .eq 15, 3), (27, .aload_n 0, 1), (28, .iload_n 3, 1), (29, .aload_n 0, 1), (30, .getfield 157, 3), (33, .invokevirtual 281, 3), (36, .ifCond .eq 6, 3), (39, .iinc 2 1, 3), (42, .iinc 3 1, 3), (45, .goto (-41), 3), (48, .iload_n 2, 1), (49, .ireturn, 1)]
def am_c242 : am_Cd := [(0, .iconst 0, 1), (1, .istore_n 2, 1), (2, .aload_n 0, 1), (3, .arraylength, 1), (4, .istore_n 3, 1), (5, .iload_n 2, 1), (6, .iload_n 3, 1), (7, .if_icmp .ge 13, 3), (10, .aload_n 0, 1), (11, .iload_n 2, 1), (12, .iload_n 1, 1), (13, .iastore, 1), (14, .iinc 2 1, 3), (17, .goto (-12), 3), (20, .return_, 1)]
def am_c243 : am_Cd := [(0, .iconst 0, 1), (1, .istore_n 3, 1), (2, .aload_n 0, 1), (3, .arraylength, 1), (4, .istore 4, 2), (6, .iload_n 3, 1), (7, .iload 4, 2), (9, .if_icmp .ge 13, 3), (12, .aload_n 0, 1), (13, .iload_n 3, 1), (14, .lload_n 1, 1), (15, .lastore, 1), (16, .iinc 3 1, 3), (19, .goto (-13), 3), (22, .return_, 1)]
def am_c244 : am_Cd := [(0, .iload_n 0, 1), (1, .iload_n 1, 1), (2, .if_icmp .lt 7, 3), (5, .iload_n 0, 1), (6, .goto 4, 3), (9, .iload_n 1, 1), (10, .ireturn, 1)]
def am_c245 : am_Cd := [(0, .iload_n 0, 1), (1, .iload_n 1, 1), (2, .if_icmp .gt 7, 3), (5, .iload_n 0, 1), (6, .goto 4, 3), (9, .iload_n 1, 1), (10, .ireturn, 1)]
def am_c246 : am_Cd := [(0, .lload_n 0, 1), (1, .lload_n 2, 1), (2, .lcmp, 1), (3, .ifCond .gt 7, 3), (6, .lload_n 0, 1), (7, .goto 4, 3), (10, .lload_n 2, 1), (11, .lreturn, 1)]
def am_c247 : am_Cd := [(0, .lload_n 0, 1), (1, .lload_n 2, 1), (2, .lcmp, 1), (3, .ifCond .lt 7, 3), (6, .lload_n 0, 1), (7, .goto 4, 3), (10, .lload_n 2, 1), (11, .lreturn, 1)]
def am_c248 : am_Cd := [(0, .iload_n 0, 1), (1, .iload_n 0, 1), (2, .iconst 1, 1), (3, .iushr, 1), (4, .ldc_w 265, 3), (7, .iand, 1), (8, .isub, 1), (9, .istore_n 0, 1), (10, .iload_n 0, 1), (11, .ldc_w 266, 3), (14, .iand, 1), (15, .iload_n 0, 1), (16, .iconst 2, 1), (17, .iushr, 1), (18, .ldc_w 266, 3), (21, .iand, 1), (22, .iadd, 1), (23, .istore_n 0, 1), (24, .iload_n 0, 1), (25, .iload_n 0, 1), (26, .iconst 4, 1), (27, .iushr, 1), (28, .iadd, 1), (29, .ldc_w 267, 3), (32, .iand, 1), (33, .istore_n 0, 1), (34, .iload_n 0, 1), (35, .iload_n 0, 1), (36, .bipush 8, 2), (38, .iushr, 1), (39, .iadd, 1), (40, .istore_n 0, 1), (41, .iload_n 0, 1), (42, .iload_n 0, 1), (43, .bipush 16, 2), (45, .iushr, 1), (46, .iadd, 1), (47, .istore_n 0, 1), (48, .iload_n 0, 1), (49, .bipush 63, 2), (51, .iand, 1), (52, .ireturn, 1)]
def am_c249 : am_Cd := [(0, .iload_n 0, 1), (1, .iload_n 1, 1), (2, .if_icmp .ge 7, 3), (5, .iconst (-1), 1), (6, .goto 13, 3), (9, .iload_n 0, 1), (10, .iload_n 1, 1), (11, .if_icmp .ne 7, 3), (14, .iconst 0, 1), (15, .goto 4, 3), (18, .iconst 1, 1), (19, .ireturn, 1)]
def am_c250 : am_Cd := [(0, .aload_n 0, 1), (1, .getfield 9, 3), (4, .arraylength, 1), (5, .aload_n 0, 1), (6, .invokevirtual 335, 3), (9, .ishr, 1), (10, .ireturn, 1)]
def am_c251 : am_Cd := [(0, .getstatic 38, 3), (3, .ifCond .eq 10, 3), (6, .aload_n 0, 1), (7, .getfield 15, 3), (10, .goto 4, 3), (13, .iconst 1, 1), (14, .ireturn, 1)]
def am_c252 : am_Cd := [(0, .aload_n 0, 1), (1, .iload_n 1, 1), (2, .iconst 0, 1), (3, .invokevirtual 633, 3), (6, .ireturn, 1)]
def am_c253 : am_Cd := [(0, .aload_n 0, 1), (1, .invokevirtual 492, 3), (4, .ifCond .eq 19, 3), (7, .aload_n 0, 1), (8, .getfield 9, 3), (11, .iload_n 1, 1), (12, .iload_n 2, 1), (13, .aload_n 0, 1), (14, .invokevirtual 505, 3), (17, .invokestatic 637, 3), (20, .goto 16, 3), (23, .aload_n 0, 1), (24, .getfield 9, 3), (27, .iload_n 1, 1), (28, .iload_n 2, 1), (29, .aload_n 0, 1), (30, .invokevirtual 505, 3), (33, .invokestatic 640, 3), (36, .ireturn, 1)]
def am_c254 : am_Cd := [(0, .getstatic 38, 3), (3, .ifCond .eq 14, 3), (6, .aload_n 0, 1), (7, .getfield 15, 3), (10, .ifCond .ne 7, 3), (13, .iconst 1, 1), (14, .goto 4, 3), (17, .iconst 0, 1), (18, .ireturn, 1)]
def am_c255 : am_Cd := [(0, .iload_n 1, 1), (1, .invokestatic 88, 3), (4, .ifCond .ne 5, 3), (7, .iconst (-1), 1), (8, .ireturn, 1), (9, .iload_n 2, 1), (10, .iconst 0, 1), (11, .invokestatic 92, 3), (14, .istore_n 2, 1), (15, .iload_n 3, 1), (16, .aload_n 0, 1), (17, .arraylength, 1), (18, .invokestatic 38, 3), (21, .istore_n 3, 1), (22, .iload_n 2, 1), (23, .iload_n 3, 1), (24, .if_icmp .lt 5, 3), (27, .iconst (-1), 1), (28, .ireturn, 1), (29, .aload_n 0, 1), (30, .iload_n 1, 1), (31, .iload_n 2, 1), (32, .iload_n 3, 1), (33, .invokestatic 95, 3), (36, .ireturn, 1)]
def am_c256 : am_Cd := [(0, .iload_n 0, 1), (1, .ifCond .lt 14, 3), (4, .iload_n 0, 1), (5, .sipush 255, 3), (8, .if_icmp .gt 7, 3), (11, .iconst 1, 1), (12, .goto 4, 3), (15, .iconst 0, 1), (16, .ireturn, 1)]
def am_c257 : am_Cd := [(0, .iload_n 1, 1), (1, .i2b, 1), (2, .istore 4, 2), (4, .iload_n 2, 1), (5, .istore 5, 2), (7, .iload 5, 2), (9, .iload_n 3, 1), (10, .if_icmp .ge 21, 3), (13, .aload_n 0, 1), (14, .iload 5, 2), (16, .baload, 1), (17, .iload 4, 2), (19, .if_icmp .ne 6, 3), (22, .iload 5, 2), (24, .ireturn, 1), (25, .iinc 5 1, 3), (28, .goto (-21), 3), (31, .iconst (-1), 1), (32, .ireturn, 1)]
def am_clw : am_Cd := [(0, .new 7, 3), (3, .dup, 1), (4, .invokespecial 9, 3), (7, .astore_n 1, 1), (8, .new 10, 3), (11, .dup, 1), (12, .invokespecial 12, 3), (15, .astore_n 2, 1), (16, .iconst 0, 1), (17, .istore_n 3, 1), (18, .iload_n 3, 1), (19, .aload_n 0, 1), (20, .arraylength, 1), (21, .iconst 5, 1), (22, .isub, 1), (23, .if_icmp .gt 1318, 3), (26, .aload_n 0, 1), (27, .iload_n 3, 1), (28, .iaload, 1), (29, .bipush 63, 2), (31, .iand, 1), (32, .tableswitch 1303 0 34 #[156, 179, 212, 255, 288, 341, 374, 417, 450, 483, 516, 539, 572, 635, 668, 701, 760, 793, 826, 859, 892, 915, 928, 961, 1004, 1027, 1050, 1063, 1086, 1109, 1132, 1191, 1234, 1257, 1280], 156), (188, .aload_n 1, 1), (189, .aload_n 0, 1), (190, .iload_n 3, 1), (191, .iconst 1, 1), (192, .iadd, 1), (193, .iaload, 1), (194, .invokevirtual 13, 3), (197, .aload_n 2, 1), (198, .aload_n 0, 1), (199, .iload_n 3, 1), (200, .iconst 1, 1), (201, .iadd, 1), (202, .iaload, 1), (203, .invokevirtual 17, 3), (206, .if_icmp .eq 1129, 3), (209, .iconst 0, 1), (210, .ireturn, 1), (211, .aload_n 1, 1), (212, .aload_n 0, 1), (213, .iload_n 3, 1), (214, .iconst 1, 1), (215, .iadd, 1), (216, .iaload, 1), (217, .aload_n 0, 1), (218, .iload_n 3, 1), (219, .iconst 2, 1), (220, .iadd, 1), (221, .iaload, 1), (222, .invokevirtual 18, 3), (225, .aload_n 2, 1), (226, .aload_n 0, 1), (227, .iload_n 3, 1), (228, .iconst 1, 1), (229, .iadd, 1), (230, .iaload, 1), (231, .aload_n 0, 1), (232, .iload_n 3, 1), (233, .iconst 2, 1), (234, .iadd, 1), (235, .iaload, 1), (236, .invokevirtual 22, 3), (239, .if_icmp .eq 1096, 3), (242, .iconst 0, 1), (243, .ireturn, 1), (244, .aload_n 1, 1), (245, .aload_n 0, 1), (246, .iload_n 3, 1), (247, .iconst 1, 1), (248, .iadd, 1), (249, .iaload, 1), (250, .aload_n 0, 1), (251, .iload_n 3, 1), (252, .iconst 2, 1), (253, .iadd, 1), (254, .iaload, 1), (255, .aload_n 0, 1), (256, .iload_n 3, 1), (257, .iconst 3, 1), (258, .iadd, 1), (259, .iaload, 1), (260, .invokevirtual 23, 3), (263, .aload_n 2, 1), (264, .aload_n 0, 1), (265, .iload_n 3, 1), (266, .iconst 1, 1), (267, .iadd, 1), (268, .iaload, 1), (269, .aload_n 0, 1), (270, .iload_n 3, 1), (271, .iconst 2, 1), (272, .iadd, 1), (273, .iaload, 1), (274, .aload_n 0, 1), (275, .iload_n 3, 1), (276, .iconst 3, 1), (277, .iadd, 1), (278, .iaload, 1), (279, .invokevirtual 27, 3), (282, .if_icmp .eq 1053, 3), (285, .iconst 0, 1), (286, .ireturn, 1), (287, .aload_n 1, 1), (288, .aload_n 0, 1), (289, .iload_n 3, 1), (290, .iconst 1, 1), (291, .iadd, 1), (292, .iaload, 1), (293, .aload_n 0, 1), (294, .iload_n 3, 1), (295, .iconst 2, 1), (296, .iadd, 1), (297, .iaload, 1), (298, .invokevirtual 28, 3), (301, .aload_n 2, 1), (302, .aload_n 0, 1), (303, .iload_n 3, 1), (304, .iconst 1, 1), (305, .iadd, 1), (306, .iaload, 1), (307, .aload_n 0, 1), (308, .iload_n 3, 1), (309, .iconst 2, 1), (310, .iadd, 1), (311, .iaload, 1), (312, .invokevirtual 31, 3), (315, .if_icmp .eq 1020, 3), (318, .iconst 0, 1), (319, .ireturn, 1), (320, .aload_n 1, 1), (321, .aload_n 0, 1), (322, .iload_n 3, 1), (323, .iconst 1, 1), (324, .iadd, 1), (325, .iaload, 1), (326, .aload_n 0, 1), (327, .iload_n 3, 1), (328, .iconst 2, 1), (329, .iadd, 1), (330, .iaload, 1), (331, .aload_n 0, 1), (332, .iload_n 3, 1), (333, .iconst 3, 1), (334, .iadd, 1), (335, .iaload, 1), (336, .aload_n 0, 1), (337, .iload_n 3, 1), (338, .iconst 4, 1), (339, .iadd, 1), (340, .iaload, 1), (341, .invokevirtual 32, 3), (344, .aload_n 2, 1), (345, .aload_n 0, 1), (346, .iload_n 3, 1), (347, .iconst 1, 1), (348, .iadd, 1), (349, .iaload, 1), (350, .aload_n 0, 1), (351, .iload_n 3, 1), (352, .iconst 2, 1), (353, .iadd, 1), (354, .iaload, 1), (355, .aload_n 0, 1), (356, .iload_n 3, 1), (357, .iconst 3, 1), (358, .iadd, 1), (359, .iaload, 1), (360, .aload_n 0, 1), (361, .iload_n 3, 1), (362, .iconst 4, 1), (363, .iadd, 1), (364, .iaload, 1), (365, .invokevirtual 36, 3), (368, .if_icmp .eq 967, 3), (371, .iconst 0, 1), (372, .ireturn, 1), (373, .aload_n 1, 1), (374, .aload_n 0, 1), (375, .iload_n 3, 1), (376, .iconst 1, 1), (377, .iadd, 1), (378, .iaload, 1), (379, .aload_n 0, 1), (380, .iload_n 3, 1), (381, .iconst 2, 1), (382, .iadd, 1), (383, .iaload, 1), (384, .invokevirtual 37, 3), (387, .aload_n 2, 1), (388, .aload_n 0, 1), (389, .iload_n 3, 1), (390, .iconst 1, 1), (391, .iadd, 1), (392, .iaload, 1), (393, .aload_n 0, 1), (394, .iload_n 3, 1), (395, .iconst 2, 1), (396, .iadd, 1), (397, .iaload, 1), (398, .invokevirtual 40, 3), (401, .if_icmp .eq 934, 3), (404, .iconst 0, 1), (405, .ireturn, 1), (406, .aload_n 1, 1), (407, .aload_n 0, 1), (408, .iload_n 3, 1), (409, .iconst 1, 1), (410, .iadd, 1), (411, .iaload, 1), (412, .aload_n 0, 1), (413, .iload_n 3, 1), (414, .iconst 2, 1), (415, .iadd, 1), (416, .iaload, 1), (417, .aload_n 0, 1), (418, .iload_n 3, 1), (419, .iconst 3, 1), (420, .iadd, 1), (421, .iaload, 1), (422, .invokevirtual 41, 3), (425, .aload_n 2, 1), (426, .aload_n 0, 1), (427, .iload_n 3, 1), (428, .iconst 1, 1), (429, .iadd, 1), (430, .iaload, 1), (431, .aload_n 0, 1), (432, .iload_n 3, 1), (433, .iconst 2, 1), (434, .iadd, 1), (435, .iaload, 1), (436, .aload_n 0, 1), (437, .iload_n 3, 1), (438, .iconst 3, 1), (439, .iadd, 1), (440, .iaload, 1), (441, .invokevirtual 44, 3), (444, .if_icmp .eq 891, 3), (447, .iconst 0, 1), (448, .ireturn, 1), (449, .aload_n 1, 1), (450, .aload_n 0, 1), (451, .iload_n 3, 1), (452, .iconst 1, 1), (453, .iadd, 1), (454, .iaload, 1), (455, .aload_n 0, 1), (456, .iload_n 3, 1), (457, .iconst 2, 1), (458, .iadd, 1), (459, .iaload, 1), (460, .invokevirtual 45, 3), (463, .aload_n 2, 1), (464, .aload_n 0, 1), (465, .iload_n 3, 1), (466, .iconst 1, 1), (467, .iadd, 1), (468, .iaload, 1), (469, .aload_n 0, 1), (470, .iload_n 3, 1), (471, .iconst 2, 1), (472, .iadd, 1), (473, .iaload, 1), (474, .invokevirtual 48, 3), (477, .if_icmp .eq 858, 3), (480, .iconst 0, 1), (481, .ireturn, 1), (482, .aload_n 1, 1), (483, .aload_n 0, 1), (484, .iload_n 3, 1), (485, .iconst 1, 1), (486, .iadd, 1), (487, .iaload, 1), (488, .aload_n 0, 1), (489, .iload_n 3, 1), (490, .iconst 2, 1), (491, .iadd, 1), (492, .iaload, 1), (493, .invokevirtual 49, 3), (496, .aload_n 2, 1), (497, .aload_n 0, 1), (498, .iload_n 3, 1), (499, .iconst 1, 1), (500, .iadd, 1), (501, .iaload, 1), (502, .aload_n 0, 1), (503, .iload_n 3, 1), (504, .iconst 2, 1), (505, .iadd, 1), (506, .iaload, 1), (507, .invokevirtual 52, 3), (510, .if_icmp .eq 825, 3), (513, .iconst 0, 1), (514, .ireturn, 1), (515, .aload_n 1, 1), (516, .aload_n 0, 1), (517, .iload_n 3, 1), (518, .iconst 1, 1), (519, .iadd, 1), (520, .iaload, 1), (521, .aload_n 0, 1), (522, .iload_n 3, 1), (523, .iconst 2, 1), (524, .iadd, 1), (525, .iaload, 1), (526, .invokevirtual 53, 3), (529, .aload_n 2, 1), (530, .aload_n 0, 1), (531, .iload_n 3, 1), (532, .iconst 1, 1), (533, .iadd, 1), (534, .iaload, 1), (535, .aload_n 0, 1), (536, .iload_n 3, 1), (537, .iconst 2, 1), (538, .iadd, 1), (539, .iaload, 1), (540, .invokevirtual 56, 3), (543, .if_icmp .eq 792, 3), (546, .iconst 0, 1), (547, .ireturn, 1), (548, .aload_n 1, 1), (549, .aload_n 0, 1), (550, .iload_n 3, 1), (551, .iconst 1, 1), (552, .iadd, 1), (553, .iaload, 1), (554, .invokevirtual 57, 3), (557, .aload_n 2, 1), (558, .aload_n 0, 1), (559, .iload_n 3, 1), (560, .iconst 1, 1), (561, .iadd, 1), (562, .iaload, 1), (563, .invokevirtual 60, 3), (566, .if_icmp .eq 769, 3), (569, .iconst 0, 1), (570, .ireturn, 1), (571, .aload_n 1, 1), (572, .aload_n 0, 1), (573, .iload_n 3, 1), (574, .iconst 1, 1), (575, .iadd, 1), (576, .iaload, 1), (577, .aload_n 0, 1), (578, .iload_n 3, 1), (579, .iconst 2, 1), (580, .iadd, 1), (581, .iaload, 1), (582, .invokevirtual 61, 3), (585, .aload_n 2, 1), (586, .aload_n 0, 1), (587, .iload_n 3, 1), (588, .iconst 1, 1), (589, .iadd, 1), (590, .iaload, 1), (591, .aload_n 0, 1), (592, .iload_n 3, 1), (593, .iconst 2, 1), (594, .iadd, 1), (595, .iaload, 1), (596, .invokevirtual 64, 3), (599, .if_icmp .eq 736, 3), (602, .iconst 0, 1), (603, .ireturn, 1), (604, .aload_n 1, 1), (605, .aload_n 0, 1), (606, .iload_n 3, 1), (607, .iconst 1, 1), (608, .iadd, 1), (609, .iaload, 1), (610, .aload_n 0, 1), (611, .iload_n 3, 1), (612, .iconst 2, 1), (613, .iadd, 1), (614, .iaload, 1), (615, .i2l, 1), (616, .bipush 32, 2), (618, .lshl, 1), (619, .aload_n 0, 1), (620, .iload_n 3, 1), (621, .iconst 3, 1), (622, .iadd, 1), (623, .iaload, 1), (624, .i2l, 1), (625, .ldc2_w 65, 3), (628, .land, 1), (629, .lor, 1), (630, .invokevirtual 67, 3), (633, .aload_n 2, 1), (634, .aload_n 0, 1), (635, .iload_n 3, 1), (636, .iconst 1, 1), (637, .iadd, 1), (638, .iaload, 1), (639, .aload_n 0, 1), (640, .iload_n 3, 1), (641, .iconst 2, 1), (642, .iadd, 1), (643, .iaload, 1), (644, .i2l, 1), (645, .bipush 32, 2), (647, .lshl, 1), (648, .aload_n 0, 1), (649, .iload_n 3, 1), (650, .iconst 3, 1), (651, .iadd, 1), (652, .iaload, 1), (653, .i2l, 1), (654, .ldc2_w 65, 3), (657, .land, 1), (658, .lor, 1), (659, .invokevirtual 71, 3), (662, .if_icmp .eq 673, 3), (665, .iconst 0, 1), (666, .ireturn, 1), (667, .aload_n 1, 1), (668, .aload_n 0, 1), (669, .iload_n 3, 1), (670, .iconst 1, 1), (671, .iadd, 1), (672, .iaload, 1), (673, .aload_n 0, 1), (674, .iload_n 3, 1), (675, .iconst 2, 1), (676, .iadd, 1), (677, .iaload, 1), (678, .invokevirtual 72, 3), (681, .aload_n 2, 1), (682, .aload_n 0, 1), (683, .iload_n 3, 1), (684, .iconst 1, 1), (685, .iadd, 1), (686, .iaload, 1), (687, .aload_n 0, 1), (688, .iload_n 3, 1), (689, .iconst 2, 1), (690, .iadd, 1), (691, .iaload, 1), (692, .invokevirtual 75, 3), (695, .if_icmp .eq 640, 3), (698, .iconst 0, 1), (699, .ireturn, 1), (700, .aload_n 1, 1), (701, .aload_n 0, 1), (702, .iload_n 3, 1), (703, .iconst 1, 1), (704, .iadd, 1), (705, .iaload, 1), (706, .aload_n 0, 1), (707, .iload_n 3, 1), (708, .iconst 2, 1), (709, .iadd, 1), (710, .iaload, 1), (711, .invokevirtual 76, 3), (714, .aload_n 2, 1), (715, .aload_n 0, 1), (716, .iload_n 3, 1), (717, .iconst 1, 1), (718, .iadd, 1), (719, .iaload, 1), (720, .aload_n 0, 1), (721, .iload_n 3, 1), (722, .iconst 2, 1), (723, .iadd, 1), (724, .iaload, 1), (725, .invokevirtual 79, 3), (728, .if_icmp .eq 607, 3), (731, .iconst 0, 1), (732, .ireturn, 1), (733, .aload_n 1, 1), (734, .aload_n 0, 1), (735, .iload_n 3, 1), (736, .iconst 1, 1), (737, .iadd, 1), (738, .iaload, 1), (739, .aload_n 0, 1), (740, .iload_n 3, 1), (741, .iconst 2, 1), (742, .iadd, 1), (743, .iaload, 1), (744, .ifCond .eq 7, 3), (747, .iconst 1, 1), (748, .goto 4, 3), (751, .iconst 0, 1), (752, .aload_n 0, 1), (753, .iload_n 3, 1), (754, .iconst 3, 1), (755, .iadd, 1), (756, .iaload, 1), (757, .invokevirtual 80, 3), (760, .aload_n 2, 1), (761, .aload_n 0, 1), (762, .iload_n 3, 1), (763, .iconst 1, 1), (764, .iadd, 1), (765, .iaload, 1), (766, .aload_n 0, 1), (767, .iload_n 3, 1), (768, .iconst 2, 1), (769, .iadd, 1), (770, .iaload, 1), (771, .ifCond .eq 7, 3), (774, .iconst 1, 1), (775, .goto 4, 3), (778, .iconst 0, 1), (779, .aload_n 0, 1), (780, .iload_n 3, 1), (781, .iconst 3, 1), (782, .iadd, 1), (783, .iaload, 1), (784, .invokevirtual 84, 3), (787, .if_icmp .eq 548, 3), (790, .iconst 0, 1), (791, .ireturn, 1), (792, .aload_n 1, 1), (793, .aload_n 0, 1), (794, .iload_n 3, 1), (795, .iconst 1, 1), (796, .iadd, 1), (797, .iaload, 1), (798, .aload_n 0, 1), (799, .iload_n 3, 1), (800, .iconst 2, 1), (801, .iadd, 1), (802, .iaload, 1), (803, .invokevirtual 85, 3), (806, .aload_n 2, 1), (807, .aload_n 0, 1), (808, .iload_n 3, 1), (809, .iconst 1, 1), (810, .iadd, 1), (811, .iaload, 1), (812, .aload_n 0, 1), (813, .iload_n 3, 1), (814, .iconst 2, 1), (815, .iadd, 1), (816, .iaload, 1), (817, .invokevirtual 88, 3), (820, .if_icmp .eq 515, 3), (823, .iconst 0, 1), (824, .ireturn, 1), (825, .aload_n 1, 1), (826, .aload_n 0, 1), (827, .iload_n 3, 1), (828, .iconst 1, 1), (829, .iadd, 1), (830, .iaload, 1), (831, .aload_n 0, 1), (832, .iload_n 3, 1), (833, .iconst 2, 1), (834, .iadd, 1), (835, .iaload, 1), (836, .invokevirtual 89, 3), (839, .aload_n 2, 1), (840, .aload_n 0, 1), (841, .iload_n 3, 1), (842, .iconst 1, 1), (843, .iadd, 1), (844, .iaload, 1), (845, .aload_n 0, 1), (846, .iload_n 3, 1), (847, .iconst 2, 1), (848, .iadd, 1), (849, .iaload, 1), (850, .invokevirtual 92, 3), (853, .if_icmp .eq 482, 3), (856, .iconst 0, 1), (857, .ireturn, 1), (858, .aload_n 1, 1), (859, .aload_n 0, 1), (860, .iload_n 3, 1), (861, .iconst 1, 1), (862, .iadd, 1), (863, .iaload, 1), (864, .aload_n 0, 1), (865, .iload_n 3, 1), (866, .iconst 2, 1), (867, .iadd, 1), (868, .iaload, 1), (869, .invokevirtual 93, 3), (872, .aload_n 2, 1), (873, .aload_n 0, 1), (874, .iload_n 3, 1), (875, .iconst 1, 1), (876, .iadd, 1), (877, .iaload, 1), (878, .aload_n 0, 1), (879, .iload_n 3, 1), (880, .iconst 2, 1), (881, .iadd, 1), (882, .iaload, 1), (883, .invokevirtual 96, 3), (886, .if_icmp .eq 449, 3), (889, .iconst 0, 1), (890, .ireturn, 1), (891, .aload_n 1, 1), (892, .aload_n 0, 1), (893, .iload_n 3, 1), (894, .iconst 1, 1), (895, .iadd, 1), (896, .iaload, 1), (897, .aload_n 0, 1), (898, .iload_n 3, 1), (899, .iconst 2, 1), (900, .iadd, 1), (901, .iaload, 1), (902, .invokevirtual 97, 3), (905, .aload_n 2, 1), (906, .aload_n 0, 1), (907, .iload_n 3, 1), (908, .iconst 1, 1), (909, .iadd, 1), (910, .iaload, 1), (911, .aload_n 0, 1), (912, .iload_n 3, 1), (913, .iconst 2, 1), (914, .iadd, 1), (915, .iaload, 1), (916, .invokevirtual 100, 3), (919, .if_icmp .eq 416, 3), (922, .iconst 0, 1), (923, .ireturn, 1), (924, .aload_n 1, 1), (925, .aload_n 0, 1), (926, .iload_n 3, 1), (927, .iconst 1, 1), (928, .iadd, 1), (929, .iaload, 1), (930, .invokevirtual 101, 3), (933, .aload_n 2, 1), (934, .aload_n 0, 1), (935, .iload_n 3, 1), (936, .iconst 1, 1), (937, .iadd, 1), (938, .iaload, 1), (939, .invokevirtual 104, 3), (942, .if_icmp .eq 393, 3), (945, .iconst 0, 1), (946, .ireturn, 1), (947, .aload_n 1, 1), (948, .invokevirtual 105, 3), (951, .aload_n 2, 1), (952, .invokevirtual 109, 3), (955, .if_icmp .eq 380, 3), (958, .iconst 0, 1), (959, .ireturn, 1), (960, .aload_n 1, 1), (961, .aload_n 0, 1), (962, .iload_n 3, 1), (963, .iconst 1, 1), (964, .iadd, 1), (965, .iaload, 1), (966, .aload_n 0, 1), (967, .iload_n 3, 1), (968, .iconst 2, 1), (969, .iadd, 1), (970, .iaload, 1), (971, .invokevirtual 110, 3), (974, .aload_n 2, 1), (975, .aload_n 0, 1), (976, .iload_n 3, 1), (977, .iconst 1, 1), (978, .iadd, 1), (979, .iaload, 1), (980, .aload_n 0, 1), (981, .iload_n 3, 1), (982, .iconst 2, 1), (983, .iadd, 1), (984, .iaload, 1), (985, .invokevirtual 113, 3), (988, .if_icmp .eq 347, 3), (991, .iconst 0, 1), (992, .ireturn, 1), (993, .aload_n 1, 1), (994, .aload_n 0, 1), (995, .iload_n 3, 1), (996, .iconst 1, 1), (997, .iadd, 1), (998, .iaload, 1), (999, .aload_n 0, 1), (1000, .iload_n 3, 1), (1001, .iconst 2, 1), (1002, .iadd, 1), (1003, .iaload, 1), (1004, .aload_n 0, 1), (1005, .iload_n 3, 1), (1006, .iconst 3, 1), (1007, .iadd, 1), (1008, .iaload, 1), (1009, .invokevirtual 114, 3), (1012, .aload_n 2, 1), (1013, .aload_n 0, 1), (1014, .iload_n 3, 1), (1015, .iconst 1, 1), (1016, .iadd, 1), (1017, .iaload, 1), (1018, .aload_n 0, 1), (1019, .iload_n 3, 1), (1020, .iconst 2, 1), (1021, .iadd, 1), (1022, .iaload, 1), (1023, .aload_n 0, 1), (1024, .iload_n 3, 1), (1025, .iconst 3, 1), (1026, .iadd, 1), (1027, .iaload, 1), (1028, .invokevirtual 117, 3), (1031, .if_icmp .eq 304, 3), (1034, .iconst 0, 1), (1035, .ireturn, 1), (1036, .aload_n 1, 1), (1037, .aload_n 0, 1), (1038, .iload_n 3, 1), (1039, .iconst 1, 1), (1040, .iadd, 1), (1041, .iaload, 1), (1042, .invokevirtual 118, 3), (1045, .aload_n 2, 1), (1046, .aload_n 0, 1), (1047, .iload_n 3, 1), (1048, .iconst 1, 1), (1049, .iadd, 1), (1050, .iaload, 1), (1051, .invokevirtual 121, 3), (1054, .if_icmp .eq 281, 3), (1057, .iconst 0, 1), (1058, .ireturn, 1), (1059, .aload_n 1, 1), (1060, .aload_n 0, 1), (1061, .iload_n 3, 1), (1062, .iconst 1, 1), (1063, .iadd, 1), (1064, .iaload, 1), (1065, .invokevirtual 122, 3), (1068, .aload_n 2, 1), (1069, .aload_n 0, 1), (1070, .iload_n 3, 1), (1071, .iconst 1, 1), (1072, .iadd, 1), (1073, .iaload, 1), (1074, .invokevirtual 125, 3), (1077, .if_icmp .eq 258, 3), (1080, .iconst 0, 1), (1081, .ireturn, 1), (1082, .aload_n 1, 1), (1083, .invokevirtual 126, 3), (1086, .aload_n 2, 1), (1087, .invokevirtual 129, 3), (1090, .if_icmp .eq 245, 3), (1093, .iconst 0, 1), (1094, .ireturn, 1), (1095, .aload_n 1, 1), (1096, .aload_n 0, 1), (1097, .iload_n 3, 1), (1098, .iconst 1, 1), (1099, .iadd, 1), (1100, .iaload, 1), (1101, .invokevirtual 130, 3), (1104, .aload_n 2, 1), (1105, .aload_n 0, 1), (1106, .iload_n 3, 1), (1107, .iconst 1, 1), (1108, .iadd, 1), (1109, .iaload, 1), (1110, .invokevirtual 133, 3), (1113, .if_icmp .eq 222, 3), (1116, .iconst 0, 1), (1117, .ireturn, 1), (1118, .aload_n 1, 1), (1119, .aload_n 0, 1), (1120, .iload_n 3, 1), (1121, .iconst 1, 1), (1122, .iadd, 1), (1123, .iaload, 1), (1124, .invokevirtual 134, 3), (1127, .aload_n 2, 1), (1128, .aload_n 0, 1), (1129, .iload_n 3, 1), (1130, .iconst 1, 1), (1131, .iadd, 1), (1132, .iaload, 1), (1133, .invokevirtual 137, 3), (1136, .if_icmp .eq 199, 3), (1139, .iconst 0, 1), (1140, .ireturn, 1), (1141, .aload_n 1, 1), (1142, .aload_n 0, 1), (1143, .iload_n 3, 1), (1144, .iconst 1, 1), (1145, .iadd, 1), (1146, .iaload, 1), (1147, .invokevirtual 138, 3), (1150, .aload_n 2, 1), (1151, .aload_n 0, 1), (1152, .iload_n 3, 1), (1153, .iconst 1, 1), (1154, .iadd, 1), (1155, .iaload, 1), (1156, .invokevirtual 141, 3), (1159, .if_icmp .eq 176, 3), (1162, .iconst 0, 1), (1163, .ireturn, 1), (1164, .aload_n 1, 1), (1165, .aload_n 0, 1), (1166, .iload_n 3, 1), (1167, .iconst 1, 1), (1168, .iadd, 1), (1169, .iaload, 1), (1170, .aload_n 0, 1), (1171, .iload_n 3, 1), (1172, .iconst 2, 1), (1173, .iadd, 1), (1174, .iaload, 1), (1175, .ifCond .eq 7, 3), (1178, .iconst 1, 1), (1179, .goto 4, 3), (1182, .iconst 0, 1), (1183, .aload_n 0, 1), (1184, .iload_n 3, 1), (1185, .iconst 3, 1), (1186, .iadd, 1), (1187, .iaload, 1), (1188, .invokevirtual 142, 3), (1191, .aload_n 2, 1), (1192, .aload_n 0, 1), (1193, .iload_n 3, 1), (1194, .iconst 1, 1), (1195, .iadd, 1), (1196, .iaload, 1), (1197, .aload_n 0, 1), (1198, .iload_n 3, 1), (1199, .iconst 2, 1), (1200, .iadd, 1), (1201, .iaload, 1), (1202, .ifCond .eq 7, 3), (1205, .iconst 1, 1), (1206, .goto 4, 3), (1209, .iconst 0, 1), (1210, .aload_n 0, 1), (1211, .iload_n 3, 1), (1212, .iconst 3, 1), (1213, .iadd, 1), (1214, .iaload, 1), (1215, .invokevirtual 145, 3), (1218, .if_icmp .eq 117, 3), (1221, .iconst 0, 1), (1222, .ireturn, 1), (1223, .aload_n 1, 1), (1224, .aload_n 0, 1), (1225, .iload_n 3, 1), (1226, .iconst 1, 1), (1227, .iadd, 1), (1228, .iaload, 1), (1229, .aload_n 0, 1), (1230, .iload_n 3, 1), (1231, .iconst 2, 1), (1232, .iadd, 1), (1233, .iaload, 1), (1234, .aload_n 0, 1), (1235, .iload_n 3, 1), (1236, .iconst 3, 1), (1237, .iadd, 1), (1238, .iaload, 1), (1239, .invokevirtual 146, 3), (1242, .aload_n 2, 1), (1243, .aload_n 0, 1), (1244, .iload_n 3, 1), (1245, .iconst 1, 1), (1246, .iadd, 1), (1247, .iaload, 1), (1248, .aload_n 0, 1), (1249, .iload_n 3, 1), (1250, .iconst 2, 1), (1251, .iadd, 1), (1252, .iaload, 1), (1253, .aload_n 0, 1), (1254, .iload_n 3, 1), (1255, .iconst 3, 1), (1256, .iadd, 1), (1257, .iaload, 1), (1258, .invokevirtual 149, 3), (1261, .if_icmp .eq 74, 3), (1264, .iconst 0, 1), (1265, .ireturn, 1), (1266, .aload_n 1, 1), (1267, .aload_n 0, 1), (1268, .iload_n 3, 1), (1269, .iconst 1, 1), (1270, .iadd, 1), (1271, .iaload, 1), (1272, .invokevirtual 150, 3), (1275, .aload_n 2, 1), (1276, .aload_n 0, 1), (1277, .iload_n 3, 1), (1278, .iconst 1, 1), (1279, .iadd, 1), (1280, .iaload, 1), (1281, .invokevirtual 153, 3), (1284, .if_icmp .eq 51, 3), (1287, .iconst 0, 1), (1288, .ireturn, 1), (1289, .aload_n 1, 1), (1290, .aload_n 0, 1), (1291, .iload_n 3, 1), (1292, .iconst 1, 1), (1293, .iadd, 1), (1294, .iaload, 1), (1295, .invokevirtual 154, 3), (1298, .aload_n 2, 1), (1299, .aload_n 0, 1), (1300, .iload_n 3, 1), (1301, .iconst 1, 1), (1302, .iadd, 1), (1303, .iaload, 1), (1304, .invokevirtual 157, 3), (1307, .if_icmp .eq 28, 3), (1310, .iconst 0, 1), (1311, .ireturn, 1), (1312, .aload_n 1, 1), (1313, .aload_n 0, 1), (1314, .iload_n 3, 1), (1315, .iconst 1, 1), (1316, .iadd, 1), (1317, .iaload, 1), (1318, .invokevirtual 158, 3), (1321, .aload_n 2, 1), (1322, .aload_n 0, 1), (1323, .iload_n 3, 1), (1324, .iconst 1, 1), (1325, .iadd, 1), (1326, .iaload, 1), (1327, .invokevirtual 161, 3), (1330, .if_icmp .eq 5, 3), (1333, .iconst 0, 1), (1334, .ireturn, 1), (1335, .iinc 3 5, 3), (1338, .goto (-1320), 3), (1341, .iconst 1, 1), (1342, .ireturn, 1)]
def am_cds : List am_Cd := [am_c0, am_c1, am_c2, am_c3, am_c4, am_c5, am_c6, am_c7, am_c8, am_c9, am_c10, am_c11, am_c12, am_c13, am_c14, am_c15, am_c16, am_c17, am_c18, am_c19, am_c20, am_c21, am_c22, am_c23, am_c24, am_c25, am_c26, am_c27, am_c28, am_c29, am_c30, am_c31, am_c32, am_c33, am_c34, am_c35, am_c36, am_c37, am_c38, am_c39, am_c40, am_c41, am_c42, am_c43, am_c44, am_c45, am_c46, am_c47, am_c48, am_c49, am_c50, am_c51, am_c52, am_c53, am_c54, am_c55, am_c56, am_c57, am_c58, am_c59, am_c60, am_c61, am_c62, am_c63, am_c64, am_c65, am_c66, am_c67, am_c68, am_c69, am_c70, am_c71, am_c72, am_c73, am_c74, am_c75, am_c76, am_c77, am_c78, am_c79, am_c80, am_c81, am_c82, am_c83, am_c84, am_c85, am_c86, am_c87, am_c88, am_c89, am_c90, am_c91, am_c92, am_c93, am_c94, am_c95, am_c96, am_c97, am_c98, am_c99, am_c100, am_c101, am_c102, am_c103, am_c104, am_c105, am_c106, am_c107, am_c108, am_c109, am_c110, am_c111, am_c112, am_c113, am_c114, am_c115, am_c116, am_c117, am_c118, am_c119, am_c120, am_c121, am_c122, am_c123, am_c124, am_c125, am_c126, am_c127, am_c128, am_c129, am_c130, am_c131, am_c132, am_c133, am_c134, am_c135, am_c136, am_c137, am_c138, am_c139, am_c140, am_c141, am_c142, am_c143, am_c144, am_c145, am_c146, am_c147, am_c148, am_c149, am_c150, am_c151, am_c152, am_c153, am_c154, am_c155, am_c156, am_c157, am_c158, am_c159, am_c160, am_c161, am_c162, am_c163, am_c164, am_c165, am_c166, am_c167, am_c168, am_c169, am_c170, am_c171, am_c172, am_c173, am_c174, am_c175, am_c176, am_c177, am_c178, am_c179, am_c180, am_c181, am_c182, am_c183, am_c184, am_c185, am_c186, am_c187, am_c188, am_c189, am_c190, am_c191, am_c192, am_c193, am_c194, am_c195, am_c196, am_c197, am_c198, am_c199, am_c200, am_c201, am_c202, am_c203, am_c204, am_c205, am_c206, am_c207, am_c208, am_c209, am_c210, am_c211, am_c212, am_c213, am_c214, am_c215, am_c216, am_c217, am_c218, am_c219, am_c220, am_c221, am_c222, am_c223, am_c224, am_c225, am_c226, am_c227, am_c228, am_c229, am_c230, am_c231, am_c232, am_c233, am_c234, am_c235, am_c236, am_c237, am_c238, am_c239, am_c240, am_c241, am_c242, am_c243, am_c244, am_c245, am_c246, am_c247, am_c248, am_c249, am_c250, am_c251, am_c252, am_c253, am_c254, am_c255, am_c256, am_c257, am_clw]
/-- by class: links of fields (index; class, slot, place of the word), of methods (index; method, place) -/
def am_fls : List (List (Nat × Nat × Nat × Nat)) := [[(7, 0, 0, 519), (16, 0, 1, 520), (23, 0, 2, 521), (30, 0, 3, 522), (37, 0, 4, 523), (46, 0, 5, 524), (53, 0, 6, 525), (64, 0, 7, 526), (71, 0, 8, 527), (75, 0, 9, 528), (80, 0, 10, 529), (88, 0, 11, 530), (97, 0, 12, 531), (104, 0, 13, 532), (112, 8, 0, 228), (123, 11, 0, 144), (130, 11, 2, 150), (134, 11, 1, 147), (138, 3, 0, 169), (145, 2, 0, 203), (152, 8, 1, 234), (160, 8, 2, 238), (163, 8, 3, 241), (166, 8, 4, 245), (169, 8, 5, 250), (172, 8, 6, 253), (190, 6, 0, 360), (193, 9, 0, 327), (223, 5, 1, 289), (226, 5, 2, 292), (250, 1, 0, 444), (253, 1, 1, 446), (256, 3, 5, 180), (268, 4, 0, 477), (281, 4, 1, 479), (284, 4, 2, 481), (290, 8, 8, 258), (293, 8, 7, 256), (296, 2, 3, 209), (311, 5, 0, 287)],
  [(9, 1, 4, 449), (13, 1, 5, 450), (16, 1, 6, 451), (19, 1, 2, 447), (23, 1, 3, 448), (27, 1, 7, 452), (31, 6, 0, 357), (53, 1, 0, 443), (56, 1, 1, 445), (67, 8, 3, 240)],
  [(9, 2, 1, 204), (13, 2, 2, 206), (18, 2, 3, 208), (27, 2, 0, 202)],
  [(9, 3, 1, 171), (13, 3, 2, 173), (16, 3, 3, 175), (19, 3, 4, 177), (26, 3, 5, 178), (29, 3, 0, 167)],
  [(11, 4, 0, 476), (15, 4, 7, 486), (18, 4, 8, 487), (23, 4, 10, 489), (26, 4, 11, 490), (29, 4, 12, 491), (33, 4, 3, 482), (37, 4, 4, 483), (41, 4, 5, 484), (45, 4, 6, 485), (49, 8, 0, 226), (61, 6, 0, 358), (72, 4, 9, 488), (77, 3, 0, 168), (116, 3, 5, 179), (123, 5, 2, 291), (136, 8, 5, 251), (169, 4, 2, 480), (176, 4, 1, 478)],
  [(11, 5, 1, 288), (19, 5, 2, 290), (22, 5, 3, 294), (29, 5, 5, 297), (32, 5, 6, 298), (35, 5, 7, 299), (38, 5, 8, 300), (42, 5, 4, 296), (56, 8, 0, 227), (59, 8, 4, 244), (62, 8, 5, 249), (65, 5, 0, 286), (68, 8, 1, 233), (73, 8, 2, 236), (83, 8, 6, 254)],
  [(13, 6, 1, 361), (19, 6, 0, 356)],
  [(19, 7, 6, 414), (27, 7, 7, 415), (30, 7, 0, 408), (34, 7, 1, 409), (38, 7, 2, 410), (42, 7, 3, 411), (46, 7, 4, 412), (50, 7, 5, 413), (54, 8, 5, 248), (65, 7, 8, 416), (69, 8, 1, 232), (101, 8, 2, 237), (104, 8, 0, 230), (120, 8, 4, 246), (123, 3, 1, 172), (132, 11, 2, 151), (138, 8, 3, 242), (144, 11, 0, 145), (147, 2, 1, 205), (150, 2, 2, 207), (153, 3, 2, 174), (167, 11, 1, 148), (181, 5, 2, 293), (184, 5, 3, 295), (187, 3, 3, 176), (201, 3, 0, 170)],
  [(11, 8, 2, 235), (15, 8, 3, 239), (18, 8, 4, 243), (21, 8, 5, 247), (24, 8, 6, 252), (27, 8, 7, 255), (30, 8, 8, 257), (39, 8, 1, 231), (43, 8, 0, 229)],
  [(11, 9, 1, 328), (15, 9, 2, 329), (18, 9, 3, 330), (23, 9, 4, 331), (26, 9, 5, 332), (30, 9, 0, 326), (34, 10, 0, 374), (36, 10, 1, 376)],
  [(9, 10, 1, 375), (13, 10, 2, 377), (17, 10, 0, 373), (21, 10, 3, 378), (24, 10, 4, 379), (31, 6, 0, 359)],
  [(9, 11, 0, 143), (13, 11, 1, 146), (18, 11, 2, 149)],
  [(7, 12, 1, 1249), (13, 12, 2, 1250), (16, 12, 3, 1251), (19, 12, 5, 1253), (22, 12, 6, 1254), (25, 12, 7, 1255), (28, 12, 8, 1256), (31, 12, 9, 1257), (34, 12, 11, 1259), (37, 12, 12, 1260), (40, 12, 13, 1261), (43, 12, 15, 1263), (46, 12, 16, 1264), (49, 12, 17, 1265), (52, 12, 18, 1266), (55, 12, 19, 1267), (58, 12, 20, 1268), (61, 12, 21, 1269), (64, 12, 22, 1270), (67, 12, 23, 1271), (71, 12, 26, 1274), (74, 12, 27, 1275), (77, 12, 28, 1276), (80, 12, 29, 1277), (83, 12, 30, 1278), (87, 12, 31, 1279), (91, 12, 32, 1280), (94, 12, 33, 1281), (97, 12, 34, 1282), (100, 12, 35, 1283), (103, 12, 36, 1284), (106, 12, 37, 1285), (109, 12, 38, 1286), (112, 12, 40, 1288), (115, 12, 42, 1290), (118, 12, 43, 1291), (121, 12, 44, 1292), (124, 12, 45, 1293), (127, 12, 46, 1294), (130, 12, 47, 1295), (133, 12, 48, 1296), (136, 12, 49, 1297), (139, 12, 52, 1300), (147, 12, 4, 1252), (151, 12, 10, 1258), (154, 12, 14, 1262), (157, 12, 0, 1248), (207, 12, 24, 1272), (222, 12, 25, 1273), (287, 12, 39, 1287), (333, 12, 41, 1289), (349, 12, 50, 1298), (352, 12, 51, 1299)],
  [],
  [],
  [],
  [],
  [],
  [],
  []]
def am_fld (own idx : Nat) : Option (Nat × Nat) := match (am_fls.getD own []).lookup idx with
  | some q => some (q.1, q.2.1)
  | none => none
def am_mls : List (List (Nat × Nat × Nat)) := [[(15, 145, 134), (29, 48, 196), (36, 114, 221), (43, 75, 280), (61, 85, 349), (68, 133, 369), (85, 91, 393), (94, 43, 439), (101, 59, 472), (108, 2, 566), (116, 146, 574), (120, 147, 578), (126, 5, 586), (141, 53, 598), (146, 49, 606), (149, 50, 614), (153, 115, 618), (157, 117, 630), (159, 118, 638), (175, 119, 642), (178, 54, 650), (179, 92, 654), (182, 110, 807), (185, 86, 815), (188, 87, 819), (194, 134, 827), (198, 89, 949), (201, 132, 953), (204, 18, 964), (207, 107, 969), (210, 80, 974), (214, 81, 979), (217, 78, 983), (220, 76, 988), (229, 82, 997), (232, 83, 1005), (235, 25, 1013), (239, 28, 1025), (243, 29, 1030), (246, 44, 1038), (259, 32, 1079), (262, 60, 1083), (265, 61, 1092), (271, 68, 1130), (275, 70, 1144), (278, 71, 1157), (287, 56, 1189), (299, 122, 1214), (302, 123, 1218), (305, 51, 1226), (308, 124, 1234), (312, 84, 1238), (316, 88, 1029), (319, 90, 1034), (22, 52, 162), (52, 125, 322)],
  [(34, 88, 1042), (38, 111, 1043), (44, 45, 1047), (48, 121, 1051), (59, 93, 1052), (63, 46, 1053), (70, 47, 1057), (73, 98, 1065), (77, 94, 1066), (80, 112, 1067), (83, 249, 1061), (88, 248, 1064)],
  [(21, 242, 201)],
  [(33, 57, 1193), (37, 58, 1197), (41, 55, 1201)],
  [(55, 76, 1087), (66, 245, 1088), (73, 88, 1089), (80, 93, 1090), (85, 95, 1091), (88, 242, 1096), (94, 62, 1097), (98, 63, 1101), (101, 66, 1114), (105, 64, 1105), (109, 65, 1109), (113, 67, 1118), (120, 105, 1113), (126, 54, 1134), (129, 90, 1135), (132, 69, 1136), (139, 113, 1148), (143, 243, 1162), (146, 72, 1165), (149, 73, 1173), (153, 246, 1172), (156, 74, 1179)],
  [(46, 242, 285), (52, 119, 978), (69, 78, 747), (76, 77, 743), (80, 79, 751)],
  [(7, 244, 353)],
  [(13, 250, 398), (57, 93, 658), (61, 95, 670), (72, 120, 662), (76, 94, 666), (79, 96, 674), (83, 97, 678), (86, 98, 682), (89, 107, 723), (92, 99, 686), (95, 100, 691), (98, 104, 711), (107, 126, 727), (112, 108, 735), (116, 128, 773), (128, 102, 699), (141, 110, 1152), (154, 116, 690), (158, 101, 695), (161, 148, 703), (164, 103, 707), (170, 105, 715), (173, 106, 719), (176, 76, 739), (190, 248, 755), (195, 121, 761), (198, 109, 765), (202, 55, 769)],
  [(33, 242, 225), (46, 244, 626), (52, 245, 627), (55, 116, 622)],
  [(37, 259, 957), (43, 127, 731), (47, 129, 777), (51, 130, 781), (55, 131, 784), (64, 246, 789), (70, 247, 792)],
  [(27, 135, 831), (34, 143, 866), (37, 88, 847), (40, 136, 835), (43, 138, 843), (47, 141, 858), (50, 137, 839), (53, 139, 851), (57, 140, 854), (60, 142, 862), (63, 144, 870), (68, 252, 875)],
  [(21, 242, 140)],
  [(143, 151, 1413), (160, 153, 1421), (165, 159, 1446), (168, 161, 1454), (171, 162, 1458), (174, 167, 1478), (178, 169, 1486), (181, 170, 1490), (185, 166, 1474), (188, 168, 1482), (191, 171, 1494), (194, 172, 1498), (198, 164, 1466), (201, 165, 1470), (204, 194, 1590), (210, 182, 1540), (213, 190, 1572), (216, 180, 1532), (219, 181, 1536), (225, 197, 1602), (229, 184, 1548), (232, 187, 1560), (235, 188, 1564), (238, 189, 1568), (245, 178, 1522), (249, 177, 1518), (253, 175, 1510), (257, 176, 1514), (260, 179, 1528), (264, 183, 1544), (272, 173, 1502), (275, 174, 1506), (278, 199, 1610), (281, 185, 1552), (284, 186, 1556), (290, 208, 1647), (294, 209, 1651), (297, 210, 1655), (300, 211, 1659), (303, 212, 1663), (306, 222, 1703), (309, 218, 1687), (312, 221, 1699), (315, 217, 1683), (318, 219, 1691), (321, 220, 1695), (324, 223, 1707), (327, 215, 1675), (330, 216, 1679), (336, 226, 1719), (339, 227, 1723), (342, 232, 1743), (346, 231, 1739), (355, 230, 1735), (358, 237, 1763), (361, 240, 1775), (364, 241, 1779)],
  [(9, 0, 126), (12, 149, 1244), (13, 1, 562), (17, 150, 1409), (18, 3, 570), (22, 152, 1417), (23, 4, 582), (27, 154, 1425), (28, 6, 589), (31, 155, 1429), (32, 7, 593), (36, 156, 1433), (37, 8, 602), (40, 157, 1438), (41, 9, 610), (44, 158, 1442), (45, 10, 634), (48, 160, 1450), (49, 11, 646), (52, 163, 1462), (53, 12, 795), (56, 191, 1578), (57, 13, 799), (60, 192, 1582), (61, 14, 803), (64, 193, 1586), (67, 15, 811), (71, 195, 1594), (72, 16, 823), (75, 196, 1598), (76, 17, 960), (79, 198, 1606), (80, 19, 970), (84, 200, 1615), (85, 20, 984), (88, 201, 1619), (89, 21, 989), (92, 202, 1623), (93, 22, 993), (96, 203, 1627), (97, 23, 1001), (100, 204, 1631), (101, 24, 1009), (104, 205, 1635), (105, 26, 1017), (109, 206, 1639), (110, 27, 1021), (113, 207, 1643), (114, 30, 1071), (117, 213, 1667), (118, 31, 1075), (121, 214, 1671), (122, 33, 1122), (125, 224, 1711), (126, 34, 1126), (129, 225, 1715), (130, 35, 1140), (133, 228, 1727), (134, 36, 1153), (137, 229, 1731), (138, 37, 1185), (141, 233, 1747), (142, 38, 1202), (145, 234, 1751), (146, 39, 1206), (149, 235, 1755), (150, 40, 1210), (153, 236, 1759), (154, 41, 1222), (157, 238, 1767), (158, 42, 1230), (161, 239, 1771)],
  [],
  [],
  [],
  [(335, 251, 402), (492, 254, 883), (505, 250, 887), (633, 253, 879), (637, 255, 888)],
  [(38, 245, 895), (88, 256, 891), (92, 244, 894), (95, 257, 896)],
  []]
def am_mth (own idx : Nat) : Option Nat := match (am_mls.getD own []).lookup idx with
  | some q => some q.1
  | none => none
/-- statics, fields of the constant text, the constant text itself -/
def am_sts : List (List (Nat × Value × Nat)) := [[], [], [], [], [(162, .float 1, 1170)], [], [], [], [], [], [], [], [], [], [], [], [], [(38, .int 1, 406)], [], []]
def am_sta (own idx : Nat) : Option Value := match (am_sts.getD own []).lookup idx with
  | some q => some q.1
  | none => none
def am_xfs : List (List (Nat × Value × Nat)) := [[], [], [], [], [], [], [], [], [], [], [], [], [], [], [], [], [], [(9, .float 3, 1784), (15, .int 0, 1785)], [], []]
def am_xf (own idx : Nat) : Option Value := match (am_xfs.getD own []).lookup idx with
  | some q => some q.1
  | none => none
def am_srs : List (List (Nat × Nat)) := [[], [], [], [], [], [], [], [(11, 397)], [], [], [(66, 874)], [], [], [], [], [], [], [], [], []]
/-- places of a method's words: code, instanceMethod or static, selects, initialized -/
def am_mp : List (Nat × Nat × Nat × Nat) := [(128, 127, 0, 102), (565, 563, 564, 102), (569, 568, 0, 102), (573, 571, 572, 102), (585, 583, 584, 102), (588, 587, 0, 102), (592, 590, 591, 102), (596, 594, 595, 102), (605, 603, 604, 102), (613, 611, 612, 102), (637, 635, 636, 102), (649, 647, 648, 102), (798, 796, 797, 102), (802, 800, 801, 102), (806, 804, 805, 102), (814, 812, 813, 102), (826, 824, 825, 102), (963, 961, 962, 102), (967, 966, 24, 102), (973, 971, 972, 102), (987, 985, 986, 102), (992, 990, 991, 102), (996, 994, 995, 102), (1004, 1002, 1003, 102), (1012, 1010, 1011, 102), (1016, 1015, 25, 102), (1020, 1018, 1019, 102), (1024, 1022, 1023, 102), (1028, 1027, 26, 102), (1033, 1032, 27, 102), (1074, 1072, 1073, 102), (1078, 1076, 1077, 102), (1082, 1081, 31, 102), (1125, 1123, 1124, 102), (1129, 1127, 1128, 102), (1143, 1141, 1142, 102), (1156, 1154, 1155, 102), (1188, 1186, 1187, 102), (1205, 1203, 1204, 102), (1209, 1207, 1208, 102), (1213, 1211, 1212, 102), (1225, 1223, 1224, 102), (1233, 1231, 1232, 102), (441, 440, 0, 115), (1041, 1039, 1040, 115), (1050, 1049, 28, 115), (1056, 1055, 29, 115), (1060, 1059, 30, 115), (198, 197, 0, 106), (609, 607, 608, 106), (617, 615, 616, 106), (1229, 1227, 1228, 106), (164, 163, 0, 105), (601, 599, 600, 105), (653, 651, 652, 105), (772, 770, 771, 105), (1192, 1190, 1191, 105), (1196, 1195, 42, 105), (1200, 1199, 43, 105), (474, 473, 0, 116), (1086, 1084, 1085, 116), (1095, 1093, 1094, 116), (1100, 1099, 32, 116), (1104, 1103, 33, 116), (1108, 1107, 34, 116), (1112, 1111, 35, 116), (1117, 1116, 36, 116), (1121, 1120, 37, 116), (1133, 1131, 1132, 116), (1139, 1138, 38, 116), (1147, 1145, 1146, 116), (1160, 1158, 1159, 116), (1168, 1167, 39, 116), (1176, 1175, 40, 116), (1182, 1181, 41, 116), (282, 281, 0, 108), (742, 740, 741, 108), (746, 745, 12, 108), (750, 748, 749, 108), (754, 753, 13, 108), (977, 975, 976, 108), (982, 980, 981, 108), (1000, 998, 999, 108), (1008, 1006, 1007, 108), (1241, 1239, 1240, 108), (351, 350, 0, 110), (818, 816, 817, 110), (822, 820, 821, 110), (850, 848, 849, 110), (952, 950, 951, 110), (1037, 1035, 1036, 110), (395, 394, 0, 113), (657, 655, 656, 113), (661, 659, 660, 113), (669, 667, 668, 113), (673, 671, 672, 113), (677, 676, 1, 113), (681, 680, 2, 113), (685, 683, 684, 113), (689, 688, 3, 113), (694, 693, 4, 113), (698, 697, 5, 113), (702, 701, 6, 113), (710, 709, 7, 113), (714, 713, 8, 113), (718, 716, 717, 113), (722, 721, 9, 113), (726, 724, 725, 113), (738, 737, 11, 113), (768, 767, 14, 113), (810, 808, 809, 113), (1046, 1044, 1045, 113), (1070, 1068, 1069, 113), (1151, 1149, 1150, 113), (223, 222, 0, 107), (621, 619, 620, 107), (625, 623, 624, 107), (633, 631, 632, 107), (641, 639, 640, 107), (645, 643, 644, 107), (665, 663, 664, 107), (764, 762, 763, 107), (1217, 1215, 1216, 107), (1221, 1219, 1220, 107), (1237, 1235, 1236, 107), (324, 323, 0, 109), (730, 728, 729, 109), (734, 733, 10, 109), (776, 774, 775, 109), (779, 778, 0, 109), (783, 782, 0, 109), (786, 785, 0, 109), (956, 954, 955, 109), (371, 370, 0, 112), (830, 828, 829, 112), (834, 833, 15, 112), (838, 837, 16, 112), (842, 841, 17, 112), (846, 845, 18, 112), (853, 852, 0, 112), (857, 856, 19, 112), (861, 860, 20, 112), (865, 864, 21, 112), (869, 868, 22, 112), (873, 872, 23, 112), (136, 135, 0, 103), (577, 575, 576, 103), (581, 579, 580, 103), (706, 704, 705, 103), (1246, 1245, 0, 117), (1412, 1410, 1411, 117), (1416, 1415, 44, 117), (1420, 1418, 1419, 117), (1424, 1423, 45, 117), (1428, 1426, 1427, 117), (1432, 1430, 1431, 117), (1436, 1434, 1435, 117), (1441, 1439, 1440, 117), (1445, 1443, 1444, 117), (1449, 1448, 46, 117), (1453, 1451, 1452, 117), (1457, 1456, 47, 117), (1461, 1460, 48, 117), (1465, 1463, 1464, 117), (1469, 1468, 49, 117), (1473, 1472, 50, 117), (1477, 1476, 51, 117), (1481, 1480, 52, 117), (1485, 1484, 53, 117), (1489, 1488, 54, 117), (1493, 1492, 55, 117), (1497, 1496, 56, 117), (1501, 1500, 57, 117), (1505, 1504, 58, 117), (1509, 1508, 59, 117), (1513, 1512, 60, 117), (1517, 1516, 61, 117), (1521, 1520, 62, 117), (1525, 1524, 63, 117), (1531, 1530, 64, 117), (1535, 1534, 65, 117), (1539, 1538, 66, 117), (1543, 1542, 67, 117), (1547, 1546, 68, 117), (1551, 1550, 69, 117), (1555, 1554, 70, 117), (1559, 1558, 71, 117), (1563, 1562, 72, 117), (1567, 1566, 73, 117), (1571, 1570, 74, 117), (1575, 1574, 75, 117), (1581, 1579, 1580, 117), (1585, 1583, 1584, 117), (1589, 1587, 1588, 117), (1593, 1592, 76, 117), (1597, 1595, 1596, 117), (1601, 1599, 1600, 117), (1605, 1604, 77, 117), (1609, 1607, 1608, 117), (1613, 1612, 78, 117), (1618, 1616, 1617, 117), (1622, 1620, 1621, 117), (1626, 1624, 1625, 117), (1630, 1628, 1629, 117), (1634, 1632, 1633, 117), (1638, 1636, 1637, 117), (1642, 1640, 1641, 117), (1646, 1644, 1645, 117), (1650, 1649, 79, 117), (1654, 1653, 80, 117), (1658, 1657, 81, 117), (1662, 1661, 82, 117), (1666, 1665, 83, 117), (1670, 1668, 1669, 117), (1674, 1672, 1673, 117), (1678, 1677, 84, 117), (1682, 1681, 85, 117), (1686, 1685, 86, 117), (1690, 1689, 87, 117), (1694, 1693, 88, 117), (1698, 1697, 89, 117), (1702, 1701, 90, 117), (1706, 1705, 91, 117), (1710, 1709, 92, 117), (1714, 1712, 1713, 117), (1718, 1716, 1717, 117), (1722, 1721, 93, 117), (1726, 1725, 94, 117), (1730, 1728, 1729, 117), (1734, 1732, 1733, 117), (1738, 1737, 95, 117), (1742, 1741, 96, 117), (1746, 1745, 97, 117), (1750, 1748, 1749, 117), (1754, 1752, 1753, 117), (1758, 1756, 1757, 117), (1762, 1760, 1761, 117), (1766, 1765, 98, 117), (1770, 1768, 1769, 117), (1774, 1772, 1773, 117), (1778, 1777, 99, 117), (1782, 1781, 100, 117), (142, 141, 0, 104), (1164, 1163, 0, 104), (355, 354, 0, 111), (629, 628, 0, 111), (791, 790, 0, 111), (794, 793, 0, 111), (757, 756, 0, 118), (1063, 1062, 0, 118), (401, 399, 400, 114), (405, 403, 404, 114), (878, 876, 877, 114), (882, 880, 881, 114), (886, 884, 885, 114), (890, 889, 0, 119), (893, 892, 0, 119), (898, 897, 0, 119)]
/-- places of the classes' words: instantiable, initialized; of their fields -/
def am_cp : List (Nat × Nat × List Nat) := [(125, 102, [533, 535, 537, 539, 541, 543, 545, 547, 549, 551, 553, 555, 557, 559]), (438, 115, [453, 455, 457, 459, 461, 463, 465, 467]), (195, 106, [210, 212, 214, 216]), (161, 105, [181, 183, 185, 187, 189, 191]), (471, 116, [492, 494, 496, 498, 500, 502, 504, 506, 508, 510, 512, 514, 516]), (279, 108, [301, 303, 305, 307, 309, 311, 313, 315, 317]), (348, 110, [362, 364]), (392, 113, [417, 419, 421, 423, 425, 427, 429, 431, 433]), (220, 107, [259, 261, 263, 265, 267, 269, 271, 273, 275]), (321, 109, [333, 335, 337, 339, 341, 343]), (368, 112, [380, 382, 384, 386, 388]), (133, 103, [152, 154, 156]), (1243, 117, [1301, 1303, 1305, 1307, 1309, 1311, 1313, 1315, 1317, 1319, 1321, 1323, 1325, 1327, 1329, 1331, 1333, 1335, 1337, 1339, 1341, 1343, 1345, 1347, 1349, 1351, 1353, 1355, 1357, 1359, 1361, 1363, 1365, 1367, 1369, 1371, 1373, 1375, 1377, 1379, 1381, 1383, 1385, 1387, 1389, 1391, 1393, 1395, 1397, 1399, 1401, 1403, 1405])]
def am_cis : List (List (Nat × Int32 × Nat)) := [[(137, 99999, 597), (315, 1000000000, 968)], [], [], [], [], [], [], [], [], [(59, 100000, 780)], [(73, 100000, 948)], [], [(142, 1000000000, 1614), (164, 99999, 1437)], [], [], [], [(265, 1431655765, 758), (266, 858993459, 759), (267, 252645135, 760)], [], [], []]
def am_ci (own idx : Nat) : Option Int32 := match (am_cis.getD own []).lookup idx with
  | some q => some q.1
  | none => none
def am_cjs : List (List (Nat × Int64 × Nat)) := [[], [], [], [], [(141, 17153224200000, 1161), (160, 85766121, 1169), (165, 171532242000, 1177), (167, 20, 1178), (172, 21, 1183), (174, 2000, 1184)], [], [], [], [], [(60, (-1000000000), 787), (62, 1000000000, 788)], [], [], [(241, 1000000000, 1526), (243, (-1000000000), 1527), (268, 10, 1576), (270, 48, 1577)], [(65, 4294967295, 1783)], [], [], [], [], [], []]
def am_cj (own idx : Nat) : Option Int64 := match (am_cjs.getD own []).lookup idx with
  | some q => some q.1
  | none => none
def am_nws : List (List (Nat × Nat × Nat)) := [[(13, 11, 132), (20, 3, 160), (27, 2, 194), (34, 8, 219), (41, 5, 278), (50, 9, 320), (57, 6, 347), (59, 10, 367), (78, 4, 470), (83, 7, 391), (92, 1, 437)], [], [], [], [], [], [], [], [], [], [], [], [], [(7, 0, 124), (10, 12, 1242)], [], [], [], [], [], []]
def am_nw (own idx : Nat) : Option Nat := match (am_nws.getD own []).lookup idx with
  | some q => some q.1
  | none => none
/-- where a class links Object(): its index -/
def am_ois : List (Nat × Nat) := [(1, 129), (1, 442), (1, 199), (1, 165), (5, 475), (3, 283), (1, 352), (3, 396), (3, 224), (3, 325), (1, 372), (1, 137), (1, 1247), (0, 0), (0, 0), (0, 0), (0, 0), (0, 0), (0, 0), (0, 0)]
def am_oi (own : Nat) : Nat := (am_ois.getD own (0, 0)).1
def am_oip : Nat × Nat := (130, 131)
def am_mns : List (List (Nat × Nat)) := [[], [], [(16, 200)], [(24, 166)], [], [(27, 284)], [], [], [], [], [], [(16, 138)], [], [], [], [], [], [], [], []]
def am_arp : Nat × Nat × Nat × Nat × Nat := (159, 436, 1408, 346, 139)
def am_law : Nat := 258
def am_str : Nat := 17
def am_cl (k : Nat) : am_Cd := am_cds.getD k []
def am_code (k pc : Nat) : Option (Instr × Nat) := (am_cl k).lookup pc
def am_acp : Nat := 259
def am_mth1 : Nat × Nat × Nat × Nat := (244, 245, 247, 246)
def am_cmath : Nat := 15
end
section
/-! what the tables say of the names: by program, closed by the kernel -/
def am_TB : List Cond := lw_tbl.filter goodWord
def am_ok (p : Nat) (w : Cond) : Bool := decide (lw_tbl[p]? = some w) && goodWord w
theorem am_ok_mem {p : Nat} {w : Cond} (h : am_ok p w = true) : w ∈ am_TB := by
  simp only [am_ok, Bool.and_eq_true, decide_eq_true_eq] at h
  exact List.mem_filter.mpr ⟨List.mem_of_getElem? h.1, h.2⟩
def am_nC : Nat := 20
theorem am_k_f : (List.range am_nC).all (fun own => (am_fls.getD own []).all (fun e => decide (e.2.1 < am_nO) && decide (e.2.2.1 < am_N e.2.1) && am_ok e.2.2.2 (.fieldLink (am_cn own) e.1 (am_F e.2.1 e.2.2.1).1 (am_F e.2.1 e.2.2.1).2.1 (am_F e.2.1 e.2.2.1).2.2.1))) = true := by decide +kernel
def am_nM : Nat := 258
/-- links of private constructors of nest mates: index, method -/
def am_nst : List (Nat × Nat) := [(22, 52), (52, 125)]
theorem am_k_l : (List.range am_nC).all (fun own => (am_mls.getD own []).all (fun e => decide (e.2.1 < am_nM ∨ e.2.1 = am_acp) && (am_ok e.2.2 (.methodLink (am_cn own) e.1 (am_y e.2.1)) || (decide (own = 0) && decide (am_kd e.2.1 = 2) && am_nst.contains (e.1, e.2.1))))) = true := by decide +kernel
def am_mok (k : Nat) : Bool := am_ok (am_mp.getD k (0, 0, 0, 0)).2.1 (if am_kd k = 1 then .static (am_y k) else .instanceMethod (am_y k)) && (!(decide (am_kd k = 0)) || am_ok (am_mp.getD k (0, 0, 0, 0)).2.2.1 (.selects (am_cn (am_own k)) (am_y k) (am_y k))) && am_ok (am_mp.getD k (0, 0, 0, 0)).2.2.2 (.initialized (am_cn (am_own k)))
def am_mok2 (k : Nat) : Bool := (plainName (am_cn (am_own k)) || decide (am_own k = am_cmath)) && !(decide (am_cn (am_own k) = "java/lang/invoke/MethodHandle")) && !(decide (am_cn (am_own k) = "java/lang/invoke/VarHandle")) && decide ((parseMethodDescriptor (am_y k).desc).map (fun d => d.parameters.length) = some (am_na k)) && decide ((am_kd k = 2) ↔ ((am_y k).name = "<init>")) && decide (am_own k < am_nC) && (!(decide (am_kd k = 2)) || decide (am_rt k = none)) && (!(decide (am_kd k = 0)) || (decide (am_own k < am_nO) || decide (am_own k = am_str)))

theorem am_k_m0 : (List.range' 0 43).all am_mok = true := by decide +kernel
theorem am_k_m1 : (List.range' 43 43).all am_mok = true := by decide +kernel
theorem am_k_m2 : (List.range' 86 43).all am_mok = true := by decide +kernel
theorem am_k_m3 : (List.range' 129 43).all am_mok = true := by decide +kernel
theorem am_k_m4 : (List.range' 172 43).all am_mok = true := by decide +kernel
theorem am_k_m5 : (List.range' 215 43).all am_mok = true := by decide +kernel
theorem am_k_n : (List.range am_nM).all am_mok2 = true := by decide +kernel
theorem am_k_ci : (List.range am_nC).all (fun own => (am_cis.getD own []).all (fun e => am_ok e.2.2 (.constant (am_cn own) e.1 e.2.1))) = true := by decide +kernel
theorem am_k_cj : (List.range am_nC).all (fun own => (am_cjs.getD own []).all (fun e => am_ok e.2.2 (.constantLong (am_cn own) e.1 e.2.1))) = true := by decide +kernel
theorem am_k_nw : (List.range am_nC).all (fun own => (am_nws.getD own []).all (fun e => decide (e.2.1 < am_nO) && am_ok e.2.2 (.classLink (am_cn own) e.1 (am_cn e.2.1)))) = true := by decide +kernel
def am_cok (c : Nat) : Bool := am_ok (am_cp.getD c (0, 0, [])).1 (.instantiable (am_cn c) (am_N c)) && am_ok (am_cp.getD c (0, 0, [])).2.1 (.initialized (am_cn c)) && (List.range (am_N c)).all (fun j => am_ok ((am_cp.getD c (0, 0, [])).2.2.getD j 0) (u_lay (am_cn c) (am_F c) j) && decide (parseFieldDescriptor (am_F c j).2.2.1 = some (am_T c j)) && decide ((am_F c j).1 = am_cn c))
theorem am_k_c : (List.range am_nO).all am_cok = true := by decide +kernel
theorem am_k_d : ∀ c, c < am_nO → ∀ a, a < am_N c → ∀ b, b < am_N c → a ≠ b → (am_F c a).2.1 ≠ (am_F c b).2.1 := by decide +kernel
theorem am_k_oi : (List.range am_nO).all (fun c => am_ok (am_ois.getD c (0, 0)).2 (.methodLink (am_cn c) (am_oi c) objectInit)) = true := by decide +kernel
theorem am_k_oj : (am_ok am_oip.1 (.instanceMethod objectInit) && am_ok am_oip.2 (.code objectInit ⟨#[0xb1]⟩ 1 none)) = true := by decide +kernel
theorem am_k_mn : (List.range am_nC).all (fun own => (am_mns.getD own []).all (fun e => am_ok e.2 (.classLink (am_cn own) e.1 "[[I"))) = true := by decide +kernel
theorem am_k_ar : (am_ok am_arp.1 (.arrayClass .int) && am_ok am_arp.2.1 (.arrayClass .byte) && am_ok am_arp.2.2.1 (.arrayClass .boolean) && am_ok am_arp.2.2.2.1 (.arrayClass .long)) = true := by decide +kernel
theorem am_k_ao : lw_tbl[am_arp.2.2.2.2]? = some (.arrayOver (.array .int)) := by decide +kernel
end
section
/-! A PLAIN MACHINE over plain cells: what the bytecode does to them, instruction by instruction, as a function; a reference is a cell's place. '.float 0' is the script, '.float 1' the static array of weights, '.float 2' the constant text, '.float 3' its bytes. -/
/-- a cell: ints (kind 0 int, 1 byte, 2 boolean), longs, references to cells, an object (its class, its fields) -/
abbrev am_C : Type := (Nat × Nat × (Nat → Int32)) ⊕ (Nat × (Nat → Int64)) ⊕ (Nat × (Nat → Option Nat)) ⊕ (Nat × List Value)
/-- the cells; how many cells and slots may still be made -/
abbrev am_M : Type := List am_C × Nat × Nat
abbrev am_L : Type := List (Option Value)
abbrev am_S : Type := Nat × am_L × List Value × am_M
abbrev am_K : Type := Nat → am_L → List Value → am_M → Prop
abbrev am_R : Type := Option Value → am_M → Prop
abbrev am_Q : Type := Nat × List Value × am_M × Nat × am_L × List Value × Nat × Nat
abbrev am_O : Type := Option (am_S ⊕ (Option Value × am_M) ⊕ am_Q)
/-- the script -/
abbrev am_X : Type := Option (Nat × (Nat → Int32))
def am_go (pc : Nat) (ls : am_L) (st : List Value) (mem : am_M) : am_O := some (.inl (pc, ls, st, mem))
def am_in (i : Int32) (n : Nat) : Bool := !(decide (i < 0)) && decide (i.toNatClampNeg < n)
def am_ib : Instr → Option (Int32 → Int32 → Option Int32)
  | .iadd => some fun x y => some (x + y)
  | .isub => some fun x y => some (x - y)
  | .imul => some fun x y => some (x * y)
  | .iand => some fun x y => some (x &&& y)
  | .ior => some fun x y => some (x ||| y)
  | .ixor => some fun x y => some (x ^^^ y)
  | .ishl => some fun x y => some (x <<< (y &&& 31))
  | .ishr => some fun x y => some (x >>> (y &&& 31))
  | .iushr => some fun x y => some (x.toUInt32 >>> (y.toUInt32 &&& Int32.toUInt32 31)).toInt32
  | .idiv => some fun x y => if y = 0 then none else some (x / y)
  | .irem => some fun x y => if y = 0 then none else some (x - x / y * y)
  | _ => none
def am_lb : Instr → Option (Int64 → Int64 → Option Int64)
  | .ladd => some fun x y => some (x + y)
  | .lsub => some fun x y => some (x - y)
  | .lmul => some fun x y => some (x * y)
  | .land => some fun x y => some (x &&& y)
  | .lor => some fun x y => some (x ||| y)
  | .ldiv => some fun x y => if y = 0 then none else some (x / y)
  | .lrem => some fun x y => if y = 0 then none else some (x - x / y * y)
  | _ => none
def am_cmp (c : Jvm.ClassFile.Cond) (x y : Int32) : Bool := match c with
  | .eq => decide (x = y)
  | .ne => decide (¬ x = y)
  | .lt => decide (x < y)
  | .ge => decide (y ≤ x)
  | .gt => decide (y < x)
  | .le => decide (x ≤ y)
def am_get (ls : am_L) (j : Nat) : Option Value := match ls[j]? with
  | some (some v) => some v
  | _ => none
/-- no long ends in place j -/
def am_pl (ls : am_L) (j : Nat) : Bool := match j with
  | 0 => true
  | j + 1 => match am_get ls j with
    | some (.long _) => false
    | _ => true
def am_jmp (pc : Nat) (off : Int) : Option Nat := if 0 ≤ (pc : Int) + off then some ((pc : Int) + off).toNat else none
def am_to (pc : Nat) (off : Int) (ls : am_L) (st : List Value) (mem : am_M) : am_O := match am_jmp pc off with
  | some t => am_go t ls st mem
  | none => none
def am_cat (st : List Value) : Nat := (st.map fun v => v.category).sum
/-- a value that a field of this type takes as it is -/
def am_fit (t : FieldType) (v : Value) : Bool := match t, v with
  | .int, .int _ => true
  | .object _, .ref _ => true
  | .object _, .null => true
  | .array _, .ref _ => true
  | .array _, .null => true
  | _, _ => false
def am_ild (pc : Nat) (ls : am_L) (st : List Value) (mem : am_M) (j : Nat) : am_O := match am_get ls j with
  | some (.int x) => am_go pc ls (.int x :: st) mem
  | _ => none
def am_lld (pc : Nat) (ls : am_L) (st : List Value) (mem : am_M) (j : Nat) : am_O := match am_get ls j with
  | some (.long x) => am_go pc ls (.long x :: st) mem
  | _ => none
def am_ald (pc : Nat) (ls : am_L) (st : List Value) (mem : am_M) (j : Nat) : am_O := match am_get ls j with
  | some (.ref x) => am_go pc ls (.ref x :: st) mem
  | some (.float x) => am_go pc ls (.float x :: st) mem
  | _ => none
def am_ist (pc : Nat) (ls : am_L) (st : List Value) (mem : am_M) (j : Nat) : am_O := match st with
  | .int x :: st => if (decide (j < ls.length) && am_pl ls j) = true then am_go pc (ls.set j (some (.int x))) st mem else none
  | _ => none
def am_lst (pc : Nat) (ls : am_L) (st : List Value) (mem : am_M) (j : Nat) : am_O := match st with
  | .long x :: st => if (decide (j + 1 < ls.length) && am_pl ls j) = true then am_go pc ((ls.set j (some (.long x))).set (j + 1) none) st mem else none
  | _ => none
def am_ast (pc : Nat) (ls : am_L) (st : List Value) (mem : am_M) (j : Nat) : am_O := match st with
  | .ref x :: st => if (decide (j < ls.length) && am_pl ls j) = true then am_go pc (ls.set j (some (.ref x))) st mem else none
  | _ => none
def am_iic (pc : Nat) (ls : am_L) (st : List Value) (mem : am_M) (j : Nat) (n : Int) : am_O := match am_get ls j with
  | some (.int x) => if (decide (j < ls.length) && am_pl ls j) = true then am_go pc (ls.set j (some (.int (x + Int32.ofInt n)))) st mem else none
  | _ => none
/-- the weights, the constant text's bytes -/
def am_w6 (j : Nat) : Int64 := ([4084101, 194481, 9261, 441, 21, 1] : List Int64).getD j 0
def am_tx (j : Nat) : Int32 := ([116, 110, 112, 98, 100, 108, 104, 107, 121, 122] : List Int32).getD j 0
def am_iald (X : am_X) (pc : Nat) (ls : am_L) (st : List Value) (mem : am_M) : am_O := match st with
  | .int i :: .ref a :: st => match mem.1[a]? with
    | some (.inl (0, n, f)) => if am_in i n = true then am_go pc ls (.int (f i.toNatClampNeg) :: st) mem else none
    | _ => none
  | .int i :: .float u :: st => match X with
    | some x => if u = 0 then (if am_in i x.1 = true then am_go pc ls (.int (x.2 i.toNatClampNeg) :: st) mem else none) else none
    | none => none
  | _ => none
def am_bald (pc : Nat) (ls : am_L) (st : List Value) (mem : am_M) : am_O := match st with
  | .int i :: .ref a :: st => match mem.1[a]? with
    | some (.inl (1, n, f)) => if am_in i n = true then am_go pc ls (.int (f i.toNatClampNeg) :: st) mem else none
    | some (.inl (2, n, f)) => if am_in i n = true then am_go pc ls (.int (f i.toNatClampNeg) :: st) mem else none
    | _ => none
  | .int i :: .float u :: st => if u = 3 then (if am_in i 10 = true then am_go pc ls (.int (am_tx i.toNatClampNeg) :: st) mem else none) else none
  | _ => none
def am_lald (pc : Nat) (ls : am_L) (st : List Value) (mem : am_M) : am_O := match st with
  | .int i :: .ref a :: st => match mem.1[a]? with
    | some (.inr (.inl (n, f))) => if am_in i n = true then am_go pc ls (.long (f i.toNatClampNeg) :: st) mem else none
    | _ => none
  | .int i :: .float u :: st => if u = 1 then (if am_in i 6 = true then am_go pc ls (.long (am_w6 i.toNatClampNeg) :: st) mem else none) else none
  | _ => none
def am_aald (pc : Nat) (ls : am_L) (st : List Value) (mem : am_M) : am_O := match st with
  | .int i :: .ref a :: st => match mem.1[a]? with
    | some (.inr (.inr (.inl (n, f)))) => if am_in i n = true then (match f i.toNatClampNeg with
      | some b => am_go pc ls (.ref b :: st) mem
      | none => none) else none
    | _ => none
  | _ => none
def am_iast (pc : Nat) (ls : am_L) (st : List Value) (mem : am_M) : am_O := match st with
  | .int x :: .int i :: .ref a :: st => match mem.1[a]? with
    | some (.inl (0, n, f)) => if am_in i n = true then am_go pc ls st (mem.1.set a (.inl (0, n, upd f i.toNatClampNeg x)), mem.2) else none
    | _ => none
  | _ => none
def am_bast (pc : Nat) (ls : am_L) (st : List Value) (mem : am_M) : am_O := match st with
  | .int x :: .int i :: .ref a :: st => match mem.1[a]? with
    | some (.inl (1, n, f)) => if am_in i n = true then am_go pc ls st (mem.1.set a (.inl (1, n, upd f i.toNatClampNeg (vp_nar .byte x))), mem.2) else none
    | some (.inl (2, n, f)) => if am_in i n = true then am_go pc ls st (mem.1.set a (.inl (2, n, upd f i.toNatClampNeg (vp_nar .boolean x))), mem.2) else none
    | _ => none
  | _ => none
def am_last (pc : Nat) (ls : am_L) (st : List Value) (mem : am_M) : am_O := match st with
  | .long x :: .int i :: .ref a :: st => match mem.1[a]? with
    | some (.inr (.inl (n, f))) => if am_in i n = true then am_go pc ls st (mem.1.set a (.inr (.inl (n, vp_updL f i.toNatClampNeg x))), mem.2) else none
    | _ => none
  | _ => none
def am_alen (X : am_X) (pc : Nat) (ls : am_L) (st : List Value) (mem : am_M) : am_O := match st with
  | .ref a :: st => match mem.1[a]? with
    | some (.inl (_, n, _)) => am_go pc ls (.int (Int32.ofNat n) :: st) mem
    | some (.inr (.inl (n, _))) => am_go pc ls (.int (Int32.ofNat n) :: st) mem
    | some (.inr (.inr (.inl (n, _)))) => am_go pc ls (.int (Int32.ofNat n) :: st) mem
    | _ => none
  | .float u :: st => if u = 3 then am_go pc ls (.int 10 :: st) mem else (match X with
    | some x => if u = 0 then am_go pc ls (.int (Int32.ofNat x.1) :: st) mem else none
    | none => none)
  | _ => none
def am_getf (own idx pc : Nat) (ls : am_L) (st : List Value) (mem : am_M) : am_O := match st with
  | .ref a :: st => match am_fld own idx with
    | some (ci, j) => match mem.1[a]? with
      | some (.inr (.inr (.inr (ci', fs)))) => if ci' = ci then (match fs[j]? with
        | some v => am_go pc ls (v :: st) mem
        | none => none) else none
      | _ => none
    | none => none
  | .float u :: st => if u = 2 then (match am_xf own idx with
    | some v => am_go pc ls (v :: st) mem
    | none => none) else none
  | _ => none
def am_putf (k own idx pc : Nat) (ls : am_L) (st : List Value) (mem : am_M) : am_O := match st with
  | v :: .ref a :: st => match am_fld own idx with
    | some (ci, j) => match mem.1[a]? with
      | some (.inr (.inr (.inr (ci', fs)))) => if (decide (ci' = ci) && decide (j < fs.length) && am_fit (am_T ci j) v && (!(am_F ci j).2.2.2 || (decide (am_kd k = 2) && decide (ci = own)))) = true then am_go pc ls st (mem.1.set a (.inr (.inr (.inr (ci, fs.set j v)))), mem.2) else none
      | _ => none
    | none => none
  | _ => none
def am_new (own idx pc : Nat) (ls : am_L) (st : List Value) (mem : am_M) : am_O := match am_nw own idx with
  | some ci => if (decide (1 ≤ mem.2.1) && decide (am_N ci ≤ mem.2.2)) = true then am_go pc ls (.ref mem.1.length :: st) (mem.1 ++ [.inr (.inr (.inr (ci, am_df ci)))], mem.2.1 - 1, mem.2.2 - am_N ci) else none
  | none => none
def am_newa (t : ArrayType) (pc : Nat) (ls : am_L) (st : List Value) (mem : am_M) : am_O := match st with
  | .int n :: st => if (!(decide (n < 0)) && decide (n.toNatClampNeg ≤ 1000000) && decide (1 ≤ mem.2.1) && decide (n.toNatClampNeg ≤ mem.2.2)) = true then (match t with
    | .int => am_go pc ls (.ref mem.1.length :: st) (mem.1 ++ [.inl (0, n.toNatClampNeg, fun _ => 0)], mem.2.1 - 1, mem.2.2 - n.toNatClampNeg)
    | .byte => am_go pc ls (.ref mem.1.length :: st) (mem.1 ++ [.inl (1, n.toNatClampNeg, fun _ => 0)], mem.2.1 - 1, mem.2.2 - n.toNatClampNeg)
    | .boolean => am_go pc ls (.ref mem.1.length :: st) (mem.1 ++ [.inl (2, n.toNatClampNeg, fun _ => 0)], mem.2.1 - 1, mem.2.2 - n.toNatClampNeg)
    | .long => am_go pc ls (.ref mem.1.length :: st) (mem.1 ++ [.inr (.inl (n.toNatClampNeg, fun _ => 0))], mem.2.1 - 1, mem.2.2 - n.toNatClampNeg)
    | _ => none) else none
  | _ => none
def am_mna (own idx pc : Nat) (ls : am_L) (st : List Value) (mem : am_M) : am_O := match st with
  | .int k :: .int n :: st => if (((am_mns.getD own []).lookup idx).isSome && !(decide (n < 0)) && !(decide (k < 0)) && decide (n.toNatClampNeg ≤ 1000000) && decide (k.toNatClampNeg ≤ 1000000) && decide (1 + n.toNatClampNeg ≤ mem.2.1) && decide (n.toNatClampNeg + n.toNatClampNeg * k.toNatClampNeg ≤ mem.2.2)) = true then
      am_go pc ls (.ref mem.1.length :: st) (mem.1 ++ .inr (.inr (.inl (n.toNatClampNeg, fun i => some (mem.1.length + 1 + i)))) :: List.replicate n.toNatClampNeg (.inl (0, k.toNatClampNeg, fun _ => 0)), mem.2.1 - (1 + n.toNatClampNeg), mem.2.2 - (n.toNatClampNeg + n.toNatClampNeg * k.toNatClampNeg)) else none
  | _ => none
/-- a call of method k2 with these arguments, the rest of the stack behind it -/
def am_cal (k2 pc : Nat) (ls : am_L) (as rest : List Value) (mem : am_M) : am_O :=
  if (decide (am_cat rest ≤ 8) && decide (am_bc k2 ≤ mem.2.1) && decide (am_bs k2 ≤ mem.2.2)) = true then some (.inr (.inr (k2, as, (mem.1, am_bc k2, am_bs k2), pc, ls, rest, mem.2.1 - am_bc k2, mem.2.2 - am_bs k2))) else none
def am_invv (own idx pc : Nat) (ls : am_L) (st : List Value) (mem : am_M) : am_O := match am_mth own idx with
  | some k2 => match st.drop (am_na k2) with
    | .ref b :: rest => match mem.1[b]? with
      | some (.inr (.inr (.inr (ci, _)))) => if (decide (am_kd k2 = 0) && decide (ci = am_own k2)) = true then am_cal k2 pc ls (.ref b :: (st.take (am_na k2)).reverse) rest mem else none
      | _ => none
    | .float u :: rest => if (decide (u = 2) && decide (am_kd k2 = 0) && decide (am_own k2 = am_str)) = true then am_cal k2 pc ls (.float u :: (st.take (am_na k2)).reverse) rest mem else none
    | _ => none
  | none => none
def am_invs (own idx pc : Nat) (ls : am_L) (st : List Value) (mem : am_M) : am_O := match am_mth own idx with
  | some k2 => if (decide (am_kd k2 = 1) && decide (am_na k2 ≤ st.length)) = true then am_cal k2 pc ls (st.take (am_na k2)).reverse (st.drop (am_na k2)) mem else none
  | none => none
def am_invi (own idx pc : Nat) (ls : am_L) (st : List Value) (mem : am_M) : am_O :=
  if (decide (idx = am_oi own) && decide (own < am_nO)) = true then (match st with
    | .ref _ :: st => if am_cat st ≤ 8 then am_go pc ls st mem else none
    | _ => none)
  else match am_mth own idx with
  | some k2 => match st.drop (am_na k2) with
    | .ref b :: rest => if am_kd k2 = 2 then am_cal k2 pc ls (.ref b :: (st.take (am_na k2)).reverse) rest mem else none
    | _ => none
  | none => none
def am_iret (k : Nat) (st : List Value) (mem : am_M) : am_O := match st with
  | [.int v] => match am_rt k with
    | some .int => some (.inr (.inl (some (.int v), mem)))
    | some .boolean => if v = 0 ∨ v = 1 then some (.inr (.inl (some (.int v), mem))) else none
    | _ => none
  | _ => none
def am_lret (k : Nat) (st : List Value) (mem : am_M) : am_O := match st with
  | [.long v] => match am_rt k with
    | some .long => some (.inr (.inl (some (.long v), mem)))
    | _ => none
  | _ => none
def am_vret (k : Nat) (st : List Value) (mem : am_M) : am_O := match st with
  | [] => match am_rt k with
    | none => some (.inr (.inl (none, mem)))
    | _ => none
  | _ => none
def am_ibs (f : Int32 → Int32 → Option Int32) (pc : Nat) (ls : am_L) (st : List Value) (mem : am_M) : am_O := match st with
  | .int y :: .int x :: st => match f x y with
    | some z => am_go pc ls (.int z :: st) mem
    | none => none
  | _ => none
def am_lbs (f : Int64 → Int64 → Option Int64) (pc : Nat) (ls : am_L) (st : List Value) (mem : am_M) : am_O := match st with
  | .long y :: .long x :: st => match f x y with
    | some z => am_go pc ls (.long z :: st) mem
    | none => none
  | _ => none
def am_len : Instr → Nat → Nat
  | .bipush _, _ => 2
  | .sipush _, _ => 3
  | .ldc _, _ => 2
  | .ldc_w _, _ => 3
  | .ldc2_w _, _ => 3
  | .iload _, _ => 2
  | .lload _, _ => 2
  | .aload _, _ => 2
  | .istore _, _ => 2
  | .lstore _, _ => 2
  | .astore _, _ => 2
  | .iinc _ _, _ => 3
  | .ifCond _ _, _ => 3
  | .if_icmp _ _, _ => 3
  | .goto _, _ => 3
  | .tableswitch _ _ _ _, n => n
  | .getfield _, _ => 3
  | .putfield _, _ => 3
  | .getstatic _, _ => 3
  | .invokevirtual _, _ => 3
  | .invokespecial _, _ => 3
  | .invokestatic _, _ => 3
  | .new _, _ => 3
  | .newarray _, _ => 2
  | .multianewarray _ _, _ => 4
  | _, _ => 1
def am_misc (X : am_X) (k own : Nat) (i : Instr) (pc : Nat) (ls : am_L) (st : List Value) (mem : am_M) : am_O := match i with
  | .iconst n => am_go (pc + 1) ls (.int (Int32.ofInt n) :: st) mem
  | .bipush n => am_go (pc + 2) ls (.int (Int8.ofInt n).toInt32 :: st) mem
  | .sipush n => am_go (pc + 3) ls (.int (Int16.ofInt n).toInt32 :: st) mem
  | .lconst n => am_go (pc + 1) ls (.long (Int64.ofNat n.val) :: st) mem
  | .ldc j => match am_ci own j with
    | some v => am_go (pc + 2) ls (.int v :: st) mem
    | none => if ((am_srs.getD own []).lookup j).isSome = true then am_go (pc + 2) ls (.float 2 :: st) mem else none
  | .ldc_w j => match am_ci own j with
    | some v => am_go (pc + 3) ls (.int v :: st) mem
    | none => none
  | .ldc2_w j => match am_cj own j with
    | some v => am_go (pc + 3) ls (.long v :: st) mem
    | none => none
  | .iload j => am_ild (pc + 2) ls st mem j
  | .iload_n j => am_ild (pc + 1) ls st mem j.val
  | .lload j => am_lld (pc + 2) ls st mem j
  | .lload_n j => am_lld (pc + 1) ls st mem j.val
  | .aload j => am_ald (pc + 2) ls st mem j
  | .aload_n j => am_ald (pc + 1) ls st mem j.val
  | .istore j => am_ist (pc + 2) ls st mem j
  | .istore_n j => am_ist (pc + 1) ls st mem j.val
  | .lstore j => am_lst (pc + 2) ls st mem j
  | .lstore_n j => am_lst (pc + 1) ls st mem j.val
  | .astore j => am_ast (pc + 2) ls st mem j
  | .astore_n j => am_ast (pc + 1) ls st mem j.val
  | .iinc j n => am_iic (pc + 3) ls st mem j n
  | .iaload => am_iald X (pc + 1) ls st mem
  | .baload => am_bald (pc + 1) ls st mem
  | .laload => am_lald (pc + 1) ls st mem
  | .aaload => am_aald (pc + 1) ls st mem
  | .iastore => am_iast (pc + 1) ls st mem
  | .bastore => am_bast (pc + 1) ls st mem
  | .lastore => am_last (pc + 1) ls st mem
  | .arraylength => am_alen X (pc + 1) ls st mem
  | .ineg => match st with
    | .int x :: st => am_go (pc + 1) ls (.int (-x) :: st) mem
    | _ => none
  | .i2l => match st with
    | .int x :: st => am_go (pc + 1) ls (.long x.toInt64 :: st) mem
    | _ => none
  | .l2i => match st with
    | .long x :: st => am_go (pc + 1) ls (.int x.toInt32 :: st) mem
    | _ => none
  | .i2b => match st with
    | .int x :: st => am_go (pc + 1) ls (.int x.toInt8.toInt32 :: st) mem
    | _ => none
  | .i2c => match st with
    | .int x :: st => am_go (pc + 1) ls (.int (x.toUInt32 % 65536).toInt32 :: st) mem
    | _ => none
  | .lshl => match st with
    | .int y :: .long x :: st => am_go (pc + 1) ls (.long (x <<< (y.toInt64 &&& 63)) :: st) mem
    | _ => none
  | .lshr => match st with
    | .int y :: .long x :: st => am_go (pc + 1) ls (.long (x >>> (y.toInt64 &&& 63)) :: st) mem
    | _ => none
  | .lushr => match st with
    | .int y :: .long x :: st => am_go (pc + 1) ls (.long (x.toUInt64 >>> (y.toInt64.toUInt64 &&& Int64.toUInt64 63)).toInt64 :: st) mem
    | _ => none
  | .lcmp => match st with
    | .long y :: .long x :: st => am_go (pc + 1) ls (.int (lg_cmp x y) :: st) mem
    | _ => none
  | .dup => match st with
    | a :: st => if a.category = 1 then am_go (pc + 1) ls (a :: a :: st) mem else none
    | _ => none
  | .dup_x1 => match st with
    | a :: b :: st => if a.category = 1 ∧ b.category = 1 then am_go (pc + 1) ls (a :: b :: a :: st) mem else none
    | _ => none
  | .dup2 => match st with
    | a :: b :: st => if a.category = 1 ∧ b.category = 1 then am_go (pc + 1) ls (a :: b :: a :: b :: st) mem else none
    | _ => none
  | .ifCond c off => match st with
    | .int x :: st => if am_cmp c x 0 = true then am_to pc off ls st mem else am_go (pc + 3) ls st mem
    | _ => none
  | .if_icmp c off => match st with
    | .int y :: .int x :: st => if am_cmp c x y = true then am_to pc off ls st mem else am_go (pc + 3) ls st mem
    | _ => none
  | .goto off => am_to pc off ls st mem
  | .tableswitch d lo hi offs => match st with
    | .int x :: st => if x.toInt < lo ∨ hi < x.toInt then am_to pc d ls st mem else (match offs[(x.toInt - lo).toNat]? with
      | some o => am_to pc o ls st mem
      | none => none)
    | _ => none
  | .getstatic j => match am_sta own j with
    | some v => am_go (pc + 3) ls (v :: st) mem
    | none => none
  | .getfield j => am_getf own j (pc + 3) ls st mem
  | .putfield j => am_putf k own j (pc + 3) ls st mem
  | .new j => am_new own j (pc + 3) ls st mem
  | .newarray t => am_newa t (pc + 2) ls st mem
  | .multianewarray j d => if d = 2 then am_mna own j (pc + 4) ls st mem else none
  | .invokevirtual j => am_invv own j (pc + 3) ls st mem
  | .invokestatic j => am_invs own j (pc + 3) ls st mem
  | .invokespecial j => am_invi own j (pc + 3) ls st mem
  | .ireturn => am_iret k st mem
  | .lreturn => am_lret k st mem
  | .return_ => am_vret k st mem
  | _ => none
def am_step (X : am_X) (k own : Nat) (i : Instr) (pc : Nat) (ls : am_L) (st : List Value) (mem : am_M) : am_O := match am_ib i with
  | some f => am_ibs f (pc + 1) ls st mem
  | none => match am_lb i with
    | some f => am_lbs f (pc + 1) ls st mem
    | none => am_misc X k own i pc ls st mem
def am_at (X : am_X) (k pc : Nat) (ls : am_L) (st : List Value) (mem : am_M) : am_O := match am_code k pc with
  | some (i, n) => if n = am_len i n then am_step X k (am_own k) i pc ls st mem else none
  | none => none
abbrev am_Fn : Type := Nat → List Value → am_M → am_R → Prop
def am_do (call : am_Fn) (o : am_O) (K : am_K) (R : am_R) : Prop := match o with
  | some (.inl c) => K c.1 c.2.1 c.2.2.1 c.2.2.2
  | some (.inr (.inl r)) => R r.1 r.2
  | some (.inr (.inr q)) => call q.1 q.2.1 q.2.2.1 (fun v m => K q.2.2.2.1 q.2.2.2.2.1 (v.toList ++ q.2.2.2.2.2.1) (m.1, q.2.2.2.2.2.2))
  | none => False
/-- less is known of the locals -/
def am_le : am_L → am_L → Prop
  | [], [] => True
  | none :: l, _ :: l' => am_le l l'
  | some v :: l, w :: l' => w = some v ∧ am_le l l'
  | _, _ => False
/-- from here the machine comes to an end with R -/
def am_Run (X : am_X) (call : am_Fn) (k : Nat) (R : am_R) (pc : Nat) (ls : am_L) (st : List Value) (mem : am_M) : Prop :=
  ∀ P : am_K, (∀ pc ls st mem, am_do call (am_at X k pc ls st mem) P R → P pc ls st mem) → (∀ pc ls ls' st mem, am_le ls' ls → P pc ls' st mem → P pc ls st mem) → P pc ls st mem
def am_ent : List Value → am_L
  | [] => []
  | v :: l => if v.category = 2 then some v :: none :: am_ent l else some v :: am_ent l
def am_pad (l : am_L) (n : Nat) : am_L := l ++ List.replicate (n - l.length) none
def am_X0 : am_X := none
/-- methods that are not walked: of Math, and arraycopy of ints -/
def am_isp (k : Nat) : Bool := decide (k = am_acp) || decide (am_own k = am_cmath)
def am_acopy (a : Nat) (sp : Int32) (b : Nat) (dp n : Int32) (mem : am_M) : Option (Option Value × am_M) := match mem.1[a]?, mem.1[b]? with
  | some (.inl (0, n0, f)), some (.inl (0, n1, g)) => if (decide (a ≠ b) && !(decide (sp < 0)) && !(decide (dp < 0)) && !(decide (n < 0)) && decide (sp.toNatClampNeg + n.toNatClampNeg ≤ n0) && decide (dp.toNatClampNeg + n.toNatClampNeg ≤ n1)) = true then some (none, mem.1.set b (.inl (0, n1, va_cpy f g sp.toNatClampNeg dp.toNatClampNeg n.toNatClampNeg)), mem.2) else none
  | _, _ => none
def am_prim (k : Nat) (as : List Value) (mem : am_M) : Option (Option Value × am_M) :=
  if k = am_acp then (match as with
    | [.ref a, .int sp, .ref b, .int dp, .int n] => am_acopy a sp b dp n mem
    | _ => none)
  else if k = am_mth1.1 then (match as with
    | [.int x, .int y] => some (some (.int (if x < y then y else x)), mem)
    | _ => none)
  else if k = am_mth1.2.1 then (match as with
    | [.int x, .int y] => some (some (.int (if y < x then y else x)), mem)
    | _ => none)
  else if k = am_mth1.2.2.1 then (match as with
    | [.long x, .long y] => some (some (.long (if y < x then x else y)), mem)
    | _ => none)
  else if k = am_mth1.2.2.2 then (match as with
    | [.long x, .long y] => some (some (.long (if y < x then y else x)), mem)
    | _ => none)
  else none
def am_pr (o : Option (Option Value × am_M)) (R : am_R) : Prop := match o with
  | some q => R q.1 q.2
  | none => False
/-- the methods, calls d deep at most -/
def am_meth : Nat → am_Fn
  | 0 => fun _ _ _ _ => False
  | d + 1 => fun k as mem R => if am_isp k = true then am_pr (am_prim k as mem) R else ((am_ent as).length ≤ am_ml k ∧ am_Run am_X0 (am_meth d) k R 0 (am_pad (am_ent as) (am_ml k)) [] mem)
def am_mono (call : am_Fn) : Prop := ∀ k as mem (R R' : am_R), (∀ v m, R v m → R' v m) → call k as mem R → call k as mem R'
theorem am_do_mono {call : am_Fn} (hc : am_mono call) {o : am_O} {K K' : am_K} {R R' : am_R} (hK : ∀ pc ls st mem, K pc ls st mem → K' pc ls st mem) (hR : ∀ v m, R v m → R' v m) (h : am_do call o K R) : am_do call o K' R' := by
  match o, h with
  | some (.inl c), h => exact hK _ _ _ _ h
  | some (.inr (.inl r)), h => exact hR _ _ h
  | some (.inr (.inr q)), h => exact hc _ _ _ _ _ (fun v m hh => hK _ _ _ _ hh) h
theorem am_Run.step {X : am_X} {call : am_Fn} {k : Nat} {R : am_R} {pc : Nat} {ls : am_L} {st : List Value} {mem : am_M} (hc : am_mono call) (h : am_do call (am_at X k pc ls st mem) (am_Run X call k R) R) : am_Run X call k R pc ls st mem := by
  intro P h1 h2
  exact h1 _ _ _ _ (am_do_mono hc (fun pc ls st mem hr => hr P h1 h2) (fun _ _ h => h) h)
theorem am_Run.weak {X : am_X} {call : am_Fn} {k : Nat} {R : am_R} {pc : Nat} {ls ls' : am_L} {st : List Value} {mem : am_M} (hl : am_le ls' ls) (h : am_Run X call k R pc ls' st mem) : am_Run X call k R pc ls st mem := by
  intro P h1 h2
  exact h2 _ _ _ _ _ hl (h P h1 h2)
theorem am_Run.mono {X : am_X} {call : am_Fn} (hc : am_mono call) {k : Nat} {R R' : am_R} {pc : Nat} {ls : am_L} {st : List Value} {mem : am_M} (hR : ∀ v m, R v m → R' v m) (h : am_Run X call k R pc ls st mem) : am_Run X call k R' pc ls st mem := by
  intro P h1 h2
  exact h P (fun pc ls st mem hd => h1 _ _ _ _ (am_do_mono hc (fun _ _ _ _ h => h) hR hd)) h2
theorem am_pr_mono {o : Option (Option Value × am_M)} {R R' : am_R} (hR : ∀ v m, R v m → R' v m) (h : am_pr o R) : am_pr o R' := by
  match o, h with
  | some q, h => exact hR _ _ h
theorem am_meth_mono : ∀ d, am_mono (am_meth d)
  | 0 => fun _ _ _ _ _ _ h => h
  | d + 1 => fun k as mem R R' hR h => by
    simp only [am_meth] at h ⊢
    by_cases hp : am_isp k = true
    · rw [if_pos hp] at h ⊢
      exact am_pr_mono hR h
    · rw [if_neg hp] at h ⊢
      exact ⟨h.1, am_Run.mono (am_meth_mono d) hR h.2⟩
end
section
/-! THE PLAIN MACHINE AND THE REAL ONE: which real state stands for a plain one -/
def am_v (adr : List Nat) (ea : Nat → Nat) (v w : Value) : Prop := match v with
  | .int x => w = .int x
  | .long x => w = .long x
  | .null => w = .null
  | .ref k => ∃ a, adr[k]? = some a ∧ w = .ref a
  | .float u => w = .ref (ea u.toNat)
  | _ => False
def am_vs (adr : List Nat) (ea : Nat → Nat) : List Value → List Value → Prop
  | [], ws => ws = []
  | v :: l, ws => ∃ w l', ws = w :: l' ∧ am_v adr ea v w ∧ am_vs adr ea l l'
def am_kt (k : Nat) : FieldType := match k with
  | 0 => .int
  | 1 => .byte
  | _ => .boolean
def am_ce (s : State) (adr : List Nat) (ea : Nat → Nat) (c : am_C) (e : va_E) : Prop := match c with
  | .inl (kd, n, f) => ∃ cA : ClassId, e = .inl (cA, n, .inl f) ∧ ArrOfT s cA (am_kt kd) ∧ va_RA s cA (am_kt kd)
  | .inr (.inl (n, f)) => ∃ cA : ClassId, e = .inl (cA, n, .inr (.inl f)) ∧ ArrOfT s cA .long ∧ va_RA s cA .long
  | .inr (.inr (.inl (n, f))) => ∃ (cA : ClassId) (g : Nat → Option Nat), e = .inl (cA, n, .inr (.inr (.inr (.inr g)))) ∧ ArrOfT s cA (.array .int) ∧ ∀ j k : Nat, j < n → f j = some k → ∃ a, adr[k]? = some a ∧ g j = some a
  | .inr (.inr (.inr (ci, fs))) => ci < am_nO ∧ ∃ gs : List Value, e = .inr (ci, gs) ∧ fs.length = am_N ci ∧ am_vs adr ea fs gs
def am_w (s : State) (adr : List Nat) (ea : Nat → Nat) (hp : List am_C) (ws : va_W) : Prop :=
  adr.length = hp.length ∧ ws.length = hp.length ∧ ∀ (k : Nat) (c : am_C), hp[k]? = some c → ∃ (a : Nat) (e : va_E), adr[k]? = some a ∧ ws[k]? = some (a, e) ∧ am_ce s adr ea c e
def am_ls (adr : List Nat) (ea : Nat → Nat) (nL : Nat) (ls : am_L) (jl : Array Slot) : Prop :=
  ls.length = nL ∧ jl.size = nL ∧ lv_wf jl ∧ ∀ (i : Nat) (v : Value), ls[i]? = some (some v) → ∃ w, jl[i]? = some (.val w) ∧ am_v adr ea v w
/-- what lies outside the cells: the weights, the constant text, a switch of String's, links of nest mates, the class of int[][] -/
def am_ex (base : Nat) (ea : Nat → Nat) (s : State) : Prop :=
  va_Z "HouseKeepers$Match" "DIGIT_WEIGHT" "[J" (.ref (ea 1)) (fun q => base ≤ q) s s.heap ∧ va_T .long (ea 1) 6 (fun j => .long (am_w6 j)) (fun q => base ≤ q) s s.heap ∧
  va_Z "java/lang/String" "COMPACT_STRINGS" "Z" (.int 1) (fun q => base ≤ q) s s.heap ∧
  vk_S 1 [10] [[116, 110, 112, 98, 100, 108, 104, 107, 121, 122]] (fun _ => ea 2) (fun _ => ea 3) (fun q => base ≤ q) s s.heap ∧
  vk_R "HouseKeepers$Rules" 11 "tnpbdlhkyz" (ea 2) s ∧ vk_R "HouseKeepers$Text" 66 "tnpbdlhkyz" (ea 2) s ∧
  (∀ e ∈ am_nst, va_Nw (.methodLinkNest "HouseKeepers" e.1 (am_y e.2) "HouseKeepers") s) ∧ (Cond.arrayOver (.array .int)).before #[] s = true
def am_sx (base : Nat) (ea : Nat → Nat) (X : am_X) (s : State) : Prop := ∀ x, X = some x → va_X (ea 0) x.1 x.2 s s.heap ∧ ea 0 < s.heap.size ∧ ea 0 < base
def am_Fx (p : Program) (s : State) (m : MethodId) (args : Array Value) (meth : Method) (c : Code) (Rm : Room) (k : Nat) (X : am_X) (base : Nat) (ea : Nat → Nat) (A : Nat → Prop) (D : va_G) : Prop :=
  p.tables.exec = Jvm.exec ∧ c.code = am_by k ∧ s.vm.findClass (am_cn (am_own k)) = some m.cls ∧ (∀ w ∈ am_TB, w.before args s = true) ∧ va_K D classes [] s ∧ (∀ q : Nat, s.heap.size ≤ q → A q) ∧ (∀ q : Nat, A q → base ≤ q) ∧ base ≤ s.heap.size ∧ am_ex base ea s ∧ am_sx base ea X s ∧ (am_kd k = 2 → meth.name = "<init>") ∧ c.maxLocals = am_ml k ∧ am_own k < am_nC ∧ 1 ≤ Rm.frames ∧ 60 ≤ Rm.locals
def am_J (s : State) (D : va_G) (A : Nat → Prop) (ea : Nat → Nat) (nL : Nat) (Rm : Room) (adr0 : List Nat) (ls : am_L) (st : List Value) (mem : am_M) (H : Heap) (locs : List Loc) (cells slots : Nat) (jl : Array Slot) (js : List Value) (adr : List Nat) (ws : va_W) : Prop :=
  adr0 <+: adr ∧ am_w s adr ea mem.1 ws ∧ va_P D classes ws H ∧ va_D A ws ∧ va_S A s.heap H locs ∧ am_ls adr ea nL ls jl ∧ am_vs adr ea st js ∧ cells + mem.2.1 ≤ Rm.cells ∧ slots + mem.2.2 ≤ Rm.slots
def am_Sim (p : Program) (l : Launch) (e : Env) (Rm : Room) (s : State) (m : MethodId) (args : Array Value) (below : List Frame) (meth : Method) (c : Code) (Q : State → Prop) (D : va_G) (A : Nat → Prop) (ea : Nat → Nat) (nL : Nat) (adr0 : List Nat) : am_K := fun pc ls st mem =>
  ∀ (H : Heap) (locs : List Loc) (cells slots : Nat) (jl : Array Slot) (js : List Value) (adr : List Nat) (ws : va_W), am_J s D A ea nL Rm adr0 ls st mem H locs cells slots jl js adr ws → W p l e Rm s m args below meth c H locs cells slots Q (F0 m pc jl js)
/-! their plain facts -/
theorem am_px {adr adr' : List Nat} (h : adr <+: adr') {k a : Nat} (hk : adr[k]? = some a) : adr'[k]? = some a := by
  obtain ⟨t, rfl⟩ := h
  have hl := (List.getElem?_eq_some_iff.mp hk).1
  rw [List.getElem?_append_left hl]
  exact hk
theorem am_v.px {adr adr' : List Nat} {ea : Nat → Nat} {v w : Value} (h : adr <+: adr') (hv : am_v adr ea v w) : am_v adr' ea v w := by
  cases v with
  | ref k =>
    obtain ⟨a, h1, h2⟩ := hv
    exact ⟨a, am_px h h1, h2⟩
  | _ => exact hv
theorem am_vs.px {adr adr' : List Nat} {ea : Nat → Nat} (h : adr <+: adr') : ∀ {l ws : List Value}, am_vs adr ea l ws → am_vs adr' ea l ws
  | [], _, hv => hv
  | _ :: _, _, ⟨w, l', e, h1, h2⟩ => ⟨w, l', e, h1.px h, am_vs.px h h2⟩
theorem am_v.cat {adr : List Nat} {ea : Nat → Nat} {v w : Value} (hv : am_v adr ea v w) : w.category = v.category := by
  cases v with
  | ref k =>
    obtain ⟨a, h1, h2⟩ := hv
    rw [h2]; rfl
  | int x => rw [show w = .int x from hv]
  | long x => rw [show w = .long x from hv]
  | null => rw [show w = .null from hv]
  | float u => rw [show w = .ref (ea u.toNat) from hv]; rfl
  | _ => exact absurd hv id
theorem am_vs.cat {adr : List Nat} {ea : Nat → Nat} : ∀ {l ws : List Value}, am_vs adr ea l ws → (ws.map fun v => v.category).sum = am_cat l
  | [], ws, hv => by rw [show ws = [] from hv]; rfl
  | v :: l, ws, ⟨w, l', e, h1, h2⟩ => by
    subst e
    have := am_vs.cat h2
    simp only [am_cat, List.map_cons, List.sum_cons] at this ⊢
    rw [this, h1.cat]
theorem am_vs.len {adr : List Nat} {ea : Nat → Nat} : ∀ {l ws : List Value}, am_vs adr ea l ws → ws.length = l.length
  | [], ws, hv => by rw [show ws = [] from hv]
  | v :: l, ws, ⟨w, l', e, h1, h2⟩ => by subst e; simp [am_vs.len h2]
theorem am_vs.get {adr : List Nat} {ea : Nat → Nat} : ∀ {l ws : List Value}, am_vs adr ea l ws → ∀ {k : Nat} {v : Value}, l[k]? = some v → ∃ w, ws[k]? = some w ∧ am_v adr ea v w
  | [], _, _, k, v, h => by simp at h
  | x :: l, ws, ⟨w, l', e, h1, h2⟩, k, v, h => by
    subst e
    cases k with
    | zero => simp at h; subst h; exact ⟨w, by simp, h1⟩
    | succ k => simp at h; obtain ⟨w', a, b⟩ := am_vs.get h2 h; exact ⟨w', by simpa using a, b⟩
theorem am_vs.set {adr : List Nat} {ea : Nat → Nat} : ∀ {l ws : List Value}, am_vs adr ea l ws → ∀ {k : Nat} {v w : Value}, am_v adr ea v w → am_vs adr ea (l.set k v) (ws.set k w)
  | [], ws, hv, k, v, w, _ => by rw [show ws = [] from hv]; simp [am_vs]
  | x :: l, ws, ⟨w', l', e, h1, h2⟩, k, v, w, h => by
    subst e
    cases k with
    | zero => exact ⟨w, l', rfl, h, h2⟩
    | succ k => exact ⟨w', l'.set k w, rfl, h1, am_vs.set h2 h⟩
theorem am_vs.app {adr : List Nat} {ea : Nat → Nat} : ∀ {l ws l2 ws2 : List Value}, am_vs adr ea l ws → am_vs adr ea l2 ws2 → am_vs adr ea (l ++ l2) (ws ++ ws2)
  | [], ws, _, _, hv, h2 => by rw [show ws = [] from hv]; exact h2
  | x :: l, ws, _, _, ⟨w', l', e, h1, h3⟩, h2 => by subst e; exact ⟨w', _, rfl, h1, am_vs.app h3 h2⟩
theorem am_vs.take {adr : List Nat} {ea : Nat → Nat} : ∀ {l ws : List Value}, am_vs adr ea l ws → ∀ n, am_vs adr ea (l.take n) (ws.take n)
  | [], ws, hv, n => by rw [show ws = [] from hv]; simp [am_vs]
  | x :: l, ws, ⟨w', l', e, h1, h2⟩, n => by
    subst e
    cases n with
    | zero => simp [am_vs]
    | succ n => exact ⟨w', l'.take n, rfl, h1, am_vs.take h2 n⟩
theorem am_vs.drop {adr : List Nat} {ea : Nat → Nat} : ∀ {l ws : List Value}, am_vs adr ea l ws → ∀ n, am_vs adr ea (l.drop n) (ws.drop n)
  | [], ws, hv, n => by rw [show ws = [] from hv]; simp [am_vs]
  | x :: l, ws, ⟨w', l', e, h1, h2⟩, n => by
    subst e
    cases n with
    | zero => exact ⟨w', l', rfl, h1, h2⟩
    | succ n => exact am_vs.drop h2 n
theorem am_vs.rev {adr : List Nat} {ea : Nat → Nat} : ∀ {l ws : List Value}, am_vs adr ea l ws → am_vs adr ea l.reverse ws.reverse
  | [], ws, hv => by rw [show ws = [] from hv]; simp [am_vs]
  | x :: l, ws, ⟨w', l', e, h1, h2⟩ => by
    subst e
    rw [List.reverse_cons, List.reverse_cons]
    exact (am_vs.rev h2).app ⟨w', [], rfl, h1, rfl⟩
theorem am_ce.px {s : State} {adr adr' : List Nat} {ea : Nat → Nat} (h : adr <+: adr') {c : am_C} {e : va_E} (hc : am_ce s adr ea c e) : am_ce s adr' ea c e := by
  match c, hc with
  | .inl (kd, n, f), hc => exact hc
  | .inr (.inl (n, f)), hc => exact hc
  | .inr (.inr (.inl (n, f))), ⟨cA, g, h1, h2, h3⟩ =>
    refine ⟨cA, g, h1, h2, fun j k hj hk => ?_⟩
    obtain ⟨a, b1, b2⟩ := h3 j k hj hk
    exact ⟨a, am_px h b1, b2⟩
  | .inr (.inr (.inr (ci, fs))), ⟨h1, gs, h2, h3, h4⟩ => exact ⟨h1, gs, h2, h3, h4.px h⟩
theorem am_ce.moved {s U : State} (hvm : s.vm.Alike U.vm) {adr : List Nat} {ea : Nat → Nat} {c : am_C} {e : va_E} (hc : am_ce s adr ea c e) : am_ce U adr ea c e := by
  match c, hc with
  | .inl (kd, n, f), ⟨cA, h1, h2, h3⟩ => exact ⟨cA, h1, arrOfT_moved hvm h2, h3.moved hvm⟩
  | .inr (.inl (n, f)), ⟨cA, h1, h2, h3⟩ => exact ⟨cA, h1, arrOfT_moved hvm h2, h3.moved hvm⟩
  | .inr (.inr (.inl (n, f))), ⟨cA, g, h1, h2, h3⟩ => exact ⟨cA, g, h1, arrOfT_moved hvm h2, h3⟩
  | .inr (.inr (.inr (ci, fs))), hc => exact hc
theorem am_w.moved {s U : State} (hvm : s.vm.Alike U.vm) {adr : List Nat} {ea : Nat → Nat} {hp : List am_C} {ws : va_W} (h : am_w s adr ea hp ws) : am_w U adr ea hp ws := by
  refine ⟨h.1, h.2.1, fun k c hk => ?_⟩
  obtain ⟨a, e, h1, h2, h3⟩ := h.2.2 k c hk
  exact ⟨a, e, h1, h2, h3.moved hvm⟩
/-- a cell is changed -/
theorem am_w.set {s : State} {adr : List Nat} {ea : Nat → Nat} {hp : List am_C} {ws : va_W} (h : am_w s adr ea hp ws) {k a : Nat} {e : va_E} {c' : am_C} {e' : va_E} (hk : ws[k]? = some (a, e)) (hc : am_ce s adr ea c' e') : am_w s adr ea (hp.set k c') (ws.set k (a, e')) := by
  obtain ⟨h1, h2, h3⟩ := h
  have hl : k < ws.length := (List.getElem?_eq_some_iff.mp hk).1
  refine ⟨by rw [List.length_set]; exact h1, by rw [List.length_set, List.length_set]; exact h2, fun j c hj => ?_⟩
  by_cases hjk : j = k
  · subst hjk
    have hlp : j < hp.length := by omega
    rw [List.getElem?_set_self hlp] at hj
    cases hj
    obtain ⟨a', e2, g1, g2, -⟩ := h3 j _ (List.getElem?_eq_getElem hlp)
    rw [hk] at g2
    cases g2
    exact ⟨a, e', g1, List.getElem?_set_self hl, hc⟩
  · rw [List.getElem?_set_ne (Ne.symm hjk)] at hj
    obtain ⟨a', e2, g1, g2, g3⟩ := h3 j c hj
    exact ⟨a', e2, g1, by rw [List.getElem?_set_ne (Ne.symm hjk)]; exact g2, g3⟩
/-- cells are made -/
theorem am_w.add {s : State} {adr : List Nat} {ea : Nat → Nat} {hp : List am_C} {ws : va_W} (h : am_w s adr ea hp ws) {as : List Nat} {cs : List am_C} {es : va_W} (h1 : as.length = cs.length) (h2 : es.length = cs.length)
    (h3 : ∀ (k : Nat) (c : am_C), cs[k]? = some c → ∃ (a : Nat) (e : va_E), as[k]? = some a ∧ es[k]? = some (a, e) ∧ am_ce s (adr ++ as) ea c e) : am_w s (adr ++ as) ea (hp ++ cs) (ws ++ es) := by
  obtain ⟨g1, g2, g3⟩ := h
  refine ⟨by simp [g1, h1], by simp [g2, h2], fun k c hk => ?_⟩
  by_cases hl : k < hp.length
  · rw [List.getElem?_append_left hl] at hk
    obtain ⟨a, e, q1, q2, q3⟩ := g3 k c hk
    exact ⟨a, e, by rw [List.getElem?_append_left (by omega)]; exact q1, by rw [List.getElem?_append_left (by omega)]; exact q2, q3.px (List.prefix_append _ _)⟩
  · rw [List.getElem?_append_right (by omega)] at hk
    obtain ⟨a, e, q1, q2, q3⟩ := h3 _ c hk
    exact ⟨a, e, by rw [List.getElem?_append_right (by omega), g1]; exact q1, by rw [List.getElem?_append_right (by omega), g2]; exact q2, q3⟩
theorem am_ls.px {adr adr' : List Nat} {ea : Nat → Nat} (h : adr <+: adr') {nL : Nat} {ls : am_L} {jl : Array Slot} (hl : am_ls adr ea nL ls jl) : am_ls adr' ea nL ls jl := by
  refine ⟨hl.1, hl.2.1, hl.2.2.1, fun i v hi => ?_⟩
  obtain ⟨w, h1, h2⟩ := hl.2.2.2 i v hi
  exact ⟨w, h1, h2.px h⟩
theorem am_get_spec {ls : am_L} {j : Nat} {v : Value} (h : am_get ls j = some v) : ls[j]? = some (some v) := by
  unfold am_get at h
  split at h
  · cases h; assumption
  · cases h
theorem am_ls.at {adr : List Nat} {ea : Nat → Nat} {nL : Nat} {ls : am_L} {jl : Array Slot} (hl : am_ls adr ea nL ls jl) {j : Nat} {v : Value} (h : am_get ls j = some v) : ∃ w, jl[j]? = some (.val w) ∧ am_v adr ea v w := hl.2.2.2 j v (am_get_spec h)
theorem am_le_len : ∀ {l l' : am_L}, am_le l l' → l.length = l'.length
  | [], [], _ => rfl
  | none :: l, _ :: l', h => by simp [am_le_len (l := l) (l' := l') h]
  | some v :: l, w :: l', h => by simp [am_le_len h.2]
theorem am_le_get : ∀ {l l' : am_L}, am_le l l' → ∀ {i : Nat} {v : Value}, l[i]? = some (some v) → l'[i]? = some (some v)
  | [], [], _, i, v, h => by simp at h
  | none :: l, x :: l', h, i, v, hi => by
    cases i with
    | zero => simp at hi
    | succ i => simp at hi ⊢; exact am_le_get (l := l) (l' := l') h hi
  | some u :: l, w :: l', h, i, v, hi => by
    cases i with
    | zero => simp at hi ⊢; rw [h.1, hi]
    | succ i => simp at hi ⊢; exact am_le_get h.2 hi
theorem am_ls.le {adr : List Nat} {ea : Nat → Nat} {nL : Nat} {ls ls' : am_L} {jl : Array Slot} (h : am_le ls' ls) (hl : am_ls adr ea nL ls jl) : am_ls adr ea nL ls' jl :=
  ⟨(am_le_len h).trans hl.1, hl.2.1, hl.2.2.1, fun i v hi => hl.2.2.2 i v (am_le_get h hi)⟩
/-- all the locals that are known, as the kit's rows take them -/
theorem am_has {adr : List Nat} {ea : Nat → Nat} {nL : Nat} {ls : am_L} {jl : Array Slot} (h : am_ls adr ea nL ls jl) : ∃ lv : List (Nat × Value), lv_has jl nL lv ∧ ∀ (i : Nat) (v w : Value), ls[i]? = some (some v) → jl[i]? = some (.val w) → (i, w) ∈ lv := by
  refine ⟨(List.range nL).filterMap (fun i : Nat => match (jl[i]? : Option Slot) with
    | some (Slot.val w) => some (i, w)
    | _ => none), ⟨h.2.1, h.2.2.1, fun q hq => ?_⟩, fun i v w hi hw => ?_⟩
  · obtain ⟨i, -, hi⟩ := List.mem_filterMap.mp hq
    split at hi
    · cases hi; assumption
    · cases hi
  · have hlt : i < nL := by
      have := (List.getElem?_eq_some_iff.mp hi).1
      rw [h.1] at this
      exact this
    exact List.mem_filterMap.mpr ⟨i, List.mem_range.mpr hlt, by rw [hw]⟩
theorem am_ls.put {adr : List Nat} {ea : Nat → Nat} {nL : Nat} {ls : am_L} {jl jl' : Array Slot} {lv : List (Nat × Value)} {j : Nat} {v w : Value} (h : am_ls adr ea nL ls jl) (hpl : am_pl ls j = true) (hv : am_v adr ea v w)
    (hc : ∀ (i : Nat) (v w : Value), ls[i]? = some (some v) → jl[i]? = some (.val w) → (i, w) ∈ lv) (h' : lv_has jl' nL ((j, w) :: lv.filter (fun q => !(q.1 == j) && !(q.1 + 1 == j && q.2.category == 2)))) : am_ls adr ea nL (ls.set j (some v)) jl' := by
  refine ⟨by rw [List.length_set]; exact h.1, h'.1, h'.2.1, fun i u hi => ?_⟩
  by_cases hij : i = j
  · subst hij
    have hl : i < ls.length := by
      have := (List.getElem?_eq_some_iff.mp hi).1
      rw [List.length_set] at this
      exact this
    rw [List.getElem?_set_self hl] at hi
    cases hi
    exact ⟨w, h'.2.2 (i, w) List.mem_cons_self, hv⟩
  · rw [List.getElem?_set_ne (Ne.symm hij)] at hi
    obtain ⟨w', g1, g2⟩ := h.2.2.2 i u hi
    refine ⟨w', h'.2.2 (i, w') (List.mem_cons_of_mem _ (List.mem_filter.mpr ⟨hc i u w' hi g1, ?_⟩)), g2⟩
    simp only [Bool.and_eq_true, Bool.not_eq_true', beq_eq_false_iff_ne, ne_eq, Bool.and_eq_false_iff]
    refine ⟨hij, ?_⟩
    by_cases hp : i + 1 = j
    · refine Or.inr ?_
      subst hp
      have hg : am_get ls i = some u := by unfold am_get; rw [hi]
      rw [g2.cat]
      simp only [am_pl, hg] at hpl
      cases u with
      | long x => exact absurd hpl Bool.false_ne_true
      | double x => exact g2.elim
      | _ => exact fun q => absurd (show (1 : Nat) = 2 from q) (by decide)
    · exact Or.inl hp
theorem am_ls.put2 {adr : List Nat} {ea : Nat → Nat} {nL : Nat} {ls : am_L} {jl jl' : Array Slot} {lv : List (Nat × Value)} {j : Nat} {v w : Value} (h : am_ls adr ea nL ls jl) (hpl : am_pl ls j = true) (hv : am_v adr ea v w)
    (hc : ∀ (i : Nat) (v w : Value), ls[i]? = some (some v) → jl[i]? = some (.val w) → (i, w) ∈ lv) (h' : lv_has jl' nL ((j, w) :: lv.filter (fun q => !(q.1 == j) && (!(q.1 == j + 1) && !(q.1 + 1 == j && q.2.category == 2))))) : am_ls adr ea nL ((ls.set j (some v)).set (j + 1) none) jl' := by
  refine ⟨by rw [List.length_set, List.length_set]; exact h.1, h'.1, h'.2.1, fun i u hi => ?_⟩
  by_cases hij1 : i = j + 1
  · subst hij1
    have hl : j + 1 < (ls.set j (some v)).length := by
      have := (List.getElem?_eq_some_iff.mp hi).1
      rw [List.length_set] at this
      exact this
    rw [List.getElem?_set_self hl] at hi
    cases hi
  · rw [List.getElem?_set_ne (Ne.symm hij1)] at hi
    by_cases hij : i = j
    · subst hij
      have hl : i < ls.length := by
        have := (List.getElem?_eq_some_iff.mp hi).1
        rw [List.length_set] at this
        exact this
      rw [List.getElem?_set_self hl] at hi
      cases hi
      exact ⟨w, h'.2.2 (i, w) List.mem_cons_self, hv⟩
    · rw [List.getElem?_set_ne (Ne.symm hij)] at hi
      obtain ⟨w', g1, g2⟩ := h.2.2.2 i u hi
      refine ⟨w', h'.2.2 (i, w') (List.mem_cons_of_mem _ (List.mem_filter.mpr ⟨hc i u w' hi g1, ?_⟩)), g2⟩
      simp only [Bool.and_eq_true, Bool.not_eq_true', beq_eq_false_iff_ne, ne_eq, Bool.and_eq_false_iff]
      refine ⟨hij, hij1, ?_⟩
      by_cases hp : i + 1 = j
      · refine Or.inr ?_
        subst hp
        have hg : am_get ls i = some u := by unfold am_get; rw [hi]
        rw [g2.cat]
        simp only [am_pl, hg] at hpl
        cases u with
      | long x => exact absurd hpl Bool.false_ne_true
      | double x => exact g2.elim
      | _ => exact fun q => absurd (show (1 : Nat) = 2 from q) (by decide)
      · exact Or.inl hp
theorem am_in_vp {i : Int32} {n : Nat} (h : am_in i n = true) : vp_in i n := by
  simp only [am_in, Bool.and_eq_true, Bool.not_eq_true', decide_eq_false_iff_not, decide_eq_true_eq] at h
  intro q
  rcases q with q | q
  · exact h.1 q
  · omega
theorem am_K1 {D : va_G} {s : State} {cA : ClassId} {ty : FieldType} (hK : va_K D classes [] s) (h1 : ArrOfT s cA ty) (h2 : va_RA s cA ty) : va_K D classes [(cA, ty)] s := by
  refine ⟨hK.1, fun k q hk => ?_⟩
  cases k with
  | zero => simp at hk; subst hk; exact ⟨h1, h2⟩
  | succ k => simp at hk
end
section
theorem am_lk {β : Type} : ∀ {l : List (Nat × β)} {a : Nat} {b : β}, l.lookup a = some b → (a, b) ∈ l
  | [], _, _, h => by simp at h
  | (k, c) :: l, a, b, h => by
    simp only [List.lookup] at h
    split at h
    · rename_i e
      cases h
      have := eq_of_beq e
      subst this
      exact List.mem_cons_self
    · exact List.mem_cons_of_mem _ (am_lk h)
theorem am_all2 {β : Type} {L : List (List β)} {f : Nat → β → Bool} {N : Nat} (h : (List.range N).all (fun o => (L.getD o []).all (f o)) = true) {o : Nat} (ho : o < N) {b : β} (hb : b ∈ L.getD o []) : f o b = true :=
  List.all_eq_true.mp (List.all_eq_true.mp h o (List.mem_range.mpr ho)) b hb
theorem am_fld_ok {own idx ci j : Nat} (ho : own < am_nC) (h : am_fld own idx = some (ci, j)) : ci < am_nO ∧ j < am_N ci ∧ Cond.fieldLink (am_cn own) idx (am_F ci j).1 (am_F ci j).2.1 (am_F ci j).2.2.1 ∈ am_TB := by
  unfold am_fld at h
  split at h
  · rename_i q hq
    cases h
    have h1 := am_all2 am_k_f ho (am_lk hq)
    simp only [Bool.and_eq_true, decide_eq_true_eq] at h1
    exact ⟨h1.1.1, h1.1.2, am_ok_mem h1.2⟩
  · cases h
theorem am_ci_ok {own idx : Nat} {v : Int32} (ho : own < am_nC) (h : am_ci own idx = some v) : Cond.constant (am_cn own) idx v ∈ am_TB := by
  unfold am_ci at h
  split at h
  · rename_i q hq
    cases h
    exact am_ok_mem (am_all2 am_k_ci ho (am_lk hq))
  · cases h
theorem am_cj_ok {own idx : Nat} {v : Int64} (ho : own < am_nC) (h : am_cj own idx = some v) : Cond.constantLong (am_cn own) idx v ∈ am_TB := by
  unfold am_cj at h
  split at h
  · rename_i q hq
    cases h
    exact am_ok_mem (am_all2 am_k_cj ho (am_lk hq))
  · cases h
theorem am_nw_ok {own idx ci : Nat} (ho : own < am_nC) (h : am_nw own idx = some ci) : ci < am_nO ∧ Cond.classLink (am_cn own) idx (am_cn ci) ∈ am_TB := by
  unfold am_nw at h
  split at h
  · rename_i q hq
    cases h
    have h1 := am_all2 am_k_nw ho (am_lk hq)
    simp only [Bool.and_eq_true, decide_eq_true_eq] at h1
    exact ⟨h1.1, am_ok_mem h1.2⟩
  · cases h
theorem am_cls_at {ci : Nat} (h : ci < am_nO) : classes[ci]? = some (am_cn ci, am_F ci, am_N ci) := by
  unfold classes
  rw [List.getElem?_map, List.getElem?_range h]
  rfl
theorem am_cok_of {ci : Nat} (h : ci < am_nO) : Cond.instantiable (am_cn ci) (am_N ci) ∈ am_TB ∧ Cond.initialized (am_cn ci) ∈ am_TB ∧ ∀ j, j < am_N ci → u_lay (am_cn ci) (am_F ci) j ∈ am_TB ∧ parseFieldDescriptor (am_F ci j).2.2.1 = some (am_T ci j) ∧ (am_F ci j).1 = am_cn ci := by
  have h1 := List.all_eq_true.mp am_k_c ci (List.mem_range.mpr h)
  simp only [am_cok, Bool.and_eq_true] at h1
  refine ⟨am_ok_mem h1.1.1, am_ok_mem h1.1.2, fun j hj => ?_⟩
  have h2 := List.all_eq_true.mp h1.2 j (List.mem_range.mpr hj)
  simp only [Bool.and_eq_true, decide_eq_true_eq] at h2
  exact ⟨am_ok_mem h2.1.1, h2.1.2, h2.2⟩
theorem am_uws {ci : Nat} (h : ci < am_nO) : ∀ w ∈ u_ws (am_cn ci) (am_F ci) (am_N ci), w ∈ am_TB := by
  intro w hw
  obtain ⟨j, hj, rfl⟩ := List.mem_map.mp hw
  exact ((am_cok_of h).2.2 j (List.mem_range.mp hj)).1

theorem sm_ild {p : Program} {l : Launch} {e : Env} {Rm : Room} {s : State} {m : MethodId} {args : Array Value} {below : List Frame} {meth : Method} {c : Code} {Q : State → Prop} {D : va_G} {A : Nat → Prop} {ea : Nat → Nat} {nL : Nat} {adr0 : List Nat} {call : am_Fn} {R : am_R} {pc pc2 : Nat} {ls : am_L} {st : List Value} {mem : am_M} {H : Heap} {locs : List Loc} {cells slots : Nat} {jl : Array Slot} {js : List Value} {adr : List Nat} {ws : va_W} {j : Nat} (h : am_do call (am_ild pc2 ls st mem j) (am_Sim p l e Rm s m args below meth c Q D A ea nL adr0) R) (hJ : am_J s D A ea nL Rm adr0 ls st mem H locs cells slots jl js adr ws) (row : ∀ x : Int32, jl[j]? = some (.val (.int x)) → W p l e Rm s m args below meth c H locs cells slots Q (F0 m pc2 jl (.int x :: js)) → W p l e Rm s m args below meth c H locs cells slots Q (F0 m pc jl js)) : W p l e Rm s m args below meth c H locs cells slots Q (F0 m pc jl js) := by
  obtain ⟨h0, h1, h2, h3, h4, h5, h6, h7, h8⟩ := hJ
  unfold am_ild at h
  split at h
  · rename_i x hx
    obtain ⟨w, g1, g2⟩ := h5.at hx
    have g2 : w = .int x := g2
    subst g2
    exact row x g1 (h _ _ _ _ _ _ _ _ ⟨h0, h1, h2, h3, h4, h5, ⟨_, _, rfl, rfl, h6⟩, h7, h8⟩)
  · exact h.elim
theorem sm_lld {p : Program} {l : Launch} {e : Env} {Rm : Room} {s : State} {m : MethodId} {args : Array Value} {below : List Frame} {meth : Method} {c : Code} {Q : State → Prop} {D : va_G} {A : Nat → Prop} {ea : Nat → Nat} {nL : Nat} {adr0 : List Nat} {call : am_Fn} {R : am_R} {pc pc2 : Nat} {ls : am_L} {st : List Value} {mem : am_M} {H : Heap} {locs : List Loc} {cells slots : Nat} {jl : Array Slot} {js : List Value} {adr : List Nat} {ws : va_W} {j : Nat} (h : am_do call (am_lld pc2 ls st mem j) (am_Sim p l e Rm s m args below meth c Q D A ea nL adr0) R) (hJ : am_J s D A ea nL Rm adr0 ls st mem H locs cells slots jl js adr ws) (row : ∀ x : Int64, jl[j]? = some (.val (.long x)) → W p l e Rm s m args below meth c H locs cells slots Q (F0 m pc2 jl (.long x :: js)) → W p l e Rm s m args below meth c H locs cells slots Q (F0 m pc jl js)) : W p l e Rm s m args below meth c H locs cells slots Q (F0 m pc jl js) := by
  obtain ⟨h0, h1, h2, h3, h4, h5, h6, h7, h8⟩ := hJ
  unfold am_lld at h
  split at h
  · rename_i x hx
    obtain ⟨w, g1, g2⟩ := h5.at hx
    have g2 : w = .long x := g2
    subst g2
    exact row x g1 (h _ _ _ _ _ _ _ _ ⟨h0, h1, h2, h3, h4, h5, ⟨_, _, rfl, rfl, h6⟩, h7, h8⟩)
  · exact h.elim
theorem sm_ald {p : Program} {l : Launch} {e : Env} {Rm : Room} {s : State} {m : MethodId} {args : Array Value} {below : List Frame} {meth : Method} {c : Code} {Q : State → Prop} {D : va_G} {A : Nat → Prop} {ea : Nat → Nat} {nL : Nat} {adr0 : List Nat} {call : am_Fn} {R : am_R} {pc pc2 : Nat} {ls : am_L} {st : List Value} {mem : am_M} {H : Heap} {locs : List Loc} {cells slots : Nat} {jl : Array Slot} {js : List Value} {adr : List Nat} {ws : va_W} {j : Nat} (h : am_do call (am_ald pc2 ls st mem j) (am_Sim p l e Rm s m args below meth c Q D A ea nL adr0) R) (hJ : am_J s D A ea nL Rm adr0 ls st mem H locs cells slots jl js adr ws) (row : ∀ x : Nat, jl[j]? = some (.val (.ref x)) → W p l e Rm s m args below meth c H locs cells slots Q (F0 m pc2 jl (.ref x :: js)) → W p l e Rm s m args below meth c H locs cells slots Q (F0 m pc jl js)) : W p l e Rm s m args below meth c H locs cells slots Q (F0 m pc jl js) := by
  obtain ⟨h0, h1, h2, h3, h4, h5, h6, h7, h8⟩ := hJ
  unfold am_ald at h
  split at h
  · rename_i x hx
    obtain ⟨w, g1, g2⟩ := h5.at hx
    obtain ⟨a, g3, g4⟩ := id g2
    subst g4
    exact row a g1 (h _ _ _ _ _ _ _ _ ⟨h0, h1, h2, h3, h4, h5, ⟨_, _, rfl, g2, h6⟩, h7, h8⟩)
  · rename_i x hx
    obtain ⟨w, g1, g2⟩ := h5.at hx
    have g4 : w = .ref (ea x.toNat) := g2
    subst g4
    exact row _ g1 (h _ _ _ _ _ _ _ _ ⟨h0, h1, h2, h3, h4, h5, ⟨_, _, rfl, g2, h6⟩, h7, h8⟩)
  · exact h.elim
theorem sm_ist {p : Program} {l : Launch} {e : Env} {Rm : Room} {s : State} {m : MethodId} {args : Array Value} {below : List Frame} {meth : Method} {c : Code} {Q : State → Prop} {D : va_G} {A : Nat → Prop} {ea : Nat → Nat} {nL : Nat} {adr0 : List Nat} {call : am_Fn} {R : am_R} {pc pc2 : Nat} {ls : am_L} {st : List Value} {mem : am_M} {H : Heap} {locs : List Loc} {cells slots : Nat} {jl : Array Slot} {js : List Value} {adr : List Nat} {ws : va_W} {j : Nat} (h : am_do call (am_ist pc2 ls st mem j) (am_Sim p l e Rm s m args below meth c Q D A ea nL adr0) R) (hJ : am_J s D A ea nL Rm adr0 ls st mem H locs cells slots jl js adr ws) (row : ∀ (x : Int32) (js2 : List Value) (lv : List (Nat × Value)), js = .int x :: js2 → lv_has jl nL lv → j < nL → (∀ jl2 : Array Slot, lv_has jl2 nL ((j, .int x) :: lv.filter (fun q => !(q.1 == j) && !(q.1 + 1 == j && q.2.category == 2))) → W p l e Rm s m args below meth c H locs cells slots Q (F0 m pc2 jl2 js2)) → W p l e Rm s m args below meth c H locs cells slots Q (F0 m pc jl js)) : W p l e Rm s m args below meth c H locs cells slots Q (F0 m pc jl js) := by
  obtain ⟨h0, h1, h2, h3, h4, h5, h6, h7, h8⟩ := hJ
  unfold am_ist at h
  split at h
  · rename_i x st2
    obtain ⟨w, js2, e1, e2, e3⟩ := h6
    have e2 : w = .int x := e2
    subst e2
    split at h
    · rename_i hc
      simp only [Bool.and_eq_true, decide_eq_true_eq] at hc
      obtain ⟨lv, g1, g2⟩ := am_has h5
      refine row x js2 lv e1 g1 (by have := h5.1; omega) (fun jl2 hl2 => h _ _ _ _ _ _ _ _ ⟨h0, h1, h2, h3, h4, ?_, e3, h7, h8⟩)
      exact h5.put hc.2 (v := .int x) rfl g2 hl2
    · exact h.elim
  · exact h.elim
theorem sm_lst {p : Program} {l : Launch} {e : Env} {Rm : Room} {s : State} {m : MethodId} {args : Array Value} {below : List Frame} {meth : Method} {c : Code} {Q : State → Prop} {D : va_G} {A : Nat → Prop} {ea : Nat → Nat} {nL : Nat} {adr0 : List Nat} {call : am_Fn} {R : am_R} {pc pc2 : Nat} {ls : am_L} {st : List Value} {mem : am_M} {H : Heap} {locs : List Loc} {cells slots : Nat} {jl : Array Slot} {js : List Value} {adr : List Nat} {ws : va_W} {j : Nat} (h : am_do call (am_lst pc2 ls st mem j) (am_Sim p l e Rm s m args below meth c Q D A ea nL adr0) R) (hJ : am_J s D A ea nL Rm adr0 ls st mem H locs cells slots jl js adr ws) (row : ∀ (x : Int64) (js2 : List Value) (lv : List (Nat × Value)), js = .long x :: js2 → lv_has jl nL lv → j + 1 < nL → (∀ jl2 : Array Slot, lv_has jl2 nL ((j, .long x) :: lv.filter (fun q => !(q.1 == j) && (!(q.1 == j + 1) && !(q.1 + 1 == j && q.2.category == 2)))) → W p l e Rm s m args below meth c H locs cells slots Q (F0 m pc2 jl2 js2)) → W p l e Rm s m args below meth c H locs cells slots Q (F0 m pc jl js)) : W p l e Rm s m args below meth c H locs cells slots Q (F0 m pc jl js) := by
  obtain ⟨h0, h1, h2, h3, h4, h5, h6, h7, h8⟩ := hJ
  unfold am_lst at h
  split at h
  · rename_i x st2
    obtain ⟨w, js2, e1, e2, e3⟩ := h6
    have e2 : w = .long x := e2
    subst e2
    split at h
    · rename_i hc
      simp only [Bool.and_eq_true, decide_eq_true_eq] at hc
      obtain ⟨lv, g1, g2⟩ := am_has h5
      refine row x js2 lv e1 g1 (by have := h5.1; omega) (fun jl2 hl2 => h _ _ _ _ _ _ _ _ ⟨h0, h1, h2, h3, h4, ?_, e3, h7, h8⟩)
      exact h5.put2 hc.2 (v := .long x) rfl g2 hl2
    · exact h.elim
  · exact h.elim
theorem sm_ast {p : Program} {l : Launch} {e : Env} {Rm : Room} {s : State} {m : MethodId} {args : Array Value} {below : List Frame} {meth : Method} {c : Code} {Q : State → Prop} {D : va_G} {A : Nat → Prop} {ea : Nat → Nat} {nL : Nat} {adr0 : List Nat} {call : am_Fn} {R : am_R} {pc pc2 : Nat} {ls : am_L} {st : List Value} {mem : am_M} {H : Heap} {locs : List Loc} {cells slots : Nat} {jl : Array Slot} {js : List Value} {adr : List Nat} {ws : va_W} {j : Nat} (h : am_do call (am_ast pc2 ls st mem j) (am_Sim p l e Rm s m args below meth c Q D A ea nL adr0) R) (hJ : am_J s D A ea nL Rm adr0 ls st mem H locs cells slots jl js adr ws) (row : ∀ (x : Nat) (js2 : List Value) (lv : List (Nat × Value)), js = .ref x :: js2 → lv_has jl nL lv → j < nL → (∀ jl2 : Array Slot, lv_has jl2 nL ((j, .ref x) :: lv.filter (fun q => !(q.1 == j) && !(q.1 + 1 == j && q.2.category == 2))) → W p l e Rm s m args below meth c H locs cells slots Q (F0 m pc2 jl2 js2)) → W p l e Rm s m args below meth c H locs cells slots Q (F0 m pc jl js)) : W p l e Rm s m args below meth c H locs cells slots Q (F0 m pc jl js) := by
  obtain ⟨h0, h1, h2, h3, h4, h5, h6, h7, h8⟩ := hJ
  unfold am_ast at h
  split at h
  · rename_i x st2
    obtain ⟨w, js2, e1, e2, e3⟩ := h6
    obtain ⟨a, e4, e5⟩ := id e2
    subst e5
    split at h
    · rename_i hc
      simp only [Bool.and_eq_true, decide_eq_true_eq] at hc
      obtain ⟨lv, g1, g2⟩ := am_has h5
      refine row a js2 lv e1 g1 (by have := h5.1; omega) (fun jl2 hl2 => h _ _ _ _ _ _ _ _ ⟨h0, h1, h2, h3, h4, ?_, e3, h7, h8⟩)
      exact h5.put hc.2 (v := .ref x) e2 g2 hl2
    · exact h.elim
  · exact h.elim
theorem sm_iic {p : Program} {l : Launch} {e : Env} {Rm : Room} {s : State} {m : MethodId} {args : Array Value} {below : List Frame} {meth : Method} {c : Code} {Q : State → Prop} {D : va_G} {A : Nat → Prop} {ea : Nat → Nat} {nL : Nat} {adr0 : List Nat} {call : am_Fn} {R : am_R} {pc pc2 : Nat} {ls : am_L} {st : List Value} {mem : am_M} {H : Heap} {locs : List Loc} {cells slots : Nat} {jl : Array Slot} {js : List Value} {adr : List Nat} {ws : va_W} {j : Nat} {n : Int} (h : am_do call (am_iic pc2 ls st mem j n) (am_Sim p l e Rm s m args below meth c Q D A ea nL adr0) R) (hJ : am_J s D A ea nL Rm adr0 ls st mem H locs cells slots jl js adr ws) (row : ∀ (x : Int32) (lv : List (Nat × Value)) (k : Nat), lv_has jl nL lv → lv[k]? = some (j, .int x) → j < nL → (∀ jl2 : Array Slot, lv_has jl2 nL ((j, .int (x + Int32.ofInt n)) :: lv.filter (fun q => !(q.1 == j) && !(q.1 + 1 == j && q.2.category == 2))) → W p l e Rm s m args below meth c H locs cells slots Q (F0 m pc2 jl2 js)) → W p l e Rm s m args below meth c H locs cells slots Q (F0 m pc jl js)) : W p l e Rm s m args below meth c H locs cells slots Q (F0 m pc jl js) := by
  obtain ⟨h0, h1, h2, h3, h4, h5, h6, h7, h8⟩ := hJ
  unfold am_iic at h
  split at h
  · rename_i x hx
    obtain ⟨w, g3, g4⟩ := h5.at hx
    have g4 : w = .int x := g4
    subst g4
    split at h
    · rename_i hc
      simp only [Bool.and_eq_true, decide_eq_true_eq] at hc
      obtain ⟨lv, g1, g2⟩ := am_has h5
      obtain ⟨k, hk⟩ := List.getElem?_of_mem (g2 j _ _ (am_get_spec hx) g3)
      refine row x lv k g1 hk (by have := h5.1; omega) (fun jl2 hl2 => h _ _ _ _ _ _ _ _ ⟨h0, h1, h2, h3, h4, ?_, h6, h7, h8⟩)
      exact h5.put hc.2 (v := .int (x + Int32.ofInt n)) rfl g2 hl2
    · exact h.elim
  · exact h.elim
theorem sm_ibs {p : Program} {l : Launch} {e : Env} {Rm : Room} {s : State} {m : MethodId} {args : Array Value} {below : List Frame} {meth : Method} {c : Code} {Q : State → Prop} {D : va_G} {A : Nat → Prop} {ea : Nat → Nat} {nL : Nat} {adr0 : List Nat} {call : am_Fn} {R : am_R} {pc pc2 : Nat} {ls : am_L} {st : List Value} {mem : am_M} {H : Heap} {locs : List Loc} {cells slots : Nat} {jl : Array Slot} {js : List Value} {adr : List Nat} {ws : va_W} {f : Int32 → Int32 → Option Int32} (h : am_do call (am_ibs f pc2 ls st mem) (am_Sim p l e Rm s m args below meth c Q D A ea nL adr0) R) (hJ : am_J s D A ea nL Rm adr0 ls st mem H locs cells slots jl js adr ws) (row : ∀ (x y z : Int32) (js2 : List Value), js = .int y :: .int x :: js2 → f x y = some z → W p l e Rm s m args below meth c H locs cells slots Q (F0 m pc2 jl (.int z :: js2)) → W p l e Rm s m args below meth c H locs cells slots Q (F0 m pc jl js)) : W p l e Rm s m args below meth c H locs cells slots Q (F0 m pc jl js) := by
  obtain ⟨h0, h1, h2, h3, h4, h5, h6, h7, h8⟩ := hJ
  unfold am_ibs at h
  split at h
  · rename_i y x st2
    obtain ⟨w1, l1, e1, e2, w2, l2, e3, e4, e5⟩ := h6
    have e2 : w1 = .int y := e2
    have e4 : w2 = .int x := e4
    subst e2; subst e4; subst e3
    split at h
    · rename_i z hz
      exact row x y z l2 e1 hz (h _ _ _ _ _ _ _ _ ⟨h0, h1, h2, h3, h4, h5, ⟨_, _, rfl, rfl, e5⟩, h7, h8⟩)
    · exact h.elim
  · exact h.elim
theorem sm_lbs {p : Program} {l : Launch} {e : Env} {Rm : Room} {s : State} {m : MethodId} {args : Array Value} {below : List Frame} {meth : Method} {c : Code} {Q : State → Prop} {D : va_G} {A : Nat → Prop} {ea : Nat → Nat} {nL : Nat} {adr0 : List Nat} {call : am_Fn} {R : am_R} {pc pc2 : Nat} {ls : am_L} {st : List Value} {mem : am_M} {H : Heap} {locs : List Loc} {cells slots : Nat} {jl : Array Slot} {js : List Value} {adr : List Nat} {ws : va_W} {f : Int64 → Int64 → Option Int64} (h : am_do call (am_lbs f pc2 ls st mem) (am_Sim p l e Rm s m args below meth c Q D A ea nL adr0) R) (hJ : am_J s D A ea nL Rm adr0 ls st mem H locs cells slots jl js adr ws) (row : ∀ (x y z : Int64) (js2 : List Value), js = .long y :: .long x :: js2 → f x y = some z → W p l e Rm s m args below meth c H locs cells slots Q (F0 m pc2 jl (.long z :: js2)) → W p l e Rm s m args below meth c H locs cells slots Q (F0 m pc jl js)) : W p l e Rm s m args below meth c H locs cells slots Q (F0 m pc jl js) := by
  obtain ⟨h0, h1, h2, h3, h4, h5, h6, h7, h8⟩ := hJ
  unfold am_lbs at h
  split at h
  · rename_i y x st2
    obtain ⟨w1, l1, e1, e2, w2, l2, e3, e4, e5⟩ := h6
    have e2 : w1 = .long y := e2
    have e4 : w2 = .long x := e4
    subst e2; subst e4; subst e3
    split at h
    · rename_i z hz
      exact row x y z l2 e1 hz (h _ _ _ _ _ _ _ _ ⟨h0, h1, h2, h3, h4, h5, ⟨_, _, rfl, rfl, e5⟩, h7, h8⟩)
    · exact h.elim
  · exact h.elim
theorem sm_to {p : Program} {l : Launch} {e : Env} {Rm : Room} {s : State} {m : MethodId} {args : Array Value} {below : List Frame} {meth : Method} {c : Code} {Q : State → Prop} {D : va_G} {A : Nat → Prop} {ea : Nat → Nat} {nL : Nat} {adr0 : List Nat} {call : am_Fn} {R : am_R} {pc : Nat} {ls : am_L} {st : List Value} {mem : am_M} {off : Int} (h : am_do call (am_to pc off ls st mem) (am_Sim p l e Rm s m args below meth c Q D A ea nL adr0) R) : ∃ t : Nat, (pc : Int) + off = (t : Int) ∧ (am_Sim p l e Rm s m args below meth c Q D A ea nL adr0) t ls st mem := by
  unfold am_to am_jmp at h
  split at h
  · rename_i t ht
    split at ht
    · rename_i h0
      cases ht
      exact ⟨_, (Int.toNat_of_nonneg h0).symm, h⟩
    · cases ht
  · exact h.elim
theorem sm_iald {p : Program} {l : Launch} {e : Env} {Rm : Room} {s : State} {m : MethodId} {args : Array Value} {below : List Frame} {meth : Method} {c : Code} {Q : State → Prop} {D : va_G} {A : Nat → Prop} {ea : Nat → Nat} {nL : Nat} {adr0 : List Nat} {call : am_Fn} {R : am_R} {pc : Nat} {ls : am_L} {st : List Value} {mem : am_M} {H : Heap} {locs : List Loc} {cells slots : Nat} {jl : Array Slot} {js : List Value} {adr : List Nat} {ws : va_W} {k : Nat} {X : am_X} {base : Nat} {cc : ByteArray} (F : am_Fx p s m args meth c Rm k X base ea A D) (hb : c.code = cc) (hd : decode cc pc = .ok (.iaload, 1)) (h : am_do call (am_iald X (pc + 1) ls st mem) (am_Sim p l e Rm s m args below meth c Q D A ea nL adr0) R) (hJ : am_J s D A ea nL Rm adr0 ls st mem H locs cells slots jl js adr ws)  : W p l e Rm s m args below meth c H locs cells slots Q (F0 m pc jl js) := by
  obtain ⟨h0, h1, h2, h3, h4, h5, h6, h7, h8⟩ := hJ
  obtain ⟨hx, -, -, -, hK, -, hG, hbs, -, hsx, -⟩ := F
  unfold am_iald at h
  split at h
  · rename_i i a st2
    obtain ⟨w1, l1, e1, e2, w2, l2, e3, ⟨ad, e4, e6⟩, e5⟩ := h6
    have e2 : w1 = .int i := e2
    subst e2; subst e6; subst e3; subst e1
    split at h
    · rename_i n f hm
      split at h
      · rename_i hi
        obtain ⟨a', e', q1, q2, cA, q3, q4, q5⟩ := h1.2.2 a _ hm
        rw [e4] at q1
        cases q1
        subst q3
        exact va_iald hx hb (am_K1 hK q4 q5) h2 a 0 q2 rfl (am_in_vp hi) hd (h _ _ _ _ _ _ _ _ ⟨h0, h1, h2, h3, h4, h5, ⟨_, _, rfl, rfl, e5⟩, h7, h8⟩)
      · exact h.elim
    · exact h.elim
  · rename_i i u st2
    obtain ⟨w1, l1, e1, e2, w2, l2, e3, e4, e5⟩ := h6
    have e2 : w1 = .int i := e2
    have e4 : w2 = .ref (ea u.toNat) := e4
    subst e2; subst e4; subst e3; subst e1
    split at h
    · rename_i x
      split at h
      · rename_i hu
        subst hu
        split at h
        · rename_i hi
          obtain ⟨g1, g2, g3⟩ := hsx x rfl
          exact va_sld hx hb g1 g2 (fun q => absurd (hG _ q) (by show ¬ base ≤ ea 0; omega)) h4 (am_in_vp hi) hd (h _ _ _ _ _ _ _ _ ⟨h0, h1, h2, h3, h4, h5, ⟨_, _, rfl, rfl, e5⟩, h7, h8⟩)
        · exact h.elim
      · exact h.elim
    · exact h.elim
  · exact h.elim
end
section
theorem am_fit_ok {t : FieldType} {v w : Value} {adr : List Nat} {ea : Nat → Nat} (h : am_fit t v = true) (hv : am_v adr ea v w) : narrow t w = w ∧ fits t w = true := by
  unfold am_fit at h
  split at h
  · rename_i x
    have : w = .int x := hv
    subst this
    exact ⟨rfl, rfl⟩
  · obtain ⟨a, -, rfl⟩ := hv
    exact ⟨rfl, rfl⟩
  · have : w = .null := hv
    subst this
    exact ⟨rfl, rfl⟩
  · obtain ⟨a, -, rfl⟩ := hv
    exact ⟨rfl, rfl⟩
  · have : w = .null := hv
    subst this
    exact ⟨rfl, rfl⟩
  · cases h
theorem am_k_xf : (List.range am_nC).all (fun own => (am_xfs.getD own []).all (fun e => (am_ok e.2.2 (.fieldLink (am_cn own) e.1 "java/lang/String" "value" "[B") && decide (e.2.1 = .float 3)) || (am_ok e.2.2 (.fieldLink (am_cn own) e.1 "java/lang/String" "coder" "B") && decide (e.2.1 = .int 0)))) = true := by decide +kernel
theorem am_xf_ok {own idx base : Nat} {ea : Nat → Nat} {s : State} {v : Value} (ho : own < am_nC) (hex : am_ex base ea s) (h : am_xf own idx = some v) : ∃ (n d : String) (w : Value), va_OF "java/lang/String" n d w (ea 2) (fun q => base ≤ q) s s.heap ∧ Cond.fieldLink (am_cn own) idx "java/lang/String" n d ∈ am_TB ∧ ∀ adr, am_v adr ea v w := by
  unfold am_xf at h
  split at h
  · rename_i q hq
    cases h
    have h1 := am_all2 am_k_xf ho (am_lk hq)
    simp only [Bool.and_eq_true, Bool.or_eq_true, decide_eq_true_eq] at h1
    have hS := hex.2.2.2.1.1 0 Nat.zero_lt_one
    rcases h1 with h1 | h1
    · exact ⟨_, _, _, hS.2.2.1, am_ok_mem h1.1, fun adr => by rw [h1.2]; rfl⟩
    · exact ⟨_, _, _, hS.2.1, am_ok_mem h1.1, fun adr => by rw [h1.2]; rfl⟩
  · cases h
theorem am_k_st : (List.range am_nC).all (fun own => (am_sts.getD own []).all (fun e => (am_ok e.2.2 (.fieldLink (am_cn own) e.1 "HouseKeepers$Match" "DIGIT_WEIGHT" "[J") && decide (e.2.1 = .float 1)) || (am_ok e.2.2 (.fieldLink (am_cn own) e.1 "java/lang/String" "COMPACT_STRINGS" "Z") && decide (e.2.1 = .int 1)))) = true := by decide +kernel
theorem am_sta_ok {own idx base : Nat} {ea : Nat → Nat} {s : State} {v : Value} (ho : own < am_nC) (hex : am_ex base ea s) (h : am_sta own idx = some v) : ∃ (C n d : String) (w : Value), va_Z C n d w (fun q => base ≤ q) s s.heap ∧ Cond.fieldLink (am_cn own) idx C n d ∈ am_TB ∧ ∀ adr, am_v adr ea v w := by
  unfold am_sta at h
  split at h
  · rename_i q hq
    cases h
    have h1 := am_all2 am_k_st ho (am_lk hq)
    simp only [Bool.and_eq_true, Bool.or_eq_true, decide_eq_true_eq] at h1
    rcases h1 with h1 | h1
    · exact ⟨_, _, _, _, hex.1, am_ok_mem h1.1, fun adr => by rw [h1.2]; rfl⟩
    · exact ⟨_, _, _, _, hex.2.2.1, am_ok_mem h1.1, fun adr => by rw [h1.2]; rfl⟩
  · cases h
theorem am_k_sr : (List.range am_nC).all (fun own => (am_srs.getD own []).all (fun e => (decide (am_cn own = "HouseKeepers$Rules") && decide (e.1 = 11)) || (decide (am_cn own = "HouseKeepers$Text") && decide (e.1 = 66)))) = true := by decide +kernel
theorem am_sr_ok {own idx base : Nat} {ea : Nat → Nat} {s : State} (ho : own < am_nC) (hex : am_ex base ea s) (h : ((am_srs.getD own []).lookup idx).isSome = true) : vk_R (am_cn own) idx "tnpbdlhkyz" (ea 2) s := by
  obtain ⟨q, hq⟩ := Option.isSome_iff_exists.mp h
  have h1 := am_all2 am_k_sr ho (am_lk hq)
  simp only [Bool.and_eq_true, Bool.or_eq_true, decide_eq_true_eq] at h1
  rcases h1 with h1 | h1
  · rw [h1.1, h1.2]; exact hex.2.2.2.2.1
  · rw [h1.1, h1.2]; exact hex.2.2.2.2.2.1
theorem sm_bald {p : Program} {l : Launch} {e : Env} {Rm : Room} {s : State} {m : MethodId} {args : Array Value} {below : List Frame} {meth : Method} {c : Code} {Q : State → Prop} {D : va_G} {A : Nat → Prop} {ea : Nat → Nat} {nL : Nat} {adr0 : List Nat} {call : am_Fn} {R : am_R} {pc : Nat} {ls : am_L} {st : List Value} {mem : am_M} {H : Heap} {locs : List Loc} {cells slots : Nat} {jl : Array Slot} {js : List Value} {adr : List Nat} {ws : va_W} {k : Nat} {X : am_X} {base : Nat} {cc : ByteArray} (F : am_Fx p s m args meth c Rm k X base ea A D) (hb : c.code = cc) (hd : decode cc pc = .ok (.baload, 1)) (h : am_do call (am_bald (pc + 1) ls st mem) (am_Sim p l e Rm s m args below meth c Q D A ea nL adr0) R) (hJ : am_J s D A ea nL Rm adr0 ls st mem H locs cells slots jl js adr ws)  : W p l e Rm s m args below meth c H locs cells slots Q (F0 m pc jl js) := by
  obtain ⟨h0, h1, h2, h3, h4, h5, h6, h7, h8⟩ := hJ
  obtain ⟨hx, -, hown, hts, hK, hA, hG, hbs, hex, hsx, hin2, -, hoC, -⟩ := F
  unfold am_bald at h
  split at h
  · rename_i i a st2
    obtain ⟨w1, l1, e1, e2, w2, l2, e3, ⟨ad, e4, e6⟩, e5⟩ := h6
    have e2 : w1 = .int i := e2
    subst e2; subst e6; subst e3; subst e1
    split at h
    · rename_i n f hm
      split at h
      · rename_i hi
        obtain ⟨a', e', q1, q2, cA, q3, q4, q5⟩ := h1.2.2 a _ hm
        rw [e4] at q1
        cases q1
        subst q3
        exact va_bald hx hb (am_K1 hK q4 q5) h2 a 0 q2 rfl (am_in_vp hi) hd (h _ _ _ _ _ _ _ _ ⟨h0, h1, h2, h3, h4, h5, ⟨_, _, rfl, rfl, e5⟩, h7, h8⟩)
      · exact h.elim
    · rename_i n f hm
      split at h
      · rename_i hi
        obtain ⟨a', e', q1, q2, cA, q3, q4, q5⟩ := h1.2.2 a _ hm
        rw [e4] at q1
        cases q1
        subst q3
        exact va_zald hx hb (am_K1 hK q4 q5) h2 a 0 q2 rfl (am_in_vp hi) hd (h _ _ _ _ _ _ _ _ ⟨h0, h1, h2, h3, h4, h5, ⟨_, _, rfl, rfl, e5⟩, h7, h8⟩)
      · exact h.elim
    · exact h.elim
  · rename_i i u st2
    obtain ⟨w1, l1, e1, e2, w2, l2, e3, e4, e5⟩ := h6
    have e2 : w1 = .int i := e2
    have e4 : w2 = .ref (ea u.toNat) := e4
    subst e2; subst e4; subst e3; subst e1
    split at h
    · rename_i hu
      subst hu
      split at h
      · rename_i hi
        exact va_tb hx hb (va_T.narrow (hex.2.2.2.1.1 0 Nat.zero_lt_one).2.2.2 hG) h4 (am_in_vp hi) rfl hd (h _ _ _ _ _ _ _ _ ⟨h0, h1, h2, h3, h4, h5, ⟨_, _, rfl, rfl, e5⟩, h7, h8⟩)
      · exact h.elim
    · exact h.elim
  · exact h.elim
theorem sm_lald {p : Program} {l : Launch} {e : Env} {Rm : Room} {s : State} {m : MethodId} {args : Array Value} {below : List Frame} {meth : Method} {c : Code} {Q : State → Prop} {D : va_G} {A : Nat → Prop} {ea : Nat → Nat} {nL : Nat} {adr0 : List Nat} {call : am_Fn} {R : am_R} {pc : Nat} {ls : am_L} {st : List Value} {mem : am_M} {H : Heap} {locs : List Loc} {cells slots : Nat} {jl : Array Slot} {js : List Value} {adr : List Nat} {ws : va_W} {k : Nat} {X : am_X} {base : Nat} {cc : ByteArray} (F : am_Fx p s m args meth c Rm k X base ea A D) (hb : c.code = cc) (hd : decode cc pc = .ok (.laload, 1)) (h : am_do call (am_lald (pc + 1) ls st mem) (am_Sim p l e Rm s m args below meth c Q D A ea nL adr0) R) (hJ : am_J s D A ea nL Rm adr0 ls st mem H locs cells slots jl js adr ws)  : W p l e Rm s m args below meth c H locs cells slots Q (F0 m pc jl js) := by
  obtain ⟨h0, h1, h2, h3, h4, h5, h6, h7, h8⟩ := hJ
  obtain ⟨hx, -, hown, hts, hK, hA, hG, hbs, hex, hsx, hin2, -, hoC, -⟩ := F
  unfold am_lald at h
  split at h
  · rename_i i a st2
    obtain ⟨w1, l1, e1, e2, w2, l2, e3, ⟨ad, e4, e6⟩, e5⟩ := h6
    have e2 : w1 = .int i := e2
    subst e2; subst e6; subst e3; subst e1
    split at h
    · rename_i n f hm
      split at h
      · rename_i hi
        obtain ⟨a', e', q1, q2, cA, q3, q4, q5⟩ := h1.2.2 a _ hm
        rw [e4] at q1
        cases q1
        subst q3
        exact va_lald hx hb (am_K1 hK q4 q5) h2 a 0 q2 rfl (am_in_vp hi) hd (h _ _ _ _ _ _ _ _ ⟨h0, h1, h2, h3, h4, h5, ⟨_, _, rfl, rfl, e5⟩, h7, h8⟩)
      · exact h.elim
    · exact h.elim
  · rename_i i u st2
    obtain ⟨w1, l1, e1, e2, w2, l2, e3, e4, e5⟩ := h6
    have e2 : w1 = .int i := e2
    have e4 : w2 = .ref (ea u.toNat) := e4
    subst e2; subst e4; subst e3; subst e1
    split at h
    · rename_i hu
      subst hu
      split at h
      · rename_i hi
        exact va_tl hx hb (va_T.narrow hex.2.1 hG) h4 (am_in_vp hi) rfl hd (h _ _ _ _ _ _ _ _ ⟨h0, h1, h2, h3, h4, h5, ⟨_, _, rfl, rfl, e5⟩, h7, h8⟩)
      · exact h.elim
    · exact h.elim
  · exact h.elim
theorem sm_aald {p : Program} {l : Launch} {e : Env} {Rm : Room} {s : State} {m : MethodId} {args : Array Value} {below : List Frame} {meth : Method} {c : Code} {Q : State → Prop} {D : va_G} {A : Nat → Prop} {ea : Nat → Nat} {nL : Nat} {adr0 : List Nat} {call : am_Fn} {R : am_R} {pc : Nat} {ls : am_L} {st : List Value} {mem : am_M} {H : Heap} {locs : List Loc} {cells slots : Nat} {jl : Array Slot} {js : List Value} {adr : List Nat} {ws : va_W} {k : Nat} {X : am_X} {base : Nat} {cc : ByteArray} (F : am_Fx p s m args meth c Rm k X base ea A D) (hb : c.code = cc) (hd : decode cc pc = .ok (.aaload, 1)) (h : am_do call (am_aald (pc + 1) ls st mem) (am_Sim p l e Rm s m args below meth c Q D A ea nL adr0) R) (hJ : am_J s D A ea nL Rm adr0 ls st mem H locs cells slots jl js adr ws)  : W p l e Rm s m args below meth c H locs cells slots Q (F0 m pc jl js) := by
  obtain ⟨h0, h1, h2, h3, h4, h5, h6, h7, h8⟩ := hJ
  obtain ⟨hx, -, hown, hts, hK, hA, hG, hbs, hex, hsx, hin2, -, hoC, -⟩ := F
  unfold am_aald at h
  split at h
  · rename_i i a st2
    obtain ⟨w1, l1, e1, e2, w2, l2, e3, ⟨ad, e4, e6⟩, e5⟩ := h6
    have e2 : w1 = .int i := e2
    subst e2; subst e6; subst e3; subst e1
    split at h
    · rename_i n f hm
      split at h
      · rename_i hi
        split at h
        · rename_i b hfb
          obtain ⟨a', e', q1, q2, cA, g, q3, q4, q5⟩ := h1.2.2 a _ hm
          rw [e4] at q1
          cases q1
          subst q3
          have hv := am_in_vp hi
          have hlt : i.toNatClampNeg < n := Nat.not_le.mp fun q => hv (Or.inr q)
          obtain ⟨z, z1, z2⟩ := q5 _ _ hlt hfb
          refine W.aald (v := .ref z) (ty := .array .int) hx hb (h2 a _ q2) (q4 n (fun j => va_rf (g j))) rfl (fun q => by cases q) (by show ¬ (i < 0 ∨ (arrV _ _ _).slots.size ≤ _); rw [arrV_size]; exact hv) (by show (arrV _ _ _).slots[_]? = _; rw [arrV_read _ _ hlt, z2]; rfl) rfl rfl hd ?_
          exact h _ _ _ _ _ _ _ _ ⟨h0, h1, h2, h3, h4, h5, ⟨_, _, rfl, ⟨z, z1, rfl⟩, e5⟩, h7, h8⟩
        · exact h.elim
      · exact h.elim
    · exact h.elim
  · exact h.elim
theorem sm_iast {p : Program} {l : Launch} {e : Env} {Rm : Room} {s : State} {m : MethodId} {args : Array Value} {below : List Frame} {meth : Method} {c : Code} {Q : State → Prop} {D : va_G} {A : Nat → Prop} {ea : Nat → Nat} {nL : Nat} {adr0 : List Nat} {call : am_Fn} {R : am_R} {pc : Nat} {ls : am_L} {st : List Value} {mem : am_M} {H : Heap} {locs : List Loc} {cells slots : Nat} {jl : Array Slot} {js : List Value} {adr : List Nat} {ws : va_W} {k : Nat} {X : am_X} {base : Nat} {cc : ByteArray} (F : am_Fx p s m args meth c Rm k X base ea A D) (hb : c.code = cc) (hd : decode cc pc = .ok (.iastore, 1)) (h : am_do call (am_iast (pc + 1) ls st mem) (am_Sim p l e Rm s m args below meth c Q D A ea nL adr0) R) (hJ : am_J s D A ea nL Rm adr0 ls st mem H locs cells slots jl js adr ws)  : W p l e Rm s m args below meth c H locs cells slots Q (F0 m pc jl js) := by
  obtain ⟨h0, h1, h2, h3, h4, h5, h6, h7, h8⟩ := hJ
  obtain ⟨hx, -, hown, hts, hK, hA, hG, hbs, hex, hsx, hin2, -, hoC, -⟩ := F
  unfold am_iast at h
  split at h
  · rename_i x i a st2
    obtain ⟨w0, l0, f1, f2, w1, l1, e1, e2, w2, l2, e3, ⟨ad, e4, e6⟩, e5⟩ := h6
    have f2 : w0 = .int x := f2
    have e2 : w1 = .int i := e2
    subst f2; subst e2; subst e6; subst e3; subst e1; subst f1
    split at h
    · rename_i n f hm
      split at h
      · rename_i hi
        obtain ⟨a', e', q1, q2, cA, q3, q4, q5⟩ := h1.2.2 a _ hm
        rw [e4] at q1
        cases q1
        subst q3
        refine va_iast hx hb (am_K1 hK q4 q5) h2 h3 h4 a 0 q2 rfl (am_in_vp hi) hd (fun H1 locs1 p2 p3 p4 => ?_)
        exact h _ _ _ _ _ _ _ _ ⟨h0, h1.set q2 ⟨cA, rfl, q4, q5⟩, p2, p3, p4, h5, e5, h7, h8⟩
      · exact h.elim
    · exact h.elim
  · exact h.elim
theorem sm_bast {p : Program} {l : Launch} {e : Env} {Rm : Room} {s : State} {m : MethodId} {args : Array Value} {below : List Frame} {meth : Method} {c : Code} {Q : State → Prop} {D : va_G} {A : Nat → Prop} {ea : Nat → Nat} {nL : Nat} {adr0 : List Nat} {call : am_Fn} {R : am_R} {pc : Nat} {ls : am_L} {st : List Value} {mem : am_M} {H : Heap} {locs : List Loc} {cells slots : Nat} {jl : Array Slot} {js : List Value} {adr : List Nat} {ws : va_W} {k : Nat} {X : am_X} {base : Nat} {cc : ByteArray} (F : am_Fx p s m args meth c Rm k X base ea A D) (hb : c.code = cc) (hd : decode cc pc = .ok (.bastore, 1)) (h : am_do call (am_bast (pc + 1) ls st mem) (am_Sim p l e Rm s m args below meth c Q D A ea nL adr0) R) (hJ : am_J s D A ea nL Rm adr0 ls st mem H locs cells slots jl js adr ws)  : W p l e Rm s m args below meth c H locs cells slots Q (F0 m pc jl js) := by
  obtain ⟨h0, h1, h2, h3, h4, h5, h6, h7, h8⟩ := hJ
  obtain ⟨hx, -, hown, hts, hK, hA, hG, hbs, hex, hsx, hin2, -, hoC, -⟩ := F
  unfold am_bast at h
  split at h
  · rename_i x i a st2
    obtain ⟨w0, l0, f1, f2, w1, l1, e1, e2, w2, l2, e3, ⟨ad, e4, e6⟩, e5⟩ := h6
    have f2 : w0 = .int x := f2
    have e2 : w1 = .int i := e2
    subst f2; subst e2; subst e6; subst e3; subst e1; subst f1
    split at h
    · rename_i n f hm
      split at h
      · rename_i hi
        obtain ⟨a', e', q1, q2, cA, q3, q4, q5⟩ := h1.2.2 a _ hm
        rw [e4] at q1
        cases q1
        subst q3
        refine va_bast hx hb (am_K1 hK q4 q5) h2 h3 h4 a 0 q2 rfl (am_in_vp hi) hd (fun H1 locs1 p2 p3 p4 => ?_)
        exact h _ _ _ _ _ _ _ _ ⟨h0, h1.set q2 ⟨cA, rfl, q4, q5⟩, p2, p3, p4, h5, e5, h7, h8⟩
      · exact h.elim
    · rename_i n f hm
      split at h
      · rename_i hi
        obtain ⟨a', e', q1, q2, cA, q3, q4, q5⟩ := h1.2.2 a _ hm
        rw [e4] at q1
        cases q1
        subst q3
        refine va_zast hx hb (am_K1 hK q4 q5) h2 h3 h4 a 0 q2 rfl (am_in_vp hi) hd (fun H1 locs1 p2 p3 p4 => ?_)
        exact h _ _ _ _ _ _ _ _ ⟨h0, h1.set q2 ⟨cA, rfl, q4, q5⟩, p2, p3, p4, h5, e5, h7, h8⟩
      · exact h.elim
    · exact h.elim
  · exact h.elim
theorem sm_last {p : Program} {l : Launch} {e : Env} {Rm : Room} {s : State} {m : MethodId} {args : Array Value} {below : List Frame} {meth : Method} {c : Code} {Q : State → Prop} {D : va_G} {A : Nat → Prop} {ea : Nat → Nat} {nL : Nat} {adr0 : List Nat} {call : am_Fn} {R : am_R} {pc : Nat} {ls : am_L} {st : List Value} {mem : am_M} {H : Heap} {locs : List Loc} {cells slots : Nat} {jl : Array Slot} {js : List Value} {adr : List Nat} {ws : va_W} {k : Nat} {X : am_X} {base : Nat} {cc : ByteArray} (F : am_Fx p s m args meth c Rm k X base ea A D) (hb : c.code = cc) (hd : decode cc pc = .ok (.lastore, 1)) (h : am_do call (am_last (pc + 1) ls st mem) (am_Sim p l e Rm s m args below meth c Q D A ea nL adr0) R) (hJ : am_J s D A ea nL Rm adr0 ls st mem H locs cells slots jl js adr ws)  : W p l e Rm s m args below meth c H locs cells slots Q (F0 m pc jl js) := by
  obtain ⟨h0, h1, h2, h3, h4, h5, h6, h7, h8⟩ := hJ
  obtain ⟨hx, -, hown, hts, hK, hA, hG, hbs, hex, hsx, hin2, -, hoC, -⟩ := F
  unfold am_last at h
  split at h
  · rename_i x i a st2
    obtain ⟨w0, l0, f1, f2, w1, l1, e1, e2, w2, l2, e3, ⟨ad, e4, e6⟩, e5⟩ := h6
    have f2 : w0 = .long x := f2
    have e2 : w1 = .int i := e2
    subst f2; subst e2; subst e6; subst e3; subst e1; subst f1
    split at h
    · rename_i n f hm
      split at h
      · rename_i hi
        obtain ⟨a', e', q1, q2, cA, q3, q4, q5⟩ := h1.2.2 a _ hm
        rw [e4] at q1
        cases q1
        subst q3
        refine va_last hx hb (am_K1 hK q4 q5) h2 h3 h4 a 0 q2 rfl (am_in_vp hi) hd (fun H1 locs1 p2 p3 p4 => ?_)
        exact h _ _ _ _ _ _ _ _ ⟨h0, h1.set q2 ⟨cA, rfl, q4, q5⟩, p2, p3, p4, h5, e5, h7, h8⟩
      · exact h.elim
    · exact h.elim
  · exact h.elim
theorem sm_alen {p : Program} {l : Launch} {e : Env} {Rm : Room} {s : State} {m : MethodId} {args : Array Value} {below : List Frame} {meth : Method} {c : Code} {Q : State → Prop} {D : va_G} {A : Nat → Prop} {ea : Nat → Nat} {nL : Nat} {adr0 : List Nat} {call : am_Fn} {R : am_R} {pc : Nat} {ls : am_L} {st : List Value} {mem : am_M} {H : Heap} {locs : List Loc} {cells slots : Nat} {jl : Array Slot} {js : List Value} {adr : List Nat} {ws : va_W} {k : Nat} {X : am_X} {base : Nat} {cc : ByteArray} (F : am_Fx p s m args meth c Rm k X base ea A D) (hb : c.code = cc) (hd : decode cc pc = .ok (.arraylength, 1)) (h : am_do call (am_alen X (pc + 1) ls st mem) (am_Sim p l e Rm s m args below meth c Q D A ea nL adr0) R) (hJ : am_J s D A ea nL Rm adr0 ls st mem H locs cells slots jl js adr ws)  : W p l e Rm s m args below meth c H locs cells slots Q (F0 m pc jl js) := by
  obtain ⟨h0, h1, h2, h3, h4, h5, h6, h7, h8⟩ := hJ
  obtain ⟨hx, -, hown, hts, hK, hA, hG, hbs, hex, hsx, hin2, -, hoC, -⟩ := F
  unfold am_alen at h
  split at h
  · rename_i a st2
    obtain ⟨w2, l2, e3, ⟨ad, e4, e6⟩, e5⟩ := h6
    subst e6; subst e3
    split at h
    · rename_i kd n f hm
      obtain ⟨a', e', q1, q2, cA, q3, q4, q5⟩ := h1.2.2 a _ hm
      rw [e4] at q1
      cases q1
      subst q3
      exact va_alen hx hb (am_K1 hK q4 q5) h2 a 0 q2 rfl rfl hd (h _ _ _ _ _ _ _ _ ⟨h0, h1, h2, h3, h4, h5, ⟨_, _, rfl, rfl, e5⟩, h7, h8⟩)
    · rename_i n f hm
      obtain ⟨a', e', q1, q2, cA, q3, q4, q5⟩ := h1.2.2 a _ hm
      rw [e4] at q1
      cases q1
      subst q3
      exact va_alen hx hb (am_K1 hK q4 q5) h2 a 0 q2 rfl rfl hd (h _ _ _ _ _ _ _ _ ⟨h0, h1, h2, h3, h4, h5, ⟨_, _, rfl, rfl, e5⟩, h7, h8⟩)
    · rename_i n f hm
      obtain ⟨a', e', q1, q2, cA, g, q3, q4, q5⟩ := h1.2.2 a _ hm
      rw [e4] at q1
      cases q1
      subst q3
      refine W.alen (n := Int32.ofNat n) hx hb (h2 a _ q2) (q4 n (fun j => va_rf (g j))) (by show (arrV _ _ _).slots.size.toInt32 = _; rw [arrV_size]) rfl rfl hd ?_
      exact h _ _ _ _ _ _ _ _ ⟨h0, h1, h2, h3, h4, h5, ⟨_, _, rfl, rfl, e5⟩, h7, h8⟩
    · exact h.elim
  · rename_i u st2
    obtain ⟨w2, l2, e3, e4, e5⟩ := h6
    have e4 : w2 = .ref (ea u.toNat) := e4
    subst e4; subst e3
    split at h
    · rename_i hu
      subst hu
      exact va_tlen hx hb (va_T.narrow (hex.2.2.2.1.1 0 Nat.zero_lt_one).2.2.2 hG) h4 rfl hd (h _ _ _ _ _ _ _ _ ⟨h0, h1, h2, h3, h4, h5, ⟨_, _, rfl, rfl, e5⟩, h7, h8⟩)
    · split at h
      · rename_i x
        split at h
        · rename_i hu
          subst hu
          obtain ⟨g1, g2, g3⟩ := hsx x rfl
          exact va_slen hx hb g1 g2 (fun q => absurd (hG _ q) (by show ¬ base ≤ ea 0; omega)) h4 hd (h _ _ _ _ _ _ _ _ ⟨h0, h1, h2, h3, h4, h5, ⟨_, _, rfl, rfl, e5⟩, h7, h8⟩)
        · exact h.elim
      · exact h.elim
  · exact h.elim
theorem sm_getf {p : Program} {l : Launch} {e : Env} {Rm : Room} {s : State} {m : MethodId} {args : Array Value} {below : List Frame} {meth : Method} {c : Code} {Q : State → Prop} {D : va_G} {A : Nat → Prop} {ea : Nat → Nat} {nL : Nat} {adr0 : List Nat} {call : am_Fn} {R : am_R} {pc : Nat} {ls : am_L} {st : List Value} {mem : am_M} {H : Heap} {locs : List Loc} {cells slots : Nat} {jl : Array Slot} {js : List Value} {adr : List Nat} {ws : va_W} {k : Nat} {X : am_X} {base : Nat} {cc : ByteArray} {idx : Nat} (F : am_Fx p s m args meth c Rm k X base ea A D) (hb : c.code = cc) (hd : decode cc pc = .ok (.getfield idx, 3)) (h : am_do call (am_getf (am_own k) idx (pc + 3) ls st mem) (am_Sim p l e Rm s m args below meth c Q D A ea nL adr0) R) (hJ : am_J s D A ea nL Rm adr0 ls st mem H locs cells slots jl js adr ws)  : W p l e Rm s m args below meth c H locs cells slots Q (F0 m pc jl js) := by
  obtain ⟨h0, h1, h2, h3, h4, h5, h6, h7, h8⟩ := hJ
  obtain ⟨hx, -, hown, hts, hK, hA, hG, hbs, hex, hsx, hin2, -, hoC, -⟩ := F
  unfold am_getf at h
  split at h
  · rename_i a st2
    obtain ⟨w2, l2, e3, ⟨ad, e4, e6⟩, e5⟩ := h6
    subst e6; subst e3
    split at h
    · rename_i ci j hf
      obtain ⟨z1, z2, z3⟩ := am_fld_ok hoC hf
      split at h
      · rename_i ci' fs hm
        split at h
        · rename_i hci
          subst hci
          split at h
          · rename_i v hv
            obtain ⟨a', e', q1, q2, q3, gs, q4, q5, q6⟩ := h1.2.2 a _ hm
            rw [e4] at q1
            cases q1
            subst q4
            obtain ⟨w, r1, r2⟩ := q6.get hv
            exact va_get (C := am_cn ci') (T := am_F ci') (N := am_N ci') hx hb hts (am_uws z1) hown hK h2 a q2 (am_cls_at z1) j z2 (hts _ z3) (fun _ h9 => h9) r1 hd (h _ _ _ _ _ _ _ _ ⟨h0, h1, h2, h3, h4, h5, ⟨_, _, rfl, r2, e5⟩, h7, h8⟩)
          · exact h.elim
        · exact h.elim
      · exact h.elim
    · exact h.elim
  · rename_i u st2
    obtain ⟨w2, l2, e3, e4, e5⟩ := h6
    have e4 : w2 = .ref (ea u.toNat) := e4
    subst e4; subst e3
    split at h
    · rename_i hu
      subst hu
      split at h
      · rename_i v hv
        obtain ⟨n, d, w, g1, g2, g3⟩ := am_xf_ok hoC hex hv
        exact vk_getf hx hb (va_OF.narrow g1 hG) h4 hown (hts _ g2) (fun _ h9 => h9) hd (h _ _ _ _ _ _ _ _ ⟨h0, h1, h2, h3, h4, h5, ⟨_, _, rfl, g3 adr, e5⟩, h7, h8⟩)
      · exact h.elim
    · exact h.elim
  · exact h.elim
theorem sm_putf {p : Program} {l : Launch} {e : Env} {Rm : Room} {s : State} {m : MethodId} {args : Array Value} {below : List Frame} {meth : Method} {c : Code} {Q : State → Prop} {D : va_G} {A : Nat → Prop} {ea : Nat → Nat} {nL : Nat} {adr0 : List Nat} {call : am_Fn} {R : am_R} {pc : Nat} {ls : am_L} {st : List Value} {mem : am_M} {H : Heap} {locs : List Loc} {cells slots : Nat} {jl : Array Slot} {js : List Value} {adr : List Nat} {ws : va_W} {k : Nat} {X : am_X} {base : Nat} {cc : ByteArray} {idx : Nat} (F : am_Fx p s m args meth c Rm k X base ea A D) (hb : c.code = cc) (hd : decode cc pc = .ok (.putfield idx, 3)) (h : am_do call (am_putf k (am_own k) idx (pc + 3) ls st mem) (am_Sim p l e Rm s m args below meth c Q D A ea nL adr0) R) (hJ : am_J s D A ea nL Rm adr0 ls st mem H locs cells slots jl js adr ws)  : W p l e Rm s m args below meth c H locs cells slots Q (F0 m pc jl js) := by
  obtain ⟨h0, h1, h2, h3, h4, h5, h6, h7, h8⟩ := hJ
  obtain ⟨hx, -, hown, hts, hK, hA, hG, hbs, hex, hsx, hin2, -, hoC, -⟩ := F
  unfold am_putf at h
  split at h
  · rename_i v a st2
    obtain ⟨w1, l1, e1, e2, w2, l2, e3, ⟨ad, e4, e6⟩, e5⟩ := h6
    subst e6; subst e3; subst e1
    split at h
    · rename_i ci j hf
      obtain ⟨z1, z2, z3⟩ := am_fld_ok hoC hf
      split at h
      · rename_i ci' fs hm
        split at h
        · rename_i hcond
          simp only [Bool.and_eq_true, decide_eq_true_eq, Bool.or_eq_true, Bool.not_eq_true'] at hcond
          obtain ⟨⟨⟨hci, hjl⟩, hfit⟩, hfin⟩ := hcond
          subst hci
          obtain ⟨a', e', q1, q2, q3, gs, q4, q5, q6⟩ := h1.2.2 a _ hm
          rw [e4] at q1
          cases q1
          subst q4
          obtain ⟨y1, y2, y3⟩ := am_cok_of z1
          obtain ⟨n1, n2⟩ := am_fit_ok hfit e2
          have hty : ∀ k, k < am_N ci' → parseFieldDescriptor (am_F ci' k).2.2.1 = some (am_T ci' k) := fun k hk => (y3 k hk).2.1
          have hlen : j < gs.length := by rw [q6.len]; exact hjl
          have hK2 : ∀ (H1 : Heap) (locs1 : List Loc), va_P D classes (ws.set a (ad, .inr (ci', gs.set j w1))) H1 → va_D A (ws.set a (ad, .inr (ci', gs.set j w1))) → va_S A s.heap H1 locs1 → W p l e Rm s m args below meth c H1 locs1 cells slots Q (F0 m (pc + 3) jl l2) := fun H1 locs1 p2 p3 p4 =>
            h _ _ _ _ _ _ _ _ ⟨h0, h1.set q2 ⟨q3, _, rfl, by rw [List.length_set]; exact q5, q6.set e2⟩, p2, p3, p4, h5, e5, h7, h8⟩
          rcases hfin with hfin | hfin
          · exact va_put (C := am_cn ci') (T := am_F ci') (N := am_N ci') hx hb hts (am_uws z1) (am_T ci') hty (am_k_d ci' z1) hown hK h2 h3 h4 a q2 (am_cls_at z1) j z2 (hts _ z3) (fun _ h9 => h9) hfin (hty j z2) n1 n2 hlen hd hK2
          · by_cases hff : (am_F ci' j).2.2.2 = true
            · exact va_putF (C := am_cn ci') (T := am_F ci') (N := am_N ci') hx hb hts (am_uws z1) (am_T ci') hty (am_k_d ci' z1) hown hK h2 h3 h4 a q2 (am_cls_at z1) j z2 (hts _ z3) (fun _ h9 => h9) hff (hin2 hfin.1) ((y3 j z2).2.2.trans (by rw [hfin.2])) (hty j z2) n1 n2 hlen hd hK2
            · exact va_put (C := am_cn ci') (T := am_F ci') (N := am_N ci') hx hb hts (am_uws z1) (am_T ci') hty (am_k_d ci' z1) hown hK h2 h3 h4 a q2 (am_cls_at z1) j z2 (hts _ z3) (fun _ h9 => h9) (by simpa using hff) (hty j z2) n1 n2 hlen hd hK2
        · exact h.elim
      · exact h.elim
    · exact h.elim
  · exact h.elim
end
section
theorem am_ao {ty : FieldType} {A : Array Value} {s : State} (h : (Cond.arrayOver ty).before #[] s = true) : (Cond.arrayOver ty).before A s = true := h
theorem am_k_df : ∀ ci, ci < am_nO → ∀ j, j < am_N ci → defaultValue (am_T ci j) = vp_V (am_df ci) j := by decide +kernel
theorem am_vs_df (adr : List Nat) (ea : Nat → Nat) : ∀ l : List FieldType, am_vs adr ea (l.map (fun t => match t with
    | .int => Value.int 0
    | _ => .null)) (l.map (fun t => match t with
    | .int => Value.int 0
    | _ => .null))
  | [] => rfl
  | t :: l => ⟨_, _, rfl, by cases t <;> rfl, am_vs_df adr ea l⟩
theorem am_df_len (ci : Nat) : (am_df ci).length = am_N ci := by
  unfold am_df am_N
  rw [List.length_map]
theorem am_D_add {A : Nat → Prop} {ws es : va_W} {h : Nat} (hD : va_D A ws) (h1 : ∀ (k : Nat) (q : Nat × va_E), ws[k]? = some q → q.1 < h) (h2 : ∀ (k : Nat) (q : Nat × va_E), es[k]? = some q → q.1 = h + k) (hA : ∀ q : Nat, h ≤ q → A q) : va_D A (ws ++ es) := by
  refine va_D.app hD ⟨fun i j x y hi hj hxy => ?_, fun k q hk => hA _ (by rw [h2 k q hk]; omega)⟩ (fun i j x y hi hj hxy => ?_)
  · have := h2 i x hi
    have := h2 j y hj
    omega
  · have := h1 i x hi
    have := h2 j y hj
    omega
theorem am_outer (c : ClassId) (N h0 : Nat) : ∀ i : Nat, Jvm.Free.Multi.outerC c N h0 i = arrV c N (fun j => va_rf (if j < i then some (h0 + 1 + j) else none))
  | 0 => by
    refine (arrV_new c N .null).trans ?_
    refine congrArg (arrV c N) (funext fun j => ?_)
    simp [va_rf]
  | i + 1 => by
    show (Jvm.Free.Multi.outerC c N h0 i).setSlot i (.ref (h0 + 1 + i)) = _
    rw [am_outer c N h0 i, arrV_store]
    refine congrArg (arrV c N) (funext fun j => ?_)
    unfold updV
    by_cases e : j = i
    · subst e
      rw [if_pos rfl, if_pos (Nat.lt_succ_self j)]
      rfl
    · rw [if_neg e]
      dsimp only
      by_cases h : j < i
      · rw [if_pos h, if_pos (Nat.lt_succ_of_lt h)]
      · rw [if_neg h, if_neg (by omega)]
theorem sm_new {p : Program} {l : Launch} {e : Env} {Rm : Room} {s : State} {m : MethodId} {args : Array Value} {below : List Frame} {meth : Method} {c : Code} {Q : State → Prop} {D : va_G} {A : Nat → Prop} {ea : Nat → Nat} {nL : Nat} {adr0 : List Nat} {call : am_Fn} {R : am_R} {pc : Nat} {ls : am_L} {st : List Value} {mem : am_M} {H : Heap} {locs : List Loc} {cells slots : Nat} {jl : Array Slot} {js : List Value} {adr : List Nat} {ws : va_W} {k : Nat} {X : am_X} {base : Nat} {cc : ByteArray} {idx : Nat} (F : am_Fx p s m args meth c Rm k X base ea A D) (hb : c.code = cc) (hd : decode cc pc = .ok (.new idx, 3)) (h : am_do call (am_new (am_own k) idx (pc + 3) ls st mem) (am_Sim p l e Rm s m args below meth c Q D A ea nL adr0) R) (hJ : am_J s D A ea nL Rm adr0 ls st mem H locs cells slots jl js adr ws)  : W p l e Rm s m args below meth c H locs cells slots Q (F0 m pc jl js) := by
  obtain ⟨h0, h1, h2, h3, h4, h5, h6, h7, h8⟩ := hJ
  obtain ⟨hx, -, hown, hts, hK, hA, hG, hbs, hex, hsx, hin2, -, hoC, -⟩ := F
  unfold am_new at h
  split at h
  · rename_i ci hf
    obtain ⟨z1, z2⟩ := am_nw_ok hoC hf
    split at h
    · rename_i hc
      simp only [Bool.and_eq_true, decide_eq_true_eq] at hc
      obtain ⟨y1, y2, y3⟩ := am_cok_of z1
      refine va_new (C := am_cn ci) (T := am_F ci) (N := am_N ci) (ci := ci) (fs := am_df ci) hx hb hts (am_uws z1) (am_T ci) (fun k hk => (y3 k hk).2.1) hown (hts _ z2) (hts _ y1) (hts _ y2) hK h2 h3 h4 hA (am_cls_at z1) (am_k_df ci z1) (by omega) (by omega) hd (fun q H1 p2 p3 p4 => ?_)
      have hpx : adr <+: adr ++ [q] := List.prefix_append _ _
      refine h _ _ _ _ _ _ (adr ++ [q]) _ ⟨h0.trans hpx, h1.add (as := [q]) (cs := [.inr (.inr (.inr (ci, am_df ci)))]) (es := [(q, .inr (ci, am_df ci))]) rfl rfl (fun j cj hj => ?_), p2, p3, p4, h5.px hpx, ⟨_, _, rfl, ⟨q, ?_, rfl⟩, h6.px hpx⟩, ?_, ?_⟩
      · cases j with
        | zero =>
          simp only [List.getElem?_cons_zero, Option.some.injEq] at hj
          subst hj
          exact ⟨q, _, rfl, rfl, z1, am_df ci, rfl, am_df_len ci, am_vs_df _ _ _⟩
        | succ j => simp at hj
      · rw [← h1.1]
        simp
      · show cells + 1 + (mem.2.1 - 1) ≤ Rm.cells
        omega
      · show slots + am_N ci + (mem.2.2 - am_N ci) ≤ Rm.slots
        omega
    · exact h.elim
  · exact h.elim
theorem sm_newa {p : Program} {l : Launch} {e : Env} {Rm : Room} {s : State} {m : MethodId} {args : Array Value} {below : List Frame} {meth : Method} {c : Code} {Q : State → Prop} {D : va_G} {A : Nat → Prop} {ea : Nat → Nat} {nL : Nat} {adr0 : List Nat} {call : am_Fn} {R : am_R} {pc : Nat} {ls : am_L} {st : List Value} {mem : am_M} {H : Heap} {locs : List Loc} {cells slots : Nat} {jl : Array Slot} {js : List Value} {adr : List Nat} {ws : va_W} {k : Nat} {X : am_X} {base : Nat} {cc : ByteArray} {t : ArrayType} (F : am_Fx p s m args meth c Rm k X base ea A D) (hb : c.code = cc) (hd : decode cc pc = .ok (.newarray t, 2)) (h : am_do call (am_newa t (pc + 2) ls st mem) (am_Sim p l e Rm s m args below meth c Q D A ea nL adr0) R) (hJ : am_J s D A ea nL Rm adr0 ls st mem H locs cells slots jl js adr ws)  : W p l e Rm s m args below meth c H locs cells slots Q (F0 m pc jl js) := by
  obtain ⟨h0, h1, h2, h3, h4, h5, h6, h7, h8⟩ := hJ
  obtain ⟨hx, -, hown, hts, hK, hA, hG, hbs, hex, hsx, hin2, -, hoC, -⟩ := F
  unfold am_newa at h
  split at h
  · rename_i n st2
    obtain ⟨w2, l2, e3, e4, e5⟩ := h6
    have e4 : w2 = .int n := e4
    subst e4; subst e3
    split at h
    rotate_left
    · exact h.elim
    rename_i hc
    simp only [Bool.and_eq_true, decide_eq_true_eq, Bool.not_eq_true', decide_eq_false_iff_not] at hc
    split at h
    · have hK1 : (Cond.arrayClass .int).before args s = true := hts _ (am_ok_mem (by have := am_k_ar; simp only [Bool.and_eq_true] at this; exact this.1.1.1))
      refine va_newa (atype := .int) (ty := .int) (a0 := (n.toNatClampNeg, .inl (fun _ => 0))) hx hb hK1 rfl hK h2 h3 h4 hA (fun _ => rfl) hc.1.1.1 rfl (Nat.le_trans (Nat.mul_le_mul_right _ hc.1.1.2) (by decide)) (by omega) (by omega) hd (fun q cA H1 p1 p2 p3 p4 => ?_)
      have hpx : adr <+: adr ++ [q] := List.prefix_append _ _
      have hAr := p1.2 0 (cA, .int) rfl
      refine h _ _ _ _ _ _ (adr ++ [q]) _ ⟨h0.trans hpx, h1.add (as := [q]) (cs := [.inl (0, n.toNatClampNeg, fun _ => 0)]) (es := [(q, .inl (cA, (n.toNatClampNeg, .inl (fun _ => 0))))]) rfl rfl (fun j cj hj => ?_), p2, p3, p4, h5.px hpx, ⟨_, _, rfl, ⟨q, ?_, rfl⟩, e5.px hpx⟩, ?_, ?_⟩
      · cases j with
        | zero =>
          simp only [List.getElem?_cons_zero, Option.some.injEq] at hj
          subst hj
          exact ⟨q, _, rfl, rfl, cA, rfl, hAr.1, hAr.2⟩
        | succ j => simp at hj
      · rw [← h1.1]
        simp
      · show cells + 1 + (mem.2.1 - 1) ≤ Rm.cells
        omega
      · show slots + n.toNatClampNeg + (mem.2.2 - n.toNatClampNeg) ≤ Rm.slots
        omega
    · have hK1 : (Cond.arrayClass .byte).before args s = true := hts _ (am_ok_mem (by have := am_k_ar; simp only [Bool.and_eq_true] at this; exact this.1.1.2))
      refine va_newa (atype := .byte) (ty := .byte) (a0 := (n.toNatClampNeg, .inl (fun _ => 0))) hx hb hK1 rfl hK h2 h3 h4 hA (fun _ => rfl) hc.1.1.1 rfl (Nat.le_trans (Nat.mul_le_mul_right _ hc.1.1.2) (by decide)) (by omega) (by omega) hd (fun q cA H1 p1 p2 p3 p4 => ?_)
      have hpx : adr <+: adr ++ [q] := List.prefix_append _ _
      have hAr := p1.2 0 (cA, .byte) rfl
      refine h _ _ _ _ _ _ (adr ++ [q]) _ ⟨h0.trans hpx, h1.add (as := [q]) (cs := [.inl (1, n.toNatClampNeg, fun _ => 0)]) (es := [(q, .inl (cA, (n.toNatClampNeg, .inl (fun _ => 0))))]) rfl rfl (fun j cj hj => ?_), p2, p3, p4, h5.px hpx, ⟨_, _, rfl, ⟨q, ?_, rfl⟩, e5.px hpx⟩, ?_, ?_⟩
      · cases j with
        | zero =>
          simp only [List.getElem?_cons_zero, Option.some.injEq] at hj
          subst hj
          exact ⟨q, _, rfl, rfl, cA, rfl, hAr.1, hAr.2⟩
        | succ j => simp at hj
      · rw [← h1.1]
        simp
      · show cells + 1 + (mem.2.1 - 1) ≤ Rm.cells
        omega
      · show slots + n.toNatClampNeg + (mem.2.2 - n.toNatClampNeg) ≤ Rm.slots
        omega
    · have hK1 : (Cond.arrayClass .boolean).before args s = true := hts _ (am_ok_mem (by have := am_k_ar; simp only [Bool.and_eq_true] at this; exact this.1.2))
      refine va_newa (atype := .boolean) (ty := .boolean) (a0 := (n.toNatClampNeg, .inl (fun _ => 0))) hx hb hK1 rfl hK h2 h3 h4 hA (fun _ => rfl) hc.1.1.1 rfl (Nat.le_trans (Nat.mul_le_mul_right _ hc.1.1.2) (by decide)) (by omega) (by omega) hd (fun q cA H1 p1 p2 p3 p4 => ?_)
      have hpx : adr <+: adr ++ [q] := List.prefix_append _ _
      have hAr := p1.2 0 (cA, .boolean) rfl
      refine h _ _ _ _ _ _ (adr ++ [q]) _ ⟨h0.trans hpx, h1.add (as := [q]) (cs := [.inl (2, n.toNatClampNeg, fun _ => 0)]) (es := [(q, .inl (cA, (n.toNatClampNeg, .inl (fun _ => 0))))]) rfl rfl (fun j cj hj => ?_), p2, p3, p4, h5.px hpx, ⟨_, _, rfl, ⟨q, ?_, rfl⟩, e5.px hpx⟩, ?_, ?_⟩
      · cases j with
        | zero =>
          simp only [List.getElem?_cons_zero, Option.some.injEq] at hj
          subst hj
          exact ⟨q, _, rfl, rfl, cA, rfl, hAr.1, hAr.2⟩
        | succ j => simp at hj
      · rw [← h1.1]
        simp
      · show cells + 1 + (mem.2.1 - 1) ≤ Rm.cells
        omega
      · show slots + n.toNatClampNeg + (mem.2.2 - n.toNatClampNeg) ≤ Rm.slots
        omega
    · have hK1 : (Cond.arrayClass .long).before args s = true := hts _ (am_ok_mem (by have := am_k_ar; simp only [Bool.and_eq_true] at this; exact this.2))
      refine va_newa (atype := .long) (ty := .long) (a0 := (n.toNatClampNeg, .inr (.inl (fun _ => 0)))) hx hb hK1 rfl hK h2 h3 h4 hA (fun _ => rfl) hc.1.1.1 rfl (Nat.le_trans (Nat.mul_le_mul_right _ hc.1.1.2) (by decide)) (by omega) (by omega) hd (fun q cA H1 p1 p2 p3 p4 => ?_)
      have hpx : adr <+: adr ++ [q] := List.prefix_append _ _
      have hAr := p1.2 0 (cA, .long) rfl
      refine h _ _ _ _ _ _ (adr ++ [q]) _ ⟨h0.trans hpx, h1.add (as := [q]) (cs := [.inr (.inl (n.toNatClampNeg, fun _ => 0))]) (es := [(q, .inl (cA, (n.toNatClampNeg, .inr (.inl (fun _ => 0)))))]) rfl rfl (fun j cj hj => ?_), p2, p3, p4, h5.px hpx, ⟨_, _, rfl, ⟨q, ?_, rfl⟩, e5.px hpx⟩, ?_, ?_⟩
      · cases j with
        | zero =>
          simp only [List.getElem?_cons_zero, Option.some.injEq] at hj
          subst hj
          exact ⟨q, _, rfl, rfl, cA, rfl, hAr.1, hAr.2⟩
        | succ j => simp at hj
      · rw [← h1.1]
        simp
      · show cells + 1 + (mem.2.1 - 1) ≤ Rm.cells
        omega
      · show slots + n.toNatClampNeg + (mem.2.2 - n.toNatClampNeg) ≤ Rm.slots
        omega
    · exact h.elim
  · exact h.elim
theorem sm_mna {p : Program} {l : Launch} {e : Env} {Rm : Room} {s : State} {m : MethodId} {args : Array Value} {below : List Frame} {meth : Method} {c : Code} {Q : State → Prop} {D : va_G} {A : Nat → Prop} {ea : Nat → Nat} {nL : Nat} {adr0 : List Nat} {call : am_Fn} {R : am_R} {pc : Nat} {ls : am_L} {st : List Value} {mem : am_M} {H : Heap} {locs : List Loc} {cells slots : Nat} {jl : Array Slot} {js : List Value} {adr : List Nat} {ws : va_W} {k : Nat} {X : am_X} {base : Nat} {cc : ByteArray} {idx : Nat} (F : am_Fx p s m args meth c Rm k X base ea A D) (hb : c.code = cc) (hd : decode cc pc = .ok (.multianewarray idx 2, 4)) (h : am_do call (am_mna (am_own k) idx (pc + 4) ls st mem) (am_Sim p l e Rm s m args below meth c Q D A ea nL adr0) R) (hJ : am_J s D A ea nL Rm adr0 ls st mem H locs cells slots jl js adr ws)  : W p l e Rm s m args below meth c H locs cells slots Q (F0 m pc jl js) := by
  obtain ⟨h0, h1, h2, h3, h4, h5, h6, h7, h8⟩ := hJ
  obtain ⟨hx, -, hown, hts, hK, hA, hG, hbs, hex, hsx, hin2, -, hoC, -⟩ := F
  unfold am_mna at h
  split at h
  · rename_i kk n st2
    obtain ⟨w1, l1, e1, e2, w2, l2, e3, e4, e5⟩ := h6
    have e2 : w1 = .int kk := e2
    have e4 : w2 = .int n := e4
    subst e2; subst e4; subst e3; subst e1
    split at h
    · rename_i hc
      simp only [Bool.and_eq_true, decide_eq_true_eq, Bool.not_eq_true', decide_eq_false_iff_not] at hc
      obtain ⟨⟨⟨⟨⟨⟨hc1, hc2⟩, hc3⟩, hc4⟩, hc5⟩, hc6⟩, hc7⟩ := hc
      obtain ⟨q9, hq9⟩ := Option.isSome_iff_exists.mp hc1
      have hcl : Cond.classLink (am_cn (am_own k)) idx "[[I" ∈ am_TB := am_ok_mem (am_all2 am_k_mn hoC (am_lk hq9))
      have hK1 : (Cond.arrayClass .int).before args s = true := hts _ (am_ok_mem (by have := am_k_ar; simp only [Bool.and_eq_true] at this; exact this.1.1.1))
      have hov : (Cond.arrayOver (.array .int)).before args s = true := am_ao hex.2.2.2.2.2.2.2
      generalize hN : n.toNatClampNeg = N at h hc4 hc6 hc7
      generalize hKK : kk.toNatClampNeg = K at h hc5 hc7
      intro T hT Xs
      obtain ⟨vm1, cA, comp, -, fA, fC, hO, hI, X', step⟩ := Xs.multianewarray2F hx hown (ty := .int) (hts _ hcl) hov hK1 (g := F0 m pc jl (.int kk :: .int n :: l2)) rfl (by rw [hb]; exact hd) rfl hc2 hc3 (by omega) (by rw [hKK]; exact Nat.le_trans (Nat.mul_le_mul_right _ hc5) (by decide)) (by omega) rfl rfl (by rw [hN]; omega) (by rw [hN, hKK]; omega)
      rw [hN, hKK] at X' step
      generalize hF : Jvm.Free.Multi.fill (T.setVm vm1) cA comp N K (defaultValue .int) N = FF at X' step
      have hTh : (T.setVm vm1).heap = H := hT
      obtain ⟨f1, f2, -, -⟩ := Jvm.Free.Multi.fill_facts (T.setVm vm1) cA comp N K (defaultValue .int) N
      rw [hF, hTh] at f1 f2
      have hold : ∀ x : Nat, x < H.size → FF.heap[x]? = H[x]? := fun x hx9 => by
        have := Jvm.Free.Multi.fill_old (T.setVm vm1) cA comp N K (defaultValue .int) (a := x) (by rw [hTh]; exact hx9) N
        rw [hF, hTh] at this
        exact this
      have hrow : ∀ j : Nat, j < N → FF.heap[H.size + 1 + j]? = some (vp_cell comp (K, .inl (fun _ => 0))) := fun j hj => by
        have := Jvm.Free.Multi.fill_inner (T.setVm vm1) cA comp N K (defaultValue .int) N j hj
        rw [hF, hTh] at this
        rw [this]
        exact congrArg some (arrV_new comp K (.int 0))
      rw [am_outer] at f2
      have aO : ArrOfT s cA (.array .int) := fun nn z => ⟨fun x => by simp [arrV], (hO 0 0 0).1.2⟩
      have aI : ArrOfT s comp .int := fun nn z => ⟨fun x => by simp [arrV], (hI 0 .null).1.2⟩
      have hpx : adr <+: adr ++ H.size :: (List.range N).map (fun j => H.size + 1 + j) := List.prefix_append _ _
      have hP0 : va_P D classes ws FF.heap := h2.kept (fun k9 x hx9 => hold x.1 ((h2 k9 x hx9).lt))
      have hes : ∀ (k9 : Nat) (x : Nat × va_E), (((H.size, .inl (cA, N, .inr (.inr (.inr (.inr (fun j => if j < N then some (H.size + 1 + j) else none)))))) :: (List.range N).map (fun j => (H.size + 1 + j, .inl (comp, K, .inl (fun _ => 0)))) : va_W))[k9]? = some x → x.1 = H.size + k9 ∧ va_at D classes x FF.heap := by
        intro k9 x hx9
        cases k9 with
        | zero =>
          simp only [List.getElem?_cons_zero, Option.some.injEq] at hx9
          subst hx9
          exact ⟨rfl, f2⟩
        | succ k9 =>
          simp only [List.getElem?_cons_succ, List.getElem?_map] at hx9
          by_cases hk9 : k9 < N
          · rw [List.getElem?_range hk9] at hx9
            simp only [Option.map_some, Option.some.injEq] at hx9
            subst hx9
            exact ⟨by show H.size + 1 + k9 = H.size + (k9 + 1); omega, hrow k9 hk9⟩
          · rw [List.getElem?_eq_none (by rw [List.length_range]; omega)] at hx9
            simp at hx9
      have hP1 := hP0.app (fun k9 x hx9 => (hes k9 x hx9).2)
      have hD1 := am_D_add h3 (fun k9 x hx9 => (h2 k9 x hx9).lt) (fun k9 x hx9 => (hes k9 x hx9).1) (fun q hq => hA q (Nat.le_trans h4.1 hq))
      have hS1 : va_S A s.heap FF.heap locs := ⟨by rw [f1]; have := h4.1; omega, fun q hq1 hq2 => by rw [hold q (Nat.lt_of_lt_of_le hq1 h4.1)]; exact h4.2.1 q hq1 hq2, h4.2.2⟩
      have KK := h FF.heap locs (cells + 1 + N) (slots + N + N * K) jl (.ref H.size :: l2) _ _ ⟨h0.trans hpx, h1.add (as := H.size :: (List.range N).map (fun j => H.size + 1 + j)) (cs := .inr (.inr (.inl (N, fun i => some (mem.1.length + 1 + i)))) :: List.replicate N (.inl (0, K, fun _ => 0))) (es := ((H.size, .inl (cA, N, .inr (.inr (.inr (.inr (fun j => if j < N then some (H.size + 1 + j) else none)))))) :: (List.range N).map (fun j => (H.size + 1 + j, .inl (comp, K, .inl (fun _ => 0)))))) (by simp) (by simp) (fun j cj hj => by
        cases j with
        | zero =>
          simp only [List.getElem?_cons_zero, Option.some.injEq] at hj
          subst hj
          refine ⟨H.size, _, rfl, rfl, cA, _, rfl, aO, fun j k9 hj hk9 => ?_⟩
          cases hk9
          refine ⟨H.size + 1 + j, ?_, by rw [if_pos hj]⟩
          rw [List.getElem?_append_right (by rw [h1.1]; omega), h1.1, show mem.1.length + 1 + j - mem.1.length = j + 1 by omega, List.getElem?_cons_succ, List.getElem?_map, List.getElem?_range hj]
          rfl
        | succ j =>
          simp only [List.getElem?_cons_succ, List.getElem?_replicate] at hj
          split at hj
          · rename_i hj2
            cases hj
            refine ⟨H.size + 1 + j, .inl (comp, K, .inl (fun _ => 0)), ?_, ?_, comp, rfl, aI, fC⟩
            · simp [hj2]
            · simp [hj2]
          · cases hj), hP1, hD1, hS1, h5.px hpx, ⟨_, _, rfl, ⟨H.size, by rw [← h1.1]; simp, rfl⟩, e5.px hpx⟩, by
          show cells + 1 + N + (mem.2.1 - (1 + N)) ≤ Rm.cells
          omega, by
          show slots + N + N * K + (mem.2.2 - (N + N * K)) ≤ Rm.slots
          omega⟩
      obtain ⟨t, a1, b1⟩ := KK FF rfl X'
      refine ⟨t, step t ?_, b1⟩
      rw [show T.heap.size = H.size by rw [hT]]
      exact a1
    · exact h.elim
  · exact h.elim
end
section
/-! what lies outside the cells stays, from call to call -/
theorem am_ao_moved {u U : State} (hvm : u.vm.Alike U.vm) (h : (Cond.arrayOver (.array .int)).before #[] u = true) : (Cond.arrayOver (.array .int)).before #[] U = true := by
  have h' := h
  unfold Cond.before Cond.holds at h'
  simp only [Cond.value, beq_iff_eq] at h'
  cases hc : u.vm.findClass (FieldType.array .int).toString with
  | none => simp [hc] at h'
  | some comp =>
    rw [hc, Option.bind_some] at h'
    obtain ⟨c, hi, h2⟩ := Option.bind_eq_some_iff.mp h'
    obtain ⟨k, hk, h3⟩ := Option.map_eq_some_iff.mp h2
    obtain ⟨k', hk', he⟩ := hvm.2.2 _ _ hk
    have hi2 : (U.vm.classes.findIdx? fun (x : Class) => match x.kind with | .array component _ => component == comp | _ => false) = some c := by
      have e1 := va_idx_bare U.vm comp
      have e2 := va_idx_bare u.vm comp
      have e3 : U.vm.bare = u.vm.bare := by first | exact hvm.bare_eq | exact hvm.bare_eq.symm
      rw [e3] at e1
      exact e1.symm.trans (e2.trans hi)
    have hkind : k'.kind = k.kind := by rw [he]
    unfold Cond.before Cond.holds
    simp only [Cond.value]
    rw [hvm.findClass, hc, Option.bind_some]
    refine (congrArg (fun o : Option Nat => (o.bind (fun c => (U.vm.classes[c]?).map fun (k : Class) => match k.kind with | .array _ ty => decide (ty = FieldType.array .int) && decide (U.vm.findClass ("[" ++ (FieldType.array .int).toString) = some c) | _ => false) == some true)) hi2).trans ?_
    simp only [Option.bind_some, hk', Option.map_some, hkind, hvm.findClass]
    exact (congrArg (fun b : Bool => (some b == some true)) h3).trans rfl
theorem am_ex.same {base : Nat} {ea : Nat → Nat} {s U : State} (hv : U.vm = s.vm) (hH : U.heap = s.heap) (h : am_ex base ea s) : am_ex base ea U := by
  have ha : s.vm.Alike U.vm := by rw [hv]; exact Vm.Alike.refl _
  obtain ⟨h1, h2, h3, h4, h5, h6, h7, h8⟩ := h
  refine ⟨?_, ?_, ?_, ?_, vk_R.same hv h5, vk_R.same hv h6, fun e he => va_Nw.same rfl hv.symm (h7 e he), am_ao_moved ha h8⟩
  · rw [hH]; exact va_Z.moved ha h1
  · rw [hH]; exact va_T.moved ha h2
  · rw [hH]; exact va_Z.moved ha h3
  · rw [hH]; exact vk_S.moved ha h4
theorem am_ex.warm {base : Nat} {ea : Nat → Nat} {s U : State} (hW : s.WarmedH U.vm) (hH : ∀ q : Nat, q < s.heap.size → ¬ base ≤ q → U.heap[q]? = s.heap[q]?) (h : am_ex base ea s) : am_ex base ea U := by
  have ha : s.vm.Alike U.vm := hW.alike
  obtain ⟨h1, h2, h3, h4, h5, h6, h7, h8⟩ := h
  exact ⟨va_Z.moved ha (h1.kept hH), va_T.moved ha (h2.kept hH), va_Z.moved ha (h3.kept hH), vk_S.moved ha (h4.kept hH), vk_R.warm hW h5, vk_R.warm hW h6, fun e he => va_Nw.warmM hW (h7 e he), am_ao_moved ha h8⟩
/-- which cells a callee may change -/
def am_A (adr : List Nat) (sz : Nat) : Nat → Prop := fun q => q ∈ adr ∨ sz ≤ q
/-- what a method finds -/
def am_In (base : Nat) (ea : Nat → Nat) (D : va_G) (adr : List Nat) (hp : List am_C) (U : State) : Prop :=
  base ≤ U.heap.size ∧ (∀ q ∈ adr, base ≤ q) ∧ (∃ ws, am_w U adr ea hp ws ∧ va_P D classes ws U.heap ∧ va_D (fun _ => True) ws) ∧ va_K D classes [] U ∧ am_ex base ea U
def am_ov (adr : List Nat) (ea : Nat → Nat) (v w : Option Value) : Prop := am_vs adr ea v.toList w.toList
/-- what it leaves -/
def am_Out (base : Nat) (ea : Nat → Nat) (D : va_G) (adr : List Nat) (sz : Nat) (R : am_R) : Array Value → State → Outcome → State → Prop := fun _ st oc t =>
  (∃ (v w : Option Value) (mem : am_M) (adr2 : List Nat) (ws : va_W), oc = .returned w ∧ R v mem ∧ adr <+: adr2 ∧ am_ov adr2 ea v w ∧ am_w t adr2 ea mem.1 ws ∧ va_P D classes ws t.heap ∧ va_D (am_A adr sz) ws) ∧ va_F (am_A adr sz) st t
def am_wsM (k : Nat) : List Cond := Cond.code (am_y k) (am_by k) (am_ml k) (am_rt k) :: am_TB
def am_rm (d k : Nat) : Room := { frames := d + 1, cells := am_bc k, slots := am_bs k, locals := 60 * (d + 1) }
/-- the method k, begun so, meets what the plain machine says of it -/
def am_MetS (l : Launch) (base : Nat) (ea : Nat → Nat) (D : va_G) (d k : Nat) (as : List Value) (mem : am_M) (R : am_R) : Prop :=
  ∀ (adr : List Nat) (jas : List Value) (sz : Nat), am_vs adr ea as jas → Met l (am_y k) (am_wsM k) (am_rm d k) (va_Pc jas (fun U => U.heap.size = sz ∧ am_In base ea D adr mem.1 U)) (am_Out base ea D adr sz R) (am_bc k) (am_bs k) (am_A adr sz)
theorem am_blind {base : Nat} {ea : Nat → Nat} {D : va_G} {adr : List Nat} {hp : List am_C} {jas : List Value} {sz : Nat} : FrameBlind (va_Pc jas (fun U => U.heap.size = sz ∧ am_In base ea D adr hp U)) := by
  intro a U g mk h
  obtain ⟨h0, h1, h2, h3, ⟨ws, h4, h5, h6⟩, h7, h8⟩ := h
  have ha : U.vm.Alike (U.calling g mk a).vm := Vm.Alike.refl U.vm
  exact ⟨h0, h1, h2, h3, ⟨ws, h4.moved ha, h5, h6⟩, va_K.moved ha h7, am_ex.same rfl rfl h8⟩
end
section
/-- what a call's plain answer is worth: a method of Math or arraycopy, or a contract -/
def am_Calls (l : Launch) (base : Nat) (ea : Nat → Nat) (D : va_G) (d : Nat) (call : am_Fn) : Prop := ∀ (k : Nat) (as : List Value) (hp : List am_C) (R : am_R), (k < am_nM ∨ k = am_acp) → call k as (hp, am_bc k, am_bs k) R → (am_isp k = true ∧ am_pr (am_prim k as (hp, am_bc k, am_bs k)) R) ∨ (am_isp k = false ∧ am_MetS l base ea D d k as (hp, am_bc k, am_bs k) R)
def am_Codes : Prop := ∀ k, k < am_nM → Cond.code (am_y k) (am_by k) (am_ml k) (am_rt k) ∈ am_TB
theorem am_good {ws : List Cond} (h : ∀ w ∈ ws, w ∈ am_TB) : GoodIn am_TB ws := fun w hw => ⟨h w hw, good_of_word (List.mem_filter.mp (h w hw)).2⟩
theorem am_k_mk : (List.range am_nM).all (fun k => (!(decide (am_own k = am_cmath)) || decide (am_kd k = 1)) && decide (am_ml k ≤ 40)) = true := by decide +kernel
theorem am_ml_le {k : Nat} (h : k < am_nM) : am_ml k ≤ 40 := by
  have := List.all_eq_true.mp am_k_mk k (List.mem_range.mpr h)
  simp only [Bool.and_eq_true, decide_eq_true_eq] at this
  exact this.2
theorem am_k_acp : am_kd am_acp = 1 := by decide +kernel
theorem am_isp_kd {k : Nat} (h : k < am_nM ∨ k = am_acp) (hp : am_isp k = true) : am_kd k = 1 := by
  simp only [am_isp, Bool.or_eq_true, decide_eq_true_eq] at hp
  rcases hp with hp | hp
  · rw [hp]; exact am_k_acp
  · rcases h with h | h
    · have := List.all_eq_true.mp am_k_mk k (List.mem_range.mpr h)
      simp only [Bool.and_eq_true, Bool.or_eq_true, Bool.not_eq_true', decide_eq_false_iff_not, decide_eq_true_eq] at this
      rcases this.1 with q | q
      · exact absurd hp q
      · exact q
    · rw [h]; exact am_k_acp
theorem am_mth_ok {own idx k : Nat} (ho : own < am_nC) (h : am_mth own idx = some k) : (k < am_nM ∨ k = am_acp) ∧ (Cond.methodLink (am_cn own) idx (am_y k) ∈ am_TB ∨ (own = 0 ∧ am_kd k = 2 ∧ (idx, k) ∈ am_nst)) := by
  unfold am_mth at h
  split at h
  · rename_i q hq
    cases h
    have h1 := am_all2 am_k_l ho (am_lk hq)
    simp only [Bool.and_eq_true, Bool.or_eq_true, decide_eq_true_eq, List.contains_iff_mem] at h1
    refine ⟨h1.1, ?_⟩
    rcases h1.2 with q | q
    · exact Or.inl (am_ok_mem q)
    · exact Or.inr ⟨q.1.1, q.1.2, q.2⟩
  · cases h
theorem am_mok_of {k : Nat} (h : k < am_nM) : am_mok k = true := by
  have key : ∀ a : Nat, (List.range' a 43).all am_mok = true → a ≤ k → k < a + 43 → am_mok k = true := fun a ha h1 h2 => List.all_eq_true.mp ha k (List.mem_range'_1.mpr ⟨h1, h2⟩)
  have h : k < 258 := h
  rcases Nat.lt_or_ge k 43 with q | q
  · exact key 0 am_k_m0 (by omega) (by omega)
  rcases Nat.lt_or_ge k 86 with q | q
  · exact key 43 am_k_m1 (by omega) (by omega)
  rcases Nat.lt_or_ge k 129 with q | q
  · exact key 86 am_k_m2 (by omega) (by omega)
  rcases Nat.lt_or_ge k 172 with q | q
  · exact key 129 am_k_m3 (by omega) (by omega)
  rcases Nat.lt_or_ge k 215 with q | q
  · exact key 172 am_k_m4 (by omega) (by omega)
  · exact key 215 am_k_m5 (by omega) (by omega)
theorem am_mw {k : Nat} (h : k < am_nM) : (am_kd k = 1 → Cond.static (am_y k) ∈ am_TB) ∧ (am_kd k ≠ 1 → Cond.instanceMethod (am_y k) ∈ am_TB) ∧ (am_kd k = 0 → Cond.selects (am_cn (am_own k)) (am_y k) (am_y k) ∈ am_TB) ∧ Cond.initialized (am_cn (am_own k)) ∈ am_TB := by
  have h1 := am_mok_of h
  simp only [am_mok, Bool.and_eq_true, Bool.or_eq_true, Bool.not_eq_true', decide_eq_false_iff_not] at h1
  refine ⟨fun q => ?_, fun q => ?_, fun q => ?_, am_ok_mem h1.2⟩
  · have := am_ok_mem h1.1.1
    rw [if_pos q] at this
    exact this
  · have := am_ok_mem h1.1.1
    rw [if_neg q] at this
    exact this
  · rcases h1.1.2 with z | z
    · exact absurd q z
    · exact am_ok_mem z
theorem am_mn {k : Nat} (h : k < am_nM) : (plainName (am_cn (am_own k)) = true ∨ am_own k = am_cmath) ∧ ((am_y k).cls ≠ "java/lang/invoke/MethodHandle" ∧ (am_y k).cls ≠ "java/lang/invoke/VarHandle" ∧ (parseMethodDescriptor (am_y k).desc).map (fun d => d.parameters.length) = some (am_na k)) ∧ (am_kd k = 2 ↔ (am_y k).name = "<init>") ∧ am_own k < am_nC ∧ (am_kd k = 2 → am_rt k = none) ∧ (am_kd k = 0 → am_own k < am_nO ∨ am_own k = am_str) := by
  have h1 := List.all_eq_true.mp am_k_n k (List.mem_range.mpr h)
  simp only [am_mok2, Bool.and_eq_true, Bool.or_eq_true, Bool.not_eq_true', decide_eq_false_iff_not, decide_eq_true_eq] at h1
  obtain ⟨⟨⟨⟨⟨⟨⟨a1, a2⟩, a3⟩, a4⟩, a5⟩, a6⟩, a7⟩, a8⟩ := h1
  refine ⟨a1, ⟨a2, a3, a4⟩, a5, a6, fun q => ?_, fun q => ?_⟩
  · rcases a7 with z | z
    · exact absurd q z
    · exact z
  · rcases a8 with z | z
    · exact absurd q z
    · exact z
theorem am_adrA {s : State} {A : Nat → Prop} {adr : List Nat} {ea : Nat → Nat} {hp : List am_C} {ws : va_W} (h1 : am_w s adr ea hp ws) (h3 : va_D A ws) : ∀ q ∈ adr, A q := by
  intro q hq
  obtain ⟨i, hi⟩ := List.getElem?_of_mem hq
  have hl : i < hp.length := by rw [← h1.1]; exact (List.getElem?_eq_some_iff.mp hi).1
  obtain ⟨a, e, g1, g2, -⟩ := h1.2.2 i _ (List.getElem?_eq_getElem hl)
  rw [hi] at g1
  cases g1
  exact h3.2 i _ g2
theorem am_after {p : Program} {l : Launch} {e : Env} {Rm : Room} {s : State} {m : MethodId} {args : Array Value} {below : List Frame} {meth : Method} {c : Code} {Q : State → Prop} {D : va_G} {A : Nat → Prop} {ea : Nat → Nat} {nL : Nat} {adr0 : List Nat} {pc : Nat} {ls : am_L} {st : List Value} {mem : am_M} {H : Heap} {locs : List Loc} {cells slots : Nat} {jl : Array Slot} {js : List Value} {adr : List Nat} {ws : va_W} {k : Nat} {X : am_X} {base : Nat} {k2 : Nat} {R2 : am_R} {rest jrest js0 : List Value} {a : Array Value} (F : am_Fx p s m args meth c Rm k X base ea A D) (hJ : am_J s D A ea nL Rm adr0 ls st mem H locs cells slots jl js adr ws) (hrest : am_vs adr ea rest jrest) (hr : va_Run p l e Rm s m args below meth c H locs cells slots (am_bc k2) (am_bs k2) (F0 m pc jl js0) jrest (am_Out base ea D adr H.size R2 a) (am_A adr H.size)) (hb1 : am_bc k2 ≤ mem.2.1) (hb2 : am_bs k2 ≤ mem.2.2) (hk : ∀ (v : Option Value) (m2 : am_M), R2 v m2 → (am_Sim p l e Rm s m args below meth c Q D A ea nL adr0) (pc + 3) ls (v.toList ++ rest) (m2.1, mem.2.1 - am_bc k2, mem.2.2 - am_bs k2)) : W p l e Rm s m args below meth c H locs cells slots Q (F0 m pc jl js0) := by
  obtain ⟨h0, h1, h2, h3, h4, h5, h6, h7, h8⟩ := hJ
  obtain ⟨hx, -, hown, hts, hK, hA, hG, hbs, hex, hsx, hin2, -, hoC, -⟩ := F
  intro T hT X9
  obtain ⟨v, st0, t, T', L, e0, X', hL, e1, e2, ⟨⟨v', w, mem', adr2, ws2, hv, hR, hpx, hov, hw2, hP2, hD2⟩, hF⟩, st⟩ := hr T hT X9
  cases hv
  have ha : s.vm.Alike t.vm := by rw [← e2]; exact X'.warmed.alike
  have hAA : ∀ q, am_A adr H.size q → A q := fun q hq => by
    rcases hq with hq | hq
    · exact am_adrA h1 h3 q hq
    · exact hA q (Nat.le_trans h4.1 hq)
  have hz : H.size ≤ t.heap.size := by have := hF.1; rw [e0] at this; exact this
  have hkp : ∀ q : Nat, q < H.size → ¬ am_A adr H.size q → t.heap[q]? = H[q]? := fun q hq1 hq2 => by have := hF.2 q (by rw [e0]; exact hq1) hq2; rw [e0] at this; exact this
  obtain ⟨t2, a1, b1⟩ := hk v' mem' hR T'.heap (locs ++ L) (cells + am_bc k2) (slots + am_bs k2) jl (v.toList ++ jrest) adr2 ws2 ⟨h0.trans hpx, hw2.moved ha.symm, by rw [e1]; exact hP2, hD2.weaken (fun _ _ _ h => hAA _ h), ⟨by rw [e1]; exact Nat.le_trans h4.1 hz, fun q hq1 hq2 => by rw [e1, hkp q (Nat.lt_of_lt_of_le hq1 h4.1) (fun z => hq2 (hAA q z))]; exact h4.2.1 q hq1 hq2, fun q hq => by
      rcases List.mem_append.mp hq with hq | hq
      · exact h4.2.2 q hq
      · exact hAA _ (hL q hq)⟩, h5.px hpx, hov.app (hrest.px hpx), by
      show cells + am_bc k2 + (mem.2.1 - am_bc k2) ≤ Rm.cells
      omega, by
      show slots + am_bs k2 + (mem.2.2 - am_bs k2) ≤ Rm.slots
      omega⟩ T' rfl X'
  exact ⟨t2, st t2 a1, b1⟩
theorem am_pre {p : Program} {Rm : Room} {s : State} {m : MethodId} {args : Array Value} {meth : Method} {c : Code} {D : va_G} {A : Nat → Prop} {ea : Nat → Nat} {nL : Nat} {adr0 : List Nat} {ls : am_L} {st : List Value} {mem : am_M} {H : Heap} {locs : List Loc} {cells slots : Nat} {jl : Array Slot} {js : List Value} {adr : List Nat} {ws : va_W} {k : Nat} {X : am_X} {base : Nat} {jas : List Value} (F : am_Fx p s m args meth c Rm k X base ea A D) (hJ : am_J s D A ea nL Rm adr0 ls st mem H locs cells slots jl js adr ws) : ∀ U : State, U.heap = H → s.WarmedH U.vm → va_Pc jas (fun U => U.heap.size = H.size ∧ am_In base ea D adr mem.1 U) jas.toArray U := by
  obtain ⟨h0, h1, h2, h3, h4, h5, h6, h7, h8⟩ := hJ
  obtain ⟨hx, -, hown, hts, hK, hA, hG, hbs, hex, hsx, hin2, -, hoC, -⟩ := F
  intro U hU hW
  have ha : s.vm.Alike U.vm := hW.alike
  refine ⟨rfl, by rw [hU], by rw [hU]; exact Nat.le_trans hbs h4.1, fun q hq => hG q (am_adrA h1 h3 q hq), ⟨ws, h1.moved ha, by rw [hU]; exact h2, h3.weaken (fun _ _ _ _ => trivial)⟩, va_K.moved ha hK, am_ex.warm hW (fun q hq1 hq2 => ?_) hex⟩
  rw [hU]
  exact h4.2.1 q hq1 (fun z => hq2 (hG q z))
theorem sm_invv {p : Program} {l : Launch} {e : Env} {Rm : Room} {s : State} {m : MethodId} {args : Array Value} {below : List Frame} {meth : Method} {c : Code} {Q : State → Prop} {D : va_G} {A : Nat → Prop} {ea : Nat → Nat} {nL : Nat} {adr0 : List Nat} {call : am_Fn} {R : am_R} {pc : Nat} {ls : am_L} {st : List Value} {mem : am_M} {H : Heap} {locs : List Loc} {cells slots : Nat} {jl : Array Slot} {js : List Value} {adr : List Nat} {ws : va_W} {k : Nat} {X : am_X} {base : Nat} {cc : ByteArray} {d idx : Nat} (F : am_Fx p s m args meth c Rm k X base ea A D) (hC : am_Calls l base ea D d call) (hcd : am_Codes) (hRm : d + 2 ≤ Rm.frames ∧ 60 * (d + 1) + 60 ≤ Rm.locals) (hnL : nL = am_ml k) (hb : c.code = cc) (hd : decode cc pc = .ok (.invokevirtual idx, 3)) (h : am_do call (am_invv (am_own k) idx (pc + 3) ls st mem) (am_Sim p l e Rm s m args below meth c Q D A ea nL adr0) R) (hJ : am_J s D A ea nL Rm adr0 ls st mem H locs cells slots jl js adr ws)  : W p l e Rm s m args below meth c H locs cells slots Q (F0 m pc jl js) := by
  have hJ0 := hJ
  have F0x := F
  obtain ⟨h0, h1, h2, h3, h4, h5, h6, h7, h8⟩ := hJ
  obtain ⟨hx, -, hown, hts, hK, hA, hG, hbs, hex, hsx, hin2, hml, hoC, -⟩ := F
  unfold am_invv at h
  split at h
  · rename_i k2 hm
    obtain ⟨m1, m2⟩ := am_mth_ok hoC hm
    have hsd := h6.drop (am_na k2)
    have hst := (h6.take (am_na k2)).rev
    split at h
    · rename_i b rest hdrop
      rw [hdrop] at hsd
      obtain ⟨w2, jrest, e3, ⟨ad, e4, e6⟩, e5⟩ := hsd
      subst e6
      split at h
      · rename_i ci fs hcell
        split at h
        · rename_i hc
          simp only [Bool.and_eq_true, decide_eq_true_eq] at hc
          unfold am_cal at h
          split at h
          · rename_i hc2
            simp only [Bool.and_eq_true, decide_eq_true_eq] at hc2
            have hnm : k2 < am_nM := by
              rcases m1 with q | q
              · exact q
              · rw [q] at hc; exact absurd (am_k_acp.symm.trans hc.1) (by decide)
            have hml2 : Cond.methodLink (am_cn (am_own k)) idx (am_y k2) ∈ am_TB := by
              rcases m2 with q | q
              · exact q
              · exact absurd (hc.1.symm.trans q.2.1) (by decide)
            rcases hC k2 _ _ _ m1 h with ⟨q1, -⟩ | ⟨q1, hM⟩
            · exact absurd (hc.1.symm.trans (am_isp_kd m1 q1)) (by decide)
            obtain ⟨a', e', z1, z2, z3, gs, z4, z5, z6⟩ := h1.2.2 b _ hcell
            rw [e4] at z1
            cases z1
            subst z4
            obtain ⟨y1, y2, y3, y4⟩ := am_mw hnm
            obtain ⟨x1, x2, x3, x4, x5, x6⟩ := am_mn hnm
            have hjs : js = (js.take (am_na k2)).reverse.reverse ++ .ref ad :: jrest := by
              rw [List.reverse_reverse, ← e3, List.take_append_drop]
            have hlen : (js.take (am_na k2)).reverse.length = am_na k2 := by
              rw [List.length_reverse, List.length_take]
              have : (js.drop (am_na k2)).length = jrest.length + 1 := by rw [e3]; rfl
              rw [List.length_drop] at this
              omega
            have hMM := hM adr (.ref ad :: (js.take (am_na k2)).reverse) H.size ⟨_, _, rfl, ⟨ad, e4, rfl⟩, hst⟩
            refine am_after F0x hJ0 e5 (va_runV (As := (js.take (am_na k2)).reverse) (rest := jrest) (b := ad) (C := am_cn (am_own k2)) ⟨hx, hb, hml, hown, hts⟩ hMM (cwV (am_na k2) (ws' := am_TB) hts (am_good (fun w hw => ?_)) rfl rfl rfl ⟨rfl, x2⟩ ⟨hRm.1, ?_⟩) ⟨am_blind, ?_, am_pre (mem := mem) F0x hJ0⟩ rfl hlen (by rw [← hnL]; exact h5.2.1) hjs (lv_room (by rw [e5.cat]; exact hc2.1.1)) hd ⟨by omega, by omega⟩) hc2.1.2 hc2.2 (fun v m2 hv => hv)
            · simp only [wsV, List.cons_append, List.nil_append, List.mem_cons] at hw
              rcases hw with rfl | rfl | rfl | rfl | hw
              · exact hml2
              · exact y2 (by rw [hc.1]; decide)
              · exact y3 hc.1
              · exact y4
              · rcases List.mem_cons.mp hw with rfl | hw
                · exact hcd k2 hnm
                · exact hw
            · show 8 + (am_ml k2 + 11) + 60 * (d + 1) ≤ Rm.locals
              have := am_ml_le hnm
              omega
            · have hr := va_recv hK h2 (am_cls_at z3) z2
              rw [hc.2] at hr
              exact hr
          · exact h.elim
        · exact h.elim
      · exact h.elim
    · rename_i u rest hdrop
      rw [hdrop] at hsd
      obtain ⟨w2, jrest, e3, e4, e5⟩ := hsd
      have e4 : w2 = .ref (ea u.toNat) := e4
      subst e4
      split at h
      · rename_i hc
        simp only [Bool.and_eq_true, decide_eq_true_eq] at hc
        obtain ⟨⟨hu, hc1⟩, hcs⟩ := hc
        subst hu
        unfold am_cal at h
        split at h
        · rename_i hc2
          simp only [Bool.and_eq_true, decide_eq_true_eq] at hc2
          have hnm : k2 < am_nM := by
            rcases m1 with q | q
            · exact q
            · rw [q] at hc1; exact absurd (am_k_acp.symm.trans hc1) (by decide)
          have hml2 : Cond.methodLink (am_cn (am_own k)) idx (am_y k2) ∈ am_TB := by
            rcases m2 with q | q
            · exact q
            · exact absurd (hc1.symm.trans q.2.1) (by decide)
          rcases hC k2 _ _ _ m1 h with ⟨q1, -⟩ | ⟨q1, hM⟩
          · exact absurd (hc1.symm.trans (am_isp_kd m1 q1)) (by decide)
          obtain ⟨y1, y2, y3, y4⟩ := am_mw hnm
          obtain ⟨x1, x2, x3, x4, x5, x6⟩ := am_mn hnm
          have hjs : js = (js.take (am_na k2)).reverse.reverse ++ .ref (ea 2) :: jrest := by
            have q := List.take_append_drop (am_na k2) js
            rw [e3] at q
            rw [List.reverse_reverse]
            exact q.symm
          have hlen : (js.take (am_na k2)).reverse.length = am_na k2 := by
            rw [List.length_reverse, List.length_take]
            have : (js.drop (am_na k2)).length = jrest.length + 1 := by rw [e3]; rfl
            rw [List.length_drop] at this
            omega
          have hMM := hM adr (.ref (ea 2) :: (js.take (am_na k2)).reverse) H.size ⟨_, _, rfl, rfl, hst⟩
          refine am_after F0x hJ0 e5 (va_runV (As := (js.take (am_na k2)).reverse) (rest := jrest) (b := ea 2) (C := am_cn (am_own k2)) ⟨hx, hb, hml, hown, hts⟩ hMM (cwV (am_na k2) (ws' := am_TB) hts (am_good (fun w hw => ?_)) rfl rfl rfl ⟨rfl, x2⟩ ⟨hRm.1, ?_⟩) ⟨am_blind, ?_, am_pre (mem := mem) F0x hJ0⟩ rfl hlen (by rw [← hnL]; exact h5.2.1) hjs (lv_room (by rw [e5.cat]; exact hc2.1.1)) hd ⟨by omega, by omega⟩) hc2.1.2 hc2.2 (fun v m2 hv => hv)
          · simp only [wsV, List.cons_append, List.nil_append, List.mem_cons] at hw
            rcases hw with rfl | rfl | rfl | rfl | hw
            · exact hml2
            · exact y2 (by rw [hc1]; decide)
            · exact y3 hc1
            · exact y4
            · rcases List.mem_cons.mp hw with rfl | hw
              · exact hcd k2 hnm
              · exact hw
          · show 8 + (am_ml k2 + 11) + 60 * (d + 1) ≤ Rm.locals
            have := am_ml_le hnm
            omega
          · rw [hcs]
            exact vk_recv (adK := fun _ => ea 2) (i := 0) (vk_S.narrow hex.2.2.2.1 hG) Nat.zero_lt_one h4
        · exact h.elim
      · exact h.elim
    · exact h.elim
  · exact h.elim
end
section
theorem am_k_prim : Cond.static (am_y am_acp) ∈ lw_tbl ∧ Cond.native (am_y am_acp) ∈ lw_tbl := by decide +kernel
theorem am_k_prim2 : goodWord (.static (am_y am_acp)) = true ∧ goodWord (.native (am_y am_acp)) = true ∧ goodWord (.initialized "java/lang/System") = true ∧ Cond.initialized "java/lang/System" ∈ lw_tbl := by decide +kernel
theorem am_k_ny : am_y am_mth1.1 = Lib.Math.max.name ∧ am_y am_mth1.2.1 = Lib.Math.min.name ∧ am_y am_mth1.2.2.1 = Lib.MathLoose.max_long.x ∧ am_y am_mth1.2.2.2 = Lib.MathLoose.min_long.x := by decide +kernel
theorem am_k_nk : am_mth1.1 < am_nM ∧ am_mth1.2.1 < am_nM ∧ am_mth1.2.2.1 < am_nM ∧ am_mth1.2.2.2 < am_nM ∧ am_kd am_mth1.1 = 1 ∧ am_kd am_mth1.2.1 = 1 ∧ am_kd am_mth1.2.2.1 = 1 ∧ am_kd am_mth1.2.2.2 = 1 ∧ am_own am_mth1.1 = am_cmath ∧ am_own am_mth1.2.1 = am_cmath ∧ am_own am_mth1.2.2.1 = am_cmath ∧ am_own am_mth1.2.2.2 = am_cmath ∧ am_cn am_cmath = "java/lang/Math" ∧ ¬ am_acp < am_nM := by decide +kernel
theorem am_k_b0 : am_bc am_acp = 0 ∧ am_bs am_acp = 0 ∧ am_bc am_mth1.1 = 0 ∧ am_bs am_mth1.1 = 0 ∧ am_bc am_mth1.2.1 = 0 ∧ am_bs am_mth1.2.1 = 0 ∧ am_bc am_mth1.2.2.1 = 0 ∧ am_bs am_mth1.2.2.1 = 0 ∧ am_bc am_mth1.2.2.2 = 0 ∧ am_bs am_mth1.2.2.2 = 0 ∧ am_na am_acp = 5 ∧ am_na am_mth1.1 = 2 ∧ am_na am_mth1.2.1 = 2 ∧ am_na am_mth1.2.2.1 = 2 ∧ am_na am_mth1.2.2.2 = 2 := by decide +kernel
theorem am_k_cm : Cond.code Lib.Math.max.name Lib.Math.max.code 2 (some .int) = Cond.code (am_y am_mth1.1) (am_by am_mth1.1) (am_ml am_mth1.1) (am_rt am_mth1.1) := rfl
theorem am_k_cm2 : Cond.code Lib.Math.min.name Lib.Math.min.code 2 (some .int) = Cond.code (am_y am_mth1.2.1) (am_by am_mth1.2.1) (am_ml am_mth1.2.1) (am_rt am_mth1.2.1) := rfl
theorem am_k_cm3 : Cond.code Lib.MathLoose.max_long.x Lib.MathLoose.max_long.code 4 (some .long) = Cond.code (am_y am_mth1.2.2.1) (am_by am_mth1.2.2.1) (am_ml am_mth1.2.2.1) (am_rt am_mth1.2.2.1) := rfl
theorem am_k_cm4 : Cond.code Lib.MathLoose.min_long.x Lib.MathLoose.min_long.code 4 (some .long) = Cond.code (am_y am_mth1.2.2.2) (am_by am_mth1.2.2.2) (am_ml am_mth1.2.2.2) (am_rt am_mth1.2.2.2) := rfl
theorem am_rev2 {α : Type} {l : List α} {x y : α} {n : Nat} (h : (l.take n).reverse = [x, y]) : l.take n = [y, x] := by
  have := congrArg List.reverse h
  rw [List.reverse_reverse] at this
  exact this
theorem am_rev5 {α : Type} {l : List α} {a b c d e : α} {n : Nat} (h : (l.take n).reverse = [a, b, c, d, e]) : l.take n = [e, d, c, b, a] := by
  have := congrArg List.reverse h
  rw [List.reverse_reverse] at this
  exact this
theorem sm_invs {p : Program} {l : Launch} {e : Env} {Rm : Room} {s : State} {m : MethodId} {args : Array Value} {below : List Frame} {meth : Method} {c : Code} {Q : State → Prop} {D : va_G} {A : Nat → Prop} {ea : Nat → Nat} {nL : Nat} {adr0 : List Nat} {call : am_Fn} {R : am_R} {pc : Nat} {ls : am_L} {st : List Value} {mem : am_M} {H : Heap} {locs : List Loc} {cells slots : Nat} {jl : Array Slot} {js : List Value} {adr : List Nat} {ws : va_W} {k : Nat} {X : am_X} {base : Nat} {cc : ByteArray} {d idx : Nat} (F : am_Fx p s m args meth c Rm k X base ea A D) (hC : am_Calls l base ea D d call) (hcd : am_Codes) (hRm : d + 2 ≤ Rm.frames ∧ 60 * (d + 1) + 60 ≤ Rm.locals) (hnL : nL = am_ml k) (hb : c.code = cc) (hd : decode cc pc = .ok (.invokestatic idx, 3)) (h : am_do call (am_invs (am_own k) idx (pc + 3) ls st mem) (am_Sim p l e Rm s m args below meth c Q D A ea nL adr0) R) (hJ : am_J s D A ea nL Rm adr0 ls st mem H locs cells slots jl js adr ws)  : W p l e Rm s m args below meth c H locs cells slots Q (F0 m pc jl js) := by
  have hJ0 := hJ
  have F0x := F
  obtain ⟨h0, h1, h2, h3, h4, h5, h6, h7, h8⟩ := hJ
  obtain ⟨hx, -, hown, hts, hK, hA, hG, hbs, hex, hsx, hin2, hml, hoC, hf1, hl1⟩ := F
  unfold am_invs at h
  split at h
  · rename_i k2 hm
    obtain ⟨m1, m2⟩ := am_mth_ok hoC hm
    split at h
    rotate_left
    · exact h.elim
    rename_i hc
    simp only [Bool.and_eq_true, decide_eq_true_eq] at hc
    unfold am_cal at h
    split at h
    rotate_left
    · exact h.elim
    rename_i hc2
    simp only [Bool.and_eq_true, decide_eq_true_eq] at hc2
    rcases hC k2 _ _ _ m1 h with ⟨q1, h⟩ | ⟨q1, hM⟩
    · unfold am_prim at h
      split at h
      · rename_i hk
        subst hk
        split at h
        · rename_i a sp b dp n has
          have hq := h6.take (am_na am_acp)
          rw [am_rev5 has] at hq
          obtain ⟨w1, l1, e1, e2, w2, l2, e3, e4, w3, l3, e5, ⟨jb, e6, e6'⟩, w4, l4, e7, e8, w5, l5, e9, ⟨ja, e10, e10'⟩, e11⟩ := hq
          have e2 : w1 = .int n := e2
          have e4 : w2 = .int dp := e4
          have e8 : w4 = .int sp := e8
          have e11 : l5 = [] := e11
          subst e2; subst e4; subst e6'; subst e8; subst e10'; subst e11; subst e9; subst e7; subst e5; subst e3
          have hjs := List.take_append_drop (am_na am_acp) js
          rw [e1] at hjs
          have hL : Cond.methodLink (am_cn (am_own k)) idx (am_y am_acp) ∈ am_TB := by
            rcases m2 with q | q
            · exact q
            · exact absurd (hc.1.symm.trans q.2.1) (by decide)
          have hrest := h6.drop (am_na am_acp)
          rw [← hjs]
          simp only [List.cons_append, List.nil_append]
          unfold am_acopy at h
          split at h
          · rename_i n0 f n1 g ha hbb
            split at h
            · rename_i hcond
              simp only [Bool.and_eq_true, decide_eq_true_eq, Bool.not_eq_true', decide_eq_false_iff_not] at hcond
              obtain ⟨⟨⟨⟨⟨c0, c1⟩, c2⟩, c3⟩, c4⟩, c5⟩ := hcond
              obtain ⟨a', e', z1, z2, cA, z3, z4, z5⟩ := h1.2.2 a _ ha
              rw [e10] at z1
              cases z1
              subst z3
              obtain ⟨b', eb', y1, y2, cB, y3, y4, y5⟩ := h1.2.2 b _ hbb
              rw [e6] at y1
              cases y1
              subst y3
              have hK2 : va_K D classes [(cA, .int), (cB, .int)] s := (am_K1 hK z4 z5).app (am_K1 hK y4 y5)
              have st0 : Cond.static (am_y am_acp) ∈ am_TB := List.mem_filter.mpr ⟨am_k_prim.1, am_k_prim2.1⟩
              have nt0 : Cond.native (am_y am_acp) ∈ am_TB := List.mem_filter.mpr ⟨am_k_prim.2, am_k_prim2.2.1⟩
              have in0 : Cond.initialized "java/lang/System" ∈ am_TB := List.mem_filter.mpr ⟨am_k_prim2.2.2.2, am_k_prim2.2.2.1⟩
              have hnf : nativeFrameWords "java/lang/System" "arraycopy" 5 = 7 := by decide +kernel
              refine va_copyi hx hb (hml.trans (hnL.symm.trans h5.2.1.symm)) (own := am_cn (am_own k)) hown (hts _ hL) (hts _ nt0) (hts _ st0) (hts _ in0) hK2 h2 h3 h4 a b 0 1 z2 y2 rfl rfl rfl c1 c2 c3 c4 c5 (fun _ _ => rfl) hf1 (by rw [hrest.cat, hnf]; omega) hd (fun H1 locs1 p2 p3 p4 => ?_)
              exact h _ _ _ _ _ _ _ _ ⟨h0, h1.set y2 ⟨cB, rfl, y4, y5⟩, p2, p3, p4, h5, hrest, by show cells + (mem.2.1 - _) ≤ _; omega, by show slots + (mem.2.2 - _) ≤ _; omega⟩
            · exact h.elim
          · exact h.elim
        · exact h.elim
      split at h
      · rename_i hk
        subst hk
        split at h
        · rename_i x y has
          have hq := h6.take (am_na am_mth1.1)
          rw [am_rev2 has] at hq
          obtain ⟨w1, l1, e1, e2, w2, l2, e3, e4, e5⟩ := hq
          have e2 : w1 = .int y := e2
          have e4 : w2 = .int x := e4
          have e5 : l2 = [] := e5
          subst e2; subst e4; subst e5; subst e3
          have hjs := List.take_append_drop (am_na am_mth1.1) js
          rw [e1] at hjs
          have hL : Cond.methodLink (am_cn (am_own k)) idx (am_y am_mth1.1) ∈ am_TB := by
            rcases m2 with q | q
            · exact q
            · exact absurd (hc.1.symm.trans q.2.1) (by decide)
          have hnm := am_k_nk.1
          obtain ⟨y1, y2, y3, y4⟩ := am_mw hnm
          have hrest := h6.drop (am_na am_mth1.1)
          rw [← hjs]
          simp only [List.cons_append, List.nil_append]
          refine va_mmax hx hb (hml.trans (hnL.symm.trans h5.2.1.symm)) (own := am_cn (am_own k)) hown (by have := hts _ hL; rw [am_k_ny.1] at this; exact this) (by have := hts _ (y1 hc.1); rw [am_k_ny.1] at this; exact this) (by have := hts _ y4; rw [am_k_nk.2.2.2.2.2.2.2.2.1, am_k_nk.2.2.2.2.2.2.2.2.2.2.2.2.1] at this; exact this) (by rw [am_k_cm]; exact hts _ (hcd _ hnm)) hf1 (by rw [hrest.cat]; omega) (by omega) (by omega) hd ?_
          exact h _ _ _ _ _ _ _ _ ⟨h0, h1, h2, h3, h4, h5, ⟨_, _, rfl, rfl, hrest⟩, by show cells + (mem.2.1 - _) ≤ _; omega, by show slots + (mem.2.2 - _) ≤ _; omega⟩
        · exact h.elim
      split at h
      · rename_i hk
        subst hk
        split at h
        · rename_i x y has
          have hq := h6.take (am_na am_mth1.2.1)
          rw [am_rev2 has] at hq
          obtain ⟨w1, l1, e1, e2, w2, l2, e3, e4, e5⟩ := hq
          have e2 : w1 = .int y := e2
          have e4 : w2 = .int x := e4
          have e5 : l2 = [] := e5
          subst e2; subst e4; subst e5; subst e3
          have hjs := List.take_append_drop (am_na am_mth1.2.1) js
          rw [e1] at hjs
          have hL : Cond.methodLink (am_cn (am_own k)) idx (am_y am_mth1.2.1) ∈ am_TB := by
            rcases m2 with q | q
            · exact q
            · exact absurd (hc.1.symm.trans q.2.1) (by decide)
          have hnm := am_k_nk.2.1
          obtain ⟨y1, y2, y3, y4⟩ := am_mw hnm
          have hrest := h6.drop (am_na am_mth1.2.1)
          rw [← hjs]
          simp only [List.cons_append, List.nil_append]
          refine va_mmin hx hb (hml.trans (hnL.symm.trans h5.2.1.symm)) (own := am_cn (am_own k)) hown (by have := hts _ hL; rw [am_k_ny.2.1] at this; exact this) (by have := hts _ (y1 hc.1); rw [am_k_ny.2.1] at this; exact this) (by have := hts _ y4; rw [am_k_nk.2.2.2.2.2.2.2.2.2.1, am_k_nk.2.2.2.2.2.2.2.2.2.2.2.2.1] at this; exact this) (by rw [am_k_cm2]; exact hts _ (hcd _ hnm)) hf1 (by rw [hrest.cat]; omega) (by omega) (by omega) hd ?_
          exact h _ _ _ _ _ _ _ _ ⟨h0, h1, h2, h3, h4, h5, ⟨_, _, rfl, rfl, hrest⟩, by show cells + (mem.2.1 - _) ≤ _; omega, by show slots + (mem.2.2 - _) ≤ _; omega⟩
        · exact h.elim
      split at h
      · rename_i hk
        subst hk
        split at h
        · rename_i x y has
          have hq := h6.take (am_na am_mth1.2.2.1)
          rw [am_rev2 has] at hq
          obtain ⟨w1, l1, e1, e2, w2, l2, e3, e4, e5⟩ := hq
          have e2 : w1 = .long y := e2
          have e4 : w2 = .long x := e4
          have e5 : l2 = [] := e5
          subst e2; subst e4; subst e5; subst e3
          have hjs := List.take_append_drop (am_na am_mth1.2.2.1) js
          rw [e1] at hjs
          have hL : Cond.methodLink (am_cn (am_own k)) idx (am_y am_mth1.2.2.1) ∈ am_TB := by
            rcases m2 with q | q
            · exact q
            · exact absurd (hc.1.symm.trans q.2.1) (by decide)
          have hnm := am_k_nk.2.2.1
          obtain ⟨y1, y2, y3, y4⟩ := am_mw hnm
          have hrest := h6.drop (am_na am_mth1.2.2.1)
          rw [← hjs]
          simp only [List.cons_append, List.nil_append]
          refine va_mmax_long hx hb (hml.trans (hnL.symm.trans h5.2.1.symm)) (own := am_cn (am_own k)) hown (by have := hts _ hL; rw [am_k_ny.2.2.1] at this; exact this) (by have := hts _ (y1 hc.1); rw [am_k_ny.2.2.1] at this; exact this) (by have := hts _ y4; rw [am_k_nk.2.2.2.2.2.2.2.2.2.2.1, am_k_nk.2.2.2.2.2.2.2.2.2.2.2.2.1] at this; exact this) (by rw [am_k_cm3]; exact hts _ (hcd _ hnm)) hf1 (by rw [hrest.cat]; omega) (by omega) (by omega) hd ?_
          exact h _ _ _ _ _ _ _ _ ⟨h0, h1, h2, h3, h4, h5, ⟨_, _, rfl, rfl, hrest⟩, by show cells + (mem.2.1 - _) ≤ _; omega, by show slots + (mem.2.2 - _) ≤ _; omega⟩
        · exact h.elim
      split at h
      · rename_i hk
        subst hk
        split at h
        · rename_i x y has
          have hq := h6.take (am_na am_mth1.2.2.2)
          rw [am_rev2 has] at hq
          obtain ⟨w1, l1, e1, e2, w2, l2, e3, e4, e5⟩ := hq
          have e2 : w1 = .long y := e2
          have e4 : w2 = .long x := e4
          have e5 : l2 = [] := e5
          subst e2; subst e4; subst e5; subst e3
          have hjs := List.take_append_drop (am_na am_mth1.2.2.2) js
          rw [e1] at hjs
          have hL : Cond.methodLink (am_cn (am_own k)) idx (am_y am_mth1.2.2.2) ∈ am_TB := by
            rcases m2 with q | q
            · exact q
            · exact absurd (hc.1.symm.trans q.2.1) (by decide)
          have hnm := am_k_nk.2.2.2.1
          obtain ⟨y1, y2, y3, y4⟩ := am_mw hnm
          have hrest := h6.drop (am_na am_mth1.2.2.2)
          rw [← hjs]
          simp only [List.cons_append, List.nil_append]
          refine va_mmin_long hx hb (hml.trans (hnL.symm.trans h5.2.1.symm)) (own := am_cn (am_own k)) hown (by have := hts _ hL; rw [am_k_ny.2.2.2] at this; exact this) (by have := hts _ (y1 hc.1); rw [am_k_ny.2.2.2] at this; exact this) (by have := hts _ y4; rw [am_k_nk.2.2.2.2.2.2.2.2.2.2.2.1, am_k_nk.2.2.2.2.2.2.2.2.2.2.2.2.1] at this; exact this) (by rw [am_k_cm4]; exact hts _ (hcd _ hnm)) hf1 (by rw [hrest.cat]; omega) (by omega) (by omega) hd ?_
          exact h _ _ _ _ _ _ _ _ ⟨h0, h1, h2, h3, h4, h5, ⟨_, _, rfl, rfl, hrest⟩, by show cells + (mem.2.1 - _) ≤ _; omega, by show slots + (mem.2.2 - _) ≤ _; omega⟩
        · exact h.elim
      · exact h.elim
    · have hnm : k2 < am_nM := by
        rcases m1 with q | q
        · exact q
        · rw [q] at q1; exact absurd q1 (by simp [am_isp])
      have hml2 : Cond.methodLink (am_cn (am_own k)) idx (am_y k2) ∈ am_TB := by
        rcases m2 with q | q
        · exact q
        · exact absurd (hc.1.symm.trans q.2.1) (by decide)
      obtain ⟨y1, y2, y3, y4⟩ := am_mw hnm
      obtain ⟨x1, x2, x3, x4, x5, x6⟩ := am_mn hnm
      have hjs : js = (js.take (am_na k2)).reverse.reverse ++ js.drop (am_na k2) := by
        rw [List.reverse_reverse, List.take_append_drop]
      have hlen : (js.take (am_na k2)).reverse.length = am_na k2 := by
        rw [List.length_reverse, List.length_take, h6.len]
        omega
      have hrest := h6.drop (am_na k2)
      have hMM := hM adr (js.take (am_na k2)).reverse H.size ((h6.take (am_na k2)).rev)
      refine am_after F0x hJ0 hrest (va_runS (As := (js.take (am_na k2)).reverse) (rest := js.drop (am_na k2)) ⟨hx, hb, hml, hown, hts⟩ hMM (va_cwS (am_na k2) (ws' := am_TB) hts (am_good (fun w hw => ?_)) rfl rfl rfl x2 ⟨hRm.1, ?_⟩) ⟨am_blind, am_pre (mem := mem) F0x hJ0⟩ rfl hlen (by rw [← hnL]; exact h5.2.1) hjs (lv_room (by rw [hrest.cat]; exact hc2.1.1)) hd ⟨by omega, by omega⟩) hc2.1.2 hc2.2 (fun v m2 hv => hv)
      · simp only [va_wsS, List.cons_append, List.nil_append, List.mem_cons] at hw
        rcases hw with rfl | rfl | rfl | hw
        · exact hml2
        · exact y1 hc.1
        · exact y4
        · rcases List.mem_cons.mp hw with rfl | hw
          · exact hcd k2 hnm
          · exact hw
      · show 8 + (am_ml k2 + 11) + 60 * (d + 1) ≤ Rm.locals
        have := am_ml_le hnm
        omega
  · exact h.elim
theorem sm_invi {p : Program} {l : Launch} {e : Env} {Rm : Room} {s : State} {m : MethodId} {args : Array Value} {below : List Frame} {meth : Method} {c : Code} {Q : State → Prop} {D : va_G} {A : Nat → Prop} {ea : Nat → Nat} {nL : Nat} {adr0 : List Nat} {call : am_Fn} {R : am_R} {pc : Nat} {ls : am_L} {st : List Value} {mem : am_M} {H : Heap} {locs : List Loc} {cells slots : Nat} {jl : Array Slot} {js : List Value} {adr : List Nat} {ws : va_W} {k : Nat} {X : am_X} {base : Nat} {cc : ByteArray} {d idx : Nat} (F : am_Fx p s m args meth c Rm k X base ea A D) (hC : am_Calls l base ea D d call) (hcd : am_Codes) (hRm : d + 2 ≤ Rm.frames ∧ 60 * (d + 1) + 60 ≤ Rm.locals) (hnL : nL = am_ml k) (hb : c.code = cc) (hd : decode cc pc = .ok (.invokespecial idx, 3)) (h : am_do call (am_invi (am_own k) idx (pc + 3) ls st mem) (am_Sim p l e Rm s m args below meth c Q D A ea nL adr0) R) (hJ : am_J s D A ea nL Rm adr0 ls st mem H locs cells slots jl js adr ws)  : W p l e Rm s m args below meth c H locs cells slots Q (F0 m pc jl js) := by
  have hJ0 := hJ
  have F0x := F
  obtain ⟨h0, h1, h2, h3, h4, h5, h6, h7, h8⟩ := hJ
  obtain ⟨hx, -, hown, hts, hK, hA, hG, hbs, hex, hsx, hin2, hml, hoC, hf1, hl1⟩ := F
  unfold am_invi at h
  split at h
  · rename_i hc0
    simp only [Bool.and_eq_true, decide_eq_true_eq] at hc0
    split at h
    · rename_i b st2
      obtain ⟨w2, l2, e3, ⟨ad, e4, e6⟩, e5⟩ := h6
      subst e6; subst e3
      split at h
      · rename_i hcat
        have hoi := am_k_oj
        simp only [Bool.and_eq_true] at hoi
        have hl9 : Cond.methodLink (am_cn (am_own k)) idx objectInit ∈ am_TB := by
          rw [hc0.1]
          exact am_ok_mem (List.all_eq_true.mp am_k_oi _ (List.mem_range.mpr hc0.2))
        refine W.objInit hx hb hown (hts _ hl9) (hts _ (am_ok_mem hoi.1)) (hts _ (am_ok_mem hoi.2)) rfl (h5.2.1.trans (hnL.trans hml.symm)) rfl hd hf1 (by have := lv_room (m := m) (pc := pc) (ls := jl) (rest := .ref ad :: l2) (st := l2) (by rw [e5.cat]; exact hcat); omega) ?_
        exact h _ _ _ _ _ _ _ _ ⟨h0, h1, h2, h3, h4, h5, e5, h7, h8⟩
      · exact h.elim
    · exact h.elim
  · split at h
    · rename_i k2 hm
      obtain ⟨m1, m2⟩ := am_mth_ok hoC hm
      have hsd := h6.drop (am_na k2)
      have hst := (h6.take (am_na k2)).rev
      split at h
      · rename_i b rest hdrop
        rw [hdrop] at hsd
        obtain ⟨w2, jrest, e3, ⟨ad, e4, e6⟩, e5⟩ := hsd
        subst e6
        split at h
        · rename_i hc
          unfold am_cal at h
          split at h
          · rename_i hc2
            simp only [Bool.and_eq_true, decide_eq_true_eq] at hc2
            have hnm : k2 < am_nM := by
              rcases m1 with q | q
              · exact q
              · rw [q] at hc; exact absurd (am_k_acp.symm.trans hc) (by decide)
            rcases hC k2 _ _ _ m1 h with ⟨q1, -⟩ | ⟨q1, hM⟩
            · exact absurd (hc.symm.trans (am_isp_kd m1 q1)) (by decide)
            obtain ⟨y1, y2, y3, y4⟩ := am_mw hnm
            obtain ⟨x1, x2, x3, x4, x5, x6⟩ := am_mn hnm
            have hjs : js = (js.take (am_na k2)).reverse.reverse ++ .ref ad :: jrest := by
              rw [List.reverse_reverse, ← e3, List.take_append_drop]
            have hlen : (js.take (am_na k2)).reverse.length = am_na k2 := by
              rw [List.length_reverse, List.length_take]
              have : (js.drop (am_na k2)).length = jrest.length + 1 := by rw [e3]; rfl
              rw [List.length_drop] at this
              omega
            have hMM := hM adr (.ref ad :: (js.take (am_na k2)).reverse) H.size ⟨_, _, rfl, ⟨ad, e4, rfl⟩, hst⟩
            have hgd : GoodIn am_TB (am_wsM k2) := am_good (fun w hw => by
              rcases List.mem_cons.mp hw with rfl | hw
              · exact hcd k2 hnm
              · exact hw)
            have hRR : (am_rm d k2).frames + 1 ≤ Rm.frames ∧ 8 + (am_ml k2 + 11) + (am_rm d k2).locals ≤ Rm.locals := ⟨hRm.1, by
              show 8 + (am_ml k2 + 11) + 60 * (d + 1) ≤ Rm.locals
              have := am_ml_le hnm
              omega⟩
            have hwsM : am_wsM k2 = Cond.code (am_y k2) (am_by k2) (am_ml k2) none :: am_TB := by rw [← x5 hc]; rfl
            rcases m2 with hml2 | ⟨ho0, -, hns⟩
            · exact am_after F0x hJ0 e5 (va_runI (As := (js.take (am_na k2)).reverse) (rest := jrest) (b := ad) ⟨hx, hb, hml, hown, hts⟩ hMM (cwI (am_na k2) (ws' := am_TB) hts hgd hwsM rfl rfl (hts _ y4) (hts _ hml2) (hts _ (y2 (by rw [hc]; decide))) (x3.mp hc) x2 hRR) ⟨am_blind, am_pre (mem := mem) F0x hJ0⟩ rfl hlen (by rw [← hnL]; exact h5.2.1) hjs (lv_room (by rw [e5.cat]; exact hc2.1.1)) hd ⟨by omega, by omega⟩) hc2.1.2 hc2.2 (fun v m2 hv => hv)
            · have hnl := hex.2.2.2.2.2.2.1 _ hns
              have hown0 : s.vm.findClass "HouseKeepers" = some m.cls := by rw [ho0] at hown; exact hown
              exact am_after F0x hJ0 e5 (va_runIN (As := (js.take (am_na k2)).reverse) (rest := jrest) (b := ad) ⟨hx, hb, hml, hown0, hts⟩ hMM ⟨va_cnB (am_na k2) (ws' := am_TB) hts hgd hwsM rfl rfl hnl (hts _ y4) x2 hRR, x3.mp hc, hts _ (y2 (by rw [hc]; decide))⟩ ⟨am_blind, am_pre (mem := mem) F0x hJ0⟩ rfl hlen (by rw [← hnL]; exact h5.2.1) hjs (lv_room (by rw [e5.cat]; exact hc2.1.1)) hd ⟨by omega, by omega⟩) hc2.1.2 hc2.2 (fun v m2 hv => hv)
          · exact h.elim
        · exact h.elim
      · exact h.elim
    · exact h.elim
end
section
/-- what the real machine does at a return -/
def am_Rt (p : Program) (l : Launch) (e : Env) (Rm : Room) (s : State) (m : MethodId) (args : Array Value) (below : List Frame) (meth : Method) (c : Code) (Q : State → Prop) (D : va_G) (A : Nat → Prop) (ea : Nat → Nat) (nL : Nat) (adr0 : List Nat) (k : Nat) (R : am_R) : Prop := ∀ (pc : Nat) (ls : am_L) (mem : am_M) (H : Heap) (locs : List Loc) (cells slots : Nat) (jl : Array Slot) (js : List Value) (adr : List Nat) (ws : va_W),
  (∀ x : Int32, am_J s D A ea nL Rm adr0 ls [.int x] mem H locs cells slots jl js adr ws → R (some (.int x)) mem → decode (am_by k) pc = .ok (.ireturn, 1) → (am_rt k = some .int ∨ (am_rt k = some .boolean ∧ (x = 0 ∨ x = 1))) → W p l e Rm s m args below meth c H locs cells slots Q (F0 m pc jl js)) ∧
  (∀ x : Int64, am_J s D A ea nL Rm adr0 ls [.long x] mem H locs cells slots jl js adr ws → R (some (.long x)) mem → decode (am_by k) pc = .ok (.lreturn, 1) → am_rt k = some .long → W p l e Rm s m args below meth c H locs cells slots Q (F0 m pc jl js)) ∧
  (am_J s D A ea nL Rm adr0 ls [] mem H locs cells slots jl js adr ws → R none mem → decode (am_by k) pc = .ok (.return_, 1) → am_rt k = none → W p l e Rm s m args below meth c H locs cells slots Q (F0 m pc jl js))
set_option maxHeartbeats 4000000 in
theorem am_sim {p : Program} {l : Launch} {e : Env} {Rm : Room} {s : State} {m : MethodId} {args : Array Value} {below : List Frame} {meth : Method} {c : Code} {Q : State → Prop} {D : va_G} {A : Nat → Prop} {ea : Nat → Nat} {nL : Nat} {adr0 : List Nat} {call : am_Fn} {R : am_R} {k : Nat} {X : am_X} {base d : Nat} (F : am_Fx p s m args meth c Rm k X base ea A D) (hC : am_Calls l base ea D d call) (hcd : am_Codes) (hRm : d + 2 ≤ Rm.frames ∧ 60 * (d + 1) + 60 ≤ Rm.locals) (hnL : nL = am_ml k) (hdec : ∀ (pc : Nat) (i : Instr) (n : Nat), am_code k pc = some (i, n) → decode (am_by k) pc = .ok (i, n)) (hjp : ∀ (pc : Nat) (i : Instr) (n : Nat), am_code k pc = some (i, n) → ∀ (cc9 : Jvm.ClassFile.Cond) (off : Int), i = .ifCond cc9 off ∨ i = .if_icmp cc9 off → 0 ≤ (pc : Int) + off) (hR : am_Rt p l e Rm s m args below meth c Q D A ea nL adr0 k R) : ∀ (pc : Nat) (ls : am_L) (st : List Value) (mem : am_M), am_do call (am_at X k pc ls st mem) (am_Sim p l e Rm s m args below meth c Q D A ea nL adr0) R → (am_Sim p l e Rm s m args below meth c Q D A ea nL adr0) pc ls st mem := by
  intro pc ls st mem h H locs cells slots jl js adr ws hJ
  obtain ⟨h0, h1, h2, h3, h4, h5, h6, h7, h8⟩ := id hJ
  obtain ⟨hx, hb, hown, hts, hK, hA, hG, hbs, hex, hsx, hin2, hml, hoC, hf1, hl1⟩ := id F
  unfold am_at at h
  split at h
  rotate_left
  · exact h.elim
  rename_i i n hcode
  split at h
  rotate_left
  · exact h.elim
  rename_i hn
  have hd := hdec pc i n hcode
  have hj := hjp pc i n hcode
  unfold am_step at h
  split at h
  · rename_i f hf
    cases i with
    | iadd =>
      have hn : n = 1 := hn
      subst hn
      cases hf
      exact sm_ibs h hJ (fun x y z js2 e9 hz kk => by subst e9; cases hz; exact lv_iadd hx hb hd kk)
    | isub =>
      have hn : n = 1 := hn
      subst hn
      cases hf
      exact sm_ibs h hJ (fun x y z js2 e9 hz kk => by subst e9; cases hz; exact lv_isub hx hb hd kk)
    | imul =>
      have hn : n = 1 := hn
      subst hn
      cases hf
      exact sm_ibs h hJ (fun x y z js2 e9 hz kk => by subst e9; cases hz; exact lv_imul hx hb hd kk)
    | iand =>
      have hn : n = 1 := hn
      subst hn
      cases hf
      exact sm_ibs h hJ (fun x y z js2 e9 hz kk => by subst e9; cases hz; exact lv_iand hx hb hd kk)
    | ior =>
      have hn : n = 1 := hn
      subst hn
      cases hf
      exact sm_ibs h hJ (fun x y z js2 e9 hz kk => by subst e9; cases hz; exact lv_ior hx hb hd kk)
    | ixor =>
      have hn : n = 1 := hn
      subst hn
      cases hf
      exact sm_ibs h hJ (fun x y z js2 e9 hz kk => by subst e9; cases hz; exact lv_ixor hx hb hd kk)
    | ishl =>
      have hn : n = 1 := hn
      subst hn
      cases hf
      exact sm_ibs h hJ (fun x y z js2 e9 hz kk => by subst e9; cases hz; exact lv_ishl hx hb hd kk)
    | ishr =>
      have hn : n = 1 := hn
      subst hn
      cases hf
      exact sm_ibs h hJ (fun x y z js2 e9 hz kk => by subst e9; cases hz; exact lv_ishr hx hb hd kk)
    | iushr =>
      have hn : n = 1 := hn
      subst hn
      cases hf
      exact sm_ibs h hJ (fun x y z js2 e9 hz kk => by subst e9; cases hz; exact lv_iushr hx hb hd rfl kk)
    | idiv =>
      have hn : n = 1 := hn
      subst hn
      cases hf
      exact sm_ibs h hJ (fun x y z js2 e9 hz kk => by
      subst e9
      split at hz
      · cases hz
      · rename_i hne
        cases hz
        exact lv_idiv hx hb hd hne kk)
    | irem =>
      have hn : n = 1 := hn
      subst hn
      cases hf
      exact sm_ibs h hJ (fun x y z js2 e9 hz kk => by
      subst e9
      split at hz
      · cases hz
      · rename_i hne
        cases hz
        exact lv_irem hx hb hd hne kk)
    | _ => cases hf
  split at h
  · rename_i f hf
    cases i with
    | ladd =>
      have hn : n = 1 := hn
      subst hn
      cases hf
      exact sm_lbs h hJ (fun x y z js2 e9 hz kk => by subst e9; cases hz; exact lv_ladd hx hb hd kk)
    | lsub =>
      have hn : n = 1 := hn
      subst hn
      cases hf
      exact sm_lbs h hJ (fun x y z js2 e9 hz kk => by subst e9; cases hz; exact lv_lsub hx hb hd kk)
    | lmul =>
      have hn : n = 1 := hn
      subst hn
      cases hf
      exact sm_lbs h hJ (fun x y z js2 e9 hz kk => by subst e9; cases hz; exact lv_lmul hx hb hd kk)
    | land =>
      have hn : n = 1 := hn
      subst hn
      cases hf
      exact sm_lbs h hJ (fun x y z js2 e9 hz kk => by subst e9; cases hz; exact lv_land hx hb hd kk)
    | lor =>
      have hn : n = 1 := hn
      subst hn
      cases hf
      exact sm_lbs h hJ (fun x y z js2 e9 hz kk => by subst e9; cases hz; exact lv_lor hx hb hd kk)
    | ldiv =>
      have hn : n = 1 := hn
      subst hn
      cases hf
      exact sm_lbs h hJ (fun x y z js2 e9 hz kk => by
        subst e9
        split at hz
        · cases hz
        · rename_i hne
          cases hz
          exact lv_ldiv hx hb hd hne kk)
    | lrem =>
      have hn : n = 1 := hn
      subst hn
      cases hf
      exact sm_lbs h hJ (fun x y z js2 e9 hz kk => by
        subst e9
        split at hz
        · cases hz
        · rename_i hne
          cases hz
          exact lv_lrem hx hb hd hne kk)
    | _ => cases hf
  · cases i with
    | iconst n9 =>
      have hn : n = 1 := hn
      subst hn
      exact lv_iconst hx hb hd rfl (h _ _ _ _ _ _ _ _ ⟨h0, h1, h2, h3, h4, h5, ⟨_, _, rfl, rfl, h6⟩, h7, h8⟩)
    | bipush n9 =>
      have hn : n = 2 := hn
      subst hn
      exact lv_bipush hx hb hd rfl (h _ _ _ _ _ _ _ _ ⟨h0, h1, h2, h3, h4, h5, ⟨_, _, rfl, rfl, h6⟩, h7, h8⟩)
    | sipush n9 =>
      have hn : n = 3 := hn
      subst hn
      exact lv_sipush hx hb hd rfl (h _ _ _ _ _ _ _ _ ⟨h0, h1, h2, h3, h4, h5, ⟨_, _, rfl, rfl, h6⟩, h7, h8⟩)
    | lconst n9 =>
      have hn : n = 1 := hn
      subst hn
      exact lv_lconst hx hb hd rfl (h _ _ _ _ _ _ _ _ ⟨h0, h1, h2, h3, h4, h5, ⟨_, _, rfl, rfl, h6⟩, h7, h8⟩)
    | ldc j =>
      have hn : n = 2 := hn
      subst hn
      simp only [am_misc] at h
      split at h
      · rename_i v hv
        exact lv_ldc hx hb hown (hts _ (am_ci_ok hoC hv)) hd (h _ _ _ _ _ _ _ _ ⟨h0, h1, h2, h3, h4, h5, ⟨_, _, rfl, rfl, h6⟩, h7, h8⟩)
      · split at h
        · rename_i hs
          exact va_ldcS hx hb hown (am_sr_ok hoC hex hs) hd (h _ _ _ _ _ _ _ _ ⟨h0, h1, h2, h3, h4, h5, ⟨_, _, rfl, rfl, h6⟩, h7, h8⟩)
        · exact h.elim
    | ldc_w j =>
      have hn : n = 3 := hn
      subst hn
      simp only [am_misc] at h
      split at h
      · rename_i v hv
        exact lv_ldcw hx hb hown (hts _ (am_ci_ok hoC hv)) hd (h _ _ _ _ _ _ _ _ ⟨h0, h1, h2, h3, h4, h5, ⟨_, _, rfl, rfl, h6⟩, h7, h8⟩)
      · exact h.elim
    | ldc2_w j =>
      have hn : n = 3 := hn
      subst hn
      simp only [am_misc] at h
      split at h
      · rename_i v hv
        exact lv_ldc2 hx hb hown (hts _ (am_cj_ok hoC hv)) hd (h _ _ _ _ _ _ _ _ ⟨h0, h1, h2, h3, h4, h5, ⟨_, _, rfl, rfl, h6⟩, h7, h8⟩)
      · exact h.elim
    | iload j =>
      have hn : n = 2 := hn
      subst hn
      exact sm_ild h hJ (fun x hl kk => lv_iload hx hb hd hl kk)
    | iload_n j =>
      have hn : n = 1 := hn
      subst hn
      exact sm_ild h hJ (fun x hl kk => lv_iload_n hx hb hd rfl hl kk)
    | lload j =>
      have hn : n = 2 := hn
      subst hn
      exact sm_lld h hJ (fun x hl kk => lv_lload hx hb hd hl kk)
    | lload_n j =>
      have hn : n = 1 := hn
      subst hn
      exact sm_lld h hJ (fun x hl kk => lv_lload_n hx hb hd rfl hl kk)
    | aload j =>
      have hn : n = 2 := hn
      subst hn
      exact sm_ald h hJ (fun x hl kk => lv_aload hx hb hd hl kk)
    | aload_n j =>
      have hn : n = 1 := hn
      subst hn
      exact sm_ald h hJ (fun x hl kk => lv_aload_n hx hb hd rfl hl kk)
    | istore j =>
      have hn : n = 2 := hn
      subst hn
      exact sm_ist h hJ (fun x js2 lv e9 hl hn9 kk => by subst e9; exact lv_istore hx hb hd hl hn9 rfl kk)
    | istore_n j =>
      have hn : n = 1 := hn
      subst hn
      exact sm_ist h hJ (fun x js2 lv e9 hl hn9 kk => by subst e9; exact lv_istore_n hx hb hd rfl hl hn9 rfl kk)
    | lstore j =>
      have hn : n = 2 := hn
      subst hn
      exact sm_lst h hJ (fun x js2 lv e9 hl hn9 kk => by subst e9; exact lv_lstore hx hb hd hl hn9 rfl kk)
    | lstore_n j =>
      have hn : n = 1 := hn
      subst hn
      exact sm_lst h hJ (fun x js2 lv e9 hl hn9 kk => by subst e9; exact lv_lstore_n hx hb hd rfl hl hn9 rfl kk)
    | astore j =>
      have hn : n = 2 := hn
      subst hn
      exact sm_ast h hJ (fun x js2 lv e9 hl hn9 kk => by subst e9; exact lv_astore hx hb hd hl hn9 rfl kk)
    | astore_n j =>
      have hn : n = 1 := hn
      subst hn
      exact sm_ast h hJ (fun x js2 lv e9 hl hn9 kk => by subst e9; exact lv_astore_n hx hb hd rfl hl hn9 rfl kk)
    | iinc j n9 =>
      have hn : n = 3 := hn
      subst hn
      exact sm_iic h hJ (fun x lv k9 hl hk9 hn9 kk => lv_iinc hx hb hd hl hk9 rfl hn9 rfl kk)
    | iaload =>
      have hn : n = 1 := hn
      subst hn
      exact sm_iald F hb hd h hJ
    | baload =>
      have hn : n = 1 := hn
      subst hn
      exact sm_bald F hb hd h hJ
    | laload =>
      have hn : n = 1 := hn
      subst hn
      exact sm_lald F hb hd h hJ
    | aaload =>
      have hn : n = 1 := hn
      subst hn
      exact sm_aald F hb hd h hJ
    | iastore =>
      have hn : n = 1 := hn
      subst hn
      exact sm_iast F hb hd h hJ
    | bastore =>
      have hn : n = 1 := hn
      subst hn
      exact sm_bast F hb hd h hJ
    | lastore =>
      have hn : n = 1 := hn
      subst hn
      exact sm_last F hb hd h hJ
    | arraylength =>
      have hn : n = 1 := hn
      subst hn
      exact sm_alen F hb hd h hJ
    | ineg =>
      have hn : n = 1 := hn
      subst hn
      simp only [am_misc] at h
      split at h
      · rename_i x st2
        obtain ⟨w1, l1, e1, e2, e5⟩ := h6
        have e2 : w1 = .int x := e2
        subst e2; subst e1
        exact lv_ineg hx hb hd (h _ _ _ _ _ _ _ _ ⟨h0, h1, h2, h3, h4, h5, ⟨_, _, rfl, rfl, e5⟩, h7, h8⟩)
      · exact h.elim
    | i2l =>
      have hn : n = 1 := hn
      subst hn
      simp only [am_misc] at h
      split at h
      · rename_i x st2
        obtain ⟨w1, l1, e1, e2, e5⟩ := h6
        have e2 : w1 = .int x := e2
        subst e2; subst e1
        exact lv_i2l hx hb hd rfl (h _ _ _ _ _ _ _ _ ⟨h0, h1, h2, h3, h4, h5, ⟨_, _, rfl, rfl, e5⟩, h7, h8⟩)
      · exact h.elim
    | l2i =>
      have hn : n = 1 := hn
      subst hn
      simp only [am_misc] at h
      split at h
      · rename_i x st2
        obtain ⟨w1, l1, e1, e2, e5⟩ := h6
        have e2 : w1 = .long x := e2
        subst e2; subst e1
        exact lv_l2i hx hb hd rfl (h _ _ _ _ _ _ _ _ ⟨h0, h1, h2, h3, h4, h5, ⟨_, _, rfl, rfl, e5⟩, h7, h8⟩)
      · exact h.elim
    | i2b =>
      have hn : n = 1 := hn
      subst hn
      simp only [am_misc] at h
      split at h
      · rename_i x st2
        obtain ⟨w1, l1, e1, e2, e5⟩ := h6
        have e2 : w1 = .int x := e2
        subst e2; subst e1
        exact lv_i2b hx hb hd rfl (h _ _ _ _ _ _ _ _ ⟨h0, h1, h2, h3, h4, h5, ⟨_, _, rfl, rfl, e5⟩, h7, h8⟩)
      · exact h.elim
    | i2c =>
      have hn : n = 1 := hn
      subst hn
      simp only [am_misc] at h
      split at h
      · rename_i x st2
        obtain ⟨w1, l1, e1, e2, e5⟩ := h6
        have e2 : w1 = .int x := e2
        subst e2; subst e1
        exact lv_i2c hx hb hd rfl (h _ _ _ _ _ _ _ _ ⟨h0, h1, h2, h3, h4, h5, ⟨_, _, rfl, rfl, e5⟩, h7, h8⟩)
      · exact h.elim
    | lshl =>
      have hn : n = 1 := hn
      subst hn
      simp only [am_misc] at h
      split at h
      · rename_i y x st2
        obtain ⟨w1, l1, e1, e2, w2, l2, e3, e4, e5⟩ := h6
        have e2 : w1 = .int y := e2
        have e4 : w2 = .long x := e4
        subst e2; subst e4; subst e3; subst e1
        exact lv_lshl hx hb hd rfl (h _ _ _ _ _ _ _ _ ⟨h0, h1, h2, h3, h4, h5, ⟨_, _, rfl, rfl, e5⟩, h7, h8⟩)
      · exact h.elim
    | lshr =>
      have hn : n = 1 := hn
      subst hn
      simp only [am_misc] at h
      split at h
      · rename_i y x st2
        obtain ⟨w1, l1, e1, e2, w2, l2, e3, e4, e5⟩ := h6
        have e2 : w1 = .int y := e2
        have e4 : w2 = .long x := e4
        subst e2; subst e4; subst e3; subst e1
        exact lv_lshr hx hb hd rfl (h _ _ _ _ _ _ _ _ ⟨h0, h1, h2, h3, h4, h5, ⟨_, _, rfl, rfl, e5⟩, h7, h8⟩)
      · exact h.elim
    | lushr =>
      have hn : n = 1 := hn
      subst hn
      simp only [am_misc] at h
      split at h
      · rename_i y x st2
        obtain ⟨w1, l1, e1, e2, w2, l2, e3, e4, e5⟩ := h6
        have e2 : w1 = .int y := e2
        have e4 : w2 = .long x := e4
        subst e2; subst e4; subst e3; subst e1
        exact lv_lushr hx hb hd rfl (h _ _ _ _ _ _ _ _ ⟨h0, h1, h2, h3, h4, h5, ⟨_, _, rfl, rfl, e5⟩, h7, h8⟩)
      · exact h.elim
    | lcmp =>
      have hn : n = 1 := hn
      subst hn
      simp only [am_misc] at h
      split at h
      · rename_i y x st2
        obtain ⟨w1, l1, e1, e2, w2, l2, e3, e4, e5⟩ := h6
        have e2 : w1 = .long y := e2
        have e4 : w2 = .long x := e4
        subst e2; subst e4; subst e3; subst e1
        exact W.lcmp hx hb hd (h _ _ _ _ _ _ _ _ ⟨h0, h1, h2, h3, h4, h5, ⟨_, _, rfl, rfl, e5⟩, h7, h8⟩)
      · exact h.elim
    | dup =>
      have hn : n = 1 := hn
      subst hn
      simp only [am_misc] at h
      split at h
      · rename_i a st2
        obtain ⟨w1, l1, e1, e2, e5⟩ := h6
        subst e1
        split at h
        · rename_i hc
          exact lv_dup hx hb hd (e2.cat.trans hc) (h _ _ _ _ _ _ _ _ ⟨h0, h1, h2, h3, h4, h5, ⟨_, _, rfl, e2, _, _, rfl, e2, e5⟩, h7, h8⟩)
        · exact h.elim
      · exact h.elim
    | dup_x1 =>
      have hn : n = 1 := hn
      subst hn
      simp only [am_misc] at h
      split at h
      · rename_i a b st2
        obtain ⟨w1, l1, e1, e2, w2, l2, e3, e4, e5⟩ := h6
        subst e3; subst e1
        split at h
        · rename_i hc
          exact lv_dup_x1 hx hb hd (e2.cat.trans hc.1) (e4.cat.trans hc.2) (h _ _ _ _ _ _ _ _ ⟨h0, h1, h2, h3, h4, h5, ⟨_, _, rfl, e2, _, _, rfl, e4, _, _, rfl, e2, e5⟩, h7, h8⟩)
        · exact h.elim
      · exact h.elim
    | dup2 =>
      have hn : n = 1 := hn
      subst hn
      simp only [am_misc] at h
      split at h
      · rename_i a b st2
        obtain ⟨w1, l1, e1, e2, w2, l2, e3, e4, e5⟩ := h6
        subst e3; subst e1
        split at h
        · rename_i hc
          exact lv_dup2_11 hx hb hd (e2.cat.trans hc.1) (e4.cat.trans hc.2) (h _ _ _ _ _ _ _ _ ⟨h0, h1, h2, h3, h4, h5, ⟨_, _, rfl, e2, _, _, rfl, e4, _, _, rfl, e2, _, _, rfl, e4, e5⟩, h7, h8⟩)
        · exact h.elim
      · exact h.elim
    | ifCond cc9 off =>
      have hn : n = 3 := hn
      subst hn
      have hoffs : ∀ o9 : Int, o9 = off → 0 ≤ (pc : Int) + o9 := fun o9 ho9 => by rw [ho9]; exact hj cc9 off (Or.inl rfl)
      simp only [am_misc] at h
      split at h
      · rename_i x st2
        obtain ⟨w1, l1, e1, e2, e5⟩ := h6
        have e2 : w1 = .int x := e2
        subst e2; subst e1
        by_cases hcnd : am_cmp cc9 x 0 = true
        · rw [if_pos hcnd] at h
          obtain ⟨t9, ht9, hk9⟩ := sm_to h
          have hgo : am_cmp cc9 x 0 = true → W p l e Rm s m args below meth c H locs cells slots Q (F0 m t9 jl l1) := fun _ => hk9 _ _ _ _ _ _ _ _ ⟨h0, h1, h2, h3, h4, h5, e5, h7, h8⟩
          have hfall : ¬ am_cmp cc9 x 0 = true → W p l e Rm s m args below meth c H locs cells slots Q (F0 m (pc + 3) jl l1) := fun q => absurd hcnd q
          cases cc9 with
          | eq =>
            have hnt : am_cmp .eq x 0 = true ↔ _ := decide_eq_true_iff
            exact lv_if_eq hx hb hd (tgt := t9) ht9 (fun hcc => hgo (hnt.mpr hcc)) (fun hcc => hfall (fun q => hcc (hnt.mp q)))
          | ne =>
            have hnt : am_cmp .ne x 0 = true ↔ _ := decide_eq_true_iff
            exact lv_if_ne hx hb hd (tgt := t9) ht9 (fun hcc => hgo (hnt.mpr hcc)) (fun hcc => hfall (fun q => hnt.mp q hcc))
          | lt =>
            have hnt : am_cmp .lt x 0 = true ↔ _ := decide_eq_true_iff
            exact lv_if_lt hx hb hd (tgt := t9) ht9 (fun hcc => hgo (hnt.mpr hcc)) (fun hcc => hfall (fun q => hcc (hnt.mp q)))
          | ge =>
            have hnt : am_cmp .ge x 0 = true ↔ _ := decide_eq_true_iff
            exact lv_if_ge hx hb hd (tgt := t9) ht9 (fun hcc => hgo (hnt.mpr hcc)) (fun hcc => hfall (fun q => hcc (hnt.mp q)))
          | gt =>
            have hnt : am_cmp .gt x 0 = true ↔ _ := decide_eq_true_iff
            exact lv_if_gt hx hb hd (tgt := t9) ht9 (fun hcc => hgo (hnt.mpr hcc)) (fun hcc => hfall (fun q => hcc (hnt.mp q)))
          | le =>
            have hnt : am_cmp .le x 0 = true ↔ _ := decide_eq_true_iff
            exact lv_if_le hx hb hd (tgt := t9) ht9 (fun hcc => hgo (hnt.mpr hcc)) (fun hcc => hfall (fun q => hcc (hnt.mp q)))
        · rw [if_neg hcnd] at h
          have hfall : ¬ am_cmp cc9 x 0 = true → W p l e Rm s m args below meth c H locs cells slots Q (F0 m (pc + 3) jl l1) := fun _ => h _ _ _ _ _ _ _ _ ⟨h0, h1, h2, h3, h4, h5, e5, h7, h8⟩
          by_cases hoff : 0 ≤ (pc : Int) + off
          · obtain ⟨t9, ht9⟩ : ∃ t9 : Nat, (pc : Int) + off = (t9 : Int) := ⟨((pc : Int) + off).toNat, (Int.toNat_of_nonneg hoff).symm⟩
            have hgo : am_cmp cc9 x 0 = true → W p l e Rm s m args below meth c H locs cells slots Q (F0 m t9 jl l1) := fun q => absurd q hcnd
            cases cc9 with
            | eq =>
              have hnt : am_cmp .eq x 0 = true ↔ _ := decide_eq_true_iff
              exact lv_if_eq hx hb hd (tgt := t9) ht9 (fun hcc => hgo (hnt.mpr hcc)) (fun hcc => hfall (fun q => hcc (hnt.mp q)))
            | ne =>
              have hnt : am_cmp .ne x 0 = true ↔ _ := decide_eq_true_iff
              exact lv_if_ne hx hb hd (tgt := t9) ht9 (fun hcc => hgo (hnt.mpr hcc)) (fun hcc => hfall (fun q => hnt.mp q hcc))
            | lt =>
              have hnt : am_cmp .lt x 0 = true ↔ _ := decide_eq_true_iff
              exact lv_if_lt hx hb hd (tgt := t9) ht9 (fun hcc => hgo (hnt.mpr hcc)) (fun hcc => hfall (fun q => hcc (hnt.mp q)))
            | ge =>
              have hnt : am_cmp .ge x 0 = true ↔ _ := decide_eq_true_iff
              exact lv_if_ge hx hb hd (tgt := t9) ht9 (fun hcc => hgo (hnt.mpr hcc)) (fun hcc => hfall (fun q => hcc (hnt.mp q)))
            | gt =>
              have hnt : am_cmp .gt x 0 = true ↔ _ := decide_eq_true_iff
              exact lv_if_gt hx hb hd (tgt := t9) ht9 (fun hcc => hgo (hnt.mpr hcc)) (fun hcc => hfall (fun q => hcc (hnt.mp q)))
            | le =>
              have hnt : am_cmp .le x 0 = true ↔ _ := decide_eq_true_iff
              exact lv_if_le hx hb hd (tgt := t9) ht9 (fun hcc => hgo (hnt.mpr hcc)) (fun hcc => hfall (fun q => hcc (hnt.mp q)))
          · exact absurd hoff (not_not_intro (hoffs off rfl))
      · exact h.elim
    | if_icmp cc9 off =>
      have hn : n = 3 := hn
      subst hn
      have hoffs : ∀ o9 : Int, o9 = off → 0 ≤ (pc : Int) + o9 := fun o9 ho9 => by rw [ho9]; exact hj cc9 off (Or.inr rfl)
      simp only [am_misc] at h
      split at h
      · rename_i y x st2
        obtain ⟨w1, l1, e1, e2, w2, l2, e3, e4, e5⟩ := h6
        have e2 : w1 = .int y := e2
        have e4 : w2 = .int x := e4
        subst e2; subst e4; subst e3; subst e1
        by_cases hcnd : am_cmp cc9 x y = true
        · rw [if_pos hcnd] at h
          obtain ⟨t9, ht9, hk9⟩ := sm_to h
          have hgo : am_cmp cc9 x y = true → W p l e Rm s m args below meth c H locs cells slots Q (F0 m t9 jl l2) := fun _ => hk9 _ _ _ _ _ _ _ _ ⟨h0, h1, h2, h3, h4, h5, e5, h7, h8⟩
          have hfall : ¬ am_cmp cc9 x y = true → W p l e Rm s m args below meth c H locs cells slots Q (F0 m (pc + 3) jl l2) := fun q => absurd hcnd q
          cases cc9 with
          | eq =>
            have hnt : am_cmp .eq x y = true ↔ _ := decide_eq_true_iff
            exact lv_icmp_eq hx hb hd (tgt := t9) ht9 (fun hcc => hgo (hnt.mpr hcc)) (fun hcc => hfall (fun q => hcc (hnt.mp q)))
          | ne =>
            have hnt : am_cmp .ne x y = true ↔ _ := decide_eq_true_iff
            exact lv_icmp_ne hx hb hd (tgt := t9) ht9 (fun hcc => hgo (hnt.mpr hcc)) (fun hcc => hfall (fun q => hnt.mp q hcc))
          | lt =>
            have hnt : am_cmp .lt x y = true ↔ _ := decide_eq_true_iff
            exact lv_icmp_lt hx hb hd (tgt := t9) ht9 (fun hcc => hgo (hnt.mpr hcc)) (fun hcc => hfall (fun q => hcc (hnt.mp q)))
          | ge =>
            have hnt : am_cmp .ge x y = true ↔ _ := decide_eq_true_iff
            exact lv_icmp_ge hx hb hd (tgt := t9) ht9 (fun hcc => hgo (hnt.mpr hcc)) (fun hcc => hfall (fun q => hcc (hnt.mp q)))
          | gt =>
            have hnt : am_cmp .gt x y = true ↔ _ := decide_eq_true_iff
            exact lv_icmp_gt hx hb hd (tgt := t9) ht9 (fun hcc => hgo (hnt.mpr hcc)) (fun hcc => hfall (fun q => hcc (hnt.mp q)))
          | le =>
            have hnt : am_cmp .le x y = true ↔ _ := decide_eq_true_iff
            exact lv_icmp_le hx hb hd (tgt := t9) ht9 (fun hcc => hgo (hnt.mpr hcc)) (fun hcc => hfall (fun q => hcc (hnt.mp q)))
        · rw [if_neg hcnd] at h
          have hfall : ¬ am_cmp cc9 x y = true → W p l e Rm s m args below meth c H locs cells slots Q (F0 m (pc + 3) jl l2) := fun _ => h _ _ _ _ _ _ _ _ ⟨h0, h1, h2, h3, h4, h5, e5, h7, h8⟩
          by_cases hoff : 0 ≤ (pc : Int) + off
          · obtain ⟨t9, ht9⟩ : ∃ t9 : Nat, (pc : Int) + off = (t9 : Int) := ⟨((pc : Int) + off).toNat, (Int.toNat_of_nonneg hoff).symm⟩
            have hgo : am_cmp cc9 x y = true → W p l e Rm s m args below meth c H locs cells slots Q (F0 m t9 jl l2) := fun q => absurd q hcnd
            cases cc9 with
            | eq =>
              have hnt : am_cmp .eq x y = true ↔ _ := decide_eq_true_iff
              exact lv_icmp_eq hx hb hd (tgt := t9) ht9 (fun hcc => hgo (hnt.mpr hcc)) (fun hcc => hfall (fun q => hcc (hnt.mp q)))
            | ne =>
              have hnt : am_cmp .ne x y = true ↔ _ := decide_eq_true_iff
              exact lv_icmp_ne hx hb hd (tgt := t9) ht9 (fun hcc => hgo (hnt.mpr hcc)) (fun hcc => hfall (fun q => hnt.mp q hcc))
            | lt =>
              have hnt : am_cmp .lt x y = true ↔ _ := decide_eq_true_iff
              exact lv_icmp_lt hx hb hd (tgt := t9) ht9 (fun hcc => hgo (hnt.mpr hcc)) (fun hcc => hfall (fun q => hcc (hnt.mp q)))
            | ge =>
              have hnt : am_cmp .ge x y = true ↔ _ := decide_eq_true_iff
              exact lv_icmp_ge hx hb hd (tgt := t9) ht9 (fun hcc => hgo (hnt.mpr hcc)) (fun hcc => hfall (fun q => hcc (hnt.mp q)))
            | gt =>
              have hnt : am_cmp .gt x y = true ↔ _ := decide_eq_true_iff
              exact lv_icmp_gt hx hb hd (tgt := t9) ht9 (fun hcc => hgo (hnt.mpr hcc)) (fun hcc => hfall (fun q => hcc (hnt.mp q)))
            | le =>
              have hnt : am_cmp .le x y = true ↔ _ := decide_eq_true_iff
              exact lv_icmp_le hx hb hd (tgt := t9) ht9 (fun hcc => hgo (hnt.mpr hcc)) (fun hcc => hfall (fun q => hcc (hnt.mp q)))
          · exact absurd hoff (not_not_intro (hoffs off rfl))
      · exact h.elim
    | goto off =>
      have hn : n = 3 := hn
      subst hn
      obtain ⟨t9, ht9, hk9⟩ := sm_to (off := off) h
      exact lv_goto hx hb hd ht9 (hk9 _ _ _ _ _ _ _ _ hJ)
    | tableswitch dd lo hi offs =>
      simp only [am_misc] at h
      split at h
      · rename_i x st2
        obtain ⟨w1, l1, e1, e2, e5⟩ := h6
        have e2 : w1 = .int x := e2
        subst e2; subst e1
        split at h
        · rename_i hout
          obtain ⟨t9, ht9, hk9⟩ := sm_to h
          exact lv_tableOut hx hb hd hout ht9 (hk9 _ _ _ _ _ _ _ _ ⟨h0, h1, h2, h3, h4, h5, e5, h7, h8⟩)
        · rename_i hout
          split at h
          · rename_i o9 ho9
            obtain ⟨t9, ht9, hk9⟩ := sm_to h
            exact lv_tableIn hx hb hd (fun q => hout (Or.inl q)) (fun q => hout (Or.inr q)) ho9 ht9 (hk9 _ _ _ _ _ _ _ _ ⟨h0, h1, h2, h3, h4, h5, e5, h7, h8⟩)
          · exact h.elim
      · exact h.elim
    | getstatic j =>
      have hn : n = 3 := hn
      subst hn
      simp only [am_misc] at h
      split at h
      · rename_i v hv
        obtain ⟨C9, n9, d9, w9, g1, g2, g3⟩ := am_sta_ok hoC hex hv
        exact va_gets hx hb (va_Z.narrow g1 hG) h4 hown (hts _ g2) (fun _ h9 => h9) hd (h _ _ _ _ _ _ _ _ ⟨h0, h1, h2, h3, h4, h5, ⟨_, _, rfl, g3 adr, h6⟩, h7, h8⟩)
      · exact h.elim
    | getfield j =>
      have hn : n = 3 := hn
      subst hn
      exact sm_getf F hb hd h hJ
    | putfield j =>
      have hn : n = 3 := hn
      subst hn
      exact sm_putf F hb hd h hJ
    | new j =>
      have hn : n = 3 := hn
      subst hn
      exact sm_new F hb hd h hJ
    | newarray t9 =>
      have hn : n = 2 := hn
      subst hn
      exact sm_newa F hb hd h hJ
    | multianewarray j dd =>
      have hn : n = 4 := hn
      subst hn
      simp only [am_misc] at h
      split at h
      · rename_i hdd
        subst hdd
        exact sm_mna F hb hd h hJ
      · exact h.elim
    | invokevirtual j =>
      have hn : n = 3 := hn
      subst hn
      exact sm_invv F hC hcd hRm hnL hb hd h hJ
    | invokestatic j =>
      have hn : n = 3 := hn
      subst hn
      exact sm_invs F hC hcd hRm hnL hb hd h hJ
    | invokespecial j =>
      have hn : n = 3 := hn
      subst hn
      exact sm_invi F hC hcd hRm hnL hb hd h hJ
    | ireturn =>
      have hn : n = 1 := hn
      subst hn
      have h : am_do call (am_iret k st mem) (am_Sim p l e Rm s m args below meth c Q D A ea nL adr0) R := h
      unfold am_iret at h
      split at h
      · rename_i v h9
        split at h
        · rename_i hrt
          exact (hR pc ls mem H locs cells slots jl js adr ws).1 v hJ h hd (Or.inl hrt)
        · rename_i hrt
          split at h
          · rename_i hv
            exact (hR pc ls mem H locs cells slots jl js adr ws).1 v hJ h hd (Or.inr ⟨hrt, hv⟩)
          · exact h.elim
        · exact h.elim
      · exact h.elim
    | lreturn =>
      have hn : n = 1 := hn
      subst hn
      have h : am_do call (am_lret k st mem) (am_Sim p l e Rm s m args below meth c Q D A ea nL adr0) R := h
      unfold am_lret at h
      split at h
      · rename_i v h9
        split at h
        · rename_i hrt
          exact (hR pc ls mem H locs cells slots jl js adr ws).2.1 v hJ h hd hrt
        · exact h.elim
      · exact h.elim
    | return_ =>
      have hn : n = 1 := hn
      subst hn
      have h : am_do call (am_vret k st mem) (am_Sim p l e Rm s m args below meth c Q D A ea nL adr0) R := h
      unfold am_vret at h
      split at h
      · split at h
        · rename_i hrt
          exact (hR pc ls mem H locs cells slots jl js adr ws).2.2 hJ h hd hrt
        · exact h.elim
      · exact h.elim
    | _ => exact h.elim
end
section
theorem am_ent_len {adr : List Nat} {ea : Nat → Nat} : ∀ {as jas : List Value}, am_vs adr ea as jas → (lg_sl jas).length = (am_ent as).length
  | [], jas, h => by rw [show jas = [] from h]; rfl
  | v :: as, jas, ⟨w, l, e, h1, h2⟩ => by
    subst e
    have ih := am_ent_len h2
    simp only [lg_sl, List.flatMap_cons, List.length_append, am_ent] at ih ⊢
    rw [h1.cat]
    by_cases hc : v.category = 2
    · rw [if_pos hc, if_pos hc]; simp [ih]; omega
    · rw [if_neg hc, if_neg hc]; simp [ih]; omega
theorem am_ent_at {adr : List Nat} {ea : Nat → Nat} : ∀ {as jas : List Value}, am_vs adr ea as jas → ∀ (o i : Nat) (v : Value), (am_ent as)[i]? = some (some v) → ∃ w, (o + i, w) ∈ lv_args o jas ∧ am_v adr ea v w
  | [], jas, h, o, i, v, hi => by simp [am_ent] at hi
  | u :: as, jas, ⟨w, l, e, h1, h2⟩, o, i, v, hi => by
    subst e
    simp only [am_ent] at hi
    simp only [lv_args]
    rw [h1.cat]
    by_cases hc : u.category = 2
    · rw [if_pos hc] at hi ⊢
      cases i with
      | zero =>
        simp at hi
        subst hi
        exact ⟨w, List.mem_cons_self, h1⟩
      | succ i =>
        cases i with
        | zero => simp at hi
        | succ i =>
          simp at hi
          obtain ⟨w', g1, g2⟩ := am_ent_at h2 (o + 2) i v hi
          exact ⟨w', List.mem_cons_of_mem _ (by rw [show o + (i + 1 + 1) = o + 2 + i by omega]; exact g1), g2⟩
    · rw [if_neg hc] at hi ⊢
      cases i with
      | zero =>
        simp at hi
        subst hi
        exact ⟨w, List.mem_cons_self, h1⟩
      | succ i =>
        simp at hi
        obtain ⟨w', g1, g2⟩ := am_ent_at h2 (o + 1) i v hi
        exact ⟨w', List.mem_cons_of_mem _ (by rw [show o + (i + 1) = o + 1 + i by omega]; exact g1), g2⟩
theorem am_ent_ls {adr : List Nat} {ea : Nat → Nat} {as jas : List Value} (h : am_vs adr ea as jas) {n : Nat} (hn : (am_ent as).length ≤ n) : am_ls adr ea n (am_pad (am_ent as) n) ((lg_sl jas ++ List.replicate (n - (lg_sl jas).length) Slot.unset).toArray) := by
  have hl := lv_entry jas (n := n) (by rw [am_ent_len h]; exact hn)
  refine ⟨by simp [am_pad]; omega, hl.1, hl.2.1, fun i v hi => ?_⟩
  unfold am_pad at hi
  by_cases hlt : i < (am_ent as).length
  · rw [List.getElem?_append_left hlt] at hi
    obtain ⟨w, g1, g2⟩ := am_ent_at h 0 i v hi
    rw [Nat.zero_add] at g1
    exact ⟨w, hl.2.2 (i, w) g1, g2⟩
  · rw [List.getElem?_append_right (by omega), List.getElem?_replicate] at hi
    split at hi <;> cases hi
def am_Decs : Prop := ∀ k, k < am_nM → ∀ (pc : Nat) (i : Instr) (n : Nat), am_code k pc = some (i, n) → decode (am_by k) pc = .ok (i, n)
def am_Jps : Prop := ∀ k, k < am_nM → ∀ (pc : Nat) (i : Instr) (n : Nat), am_code k pc = some (i, n) → ∀ (cc9 : Jvm.ClassFile.Cond) (off : Int), i = .ifCond cc9 off ∨ i = .if_icmp cc9 off → 0 ≤ (pc : Int) + off
theorem am_weakS {p : Program} {l : Launch} {e : Env} {Rm : Room} {s : State} {m : MethodId} {args : Array Value} {below : List Frame} {meth : Method} {c : Code} {Q : State → Prop} {D : va_G} {A : Nat → Prop} {ea : Nat → Nat} {nL : Nat} {adr0 : List Nat}  : ∀ (pc : Nat) (ls ls' : am_L) (st : List Value) (mem : am_M), am_le ls' ls → (am_Sim p l e Rm s m args below meth c Q D A ea nL adr0) pc ls' st mem → (am_Sim p l e Rm s m args below meth c Q D A ea nL adr0) pc ls st mem := by
  intro pc ls ls' st mem hle h H locs cells slots jl js adr ws hJ
  obtain ⟨h0, h1, h2, h3, h4, h5, h6, h7, h8⟩ := hJ
  exact h _ _ _ _ _ _ _ _ ⟨h0, h1, h2, h3, h4, h5.le hle, h6, h7, h8⟩
theorem am_D_adr {s : State} {adr : List Nat} {ea : Nat → Nat} {hp : List am_C} {ws : va_W} {A B : Nat → Prop} (h1 : am_w s adr ea hp ws) (hD : va_D B ws) (hA : ∀ q ∈ adr, A q) : va_D A ws :=
  hD.weaken (fun k q hk _ => by
    have hl : k < hp.length := by rw [← h1.2.1]; exact (List.getElem?_eq_some_iff.mp hk).1
    obtain ⟨a, e, g1, g2, -⟩ := h1.2.2 k _ (List.getElem?_eq_getElem hl)
    rw [hk] at g2
    cases g2
    exact hA _ (List.mem_of_getElem? g1))
set_option maxHeartbeats 2000000 in
theorem am_met (l : Launch) (base : Nat) (ea : Nat → Nat) (D : va_G) (hcd : am_Codes) (hdc : am_Decs) (hjp : am_Jps) (d : Nat) (hC : am_Calls l base ea D d (am_meth d)) : am_Calls l base ea D (d + 1) (am_meth (d + 1)) := by
  intro k as hp9 R hk h
  by_cases hp : am_isp k = true
  · refine Or.inl ⟨hp, ?_⟩
    simp only [am_meth] at h
    rw [if_pos hp] at h
    exact h
  · simp only [am_meth] at h
    rw [if_neg hp] at h
    obtain ⟨hlen, hrun⟩ := h
    have hp2 : am_isp k = false := by simpa using hp
    refine Or.inr ⟨hp2, fun adr jas sz hvs => ?_⟩
    have hnm : k < am_nM := by
      rcases hk with q | q
      · exact q
      · rw [q] at hp2; exact absurd hp2 (by simp [am_isp])
    obtain ⟨x1, x2, x3, x4, x5, x6⟩ := am_mn hnm
    have hpl : plainName (am_y k).cls = true := by
      rcases x1 with q | q
      · exact q
      · exact absurd hp2 (by simp [am_isp, q])
    refine Met.ofW (cc := am_by k) (maxL := am_ml k) (ret := am_rt k) hpl (ws' := am_TB) rfl ?_
    intro p e s m args below meth c s1 B hml hv
    obtain ⟨rfl, hsz, hbase, hadr, ⟨ws, hw, hP, hD⟩, hK, hex⟩ := hv
    subst hsz
    have hlocks := B.notSynchronized
    have hts0 := atoms_spec (ws := am_wsM k) B.pre
    have hts : ∀ w ∈ am_TB, w.before jas.toArray s = true := fun w hw9 => hts0 w (List.mem_cons_of_mem _ hw9)
    have hown : s.vm.findClass (am_cn (am_own k)) = some m.cls := findClass_of_methodNamed B.named
    have hr := B.returns
    have hb := B.bytes
    have hx := B.exec
    have hA : ∀ q : Nat, s.heap.size ≤ q → am_A adr s.heap.size q := fun q hq => Or.inr hq
    have hG : ∀ q : Nat, am_A adr s.heap.size q → base ≤ q := fun q hq => by
      rcases hq with hq | hq
      · exact hadr q hq
      · omega
    have F : am_Fx p s m jas.toArray meth c (headSpec (am_wsM k) (am_rm (d + 1) k)).room k am_X0 base ea (am_A adr s.heap.size) D :=
      ⟨hx, hb, hown, hts, hK, hA, hG, hbase, hex, fun x hx9 => (by cases hx9), fun hk2 => ((name_of_methodNamed B.named B.method).1.trans (x3.mp hk2)), hml, x4, (by show 1 ≤ d + 1 + 1; omega), (by show 60 ≤ 60 * (d + 1 + 1); omega)⟩
    have hRt : am_Rt p l e (headSpec (am_wsM k) (am_rm (d + 1) k)).room s m jas.toArray below meth c (MQ below (am_Out base ea D adr s.heap.size R) jas.toArray s (am_bc k) (am_bs k) (am_A adr s.heap.size)) D (am_A adr s.heap.size) ea (am_ml k) adr k R := by
      intro pc ls mem H locs cells slots jl js adr2 ws2
      refine ⟨fun x hJ hRR hd hrt => ?_, fun x hJ hRR hd hrt => ?_, fun hJ hRR hd hrt => ?_⟩
      · obtain ⟨h0, h1, h2, h3, h4, h5, ⟨w9, l9, e1, e2, e3⟩, h7, h8⟩ := hJ
        have e2 : w9 = .int x := e2
        have e3 : l9 = [] := e3
        subst e2; subst e3; subst e1
        have h7 : cells + mem.2.1 ≤ am_bc k := h7
        have h8 : slots + mem.2.2 ≤ am_bs k := h8
        refine W.widen (k := am_bc k) (n := am_bs k) (by omega) (by omega) ?_
        have hq : ∀ t : State, t.heap = H → s.WarmedH t.vm → am_Out base ea D adr s.heap.size R jas.toArray s (.returned (some (.int x))) t := fun t ht hW => ⟨⟨some (.int x), some (.int x), mem, adr2, ws2, rfl, hRR, h0, ⟨_, _, rfl, rfl, rfl⟩, h1.moved hW.alike, by rw [ht]; exact h2, h3⟩, h4.F ht⟩
        rcases hrt with hrt | ⟨hrt, hx01⟩
        · exact W.iret hx hb (hr.trans hrt) hq h4.2.2 hd
        · refine W.zret (ty := .boolean) hx hb (hr.trans hrt) ?_ hq h4.2.2 hd
          rcases hx01 with rfl | rfl <;> decide
      · obtain ⟨h0, h1, h2, h3, h4, h5, ⟨w9, l9, e1, e2, e3⟩, h7, h8⟩ := hJ
        have e2 : w9 = .long x := e2
        have e3 : l9 = [] := e3
        subst e2; subst e3; subst e1
        have h7 : cells + mem.2.1 ≤ am_bc k := h7
        have h8 : slots + mem.2.2 ≤ am_bs k := h8
        refine W.widen (k := am_bc k) (n := am_bs k) (by omega) (by omega) ?_
        exact W.lret hx hb (hr.trans hrt) (fun t ht hW => ⟨⟨some (.long x), some (.long x), mem, adr2, ws2, rfl, hRR, h0, ⟨_, _, rfl, rfl, rfl⟩, h1.moved hW.alike, by rw [ht]; exact h2, h3⟩, h4.F ht⟩) h4.2.2 hd
      · obtain ⟨h0, h1, h2, h3, h4, h5, h6, h7, h8⟩ := hJ
        have h6 : js = [] := h6
        subst h6
        have h7 : cells + mem.2.1 ≤ am_bc k := h7
        have h8 : slots + mem.2.2 ≤ am_bs k := h8
        refine W.widen (k := am_bc k) (n := am_bs k) (by omega) (by omega) ?_
        exact W.vret hx hb (hr.trans hrt) (fun t ht hW => ⟨⟨none, none, mem, adr2, ws2, rfl, hRR, h0, rfl, h1.moved hW.alike, by rw [ht]; exact h2, h3⟩, h4.F ht⟩) h4.2.2 hd
    have hS := hrun _ (am_sim (nL := am_ml k) (adr0 := adr) F hC hcd ⟨(by show d + 2 ≤ d + 1 + 1; omega), (by show 60 * (d + 1) + 60 ≤ 60 * (d + 1 + 1); omega)⟩ rfl (hdc k hnm) (hjp k hnm) hRt) am_weakS
    rw [lg_entry_eq]
    exact hS s.heap [] 0 0 _ [] adr ws ⟨List.prefix_refl _, hw, hP, am_D_adr hw hD (fun q hq => Or.inl hq), va_S.rf, am_ent_ls hvs hlen, rfl, (by show 0 + am_bc k ≤ am_bc k; omega), (by show 0 + am_bs k ≤ am_bs k; omega)⟩
theorem am_calls (l : Launch) (base : Nat) (ea : Nat → Nat) (D : va_G) (hcd : am_Codes) (hdc : am_Decs) (hjp : am_Jps) : ∀ d, am_Calls l base ea D d (am_meth d)
  | 0 => fun _ _ _ _ _ h => h.elim
  | d + 1 => am_met l base ea D hcd hdc hjp d (am_calls l base ea D hcd hdc hjp d)
end
section
def R_law : String := "HouseKeepersLaw"
def lw_P (b : Addr) (xs : List Int32) (args : Array Value) (s : State) : Prop := args = #[.ref b] ∧ s.IntsAt b xs ∧ xs.length ≤ 2560 ∧ (Jvm.Cond.and given_1 narrow_1).before args s = true
def lw_Q (_ : Array Value) (s : State) (o : Outcome) (t : State) : Prop := o = .returned (some (.int 1)) ∧ Framed s o t [] 600000 7302250
def lw_Z (below : List Frame) (a : Array Value) (s : State) : State → Prop := fun t => ∃ o, t.status = .running ∧ Ended t below o ∧ lw_Q a s o t
/-- the law's own end, with 1 on the stack, nothing written that was there before, its room as the claim has it -/
theorem lw_ret {p : Program} {l : Launch} {e : Env} {s : State} {m : MethodId} {below : List Frame} {meth : Method} {c : Code} {b : Nat} (hx : p.tables.exec = Jvm.exec) (hb : c.code = code) (hr : meth.sig.returnType = ret) (hlocks : meth.locks = false) {pc : Nat} {H : Heap} {ls : Array Slot} (hdg : decode code pc = .ok (.ireturn, 1)) : W p l e room_1 s m #[Value.ref b] below meth c H [] 600000 7302250 (lw_Z below #[Value.ref b] s) (F0 m pc ls [.int 1]) := by
  intro T hT X
  obtain ⟨fs, hret, hrun, hended, hW, hframe⟩ := X.leave (v := some (.int 1)) (hlocks := hlocks) (fun h => by rw [hr] at h; cases h)
  have hmeth' : T.vm.method? m = some meth := X.method'
  refine ⟨T.setFrames fs, ?_, .returned (some (.int 1)), hrun, hended, rfl, ⟨_, rfl⟩, hW, hframe⟩
  jvm_step X.here [X.here.top, hx, hb, hdg, hmeth', hr, ret, narrow_b1]
  (try refine ⟨rfl, ?_⟩); (try refine ⟨rfl, ?_⟩)
  first | (intro acts; rw [hret _ acts rfl rfl rfl]) | rw [hret _ _ rfl rfl rfl]
  exact Steps.refl _
/-- what holds at the law's entry -/
def lw_At (p : Program) (s : State) (m : MethodId) (meth : Method) (c : Code) (b L : Nat) (xs : Nat → Int32) : Prop :=
  p.tables.exec = Jvm.exec ∧ c.code = code ∧ meth.sig.returnType = ret ∧ c.maxLocals = 4 ∧ s.vm.findClass R_law = some m.cls ∧ (∀ w ∈ lw_tbl, w.before #[Value.ref b] s = true) ∧ va_X b L xs s s.heap ∧ b < s.heap.size ∧ meth.locks = false ∧ (Jvm.Cond.and given_1 narrow_1).before #[Value.ref b] s = true
/-- two texts that are one object -/
theorem am_eqS {args : Array Value} {s : State} {t1 t2 : Term} {a : Nat} (h : (Cond.eq t1 t2).before args s = true) (h1 : t1.eval args s none [] s = some (.ref a)) : t2.eval args s none [] s = some (.ref a) := by
  cases h2 : t2.eval args s none [] s with
  | none => simp [Cond.before, Cond.holds, Cond.value, h1, h2] at h
  | some w =>
    simp only [Cond.before, Cond.holds, Cond.value, h1, h2] at h
    cases w <;> simp_all
def am_ty : List Int32 := [116, 110, 112, 98, 100, 108, 104, 107, 121, 122]
theorem am_k_ns : ∀ e ∈ am_nst, Cond.methodLinkNest "HouseKeepers" e.1 (am_y e.2) "HouseKeepers" ∈ lw_tbl := by decide +kernel
/-- what the Statement gives of the start, as the plain machine wants it -/
theorem am_start {s : State} {b : Nat} (hts : ∀ w ∈ lw_tbl, w.before #[Value.ref b] s = true) (hgv : (Jvm.Cond.and given_1 narrow_1).before #[Value.ref b] s = true) : ∃ ea : Nat → Nat, ea 0 = b ∧ am_ex s.heap.size ea s := by
  have hs := flat_of_before _ hgv
  have hA : ∀ a : Nat, a < s.heap.size → ¬ (fun q : Nat => s.heap.size ≤ q) a := fun a h => Nat.not_le.mpr h
  obtain ⟨t, ht, hT⟩ := va_Tof (args := #[Value.ref b]) (s := s) (tm := .static "HouseKeepers$Match" "DIGIT_WEIGHT" "[J") (ty := .long) (N := 6) (f := fun j => .long (am_w6 j)) (A := fun q : Nat => s.heap.size ≤ q) (by decide) (hs _ (by decide +kernel)) (va_eqt (hs (Cond.eq (.length (.static "HouseKeepers$Match" "DIGIT_WEIGHT" "[J")) (.int 6)) (by decide +kernel)))
    (fun j hj => by
      match j, hj with
      | 0, _ => exact va_eqtl (hs (Cond.eq (.elem (.static "HouseKeepers$Match" "DIGIT_WEIGHT" "[J") (.int 0)) (.long 4084101)) (by decide +kernel))
      | 1, _ => exact va_eqtl (hs (Cond.eq (.elem (.static "HouseKeepers$Match" "DIGIT_WEIGHT" "[J") (.int 1)) (.long 194481)) (by decide +kernel))
      | 2, _ => exact va_eqtl (hs (Cond.eq (.elem (.static "HouseKeepers$Match" "DIGIT_WEIGHT" "[J") (.int 2)) (.long 9261)) (by decide +kernel))
      | 3, _ => exact va_eqtl (hs (Cond.eq (.elem (.static "HouseKeepers$Match" "DIGIT_WEIGHT" "[J") (.int 3)) (.long 441)) (by decide +kernel))
      | 4, _ => exact va_eqtl (hs (Cond.eq (.elem (.static "HouseKeepers$Match" "DIGIT_WEIGHT" "[J") (.int 4)) (.long 21)) (by decide +kernel))
      | 5, _ => exact va_eqtl (hs (Cond.eq (.elem (.static "HouseKeepers$Match" "DIGIT_WEIGHT" "[J") (.int 5)) (.long 1)) (by decide +kernel))
      | j + 6, h => omega) hA
  have hZ1 := va_Zref (A := fun q : Nat => s.heap.size ≤ q) (hts (.laysStatic "HouseKeepers$Match" "DIGIT_WEIGHT" "[J") (by decide +kernel)) (hts (.initialized "HouseKeepers$Match") (by decide +kernel)) ht hA
  have hZ2 := va_Zof (A := fun q : Nat => s.heap.size ≤ q) (hts (.laysStatic "java/lang/String" "COMPACT_STRINGS" "Z") (by decide +kernel)) (hts (.initialized "java/lang/String") (by decide +kernel)) (va_eqt (hs (Cond.eq (.static "java/lang/String" "COMPACT_STRINGS" "Z") (.int 1)) (by decide +kernel))) hA
  obtain ⟨adK, adV, hS, hev⟩ := vk_Sof (args := #[Value.ref b]) (s := s) (N := 1) (tm := fun _ => .string "HouseKeepers$Rules" 11) (len := [10]) (byt := [am_ty]) (A := fun q : Nat => s.heap.size ≤ q) (by decide)
    (fun i hi => hs _ (by decide +kernel))
    (fun i hi => hs _ (by decide +kernel))
    (fun i hi => hs _ (by decide +kernel))
    (fun i hi => by
      have : i = 0 := by omega
      subst this
      exact hs (Cond.eq (.length (.field (.string "HouseKeepers$Rules" 11) "java/lang/String" "value" "[B")) (.int 10)) (by decide +kernel))
    (fun i hi j hj => by
      have : i = 0 := by omega
      subst this
      have hj : j < 10 := hj
      match j, hj with
      | 0, _ => exact hs (Cond.eq (.elem (.field (.string "HouseKeepers$Rules" 11) "java/lang/String" "value" "[B") (.int 0)) (.int 116)) (by decide +kernel)
      | 1, _ => exact hs (Cond.eq (.elem (.field (.string "HouseKeepers$Rules" 11) "java/lang/String" "value" "[B") (.int 1)) (.int 110)) (by decide +kernel)
      | 2, _ => exact hs (Cond.eq (.elem (.field (.string "HouseKeepers$Rules" 11) "java/lang/String" "value" "[B") (.int 2)) (.int 112)) (by decide +kernel)
      | 3, _ => exact hs (Cond.eq (.elem (.field (.string "HouseKeepers$Rules" 11) "java/lang/String" "value" "[B") (.int 3)) (.int 98)) (by decide +kernel)
      | 4, _ => exact hs (Cond.eq (.elem (.field (.string "HouseKeepers$Rules" 11) "java/lang/String" "value" "[B") (.int 4)) (.int 100)) (by decide +kernel)
      | 5, _ => exact hs (Cond.eq (.elem (.field (.string "HouseKeepers$Rules" 11) "java/lang/String" "value" "[B") (.int 5)) (.int 108)) (by decide +kernel)
      | 6, _ => exact hs (Cond.eq (.elem (.field (.string "HouseKeepers$Rules" 11) "java/lang/String" "value" "[B") (.int 6)) (.int 104)) (by decide +kernel)
      | 7, _ => exact hs (Cond.eq (.elem (.field (.string "HouseKeepers$Rules" 11) "java/lang/String" "value" "[B") (.int 7)) (.int 107)) (by decide +kernel)
      | 8, _ => exact hs (Cond.eq (.elem (.field (.string "HouseKeepers$Rules" 11) "java/lang/String" "value" "[B") (.int 8)) (.int 121)) (by decide +kernel)
      | 9, _ => exact hs (Cond.eq (.elem (.field (.string "HouseKeepers$Rules" 11) "java/lang/String" "value" "[B") (.int 9)) (.int 122)) (by decide +kernel)
      | j + 10, h => omega)
    (fun i j hi hj hij => absurd (show i = j by omega) hij) hA
  have e0 := hev 0 Nat.zero_lt_one
  have e1 := am_eqS (hs (Cond.eq (.string "HouseKeepers$Rules" 11) (.string "HouseKeepers$Text" 66)) (by decide +kernel)) e0
  refine ⟨fun j => if j = 0 then b else if j = 1 then t else if j = 2 then adK 0 else adV 0, rfl, hZ1, hT, hZ2, ⟨fun i hi => ?_, fun i j hi hj _ => by omega⟩, vk_R.of (hts (.stringRef "HouseKeepers$Rules" 11 "tnpbdlhkyz") (by decide +kernel)) e0, vk_R.of (hts (.stringRef "HouseKeepers$Text" 66 "tnpbdlhkyz") (by decide +kernel)) e1, fun e he => ?_, hts _ (List.mem_of_getElem? am_k_ao)⟩
  · have : i = 0 := by omega
    subst this
    exact hS.1 0 Nat.zero_lt_one
  · exact va_Nw.of rfl (hts _ (am_k_ns e he))
end
section
/-- WHAT IS LEFT TO SHOW: on the plain machine the law answers 1 -/
def am_Goal : Prop := ∀ (L : Nat) (xs : Nat → Int32), L ≤ 2560 → am_Run (some (L, xs)) (am_meth 60) am_law (fun v _ => v = some (.int 1)) 0 [some (.float 0), none, none, none] [] ([], 600000, 7302250)
def am_DecL : Prop := ∀ (pc : Nat) (i : Instr) (n : Nat), am_code am_law pc = some (i, n) → decode (am_by am_law) pc = .ok (i, n)
def am_JpL : Prop := ∀ (pc : Nat) (i : Instr) (n : Nat), am_code am_law pc = some (i, n) → ∀ (cc9 : Jvm.ClassFile.Cond) (off : Int), i = .ifCond cc9 off ∨ i = .if_icmp cc9 off → 0 ≤ (pc : Int) + off
theorem am_k_lw : am_by am_law = code ∧ am_ml am_law = 4 ∧ am_cn (am_own am_law) = R_law ∧ am_rt am_law = some .boolean ∧ am_kd am_law = 1 ∧ am_own am_law < am_nC := ⟨rfl, rfl, rfl, rfl, rfl, by decide⟩
set_option maxHeartbeats 2000000 in
theorem am_whole {p : Program} {e : Env} {s : State} {m : MethodId} {below : List Frame} {meth : Method} {c : Code} (hcd : am_Codes) (hdc : am_Decs) (hjp : am_Jps) (hdl : am_DecL) (hjl : am_JpL) (hgoal : am_Goal) (l : Launch) {b L : Nat} {xs : Nat → Int32} (hL : L ≤ 2560) (C0 : lw_At p s m meth c b L xs) : W p l e room_1 s m #[Value.ref b] below meth c s.heap [] 0 0 (lw_Z below #[Value.ref b] s) (entryFrame m ([Value.ref b] : List Value).toArray 4) := by
  obtain ⟨hx, hb, hr, hml, hown, hts, hX, hbl, hlocks, hgv⟩ := C0
  obtain ⟨ea, hea, hex⟩ := am_start hts hgv
  have htb : ∀ w ∈ am_TB, w.before #[Value.ref b] s = true := fun w hw => hts w (List.mem_filter.mp hw).1
  have hch : ∀ ci : Nat, ∃ q : ClassId × (Nat → Nat), ci < am_nO → u_Kn s (am_cn ci) (am_F ci) (am_N ci) q.1 q.2 := by
    intro ci
    by_cases h : ci < am_nO
    · obtain ⟨cC, iS, hK⟩ := u_known (C := am_cn ci) (T := am_F ci) (N := am_N ci) htb (am_uws h) (htb _ (am_cok_of h).1)
      exact ⟨(cC, iS), fun _ => hK⟩
    · exact ⟨(0, fun _ => 0), fun q => absurd q h⟩
  obtain ⟨f, hf⟩ := Classical.axiomOfChoice hch
  have hK : va_K (fun ci => (f ci).1, fun ci => (f ci).2) classes [] s := by
    refine ⟨fun ci q hq => ?_, fun k q h => by simp at h⟩
    have hl : ci < am_nO := by
      have := (List.getElem?_eq_some_iff.mp hq).1
      unfold classes at this
      rw [List.length_map, List.length_range] at this
      exact this
    rw [am_cls_at hl] at hq
    cases hq
    exact hf ci hl
  have F : am_Fx p s m #[Value.ref b] meth c room_1 am_law (some (L, xs)) s.heap.size ea (fun q : Nat => s.heap.size ≤ q) (fun ci => (f ci).1, fun ci => (f ci).2) :=
    ⟨hx, hb, hown, htb, hK, fun _ h => h, fun _ h => h, Nat.le_refl _, hex, fun x hx9 => by cases hx9; rw [hea]; exact ⟨hX, hbl, hbl⟩, fun h => absurd (am_k_lw.2.2.2.2.1.symm.trans h) (by decide), hml, am_k_lw.2.2.2.2.2, Nat.le_of_ble_eq_true rfl, Nat.le_of_ble_eq_true rfl⟩
  have hRt : am_Rt p l e room_1 s m #[Value.ref b] below meth c (lw_Z below #[Value.ref b] s) (fun ci => (f ci).1, fun ci => (f ci).2) (fun q : Nat => s.heap.size ≤ q) ea 4 [] am_law (fun v _ => v = some (.int 1)) := by
    intro pc ls mem H locs cells slots jl js adr2 ws2
    refine ⟨fun x hJ hRR hd hrt => ?_, fun x hJ hRR hd hrt => ?_, fun hJ hRR hd hrt => ?_⟩
    · obtain ⟨h0, h1, h2, h3, h4, h5, ⟨w9, l9, e1, e2, e3⟩, h7, h8⟩ := hJ
      have e2 : w9 = .int x := e2
      have e3 : l9 = [] := e3
      subst e2; subst e3; subst e1
      cases hRR
      have h7 : cells + mem.2.1 ≤ 600000 := h7
      have h8 : slots + mem.2.2 ≤ 7302250 := h8
      refine va_forget (fun q hq => h4.2.2 q hq) ?_
      refine W.widen (k := 600000) (n := 7302250) (by omega) (by omega) ?_
      exact lw_ret hx hb hr hlocks hd
    · cases hRR
    · cases hRR
  have hS := hgoal L xs hL _ (am_sim (nL := 4) (adr0 := []) F (am_calls l s.heap.size ea _ hcd hdc hjp 60) hcd ⟨Nat.le_of_ble_eq_true rfl, Nat.le_of_ble_eq_true rfl⟩ rfl hdl hjl hRt) am_weakS
  rw [lg_entry_eq]
  refine hS s.heap [] 0 0 _ [] [] [] ⟨List.prefix_refl _, ⟨rfl, rfl, fun k c hk => by simp at hk⟩, fun k q h => by simp at h, ⟨fun i j p q h => by simp at h, fun k q h => by simp at h⟩, va_S.rf, ?_, rfl, Nat.le_of_ble_eq_true rfl, Nat.le_of_ble_eq_true rfl⟩
  exact am_ent_ls (as := [.float 0]) (jas := [.ref b]) (n := 4) ⟨_, _, rfl, by show Value.ref b = .ref (ea 0); rw [hea], rfl⟩ (by decide)
end
section
/-! ROWS OF THE PLAIN MACHINE: an instruction a row -/
section AR
variable {X : am_X} {d k : Nat} {R : am_R} {pc q : Nat} {ls ls' : am_L} {st : List Value} {hp : List am_C} {b : Nat × Nat} {mem : am_M}
theorem ar_go {i : Instr} {n : Nat} {c : am_S} (hc : am_code k pc = some (i, n)) (hn : n = am_len i n) (ho : am_step X k (am_own k) i pc ls st mem = some (.inl c)) (h : am_Run X (am_meth d) k R c.1 c.2.1 c.2.2.1 c.2.2.2) : am_Run X (am_meth d) k R pc ls st mem := by
  refine am_Run.step (am_meth_mono d) ?_
  unfold am_at
  rw [hc]
  dsimp only
  rw [if_pos hn, ho]
  exact h
theorem ar_rt {i : Instr} {n : Nat} {v : Option Value × am_M} (hc : am_code k pc = some (i, n)) (hn : n = am_len i n) (ho : am_step X k (am_own k) i pc ls st mem = some (.inr (.inl v))) (h : R v.1 v.2) : am_Run X (am_meth d) k R pc ls st mem := by
  refine am_Run.step (am_meth_mono d) ?_
  unfold am_at
  rw [hc]
  dsimp only
  rw [if_pos hn, ho]
  exact h
theorem ar_cl {i : Instr} {n : Nat} {v : am_Q} (hc : am_code k pc = some (i, n)) (hn : n = am_len i n) (ho : am_step X k (am_own k) i pc ls st mem = some (.inr (.inr v))) (h : am_meth d v.1 v.2.1 v.2.2.1 (fun u m => am_Run X (am_meth d) k R v.2.2.2.1 v.2.2.2.2.1 (u.toList ++ v.2.2.2.2.2.1) (m.1, v.2.2.2.2.2.2))) : am_Run X (am_meth d) k R pc ls st mem := by
  refine am_Run.step (am_meth_mono d) ?_
  unfold am_at
  rw [hc]
  dsimp only
  rw [if_pos hn, ho]
  exact h
theorem ar_iconst {n : Int} {v : Int32} (hc : am_code k pc = some (.iconst n, 1)) (hv : Int32.ofInt n = v) (hq : pc + 1 = q) (h : am_Run X (am_meth d) k R q ls (.int v :: st) mem) : am_Run X (am_meth d) k R pc ls st mem := by
  subst hv; subst hq; exact ar_go hc rfl rfl h
theorem ar_bipush {n : Int} {v : Int32} (hc : am_code k pc = some (.bipush n, 2)) (hv : (Int8.ofInt n).toInt32 = v) (hq : pc + 2 = q) (h : am_Run X (am_meth d) k R q ls (.int v :: st) mem) : am_Run X (am_meth d) k R pc ls st mem := by
  subst hv; subst hq; exact ar_go hc rfl rfl h
theorem ar_sipush {n : Int} {v : Int32} (hc : am_code k pc = some (.sipush n, 3)) (hv : (Int16.ofInt n).toInt32 = v) (hq : pc + 3 = q) (h : am_Run X (am_meth d) k R q ls (.int v :: st) mem) : am_Run X (am_meth d) k R pc ls st mem := by
  subst hv; subst hq; exact ar_go hc rfl rfl h
theorem ar_lconst {n : Fin 2} {v : Int64} (hc : am_code k pc = some (.lconst n, 1)) (hv : Int64.ofNat n.val = v) (hq : pc + 1 = q) (h : am_Run X (am_meth d) k R q ls (.long v :: st) mem) : am_Run X (am_meth d) k R pc ls st mem := by
  subst hv; subst hq; exact ar_go hc rfl rfl h
theorem ar_ldc {j : Nat} {v : Int32} (hc : am_code k pc = some (.ldc j, 2)) (hv : am_ci (am_own k) j = some v) (hq : pc + 2 = q) (h : am_Run X (am_meth d) k R q ls (.int v :: st) mem) : am_Run X (am_meth d) k R pc ls st mem := by
  subst hq
  refine ar_go (c := (pc + 2, ls, .int v :: st, mem)) hc rfl ?_ h
  simp only [am_step, am_ib, am_lb, am_misc, hv]; rfl
theorem ar_ldcs {j : Nat} (hc : am_code k pc = some (.ldc j, 2)) (hv : am_ci (am_own k) j = none) (hs : ((am_srs.getD (am_own k) []).lookup j).isSome = true) (hq : pc + 2 = q) (h : am_Run X (am_meth d) k R q ls (.float 2 :: st) mem) : am_Run X (am_meth d) k R pc ls st mem := by
  subst hq
  refine ar_go (c := (pc + 2, ls, .float 2 :: st, mem)) hc rfl ?_ h
  simp only [am_step, am_ib, am_lb, am_misc, hv]
  rw [if_pos hs]; rfl
theorem ar_ldcw {j : Nat} {v : Int32} (hc : am_code k pc = some (.ldc_w j, 3)) (hv : am_ci (am_own k) j = some v) (hq : pc + 3 = q) (h : am_Run X (am_meth d) k R q ls (.int v :: st) mem) : am_Run X (am_meth d) k R pc ls st mem := by
  subst hq
  refine ar_go (c := (pc + 3, ls, .int v :: st, mem)) hc rfl ?_ h
  simp only [am_step, am_ib, am_lb, am_misc, hv]; rfl
theorem ar_ldc2 {j : Nat} {v : Int64} (hc : am_code k pc = some (.ldc2_w j, 3)) (hv : am_cj (am_own k) j = some v) (hq : pc + 3 = q) (h : am_Run X (am_meth d) k R q ls (.long v :: st) mem) : am_Run X (am_meth d) k R pc ls st mem := by
  subst hq
  refine ar_go (c := (pc + 3, ls, .long v :: st, mem)) hc rfl ?_ h
  simp only [am_step, am_ib, am_lb, am_misc, hv]; rfl
theorem ar_gets {j : Nat} {v : Value} (hc : am_code k pc = some (.getstatic j, 3)) (hv : am_sta (am_own k) j = some v) (hq : pc + 3 = q) (h : am_Run X (am_meth d) k R q ls (v :: st) mem) : am_Run X (am_meth d) k R pc ls st mem := by
  subst hq
  refine ar_go (c := (pc + 3, ls, v :: st, mem)) hc rfl ?_ h
  simp only [am_step, am_ib, am_lb, am_misc, hv]; rfl
theorem ar_ild {i : Instr} {n j : Nat} {x : Int32} (hc : am_code k pc = some (i, n)) (hi : (i = .iload j ∧ n = 2) ∨ (n = 1 ∧ ∃ f : Fin 4, f.val = j ∧ i = .iload_n f)) (hl : am_get ls j = some (.int x)) (hq : pc + n = q) (h : am_Run X (am_meth d) k R q ls (.int x :: st) mem) : am_Run X (am_meth d) k R pc ls st mem := by
  subst hq
  rcases hi with ⟨rfl, rfl⟩ | ⟨rfl, f, rfl, rfl⟩
  · refine ar_go (c := (pc + 2, ls, .int x :: st, mem)) hc rfl ?_ h
    simp only [am_step, am_ib, am_lb, am_misc, am_ild, hl]; rfl
  · refine ar_go (c := (pc + 1, ls, .int x :: st, mem)) hc rfl ?_ h
    simp only [am_step, am_ib, am_lb, am_misc, am_ild, hl]; rfl
theorem ar_iload_n {f : Fin 4} {j : Nat} {x : Int32} (hc : am_code k pc = some (.iload_n f, 1)) (hf : f.val = j) (hl : am_get ls j = some (.int x)) (hq : pc + 1 = q) (h : am_Run X (am_meth d) k R q ls (.int x :: st) mem) : am_Run X (am_meth d) k R pc ls st mem := ar_ild hc (Or.inr ⟨rfl, f, hf, rfl⟩) hl hq h
theorem ar_iload {j : Nat} {x : Int32} (hc : am_code k pc = some (.iload j, 2)) (hl : am_get ls j = some (.int x)) (hq : pc + 2 = q) (h : am_Run X (am_meth d) k R q ls (.int x :: st) mem) : am_Run X (am_meth d) k R pc ls st mem := ar_ild hc (Or.inl ⟨rfl, rfl⟩) hl hq h
theorem ar_lload_n {f : Fin 4} {j : Nat} {x : Int64} (hc : am_code k pc = some (.lload_n f, 1)) (hf : f.val = j) (hl : am_get ls j = some (.long x)) (hq : pc + 1 = q) (h : am_Run X (am_meth d) k R q ls (.long x :: st) mem) : am_Run X (am_meth d) k R pc ls st mem := by
  subst hq; subst hf
  refine ar_go (c := (pc + 1, ls, .long x :: st, mem)) hc rfl ?_ h
  simp only [am_step, am_ib, am_lb, am_misc, am_lld, hl]; rfl
theorem ar_lload {j : Nat} {x : Int64} (hc : am_code k pc = some (.lload j, 2)) (hl : am_get ls j = some (.long x)) (hq : pc + 2 = q) (h : am_Run X (am_meth d) k R q ls (.long x :: st) mem) : am_Run X (am_meth d) k R pc ls st mem := by
  subst hq
  refine ar_go (c := (pc + 2, ls, .long x :: st, mem)) hc rfl ?_ h
  simp only [am_step, am_ib, am_lb, am_misc, am_lld, hl]; rfl
theorem ar_aload_n {f : Fin 4} {j a : Nat} (hc : am_code k pc = some (.aload_n f, 1)) (hf : f.val = j) (hl : am_get ls j = some (.ref a)) (hq : pc + 1 = q) (h : am_Run X (am_meth d) k R q ls (.ref a :: st) mem) : am_Run X (am_meth d) k R pc ls st mem := by
  subst hq; subst hf
  refine ar_go (c := (pc + 1, ls, .ref a :: st, mem)) hc rfl ?_ h
  simp only [am_step, am_ib, am_lb, am_misc, am_ald, hl]; rfl
theorem ar_aload {j a : Nat} (hc : am_code k pc = some (.aload j, 2)) (hl : am_get ls j = some (.ref a)) (hq : pc + 2 = q) (h : am_Run X (am_meth d) k R q ls (.ref a :: st) mem) : am_Run X (am_meth d) k R pc ls st mem := by
  subst hq
  refine ar_go (c := (pc + 2, ls, .ref a :: st, mem)) hc rfl ?_ h
  simp only [am_step, am_ib, am_lb, am_misc, am_ald, hl]; rfl
theorem ar_aload_nx {f : Fin 4} {j : Nat} {u : UInt32} (hc : am_code k pc = some (.aload_n f, 1)) (hf : f.val = j) (hl : am_get ls j = some (.float u)) (hq : pc + 1 = q) (h : am_Run X (am_meth d) k R q ls (.float u :: st) mem) : am_Run X (am_meth d) k R pc ls st mem := by
  subst hq; subst hf
  refine ar_go (c := (pc + 1, ls, .float u :: st, mem)) hc rfl ?_ h
  simp only [am_step, am_ib, am_lb, am_misc, am_ald, hl]; rfl
theorem ar_istore_n {f : Fin 4} {j : Nat} {x : Int32} (hc : am_code k pc = some (.istore_n f, 1)) (hf : f.val = j) (hg : (decide (j < ls.length) && am_pl ls j) = true) (hs : ls.set j (some (.int x)) = ls') (hq : pc + 1 = q) (h : am_Run X (am_meth d) k R q ls' st mem) : am_Run X (am_meth d) k R pc ls (.int x :: st) mem := by
  subst hq; subst hf; subst hs
  refine ar_go (c := (pc + 1, _, st, mem)) hc rfl ?_ h
  simp only [am_step, am_ib, am_lb, am_misc, am_ist]
  rw [if_pos hg]; rfl
theorem ar_istore {j : Nat} {x : Int32} (hc : am_code k pc = some (.istore j, 2)) (hg : (decide (j < ls.length) && am_pl ls j) = true) (hs : ls.set j (some (.int x)) = ls') (hq : pc + 2 = q) (h : am_Run X (am_meth d) k R q ls' st mem) : am_Run X (am_meth d) k R pc ls (.int x :: st) mem := by
  subst hq; subst hs
  refine ar_go (c := (pc + 2, _, st, mem)) hc rfl ?_ h
  simp only [am_step, am_ib, am_lb, am_misc, am_ist]
  rw [if_pos hg]; rfl
theorem ar_lstore_n {f : Fin 4} {j : Nat} {x : Int64} (hc : am_code k pc = some (.lstore_n f, 1)) (hf : f.val = j) (hg : (decide (j + 1 < ls.length) && am_pl ls j) = true) (hs : (ls.set j (some (.long x))).set (j + 1) none = ls') (hq : pc + 1 = q) (h : am_Run X (am_meth d) k R q ls' st mem) : am_Run X (am_meth d) k R pc ls (.long x :: st) mem := by
  subst hq; subst hf; subst hs
  refine ar_go (c := (pc + 1, _, st, mem)) hc rfl ?_ h
  simp only [am_step, am_ib, am_lb, am_misc, am_lst]
  rw [if_pos hg]; rfl
theorem ar_lstore {j : Nat} {x : Int64} (hc : am_code k pc = some (.lstore j, 2)) (hg : (decide (j + 1 < ls.length) && am_pl ls j) = true) (hs : (ls.set j (some (.long x))).set (j + 1) none = ls') (hq : pc + 2 = q) (h : am_Run X (am_meth d) k R q ls' st mem) : am_Run X (am_meth d) k R pc ls (.long x :: st) mem := by
  subst hq; subst hs
  refine ar_go (c := (pc + 2, _, st, mem)) hc rfl ?_ h
  simp only [am_step, am_ib, am_lb, am_misc, am_lst]
  rw [if_pos hg]; rfl
theorem ar_astore_n {f : Fin 4} {j a : Nat} (hc : am_code k pc = some (.astore_n f, 1)) (hf : f.val = j) (hg : (decide (j < ls.length) && am_pl ls j) = true) (hs : ls.set j (some (.ref a)) = ls') (hq : pc + 1 = q) (h : am_Run X (am_meth d) k R q ls' st mem) : am_Run X (am_meth d) k R pc ls (.ref a :: st) mem := by
  subst hq; subst hf; subst hs
  refine ar_go (c := (pc + 1, _, st, mem)) hc rfl ?_ h
  simp only [am_step, am_ib, am_lb, am_misc, am_ast]
  rw [if_pos hg]; rfl
theorem ar_astore {j a : Nat} (hc : am_code k pc = some (.astore j, 2)) (hg : (decide (j < ls.length) && am_pl ls j) = true) (hs : ls.set j (some (.ref a)) = ls') (hq : pc + 2 = q) (h : am_Run X (am_meth d) k R q ls' st mem) : am_Run X (am_meth d) k R pc ls (.ref a :: st) mem := by
  subst hq; subst hs
  refine ar_go (c := (pc + 2, _, st, mem)) hc rfl ?_ h
  simp only [am_step, am_ib, am_lb, am_misc, am_ast]
  rw [if_pos hg]; rfl
theorem ar_iinc {j : Nat} {n : Int} {x v : Int32} (hc : am_code k pc = some (.iinc j n, 3)) (hl : am_get ls j = some (.int x)) (hg : (decide (j < ls.length) && am_pl ls j) = true) (hv : x + Int32.ofInt n = v) (hs : ls.set j (some (.int v)) = ls') (hq : pc + 3 = q) (h : am_Run X (am_meth d) k R q ls' st mem) : am_Run X (am_meth d) k R pc ls st mem := by
  subst hq; subst hs; subst hv
  refine ar_go (c := (pc + 3, _, st, mem)) hc rfl ?_ h
  simp only [am_step, am_ib, am_lb, am_misc, am_iic, hl]
  rw [if_pos hg]; rfl
theorem ar_ib {i : Instr} {f : Int32 → Int32 → Option Int32} {x y z : Int32} (hc : am_code k pc = some (i, 1)) (hn : 1 = am_len i 1) (hf : am_ib i = some f) (hz : f x y = some z) (hq : pc + 1 = q) (h : am_Run X (am_meth d) k R q ls (.int z :: st) mem) : am_Run X (am_meth d) k R pc ls (.int y :: .int x :: st) mem := by
  subst hq
  refine ar_go (c := (pc + 1, ls, .int z :: st, mem)) hc hn ?_ h
  simp only [am_step, hf, am_ibs, hz]; rfl
theorem ar_lb {i : Instr} {f : Int64 → Int64 → Option Int64} {x y z : Int64} (hc : am_code k pc = some (i, 1)) (hn : 1 = am_len i 1) (hi : am_ib i = none) (hf : am_lb i = some f) (hz : f x y = some z) (hq : pc + 1 = q) (h : am_Run X (am_meth d) k R q ls (.long z :: st) mem) : am_Run X (am_meth d) k R pc ls (.long y :: .long x :: st) mem := by
  subst hq
  refine ar_go (c := (pc + 1, ls, .long z :: st, mem)) hc hn ?_ h
  simp only [am_step, hi, hf, am_lbs, hz]; rfl
theorem ar_idiv {x y : Int32} (hc : am_code k pc = some (.idiv, 1)) (hy : ¬ y = 0) (hq : pc + 1 = q) (h : am_Run X (am_meth d) k R q ls (.int (x / y) :: st) mem) : am_Run X (am_meth d) k R pc ls (.int y :: .int x :: st) mem := ar_ib (i := .idiv) hc rfl rfl (if_neg hy) hq h
theorem ar_irem {x y : Int32} (hc : am_code k pc = some (.irem, 1)) (hy : ¬ y = 0) (hq : pc + 1 = q) (h : am_Run X (am_meth d) k R q ls (.int (x - x / y * y) :: st) mem) : am_Run X (am_meth d) k R pc ls (.int y :: .int x :: st) mem := ar_ib (i := .irem) hc rfl rfl (if_neg hy) hq h
theorem ar_ldiv {x y : Int64} (hc : am_code k pc = some (.ldiv, 1)) (hy : ¬ y = 0) (hq : pc + 1 = q) (h : am_Run X (am_meth d) k R q ls (.long (x / y) :: st) mem) : am_Run X (am_meth d) k R pc ls (.long y :: .long x :: st) mem := ar_lb (i := .ldiv) hc rfl rfl rfl (if_neg hy) hq h
theorem ar_lrem {x y : Int64} (hc : am_code k pc = some (.lrem, 1)) (hy : ¬ y = 0) (hq : pc + 1 = q) (h : am_Run X (am_meth d) k R q ls (.long (x - x / y * y) :: st) mem) : am_Run X (am_meth d) k R pc ls (.long y :: .long x :: st) mem := ar_lb (i := .lrem) hc rfl rfl rfl (if_neg hy) hq h
/-- one step that a program can compute: conversions, negation, shifts of longs, lcmp, dup and its like, loads of the script -/
theorem ar_st {i : Instr} {n : Nat} {st' : List Value} (hc : am_code k pc = some (i, n)) (hn : n = am_len i n) (ho : am_step X k (am_own k) i pc ls st mem = some (.inl (pc + n, ls, st', mem))) (hq : pc + n = q) (h : am_Run X (am_meth d) k R q ls st' mem) : am_Run X (am_meth d) k R pc ls st mem := by
  subst hq
  exact ar_go hc hn ho h
theorem ar_goto {off : Int} {t : Nat} (hc : am_code k pc = some (.goto off, 3)) (ht : am_jmp pc off = some t) (h : am_Run X (am_meth d) k R t ls st mem) : am_Run X (am_meth d) k R pc ls st mem := by
  refine ar_go (c := (t, ls, st, mem)) hc rfl ?_ h
  simp only [am_step, am_ib, am_lb, am_misc, am_to, ht]; rfl
theorem ar_icmp {c : Jvm.ClassFile.Cond} {off : Int} {t : Nat} {x y : Int32} (hc : am_code k pc = some (.if_icmp c off, 3)) (ht : am_jmp pc off = some t) (hq : pc + 3 = q) (h1 : am_cmp c x y = true → am_Run X (am_meth d) k R t ls st mem) (h2 : ¬ am_cmp c x y = true → am_Run X (am_meth d) k R q ls st mem) : am_Run X (am_meth d) k R pc ls (.int y :: .int x :: st) mem := by
  subst hq
  by_cases hcc : am_cmp c x y = true
  · refine ar_go (c := (t, ls, st, mem)) hc rfl ?_ (h1 hcc)
    simp only [am_step, am_ib, am_lb, am_misc]
    rw [if_pos hcc]; simp only [am_to, ht]; rfl
  · refine ar_go (c := (pc + 3, ls, st, mem)) hc rfl ?_ (h2 hcc)
    simp only [am_step, am_ib, am_lb, am_misc]
    rw [if_neg hcc]; rfl
theorem ar_ifc {c : Jvm.ClassFile.Cond} {off : Int} {t : Nat} {x : Int32} (hc : am_code k pc = some (.ifCond c off, 3)) (ht : am_jmp pc off = some t) (hq : pc + 3 = q) (h1 : am_cmp c x 0 = true → am_Run X (am_meth d) k R t ls st mem) (h2 : ¬ am_cmp c x 0 = true → am_Run X (am_meth d) k R q ls st mem) : am_Run X (am_meth d) k R pc ls (.int x :: st) mem := by
  subst hq
  by_cases hcc : am_cmp c x 0 = true
  · refine ar_go (c := (t, ls, st, mem)) hc rfl ?_ (h1 hcc)
    simp only [am_step, am_ib, am_lb, am_misc]
    rw [if_pos hcc]; simp only [am_to, ht]; rfl
  · refine ar_go (c := (pc + 3, ls, st, mem)) hc rfl ?_ (h2 hcc)
    simp only [am_step, am_ib, am_lb, am_misc]
    rw [if_neg hcc]; rfl
theorem am_c_eq {x y : Int32} : am_cmp .eq x y = true ↔ x = y := decide_eq_true_iff
theorem am_c_ne {x y : Int32} : am_cmp .ne x y = true ↔ ¬ x = y := decide_eq_true_iff
theorem am_c_lt {x y : Int32} : am_cmp .lt x y = true ↔ x < y := decide_eq_true_iff
theorem am_c_ge {x y : Int32} : am_cmp .ge x y = true ↔ y ≤ x := decide_eq_true_iff
theorem am_c_gt {x y : Int32} : am_cmp .gt x y = true ↔ y < x := decide_eq_true_iff
theorem am_c_le {x y : Int32} : am_cmp .le x y = true ↔ x ≤ y := decide_eq_true_iff
theorem am_d_ge {x y : Int32} : am_cmp .ge x y = true ↔ ¬ x < y := am_c_ge.trans Int32.not_lt.symm
theorem am_d_gt {x y : Int32} : am_cmp .gt x y = true ↔ ¬ x ≤ y := am_c_gt.trans Int32.not_le.symm
/-- a branch by a plain condition -/
theorem ar_br {c : Jvm.ClassFile.Cond} {off : Int} {t : Nat} {x y : Int32} {P : Prop} (hP : am_cmp c x y = true ↔ P) (hc : am_code k pc = some (.if_icmp c off, 3)) (ht : am_jmp pc off = some t) (hq : pc + 3 = q) (h1 : P → am_Run X (am_meth d) k R t ls st mem) (h2 : ¬ P → am_Run X (am_meth d) k R q ls st mem) : am_Run X (am_meth d) k R pc ls (.int y :: .int x :: st) mem := ar_icmp hc ht hq (fun h => h1 (hP.mp h)) (fun h => h2 (fun p => h (hP.mpr p)))
theorem ar_b0 {c : Jvm.ClassFile.Cond} {off : Int} {t : Nat} {x : Int32} {P : Prop} (hP : am_cmp c x 0 = true ↔ P) (hc : am_code k pc = some (.ifCond c off, 3)) (ht : am_jmp pc off = some t) (hq : pc + 3 = q) (h1 : P → am_Run X (am_meth d) k R t ls st mem) (h2 : ¬ P → am_Run X (am_meth d) k R q ls st mem) : am_Run X (am_meth d) k R pc ls (.int x :: st) mem := ar_ifc hc ht hq (fun h => h1 (hP.mp h)) (fun h => h2 (fun p => h (hP.mpr p)))
theorem ar_tsw {dd lo hi : Int} {offs : Array Int} {n t0 : Nat} {x : Int32} (hc : am_code k pc = some (.tableswitch dd lo hi offs, n)) (hj : am_jmp pc dd = some t0) (h1 : (x.toInt < lo ∨ hi < x.toInt) → am_Run X (am_meth d) k R t0 ls st mem) (h2 : ¬ (x.toInt < lo ∨ hi < x.toInt) → ∃ o t, offs[(x.toInt - lo).toNat]? = some o ∧ am_jmp pc o = some t ∧ am_Run X (am_meth d) k R t ls st mem) : am_Run X (am_meth d) k R pc ls (.int x :: st) mem := by
  by_cases hcc : x.toInt < lo ∨ hi < x.toInt
  · refine ar_go (c := (t0, ls, st, mem)) hc rfl ?_ (h1 hcc)
    simp only [am_step, am_ib, am_lb, am_misc]
    rw [if_pos hcc]; simp only [am_to, hj]; rfl
  · obtain ⟨o, t, e1, e2, e3⟩ := h2 hcc
    refine ar_go (c := (t, ls, st, mem)) hc rfl ?_ e3
    simp only [am_step, am_ib, am_lb, am_misc]
    rw [if_neg hcc]; simp only [e1, am_to, e2]; rfl
theorem ar_iald {a n : Nat} {f : Nat → Int32} {i v : Int32} (hc : am_code k pc = some (.iaload, 1)) (hm : hp[a]? = some (.inl (0, n, f))) (hi : am_in i n = true) (hv : f i.toNatClampNeg = v) (hq : pc + 1 = q) (h : am_Run X (am_meth d) k R q ls (.int v :: st) (hp, b)) : am_Run X (am_meth d) k R pc ls (.int i :: .ref a :: st) (hp, b) := by
  subst hq; subst hv
  refine ar_go (c := (pc + 1, ls, .int (f i.toNatClampNeg) :: st, (hp, b))) hc rfl ?_ h
  simp only [am_step, am_ib, am_lb, am_misc, am_iald, hm]
  rw [if_pos hi]; rfl
theorem ar_bald {a kd n : Nat} {f : Nat → Int32} {i v : Int32} (hc : am_code k pc = some (.baload, 1)) (hk : kd = 1 ∨ kd = 2) (hm : hp[a]? = some (.inl (kd, n, f))) (hi : am_in i n = true) (hv : f i.toNatClampNeg = v) (hq : pc + 1 = q) (h : am_Run X (am_meth d) k R q ls (.int v :: st) (hp, b)) : am_Run X (am_meth d) k R pc ls (.int i :: .ref a :: st) (hp, b) := by
  subst hq; subst hv
  refine ar_go (c := (pc + 1, ls, .int (f i.toNatClampNeg) :: st, (hp, b))) hc rfl ?_ h
  rcases hk with rfl | rfl
  · simp only [am_step, am_ib, am_lb, am_misc, am_bald, hm]
    rw [if_pos hi]; rfl
  · simp only [am_step, am_ib, am_lb, am_misc, am_bald, hm]
    rw [if_pos hi]; rfl
theorem ar_lald {a n : Nat} {f : Nat → Int64} {i : Int32} {v : Int64} (hc : am_code k pc = some (.laload, 1)) (hm : hp[a]? = some (.inr (.inl (n, f)))) (hi : am_in i n = true) (hv : f i.toNatClampNeg = v) (hq : pc + 1 = q) (h : am_Run X (am_meth d) k R q ls (.long v :: st) (hp, b)) : am_Run X (am_meth d) k R pc ls (.int i :: .ref a :: st) (hp, b) := by
  subst hq; subst hv
  refine ar_go (c := (pc + 1, ls, .long (f i.toNatClampNeg) :: st, (hp, b))) hc rfl ?_ h
  simp only [am_step, am_ib, am_lb, am_misc, am_lald, hm]
  rw [if_pos hi]; rfl
theorem ar_laldx {i : Int32} {v : Int64} (hc : am_code k pc = some (.laload, 1)) (hi : am_in i 6 = true) (hv : am_w6 i.toNatClampNeg = v) (hq : pc + 1 = q) (h : am_Run X (am_meth d) k R q ls (.long v :: st) mem) : am_Run X (am_meth d) k R pc ls (.int i :: .float 1 :: st) mem := by
  subst hq; subst hv
  refine ar_go (c := (pc + 1, ls, .long (am_w6 i.toNatClampNeg) :: st, mem)) hc rfl ?_ h
  simp only [am_step, am_ib, am_lb, am_misc, am_lald]
  rw [if_pos trivial, if_pos hi]; rfl
theorem ar_baldx {i v : Int32} (hc : am_code k pc = some (.baload, 1)) (hi : am_in i 10 = true) (hv : am_tx i.toNatClampNeg = v) (hq : pc + 1 = q) (h : am_Run X (am_meth d) k R q ls (.int v :: st) mem) : am_Run X (am_meth d) k R pc ls (.int i :: .float 3 :: st) mem := by
  subst hq; subst hv
  refine ar_go (c := (pc + 1, ls, .int (am_tx i.toNatClampNeg) :: st, mem)) hc rfl ?_ h
  simp only [am_step, am_ib, am_lb, am_misc, am_bald]
  rw [if_pos trivial, if_pos hi]; rfl
theorem ar_sld {i v : Int32} {x : Nat × (Nat → Int32)} (hX : X = some x) (hc : am_code k pc = some (.iaload, 1)) (hi : am_in i x.1 = true) (hv : x.2 i.toNatClampNeg = v) (hq : pc + 1 = q) (h : am_Run X (am_meth d) k R q ls (.int v :: st) mem) : am_Run X (am_meth d) k R pc ls (.int i :: .float 0 :: st) mem := by
  subst hq; subst hv; subst hX
  refine ar_go (c := (pc + 1, ls, .int (x.2 i.toNatClampNeg) :: st, mem)) hc rfl ?_ h
  simp only [am_step, am_ib, am_lb, am_misc, am_iald]
  rw [if_pos trivial, if_pos hi]; rfl
theorem ar_aald {a n c2 : Nat} {f : Nat → Option Nat} {i : Int32} (hc : am_code k pc = some (.aaload, 1)) (hm : hp[a]? = some (.inr (.inr (.inl (n, f))))) (hi : am_in i n = true) (hv : f i.toNatClampNeg = some c2) (hq : pc + 1 = q) (h : am_Run X (am_meth d) k R q ls (.ref c2 :: st) (hp, b)) : am_Run X (am_meth d) k R pc ls (.int i :: .ref a :: st) (hp, b) := by
  subst hq
  refine ar_go (c := (pc + 1, ls, .ref c2 :: st, (hp, b))) hc rfl ?_ h
  simp only [am_step, am_ib, am_lb, am_misc, am_aald, hm]
  rw [if_pos hi]; simp only [hv]; rfl
theorem ar_iast {a n : Nat} {f : Nat → Int32} {i x : Int32} {hp2 : List am_C} (hc : am_code k pc = some (.iastore, 1)) (hm : hp[a]? = some (.inl (0, n, f))) (hi : am_in i n = true) (hs : hp.set a (.inl (0, n, upd f i.toNatClampNeg x)) = hp2) (hq : pc + 1 = q) (h : am_Run X (am_meth d) k R q ls st (hp2, b)) : am_Run X (am_meth d) k R pc ls (.int x :: .int i :: .ref a :: st) (hp, b) := by
  subst hq; subst hs
  refine ar_go (c := (pc + 1, ls, st, (_, b))) hc rfl ?_ h
  simp only [am_step, am_ib, am_lb, am_misc, am_iast, hm]
  rw [if_pos hi]; rfl
theorem ar_bast1 {a n : Nat} {f : Nat → Int32} {i x : Int32} {hp2 : List am_C} (hc : am_code k pc = some (.bastore, 1)) (hm : hp[a]? = some (.inl (1, n, f))) (hi : am_in i n = true) (hs : hp.set a (.inl (1, n, upd f i.toNatClampNeg (vp_nar .byte x))) = hp2) (hq : pc + 1 = q) (h : am_Run X (am_meth d) k R q ls st (hp2, b)) : am_Run X (am_meth d) k R pc ls (.int x :: .int i :: .ref a :: st) (hp, b) := by
  subst hq; subst hs
  refine ar_go (c := (pc + 1, ls, st, (_, b))) hc rfl ?_ h
  simp only [am_step, am_ib, am_lb, am_misc, am_bast, hm]
  rw [if_pos hi]; rfl
theorem ar_bast2 {a n : Nat} {f : Nat → Int32} {i x : Int32} {hp2 : List am_C} (hc : am_code k pc = some (.bastore, 1)) (hm : hp[a]? = some (.inl (2, n, f))) (hi : am_in i n = true) (hs : hp.set a (.inl (2, n, upd f i.toNatClampNeg (vp_nar .boolean x))) = hp2) (hq : pc + 1 = q) (h : am_Run X (am_meth d) k R q ls st (hp2, b)) : am_Run X (am_meth d) k R pc ls (.int x :: .int i :: .ref a :: st) (hp, b) := by
  subst hq; subst hs
  refine ar_go (c := (pc + 1, ls, st, (_, b))) hc rfl ?_ h
  simp only [am_step, am_ib, am_lb, am_misc, am_bast, hm]
  rw [if_pos hi]; rfl
theorem ar_last {a n : Nat} {f : Nat → Int64} {i : Int32} {x : Int64} {hp2 : List am_C} (hc : am_code k pc = some (.lastore, 1)) (hm : hp[a]? = some (.inr (.inl (n, f)))) (hi : am_in i n = true) (hs : hp.set a (.inr (.inl (n, vp_updL f i.toNatClampNeg x))) = hp2) (hq : pc + 1 = q) (h : am_Run X (am_meth d) k R q ls st (hp2, b)) : am_Run X (am_meth d) k R pc ls (.long x :: .int i :: .ref a :: st) (hp, b) := by
  subst hq; subst hs
  refine ar_go (c := (pc + 1, ls, st, (_, b))) hc rfl ?_ h
  simp only [am_step, am_ib, am_lb, am_misc, am_last, hm]
  rw [if_pos hi]; rfl
theorem ar_getf {a idx ci j : Nat} {fs : List Value} {v : Value} (hc : am_code k pc = some (.getfield idx, 3)) (hf : am_fld (am_own k) idx = some (ci, j)) (hm : hp[a]? = some (.inr (.inr (.inr (ci, fs))))) (hv : fs[j]? = some v) (hq : pc + 3 = q) (h : am_Run X (am_meth d) k R q ls (v :: st) (hp, b)) : am_Run X (am_meth d) k R pc ls (.ref a :: st) (hp, b) := by
  subst hq
  refine ar_go (c := (pc + 3, ls, v :: st, (hp, b))) hc rfl ?_ h
  simp only [am_step, am_ib, am_lb, am_misc, am_getf, hf, hm]
  rw [if_pos trivial]; simp only [hv]; rfl
theorem ar_getx {idx : Nat} {v : Value} (hc : am_code k pc = some (.getfield idx, 3)) (hf : am_xf (am_own k) idx = some v) (hq : pc + 3 = q) (h : am_Run X (am_meth d) k R q ls (v :: st) mem) : am_Run X (am_meth d) k R pc ls (.float 2 :: st) mem := by
  subst hq
  refine ar_go (c := (pc + 3, ls, v :: st, mem)) hc rfl ?_ h
  simp only [am_step, am_ib, am_lb, am_misc, am_getf]
  rw [if_pos trivial]; simp only [hf]; rfl
theorem ar_putf {a idx ci j : Nat} {fs : List Value} {v : Value} {hp2 : List am_C} (hc : am_code k pc = some (.putfield idx, 3)) (hf : am_fld (am_own k) idx = some (ci, j)) (hm : hp[a]? = some (.inr (.inr (.inr (ci, fs))))) (hg : (decide (ci = ci) && decide (j < fs.length) && am_fit (am_T ci j) v && (!(am_F ci j).2.2.2 || (decide (am_kd k = 2) && decide (ci = am_own k)))) = true) (hs : hp.set a (.inr (.inr (.inr (ci, fs.set j v)))) = hp2) (hq : pc + 3 = q) (h : am_Run X (am_meth d) k R q ls st (hp2, b)) : am_Run X (am_meth d) k R pc ls (v :: .ref a :: st) (hp, b) := by
  subst hq; subst hs
  refine ar_go (c := (pc + 3, ls, st, (_, b))) hc rfl ?_ h
  simp only [am_step, am_ib, am_lb, am_misc, am_putf, hf, hm]
  rw [if_pos (by simpa using hg)]; rfl
theorem ar_iret {x : Int32} (hc : am_code k pc = some (.ireturn, 1)) (hr : am_rt k = some .int) (h : R (some (.int x)) mem) : am_Run X (am_meth d) k R pc ls [.int x] mem := by
  refine ar_rt (v := (some (.int x), mem)) hc rfl ?_ h
  simp only [am_step, am_ib, am_lb, am_misc, am_iret, hr]
theorem ar_zret {x : Int32} (hc : am_code k pc = some (.ireturn, 1)) (hr : am_rt k = some .boolean) (hx : x = 0 ∨ x = 1) (h : R (some (.int x)) mem) : am_Run X (am_meth d) k R pc ls [.int x] mem := by
  refine ar_rt (v := (some (.int x), mem)) hc rfl ?_ h
  simp only [am_step, am_ib, am_lb, am_misc, am_iret, hr]
  rw [if_pos hx]
theorem ar_lret {x : Int64} (hc : am_code k pc = some (.lreturn, 1)) (hr : am_rt k = some .long) (h : R (some (.long x)) mem) : am_Run X (am_meth d) k R pc ls [.long x] mem := by
  refine ar_rt (v := (some (.long x), mem)) hc rfl ?_ h
  simp only [am_step, am_ib, am_lb, am_misc, am_lret, hr]
theorem ar_vret (hc : am_code k pc = some (.return_, 1)) (hr : am_rt k = none) (h : R none mem) : am_Run X (am_meth d) k R pc ls [] mem := by
  refine ar_rt (v := (none, mem)) hc rfl ?_ h
  simp only [am_step, am_ib, am_lb, am_misc, am_vret, hr]
theorem ar_invv {idx k2 a ci : Nat} {fs : List Value} {as rest : List Value} {b2 b3 : Nat × Nat} (hc : am_code k pc = some (.invokevirtual idx, 3)) (hm : am_mth (am_own k) idx = some k2) (hst : st = as.reverse ++ .ref a :: rest) (hn : as.length = am_na k2) (hcell : hp[a]? = some (.inr (.inr (.inr (ci, fs))))) (hk : (decide (am_kd k2 = 0) && decide (ci = am_own k2)) = true) (hg : (decide (am_cat rest ≤ 8) && decide (am_bc k2 ≤ b.1) && decide (am_bs k2 ≤ b.2)) = true) (hb2 : (am_bc k2, am_bs k2) = b2) (hb3 : (b.1 - am_bc k2, b.2 - am_bs k2) = b3) (hq : pc + 3 = q) (h : am_meth d k2 (.ref a :: as) (hp, b2) (fun v m => am_Run X (am_meth d) k R q ls (v.toList ++ rest) (m.1, b3))) : am_Run X (am_meth d) k R pc ls st (hp, b) := by
  subst hq; subst hb2; subst hb3; subst hst
  have h1 : (as.reverse ++ Value.ref a :: rest).drop (am_na k2) = .ref a :: rest := by
    rw [← hn, ← List.length_reverse, List.drop_left]
  have h2 : ((as.reverse ++ Value.ref a :: rest).take (am_na k2)).reverse = as := by
    rw [← hn, ← List.length_reverse, List.take_left, List.reverse_reverse]
  refine ar_cl (v := (k2, .ref a :: as, (hp, am_bc k2, am_bs k2), pc + 3, ls, rest, b.1 - am_bc k2, b.2 - am_bs k2)) hc rfl ?_ h
  simp only [am_step, am_ib, am_lb, am_misc, am_invv, hm, h1, h2, hcell]
  rw [if_pos hk, am_cal, if_pos hg]
theorem ar_invx {idx k2 : Nat} {as rest : List Value} {b2 b3 : Nat × Nat} (hc : am_code k pc = some (.invokevirtual idx, 3)) (hm : am_mth (am_own k) idx = some k2) (hst : st = as.reverse ++ .float 2 :: rest) (hn : as.length = am_na k2) (hk : (decide ((2 : UInt32) = 2) && decide (am_kd k2 = 0) && decide (am_own k2 = am_str)) = true) (hg : (decide (am_cat rest ≤ 8) && decide (am_bc k2 ≤ mem.2.1) && decide (am_bs k2 ≤ mem.2.2)) = true) (hb2 : (am_bc k2, am_bs k2) = b2) (hb3 : (mem.2.1 - am_bc k2, mem.2.2 - am_bs k2) = b3) (hq : pc + 3 = q) (h : am_meth d k2 (.float 2 :: as) (mem.1, b2) (fun v m => am_Run X (am_meth d) k R q ls (v.toList ++ rest) (m.1, b3))) : am_Run X (am_meth d) k R pc ls st mem := by
  subst hq; subst hb2; subst hb3; subst hst
  have h1 : (as.reverse ++ Value.float 2 :: rest).drop (am_na k2) = .float 2 :: rest := by
    rw [← hn, ← List.length_reverse, List.drop_left]
  have h2 : ((as.reverse ++ Value.float 2 :: rest).take (am_na k2)).reverse = as := by
    rw [← hn, ← List.length_reverse, List.take_left, List.reverse_reverse]
  refine ar_cl (v := (k2, .float 2 :: as, (mem.1, am_bc k2, am_bs k2), pc + 3, ls, rest, mem.2.1 - am_bc k2, mem.2.2 - am_bs k2)) hc rfl ?_ h
  simp only [am_step, am_ib, am_lb, am_misc, am_invv, hm, h1, h2]
  rw [if_pos (by simpa using hk), am_cal, if_pos hg]
theorem ar_invs {idx k2 : Nat} {as rest : List Value} {b2 b3 : Nat × Nat} (hc : am_code k pc = some (.invokestatic idx, 3)) (hm : am_mth (am_own k) idx = some k2) (hst : st = as.reverse ++ rest) (hn : as.length = am_na k2) (hk : am_kd k2 = 1) (hg : (decide (am_cat rest ≤ 8) && decide (am_bc k2 ≤ mem.2.1) && decide (am_bs k2 ≤ mem.2.2)) = true) (hb2 : (am_bc k2, am_bs k2) = b2) (hb3 : (mem.2.1 - am_bc k2, mem.2.2 - am_bs k2) = b3) (hq : pc + 3 = q) (h : am_meth d k2 as (mem.1, b2) (fun v m => am_Run X (am_meth d) k R q ls (v.toList ++ rest) (m.1, b3))) : am_Run X (am_meth d) k R pc ls st mem := by
  subst hq; subst hb2; subst hb3; subst hst
  have h1 : (as.reverse ++ rest).drop (am_na k2) = rest := by
    rw [← hn, ← List.length_reverse, List.drop_left]
  have h2 : ((as.reverse ++ rest).take (am_na k2)).reverse = as := by
    rw [← hn, ← List.length_reverse, List.take_left, List.reverse_reverse]
  have h3 : (decide (am_kd k2 = 1) && decide (am_na k2 ≤ (as.reverse ++ rest).length)) = true := by
    simp only [Bool.and_eq_true, decide_eq_true_eq]
    refine ⟨hk, ?_⟩
    rw [List.length_append, List.length_reverse, hn]
    omega
  refine ar_cl (v := (k2, as, (mem.1, am_bc k2, am_bs k2), pc + 3, ls, rest, mem.2.1 - am_bc k2, mem.2.2 - am_bs k2)) hc rfl ?_ h
  simp only [am_step, am_ib, am_lb, am_misc, am_invs, hm]
  rw [if_pos h3]
  simp only [h1, h2]
  rw [am_cal, if_pos hg]
theorem ar_invi {idx k2 a : Nat} {as rest : List Value} {b2 b3 : Nat × Nat} (hc : am_code k pc = some (.invokespecial idx, 3)) (h0 : ¬ (decide (idx = am_oi (am_own k)) && decide (am_own k < am_nO)) = true) (hm : am_mth (am_own k) idx = some k2) (hst : st = as.reverse ++ .ref a :: rest) (hn : as.length = am_na k2) (hk : am_kd k2 = 2) (hg : (decide (am_cat rest ≤ 8) && decide (am_bc k2 ≤ mem.2.1) && decide (am_bs k2 ≤ mem.2.2)) = true) (hb2 : (am_bc k2, am_bs k2) = b2) (hb3 : (mem.2.1 - am_bc k2, mem.2.2 - am_bs k2) = b3) (hq : pc + 3 = q) (h : am_meth d k2 (.ref a :: as) (mem.1, b2) (fun v m => am_Run X (am_meth d) k R q ls (v.toList ++ rest) (m.1, b3))) : am_Run X (am_meth d) k R pc ls st mem := by
  subst hq; subst hb2; subst hb3; subst hst
  have h1 : (as.reverse ++ Value.ref a :: rest).drop (am_na k2) = .ref a :: rest := by
    rw [← hn, ← List.length_reverse, List.drop_left]
  have h2 : ((as.reverse ++ Value.ref a :: rest).take (am_na k2)).reverse = as := by
    rw [← hn, ← List.length_reverse, List.take_left, List.reverse_reverse]
  refine ar_cl (v := (k2, .ref a :: as, (mem.1, am_bc k2, am_bs k2), pc + 3, ls, rest, mem.2.1 - am_bc k2, mem.2.2 - am_bs k2)) hc rfl ?_ h
  simp only [am_step, am_ib, am_lb, am_misc, am_invi]
  rw [if_neg h0]
  simp only [hm, h1, h2]
  rw [if_pos hk, am_cal, if_pos hg]
theorem ar_oi {idx a : Nat} (hc : am_code k pc = some (.invokespecial idx, 3)) (h0 : (decide (idx = am_oi (am_own k)) && decide (am_own k < am_nO)) = true) (hcat : am_cat st ≤ 8) (hq : pc + 3 = q) (h : am_Run X (am_meth d) k R q ls st mem) : am_Run X (am_meth d) k R pc ls (.ref a :: st) mem := by
  subst hq
  refine ar_go (c := (pc + 3, ls, st, mem)) hc rfl ?_ h
  simp only [am_step, am_ib, am_lb, am_misc, am_invi]
  rw [if_pos h0]
  rw [if_pos hcat]; rfl
/-- a method's entry -/
theorem ar_in {e : Nat} {as : List Value} (hp0 : am_isp k = false) (hl : am_pad (am_ent as) (am_ml k) = ls) (hn : decide ((am_ent as).length ≤ am_ml k) = true) (h : am_Run am_X0 (am_meth e) k R 0 ls [] mem) : am_meth (e + 1) k as mem R := by
  subst hl
  simp only [am_meth]
  rw [if_neg (by rw [hp0]; decide)]
  exact ⟨of_decide_eq_true hn, h⟩
/-- methods of Math -/
theorem ar_max {x y : Int32} (h : R (some (.int (if x < y then y else x))) mem) : am_meth (d + 1) am_mth1.1 [.int x, .int y] mem R := h
theorem ar_min {x y : Int32} (h : R (some (.int (if y < x then y else x))) mem) : am_meth (d + 1) am_mth1.2.1 [.int x, .int y] mem R := h
theorem ar_lmax {x y : Int64} (h : R (some (.long (if y < x then x else y))) mem) : am_meth (d + 1) am_mth1.2.2.1 [.long x, .long y] mem R := h
theorem ar_lmin {x y : Int64} (h : R (some (.long (if y < x then y else x))) mem) : am_meth (d + 1) am_mth1.2.2.2 [.long x, .long y] mem R := h
end AR
end
section
/-! THE CELLS OF THE TWO OBJECTS, once they are made: I c j (ints: fields and arrays), L c j (longs); which cell is what: printed by wip/whole/layout.py -/
def am_mk (I : Nat → Nat → Int32) (L : Nat → Nat → Int64) : List am_C := [
  .inr (.inr (.inr (0, [.ref 1, .ref 2, .ref 16, .ref 42, .ref 66, .ref 74, .ref 85, .ref 91, .ref 93, .ref 95, .ref 97, .ref 99, .ref 102, .ref 106]))),
  .inl (0, 7, I 1),
  .inr (.inr (.inr (11, [.ref 3, .ref 4, .ref 5]))),
  .inl (0, 10, I 3),
  .inl (0, 5, I 4),
  .inr (.inr (.inl (10, fun i => some (6 + i)))),
  .inl (0, 10, I 6),
  .inl (0, 10, I 7),
  .inl (0, 10, I 8),
  .inl (0, 10, I 9),
  .inl (0, 10, I 10),
  .inl (0, 10, I 11),
  .inl (0, 10, I 12),
  .inl (0, 10, I 13),
  .inl (0, 10, I 14),
  .inl (0, 10, I 15),
  .inr (.inr (.inr (3, [.int (I 16 0), .ref 17, .ref 18, .ref 19, .ref 20, .ref 21]))),
  .inl (0, 20, I 17),
  .inl (0, 20, I 18),
  .inl (0, 20, I 19),
  .inl (0, 20, I 20),
  .inr (.inr (.inl (20, fun i => some (22 + i)))),
  .inl (0, 5, I 22),
  .inl (0, 5, I 23),
  .inl (0, 5, I 24),
  .inl (0, 5, I 25),
  .inl (0, 5, I 26),
  .inl (0, 5, I 27),
  .inl (0, 5, I 28),
  .inl (0, 5, I 29),
  .inl (0, 5, I 30),
  .inl (0, 5, I 31),
  .inl (0, 5, I 32),
  .inl (0, 5, I 33),
  .inl (0, 5, I 34),
  .inl (0, 5, I 35),
  .inl (0, 5, I 36),
  .inl (0, 5, I 37),
  .inl (0, 5, I 38),
  .inl (0, 5, I 39),
  .inl (0, 5, I 40),
  .inl (0, 5, I 41),
  .inr (.inr (.inr (2, [.int (I 42 0), .ref 43, .ref 44, .ref 45]))),
  .inl (0, 20, I 43),
  .inl (0, 20, I 44),
  .inr (.inr (.inl (20, fun i => some (46 + i)))),
  .inl (0, 31, I 46),
  .inl (0, 31, I 47),
  .inl (0, 31, I 48),
  .inl (0, 31, I 49),
  .inl (0, 31, I 50),
  .inl (0, 31, I 51),
  .inl (0, 31, I 52),
  .inl (0, 31, I 53),
  .inl (0, 31, I 54),
  .inl (0, 31, I 55),
  .inl (0, 31, I 56),
  .inl (0, 31, I 57),
  .inl (0, 31, I 58),
  .inl (0, 31, I 59),
  .inl (0, 31, I 60),
  .inl (0, 31, I 61),
  .inl (0, 31, I 62),
  .inl (0, 31, I 63),
  .inl (0, 31, I 64),
  .inl (0, 31, I 65),
  .inr (.inr (.inr (8, [.int (I 66 0), .int (I 66 1), .ref 67, .ref 68, .ref 69, .ref 70, .ref 71, .ref 72, .ref 73]))),
  .inl (0, 60, I 67),
  .inl (0, 60, I 68),
  .inl (0, 60, I 69),
  .inl (0, 60, I 70),
  .inl (0, 60, I 71),
  .inl (0, 60, I 72),
  .inl (0, 60, I 73),
  .inr (.inr (.inr (5, [.int (I 74 0), .ref 75, .ref 76, .ref 77, .ref 66, .ref 78, .ref 81, .ref 84, .int (I 74 8)]))),
  .inl (0, 20, I 75),
  .inl (0, 20, I 76),
  .inl (0, 20, I 77),
  .inr (.inr (.inl (2, fun i => some (79 + i)))),
  .inl (0, 60, I 79),
  .inl (0, 60, I 80),
  .inr (.inr (.inl (2, fun i => some (82 + i)))),
  .inl (0, 60, I 82),
  .inl (0, 60, I 83),
  .inl (0, 20, I 84),
  .inr (.inr (.inr (9, [.int (I 85 0), .ref 86, .ref 87, .ref 88, .ref 89, .ref 90]))),
  .inl (0, 30, I 86),
  .inl (0, 30, I 87),
  .inl (0, 30, I 88),
  .inl (0, 1800, I 89),
  .inr (.inl (60, L 90)),
  .inr (.inr (.inr (6, [.int (I 91 0), .ref 92]))),
  .inl (0, 60, I 92),
  .inr (.inr (.inr (10, [.int (I 93 0), .ref 94, .ref 91, .int (I 93 3), .int (I 93 4)]))),
  .inl (0, 60, I 94),
  .inr (.inr (.inr (6, [.int (I 95 0), .ref 96]))),
  .inl (0, 12, I 96),
  .inr (.inr (.inr (6, [.int (I 97 0), .ref 98]))),
  .inl (0, 6, I 98),
  .inr (.inr (.inr (7, [.ref 2, .ref 16, .ref 42, .ref 66, .ref 74, .ref 85, .ref 100, .ref 101, .int (I 99 8)]))),
  .inl (0, 10, I 100),
  .inl (0, 120, I 101),
  .inr (.inr (.inr (1, [.int (I 102 0), .int (I 102 1), .ref 66, .ref 99, .ref 103, .ref 104, .ref 105, .int (I 102 7)]))),
  .inl (0, 10, I 103),
  .inl (0, 10, I 104),
  .inl (0, 11, I 105),
  .inr (.inr (.inr (4, [.ref 107, .int (I 106 1), .int (I 106 2), .ref 16, .ref 66, .ref 74, .ref 99, .ref 108, .ref 109, .int (I 106 9), .ref 110, .ref 111, .ref 112]))),
  .inl (0, 6, I 107),
  .inl (0, 6, I 108),
  .inl (0, 6, I 109),
  .inl (0, 20, I 110),
  .inl (0, 6, I 111),
  .inr (.inl (64, L 112)),
  .inr (.inr (.inr (12, [.int (I 113 0), .ref 114, .ref 115, .ref 116, .int (I 113 4), .ref 117, .ref 118, .ref 119, .ref 120, .ref 121, .int (I 113 10), .ref 122, .ref 123, .ref 124, .int (I 113 14), .ref 125, .ref 126, .ref 127, .ref 128, .ref 129, .ref 130, .ref 131, .ref 132, .ref 133, .int (I 113 24), .int (I 113 25), .ref 134, .ref 135, .ref 136, .ref 137, .ref 138, .ref 139, .ref 140, .ref 141, .ref 142, .ref 143, .ref 144, .ref 145, .ref 146, .int (I 113 39), .ref 147, .int (I 113 41), .ref 148, .ref 149, .ref 150, .ref 151, .ref 152, .ref 153, .ref 154, .ref 155, .int (I 113 50), .int (I 113 51), .ref 156]))),
  .inl (0, 10, I 114),
  .inl (0, 100, I 115),
  .inl (0, 5, I 116),
  .inl (0, 20, I 117),
  .inl (0, 20, I 118),
  .inl (0, 20, I 119),
  .inl (0, 20, I 120),
  .inl (0, 100, I 121),
  .inl (0, 20, I 122),
  .inl (0, 20, I 123),
  .inl (0, 620, I 124),
  .inl (0, 60, I 125),
  .inl (0, 60, I 126),
  .inl (0, 60, I 127),
  .inl (0, 60, I 128),
  .inl (0, 60, I 129),
  .inl (0, 120, I 130),
  .inl (0, 120, I 131),
  .inl (0, 120, I 132),
  .inl (1, 60, I 133),
  .inl (0, 30, I 134),
  .inl (0, 30, I 135),
  .inl (0, 30, I 136),
  .inl (1, 1800, I 137),
  .inl (2, 7, I 138),
  .inr (.inl (7, L 139)),
  .inl (0, 7, I 140),
  .inr (.inl (7, L 141)),
  .inl (0, 7, I 142),
  .inl (0, 7, I 143),
  .inr (.inl (7, L 144)),
  .inl (2, 1501, I 145),
  .inl (0, 12, I 146),
  .inl (0, 6, I 147),
  .inl (0, 10, I 148),
  .inl (0, 6, I 149),
  .inl (0, 20, I 150),
  .inl (0, 64, I 151),
  .inl (0, 64, I 152),
  .inl (0, 20, I 153),
  .inl (0, 120, I 154),
  .inl (0, 6, I 155),
  .inl (0, 7, I 156)]
section MK
variable {I : Nat → Nat → Int32} {L : Nat → Nat → Int64}
theorem mk_0 : (am_mk I L)[0]? = some (.inr (.inr (.inr (0, [.ref 1, .ref 2, .ref 16, .ref 42, .ref 66, .ref 74, .ref 85, .ref 91, .ref 93, .ref 95, .ref 97, .ref 99, .ref 102, .ref 106])))) := rfl
theorem mk_1 : (am_mk I L)[1]? = some (.inl (0, 7, I 1)) := rfl
set_option maxRecDepth 100000 in
theorem mk_s1 {f : Nat → Int32} : (am_mk I L).set 1 (.inl (0, 7, f)) = am_mk (va_up I 1 f) L := rfl
theorem mk_2 : (am_mk I L)[2]? = some (.inr (.inr (.inr (11, [.ref 3, .ref 4, .ref 5])))) := rfl
theorem mk_3 : (am_mk I L)[3]? = some (.inl (0, 10, I 3)) := rfl
set_option maxRecDepth 100000 in
theorem mk_s3 {f : Nat → Int32} : (am_mk I L).set 3 (.inl (0, 10, f)) = am_mk (va_up I 3 f) L := rfl
theorem mk_4 : (am_mk I L)[4]? = some (.inl (0, 5, I 4)) := rfl
set_option maxRecDepth 100000 in
theorem mk_s4 {f : Nat → Int32} : (am_mk I L).set 4 (.inl (0, 5, f)) = am_mk (va_up I 4 f) L := rfl
theorem mk_5 : (am_mk I L)[5]? = some (.inr (.inr (.inl (10, fun i => some (6 + i))))) := rfl
theorem mk_6 : (am_mk I L)[6]? = some (.inl (0, 10, I 6)) := rfl
set_option maxRecDepth 100000 in
theorem mk_s6 {f : Nat → Int32} : (am_mk I L).set 6 (.inl (0, 10, f)) = am_mk (va_up I 6 f) L := rfl
theorem mk_7 : (am_mk I L)[7]? = some (.inl (0, 10, I 7)) := rfl
set_option maxRecDepth 100000 in
theorem mk_s7 {f : Nat → Int32} : (am_mk I L).set 7 (.inl (0, 10, f)) = am_mk (va_up I 7 f) L := rfl
theorem mk_8 : (am_mk I L)[8]? = some (.inl (0, 10, I 8)) := rfl
set_option maxRecDepth 100000 in
theorem mk_s8 {f : Nat → Int32} : (am_mk I L).set 8 (.inl (0, 10, f)) = am_mk (va_up I 8 f) L := rfl
theorem mk_9 : (am_mk I L)[9]? = some (.inl (0, 10, I 9)) := rfl
set_option maxRecDepth 100000 in
theorem mk_s9 {f : Nat → Int32} : (am_mk I L).set 9 (.inl (0, 10, f)) = am_mk (va_up I 9 f) L := rfl
theorem mk_10 : (am_mk I L)[10]? = some (.inl (0, 10, I 10)) := rfl
set_option maxRecDepth 100000 in
theorem mk_s10 {f : Nat → Int32} : (am_mk I L).set 10 (.inl (0, 10, f)) = am_mk (va_up I 10 f) L := rfl
theorem mk_11 : (am_mk I L)[11]? = some (.inl (0, 10, I 11)) := rfl
set_option maxRecDepth 100000 in
theorem mk_s11 {f : Nat → Int32} : (am_mk I L).set 11 (.inl (0, 10, f)) = am_mk (va_up I 11 f) L := rfl
theorem mk_12 : (am_mk I L)[12]? = some (.inl (0, 10, I 12)) := rfl
set_option maxRecDepth 100000 in
theorem mk_s12 {f : Nat → Int32} : (am_mk I L).set 12 (.inl (0, 10, f)) = am_mk (va_up I 12 f) L := rfl
theorem mk_13 : (am_mk I L)[13]? = some (.inl (0, 10, I 13)) := rfl
set_option maxRecDepth 100000 in
theorem mk_s13 {f : Nat → Int32} : (am_mk I L).set 13 (.inl (0, 10, f)) = am_mk (va_up I 13 f) L := rfl
theorem mk_14 : (am_mk I L)[14]? = some (.inl (0, 10, I 14)) := rfl
set_option maxRecDepth 100000 in
theorem mk_s14 {f : Nat → Int32} : (am_mk I L).set 14 (.inl (0, 10, f)) = am_mk (va_up I 14 f) L := rfl
theorem mk_15 : (am_mk I L)[15]? = some (.inl (0, 10, I 15)) := rfl
set_option maxRecDepth 100000 in
theorem mk_s15 {f : Nat → Int32} : (am_mk I L).set 15 (.inl (0, 10, f)) = am_mk (va_up I 15 f) L := rfl
theorem mk_16 : (am_mk I L)[16]? = some (.inr (.inr (.inr (3, [.int (I 16 0), .ref 17, .ref 18, .ref 19, .ref 20, .ref 21])))) := rfl
set_option maxRecDepth 100000 in
theorem mk_p16_0 {v : Int32} : (am_mk I L).set 16 (.inr (.inr (.inr (3, [.int (I 16 0), .ref 17, .ref 18, .ref 19, .ref 20, .ref 21].set 0 (.int v))))) = am_mk (va_up I 16 (upd (I 16) 0 v)) L := rfl
theorem mk_17 : (am_mk I L)[17]? = some (.inl (0, 20, I 17)) := rfl
set_option maxRecDepth 100000 in
theorem mk_s17 {f : Nat → Int32} : (am_mk I L).set 17 (.inl (0, 20, f)) = am_mk (va_up I 17 f) L := rfl
theorem mk_18 : (am_mk I L)[18]? = some (.inl (0, 20, I 18)) := rfl
set_option maxRecDepth 100000 in
theorem mk_s18 {f : Nat → Int32} : (am_mk I L).set 18 (.inl (0, 20, f)) = am_mk (va_up I 18 f) L := rfl
theorem mk_19 : (am_mk I L)[19]? = some (.inl (0, 20, I 19)) := rfl
set_option maxRecDepth 100000 in
theorem mk_s19 {f : Nat → Int32} : (am_mk I L).set 19 (.inl (0, 20, f)) = am_mk (va_up I 19 f) L := rfl
theorem mk_20 : (am_mk I L)[20]? = some (.inl (0, 20, I 20)) := rfl
set_option maxRecDepth 100000 in
theorem mk_s20 {f : Nat → Int32} : (am_mk I L).set 20 (.inl (0, 20, f)) = am_mk (va_up I 20 f) L := rfl
theorem mk_21 : (am_mk I L)[21]? = some (.inr (.inr (.inl (20, fun i => some (22 + i))))) := rfl
theorem mk_22 : (am_mk I L)[22]? = some (.inl (0, 5, I 22)) := rfl
set_option maxRecDepth 100000 in
theorem mk_s22 {f : Nat → Int32} : (am_mk I L).set 22 (.inl (0, 5, f)) = am_mk (va_up I 22 f) L := rfl
theorem mk_23 : (am_mk I L)[23]? = some (.inl (0, 5, I 23)) := rfl
set_option maxRecDepth 100000 in
theorem mk_s23 {f : Nat → Int32} : (am_mk I L).set 23 (.inl (0, 5, f)) = am_mk (va_up I 23 f) L := rfl
theorem mk_24 : (am_mk I L)[24]? = some (.inl (0, 5, I 24)) := rfl
set_option maxRecDepth 100000 in
theorem mk_s24 {f : Nat → Int32} : (am_mk I L).set 24 (.inl (0, 5, f)) = am_mk (va_up I 24 f) L := rfl
theorem mk_25 : (am_mk I L)[25]? = some (.inl (0, 5, I 25)) := rfl
set_option maxRecDepth 100000 in
theorem mk_s25 {f : Nat → Int32} : (am_mk I L).set 25 (.inl (0, 5, f)) = am_mk (va_up I 25 f) L := rfl
theorem mk_26 : (am_mk I L)[26]? = some (.inl (0, 5, I 26)) := rfl
set_option maxRecDepth 100000 in
theorem mk_s26 {f : Nat → Int32} : (am_mk I L).set 26 (.inl (0, 5, f)) = am_mk (va_up I 26 f) L := rfl
theorem mk_27 : (am_mk I L)[27]? = some (.inl (0, 5, I 27)) := rfl
set_option maxRecDepth 100000 in
theorem mk_s27 {f : Nat → Int32} : (am_mk I L).set 27 (.inl (0, 5, f)) = am_mk (va_up I 27 f) L := rfl
theorem mk_28 : (am_mk I L)[28]? = some (.inl (0, 5, I 28)) := rfl
set_option maxRecDepth 100000 in
theorem mk_s28 {f : Nat → Int32} : (am_mk I L).set 28 (.inl (0, 5, f)) = am_mk (va_up I 28 f) L := rfl
theorem mk_29 : (am_mk I L)[29]? = some (.inl (0, 5, I 29)) := rfl
set_option maxRecDepth 100000 in
theorem mk_s29 {f : Nat → Int32} : (am_mk I L).set 29 (.inl (0, 5, f)) = am_mk (va_up I 29 f) L := rfl
theorem mk_30 : (am_mk I L)[30]? = some (.inl (0, 5, I 30)) := rfl
set_option maxRecDepth 100000 in
theorem mk_s30 {f : Nat → Int32} : (am_mk I L).set 30 (.inl (0, 5, f)) = am_mk (va_up I 30 f) L := rfl
theorem mk_31 : (am_mk I L)[31]? = some (.inl (0, 5, I 31)) := rfl
set_option maxRecDepth 100000 in
theorem mk_s31 {f : Nat → Int32} : (am_mk I L).set 31 (.inl (0, 5, f)) = am_mk (va_up I 31 f) L := rfl
theorem mk_32 : (am_mk I L)[32]? = some (.inl (0, 5, I 32)) := rfl
set_option maxRecDepth 100000 in
theorem mk_s32 {f : Nat → Int32} : (am_mk I L).set 32 (.inl (0, 5, f)) = am_mk (va_up I 32 f) L := rfl
theorem mk_33 : (am_mk I L)[33]? = some (.inl (0, 5, I 33)) := rfl
set_option maxRecDepth 100000 in
theorem mk_s33 {f : Nat → Int32} : (am_mk I L).set 33 (.inl (0, 5, f)) = am_mk (va_up I 33 f) L := rfl
theorem mk_34 : (am_mk I L)[34]? = some (.inl (0, 5, I 34)) := rfl
set_option maxRecDepth 100000 in
theorem mk_s34 {f : Nat → Int32} : (am_mk I L).set 34 (.inl (0, 5, f)) = am_mk (va_up I 34 f) L := rfl
theorem mk_35 : (am_mk I L)[35]? = some (.inl (0, 5, I 35)) := rfl
set_option maxRecDepth 100000 in
theorem mk_s35 {f : Nat → Int32} : (am_mk I L).set 35 (.inl (0, 5, f)) = am_mk (va_up I 35 f) L := rfl
theorem mk_36 : (am_mk I L)[36]? = some (.inl (0, 5, I 36)) := rfl
set_option maxRecDepth 100000 in
theorem mk_s36 {f : Nat → Int32} : (am_mk I L).set 36 (.inl (0, 5, f)) = am_mk (va_up I 36 f) L := rfl
theorem mk_37 : (am_mk I L)[37]? = some (.inl (0, 5, I 37)) := rfl
set_option maxRecDepth 100000 in
theorem mk_s37 {f : Nat → Int32} : (am_mk I L).set 37 (.inl (0, 5, f)) = am_mk (va_up I 37 f) L := rfl
theorem mk_38 : (am_mk I L)[38]? = some (.inl (0, 5, I 38)) := rfl
set_option maxRecDepth 100000 in
theorem mk_s38 {f : Nat → Int32} : (am_mk I L).set 38 (.inl (0, 5, f)) = am_mk (va_up I 38 f) L := rfl
theorem mk_39 : (am_mk I L)[39]? = some (.inl (0, 5, I 39)) := rfl
set_option maxRecDepth 100000 in
theorem mk_s39 {f : Nat → Int32} : (am_mk I L).set 39 (.inl (0, 5, f)) = am_mk (va_up I 39 f) L := rfl
theorem mk_40 : (am_mk I L)[40]? = some (.inl (0, 5, I 40)) := rfl
set_option maxRecDepth 100000 in
theorem mk_s40 {f : Nat → Int32} : (am_mk I L).set 40 (.inl (0, 5, f)) = am_mk (va_up I 40 f) L := rfl
theorem mk_41 : (am_mk I L)[41]? = some (.inl (0, 5, I 41)) := rfl
set_option maxRecDepth 100000 in
theorem mk_s41 {f : Nat → Int32} : (am_mk I L).set 41 (.inl (0, 5, f)) = am_mk (va_up I 41 f) L := rfl
theorem mk_42 : (am_mk I L)[42]? = some (.inr (.inr (.inr (2, [.int (I 42 0), .ref 43, .ref 44, .ref 45])))) := rfl
set_option maxRecDepth 100000 in
theorem mk_p42_0 {v : Int32} : (am_mk I L).set 42 (.inr (.inr (.inr (2, [.int (I 42 0), .ref 43, .ref 44, .ref 45].set 0 (.int v))))) = am_mk (va_up I 42 (upd (I 42) 0 v)) L := rfl
theorem mk_43 : (am_mk I L)[43]? = some (.inl (0, 20, I 43)) := rfl
set_option maxRecDepth 100000 in
theorem mk_s43 {f : Nat → Int32} : (am_mk I L).set 43 (.inl (0, 20, f)) = am_mk (va_up I 43 f) L := rfl
theorem mk_44 : (am_mk I L)[44]? = some (.inl (0, 20, I 44)) := rfl
set_option maxRecDepth 100000 in
theorem mk_s44 {f : Nat → Int32} : (am_mk I L).set 44 (.inl (0, 20, f)) = am_mk (va_up I 44 f) L := rfl
theorem mk_45 : (am_mk I L)[45]? = some (.inr (.inr (.inl (20, fun i => some (46 + i))))) := rfl
theorem mk_46 : (am_mk I L)[46]? = some (.inl (0, 31, I 46)) := rfl
set_option maxRecDepth 100000 in
theorem mk_s46 {f : Nat → Int32} : (am_mk I L).set 46 (.inl (0, 31, f)) = am_mk (va_up I 46 f) L := rfl
theorem mk_47 : (am_mk I L)[47]? = some (.inl (0, 31, I 47)) := rfl
set_option maxRecDepth 100000 in
theorem mk_s47 {f : Nat → Int32} : (am_mk I L).set 47 (.inl (0, 31, f)) = am_mk (va_up I 47 f) L := rfl
theorem mk_48 : (am_mk I L)[48]? = some (.inl (0, 31, I 48)) := rfl
set_option maxRecDepth 100000 in
theorem mk_s48 {f : Nat → Int32} : (am_mk I L).set 48 (.inl (0, 31, f)) = am_mk (va_up I 48 f) L := rfl
theorem mk_49 : (am_mk I L)[49]? = some (.inl (0, 31, I 49)) := rfl
set_option maxRecDepth 100000 in
theorem mk_s49 {f : Nat → Int32} : (am_mk I L).set 49 (.inl (0, 31, f)) = am_mk (va_up I 49 f) L := rfl
theorem mk_50 : (am_mk I L)[50]? = some (.inl (0, 31, I 50)) := rfl
set_option maxRecDepth 100000 in
theorem mk_s50 {f : Nat → Int32} : (am_mk I L).set 50 (.inl (0, 31, f)) = am_mk (va_up I 50 f) L := rfl
theorem mk_51 : (am_mk I L)[51]? = some (.inl (0, 31, I 51)) := rfl
set_option maxRecDepth 100000 in
theorem mk_s51 {f : Nat → Int32} : (am_mk I L).set 51 (.inl (0, 31, f)) = am_mk (va_up I 51 f) L := rfl
theorem mk_52 : (am_mk I L)[52]? = some (.inl (0, 31, I 52)) := rfl
set_option maxRecDepth 100000 in
theorem mk_s52 {f : Nat → Int32} : (am_mk I L).set 52 (.inl (0, 31, f)) = am_mk (va_up I 52 f) L := rfl
theorem mk_53 : (am_mk I L)[53]? = some (.inl (0, 31, I 53)) := rfl
set_option maxRecDepth 100000 in
theorem mk_s53 {f : Nat → Int32} : (am_mk I L).set 53 (.inl (0, 31, f)) = am_mk (va_up I 53 f) L := rfl
theorem mk_54 : (am_mk I L)[54]? = some (.inl (0, 31, I 54)) := rfl
set_option maxRecDepth 100000 in
theorem mk_s54 {f : Nat → Int32} : (am_mk I L).set 54 (.inl (0, 31, f)) = am_mk (va_up I 54 f) L := rfl
theorem mk_55 : (am_mk I L)[55]? = some (.inl (0, 31, I 55)) := rfl
set_option maxRecDepth 100000 in
theorem mk_s55 {f : Nat → Int32} : (am_mk I L).set 55 (.inl (0, 31, f)) = am_mk (va_up I 55 f) L := rfl
theorem mk_56 : (am_mk I L)[56]? = some (.inl (0, 31, I 56)) := rfl
set_option maxRecDepth 100000 in
theorem mk_s56 {f : Nat → Int32} : (am_mk I L).set 56 (.inl (0, 31, f)) = am_mk (va_up I 56 f) L := rfl
theorem mk_57 : (am_mk I L)[57]? = some (.inl (0, 31, I 57)) := rfl
set_option maxRecDepth 100000 in
theorem mk_s57 {f : Nat → Int32} : (am_mk I L).set 57 (.inl (0, 31, f)) = am_mk (va_up I 57 f) L := rfl
theorem mk_58 : (am_mk I L)[58]? = some (.inl (0, 31, I 58)) := rfl
set_option maxRecDepth 100000 in
theorem mk_s58 {f : Nat → Int32} : (am_mk I L).set 58 (.inl (0, 31, f)) = am_mk (va_up I 58 f) L := rfl
theorem mk_59 : (am_mk I L)[59]? = some (.inl (0, 31, I 59)) := rfl
set_option maxRecDepth 100000 in
theorem mk_s59 {f : Nat → Int32} : (am_mk I L).set 59 (.inl (0, 31, f)) = am_mk (va_up I 59 f) L := rfl
theorem mk_60 : (am_mk I L)[60]? = some (.inl (0, 31, I 60)) := rfl
set_option maxRecDepth 100000 in
theorem mk_s60 {f : Nat → Int32} : (am_mk I L).set 60 (.inl (0, 31, f)) = am_mk (va_up I 60 f) L := rfl
theorem mk_61 : (am_mk I L)[61]? = some (.inl (0, 31, I 61)) := rfl
set_option maxRecDepth 100000 in
theorem mk_s61 {f : Nat → Int32} : (am_mk I L).set 61 (.inl (0, 31, f)) = am_mk (va_up I 61 f) L := rfl
theorem mk_62 : (am_mk I L)[62]? = some (.inl (0, 31, I 62)) := rfl
set_option maxRecDepth 100000 in
theorem mk_s62 {f : Nat → Int32} : (am_mk I L).set 62 (.inl (0, 31, f)) = am_mk (va_up I 62 f) L := rfl
theorem mk_63 : (am_mk I L)[63]? = some (.inl (0, 31, I 63)) := rfl
set_option maxRecDepth 100000 in
theorem mk_s63 {f : Nat → Int32} : (am_mk I L).set 63 (.inl (0, 31, f)) = am_mk (va_up I 63 f) L := rfl
theorem mk_64 : (am_mk I L)[64]? = some (.inl (0, 31, I 64)) := rfl
set_option maxRecDepth 100000 in
theorem mk_s64 {f : Nat → Int32} : (am_mk I L).set 64 (.inl (0, 31, f)) = am_mk (va_up I 64 f) L := rfl
theorem mk_65 : (am_mk I L)[65]? = some (.inl (0, 31, I 65)) := rfl
set_option maxRecDepth 100000 in
theorem mk_s65 {f : Nat → Int32} : (am_mk I L).set 65 (.inl (0, 31, f)) = am_mk (va_up I 65 f) L := rfl
theorem mk_66 : (am_mk I L)[66]? = some (.inr (.inr (.inr (8, [.int (I 66 0), .int (I 66 1), .ref 67, .ref 68, .ref 69, .ref 70, .ref 71, .ref 72, .ref 73])))) := rfl
set_option maxRecDepth 100000 in
theorem mk_p66_0 {v : Int32} : (am_mk I L).set 66 (.inr (.inr (.inr (8, [.int (I 66 0), .int (I 66 1), .ref 67, .ref 68, .ref 69, .ref 70, .ref 71, .ref 72, .ref 73].set 0 (.int v))))) = am_mk (va_up I 66 (upd (I 66) 0 v)) L := rfl
set_option maxRecDepth 100000 in
theorem mk_p66_1 {v : Int32} : (am_mk I L).set 66 (.inr (.inr (.inr (8, [.int (I 66 0), .int (I 66 1), .ref 67, .ref 68, .ref 69, .ref 70, .ref 71, .ref 72, .ref 73].set 1 (.int v))))) = am_mk (va_up I 66 (upd (I 66) 1 v)) L := rfl
theorem mk_67 : (am_mk I L)[67]? = some (.inl (0, 60, I 67)) := rfl
set_option maxRecDepth 100000 in
theorem mk_s67 {f : Nat → Int32} : (am_mk I L).set 67 (.inl (0, 60, f)) = am_mk (va_up I 67 f) L := rfl
theorem mk_68 : (am_mk I L)[68]? = some (.inl (0, 60, I 68)) := rfl
set_option maxRecDepth 100000 in
theorem mk_s68 {f : Nat → Int32} : (am_mk I L).set 68 (.inl (0, 60, f)) = am_mk (va_up I 68 f) L := rfl
theorem mk_69 : (am_mk I L)[69]? = some (.inl (0, 60, I 69)) := rfl
set_option maxRecDepth 100000 in
theorem mk_s69 {f : Nat → Int32} : (am_mk I L).set 69 (.inl (0, 60, f)) = am_mk (va_up I 69 f) L := rfl
theorem mk_70 : (am_mk I L)[70]? = some (.inl (0, 60, I 70)) := rfl
set_option maxRecDepth 100000 in
theorem mk_s70 {f : Nat → Int32} : (am_mk I L).set 70 (.inl (0, 60, f)) = am_mk (va_up I 70 f) L := rfl
theorem mk_71 : (am_mk I L)[71]? = some (.inl (0, 60, I 71)) := rfl
set_option maxRecDepth 100000 in
theorem mk_s71 {f : Nat → Int32} : (am_mk I L).set 71 (.inl (0, 60, f)) = am_mk (va_up I 71 f) L := rfl
theorem mk_72 : (am_mk I L)[72]? = some (.inl (0, 60, I 72)) := rfl
set_option maxRecDepth 100000 in
theorem mk_s72 {f : Nat → Int32} : (am_mk I L).set 72 (.inl (0, 60, f)) = am_mk (va_up I 72 f) L := rfl
theorem mk_73 : (am_mk I L)[73]? = some (.inl (0, 60, I 73)) := rfl
set_option maxRecDepth 100000 in
theorem mk_s73 {f : Nat → Int32} : (am_mk I L).set 73 (.inl (0, 60, f)) = am_mk (va_up I 73 f) L := rfl
theorem mk_74 : (am_mk I L)[74]? = some (.inr (.inr (.inr (5, [.int (I 74 0), .ref 75, .ref 76, .ref 77, .ref 66, .ref 78, .ref 81, .ref 84, .int (I 74 8)])))) := rfl
set_option maxRecDepth 100000 in
theorem mk_p74_0 {v : Int32} : (am_mk I L).set 74 (.inr (.inr (.inr (5, [.int (I 74 0), .ref 75, .ref 76, .ref 77, .ref 66, .ref 78, .ref 81, .ref 84, .int (I 74 8)].set 0 (.int v))))) = am_mk (va_up I 74 (upd (I 74) 0 v)) L := rfl
set_option maxRecDepth 100000 in
theorem mk_p74_8 {v : Int32} : (am_mk I L).set 74 (.inr (.inr (.inr (5, [.int (I 74 0), .ref 75, .ref 76, .ref 77, .ref 66, .ref 78, .ref 81, .ref 84, .int (I 74 8)].set 8 (.int v))))) = am_mk (va_up I 74 (upd (I 74) 8 v)) L := rfl
theorem mk_75 : (am_mk I L)[75]? = some (.inl (0, 20, I 75)) := rfl
set_option maxRecDepth 100000 in
theorem mk_s75 {f : Nat → Int32} : (am_mk I L).set 75 (.inl (0, 20, f)) = am_mk (va_up I 75 f) L := rfl
theorem mk_76 : (am_mk I L)[76]? = some (.inl (0, 20, I 76)) := rfl
set_option maxRecDepth 100000 in
theorem mk_s76 {f : Nat → Int32} : (am_mk I L).set 76 (.inl (0, 20, f)) = am_mk (va_up I 76 f) L := rfl
theorem mk_77 : (am_mk I L)[77]? = some (.inl (0, 20, I 77)) := rfl
set_option maxRecDepth 100000 in
theorem mk_s77 {f : Nat → Int32} : (am_mk I L).set 77 (.inl (0, 20, f)) = am_mk (va_up I 77 f) L := rfl
theorem mk_78 : (am_mk I L)[78]? = some (.inr (.inr (.inl (2, fun i => some (79 + i))))) := rfl
theorem mk_79 : (am_mk I L)[79]? = some (.inl (0, 60, I 79)) := rfl
set_option maxRecDepth 100000 in
theorem mk_s79 {f : Nat → Int32} : (am_mk I L).set 79 (.inl (0, 60, f)) = am_mk (va_up I 79 f) L := rfl
theorem mk_80 : (am_mk I L)[80]? = some (.inl (0, 60, I 80)) := rfl
set_option maxRecDepth 100000 in
theorem mk_s80 {f : Nat → Int32} : (am_mk I L).set 80 (.inl (0, 60, f)) = am_mk (va_up I 80 f) L := rfl
theorem mk_81 : (am_mk I L)[81]? = some (.inr (.inr (.inl (2, fun i => some (82 + i))))) := rfl
theorem mk_82 : (am_mk I L)[82]? = some (.inl (0, 60, I 82)) := rfl
set_option maxRecDepth 100000 in
theorem mk_s82 {f : Nat → Int32} : (am_mk I L).set 82 (.inl (0, 60, f)) = am_mk (va_up I 82 f) L := rfl
theorem mk_83 : (am_mk I L)[83]? = some (.inl (0, 60, I 83)) := rfl
set_option maxRecDepth 100000 in
theorem mk_s83 {f : Nat → Int32} : (am_mk I L).set 83 (.inl (0, 60, f)) = am_mk (va_up I 83 f) L := rfl
theorem mk_84 : (am_mk I L)[84]? = some (.inl (0, 20, I 84)) := rfl
set_option maxRecDepth 100000 in
theorem mk_s84 {f : Nat → Int32} : (am_mk I L).set 84 (.inl (0, 20, f)) = am_mk (va_up I 84 f) L := rfl
theorem mk_85 : (am_mk I L)[85]? = some (.inr (.inr (.inr (9, [.int (I 85 0), .ref 86, .ref 87, .ref 88, .ref 89, .ref 90])))) := rfl
set_option maxRecDepth 100000 in
theorem mk_p85_0 {v : Int32} : (am_mk I L).set 85 (.inr (.inr (.inr (9, [.int (I 85 0), .ref 86, .ref 87, .ref 88, .ref 89, .ref 90].set 0 (.int v))))) = am_mk (va_up I 85 (upd (I 85) 0 v)) L := rfl
theorem mk_86 : (am_mk I L)[86]? = some (.inl (0, 30, I 86)) := rfl
set_option maxRecDepth 100000 in
theorem mk_s86 {f : Nat → Int32} : (am_mk I L).set 86 (.inl (0, 30, f)) = am_mk (va_up I 86 f) L := rfl
theorem mk_87 : (am_mk I L)[87]? = some (.inl (0, 30, I 87)) := rfl
set_option maxRecDepth 100000 in
theorem mk_s87 {f : Nat → Int32} : (am_mk I L).set 87 (.inl (0, 30, f)) = am_mk (va_up I 87 f) L := rfl
theorem mk_88 : (am_mk I L)[88]? = some (.inl (0, 30, I 88)) := rfl
set_option maxRecDepth 100000 in
theorem mk_s88 {f : Nat → Int32} : (am_mk I L).set 88 (.inl (0, 30, f)) = am_mk (va_up I 88 f) L := rfl
theorem mk_89 : (am_mk I L)[89]? = some (.inl (0, 1800, I 89)) := rfl
set_option maxRecDepth 100000 in
theorem mk_s89 {f : Nat → Int32} : (am_mk I L).set 89 (.inl (0, 1800, f)) = am_mk (va_up I 89 f) L := rfl
theorem mk_90 : (am_mk I L)[90]? = some (.inr (.inl (60, L 90))) := rfl
set_option maxRecDepth 100000 in
theorem mk_s90 {f : Nat → Int64} : (am_mk I L).set 90 (.inr (.inl (60, f))) = am_mk I (va_up L 90 f) := rfl
theorem mk_91 : (am_mk I L)[91]? = some (.inr (.inr (.inr (6, [.int (I 91 0), .ref 92])))) := rfl
set_option maxRecDepth 100000 in
theorem mk_p91_0 {v : Int32} : (am_mk I L).set 91 (.inr (.inr (.inr (6, [.int (I 91 0), .ref 92].set 0 (.int v))))) = am_mk (va_up I 91 (upd (I 91) 0 v)) L := rfl
theorem mk_92 : (am_mk I L)[92]? = some (.inl (0, 60, I 92)) := rfl
set_option maxRecDepth 100000 in
theorem mk_s92 {f : Nat → Int32} : (am_mk I L).set 92 (.inl (0, 60, f)) = am_mk (va_up I 92 f) L := rfl
theorem mk_93 : (am_mk I L)[93]? = some (.inr (.inr (.inr (10, [.int (I 93 0), .ref 94, .ref 91, .int (I 93 3), .int (I 93 4)])))) := rfl
set_option maxRecDepth 100000 in
theorem mk_p93_0 {v : Int32} : (am_mk I L).set 93 (.inr (.inr (.inr (10, [.int (I 93 0), .ref 94, .ref 91, .int (I 93 3), .int (I 93 4)].set 0 (.int v))))) = am_mk (va_up I 93 (upd (I 93) 0 v)) L := rfl
set_option maxRecDepth 100000 in
theorem mk_p93_3 {v : Int32} : (am_mk I L).set 93 (.inr (.inr (.inr (10, [.int (I 93 0), .ref 94, .ref 91, .int (I 93 3), .int (I 93 4)].set 3 (.int v))))) = am_mk (va_up I 93 (upd (I 93) 3 v)) L := rfl
set_option maxRecDepth 100000 in
theorem mk_p93_4 {v : Int32} : (am_mk I L).set 93 (.inr (.inr (.inr (10, [.int (I 93 0), .ref 94, .ref 91, .int (I 93 3), .int (I 93 4)].set 4 (.int v))))) = am_mk (va_up I 93 (upd (I 93) 4 v)) L := rfl
theorem mk_94 : (am_mk I L)[94]? = some (.inl (0, 60, I 94)) := rfl
set_option maxRecDepth 100000 in
theorem mk_s94 {f : Nat → Int32} : (am_mk I L).set 94 (.inl (0, 60, f)) = am_mk (va_up I 94 f) L := rfl
theorem mk_95 : (am_mk I L)[95]? = some (.inr (.inr (.inr (6, [.int (I 95 0), .ref 96])))) := rfl
set_option maxRecDepth 100000 in
theorem mk_p95_0 {v : Int32} : (am_mk I L).set 95 (.inr (.inr (.inr (6, [.int (I 95 0), .ref 96].set 0 (.int v))))) = am_mk (va_up I 95 (upd (I 95) 0 v)) L := rfl
theorem mk_96 : (am_mk I L)[96]? = some (.inl (0, 12, I 96)) := rfl
set_option maxRecDepth 100000 in
theorem mk_s96 {f : Nat → Int32} : (am_mk I L).set 96 (.inl (0, 12, f)) = am_mk (va_up I 96 f) L := rfl
theorem mk_97 : (am_mk I L)[97]? = some (.inr (.inr (.inr (6, [.int (I 97 0), .ref 98])))) := rfl
set_option maxRecDepth 100000 in
theorem mk_p97_0 {v : Int32} : (am_mk I L).set 97 (.inr (.inr (.inr (6, [.int (I 97 0), .ref 98].set 0 (.int v))))) = am_mk (va_up I 97 (upd (I 97) 0 v)) L := rfl
theorem mk_98 : (am_mk I L)[98]? = some (.inl (0, 6, I 98)) := rfl
set_option maxRecDepth 100000 in
theorem mk_s98 {f : Nat → Int32} : (am_mk I L).set 98 (.inl (0, 6, f)) = am_mk (va_up I 98 f) L := rfl
theorem mk_99 : (am_mk I L)[99]? = some (.inr (.inr (.inr (7, [.ref 2, .ref 16, .ref 42, .ref 66, .ref 74, .ref 85, .ref 100, .ref 101, .int (I 99 8)])))) := rfl
set_option maxRecDepth 100000 in
theorem mk_p99_8 {v : Int32} : (am_mk I L).set 99 (.inr (.inr (.inr (7, [.ref 2, .ref 16, .ref 42, .ref 66, .ref 74, .ref 85, .ref 100, .ref 101, .int (I 99 8)].set 8 (.int v))))) = am_mk (va_up I 99 (upd (I 99) 8 v)) L := rfl
theorem mk_100 : (am_mk I L)[100]? = some (.inl (0, 10, I 100)) := rfl
set_option maxRecDepth 100000 in
theorem mk_s100 {f : Nat → Int32} : (am_mk I L).set 100 (.inl (0, 10, f)) = am_mk (va_up I 100 f) L := rfl
theorem mk_101 : (am_mk I L)[101]? = some (.inl (0, 120, I 101)) := rfl
set_option maxRecDepth 100000 in
theorem mk_s101 {f : Nat → Int32} : (am_mk I L).set 101 (.inl (0, 120, f)) = am_mk (va_up I 101 f) L := rfl
theorem mk_102 : (am_mk I L)[102]? = some (.inr (.inr (.inr (1, [.int (I 102 0), .int (I 102 1), .ref 66, .ref 99, .ref 103, .ref 104, .ref 105, .int (I 102 7)])))) := rfl
set_option maxRecDepth 100000 in
theorem mk_p102_0 {v : Int32} : (am_mk I L).set 102 (.inr (.inr (.inr (1, [.int (I 102 0), .int (I 102 1), .ref 66, .ref 99, .ref 103, .ref 104, .ref 105, .int (I 102 7)].set 0 (.int v))))) = am_mk (va_up I 102 (upd (I 102) 0 v)) L := rfl
set_option maxRecDepth 100000 in
theorem mk_p102_1 {v : Int32} : (am_mk I L).set 102 (.inr (.inr (.inr (1, [.int (I 102 0), .int (I 102 1), .ref 66, .ref 99, .ref 103, .ref 104, .ref 105, .int (I 102 7)].set 1 (.int v))))) = am_mk (va_up I 102 (upd (I 102) 1 v)) L := rfl
set_option maxRecDepth 100000 in
theorem mk_p102_7 {v : Int32} : (am_mk I L).set 102 (.inr (.inr (.inr (1, [.int (I 102 0), .int (I 102 1), .ref 66, .ref 99, .ref 103, .ref 104, .ref 105, .int (I 102 7)].set 7 (.int v))))) = am_mk (va_up I 102 (upd (I 102) 7 v)) L := rfl
theorem mk_103 : (am_mk I L)[103]? = some (.inl (0, 10, I 103)) := rfl
set_option maxRecDepth 100000 in
theorem mk_s103 {f : Nat → Int32} : (am_mk I L).set 103 (.inl (0, 10, f)) = am_mk (va_up I 103 f) L := rfl
theorem mk_104 : (am_mk I L)[104]? = some (.inl (0, 10, I 104)) := rfl
set_option maxRecDepth 100000 in
theorem mk_s104 {f : Nat → Int32} : (am_mk I L).set 104 (.inl (0, 10, f)) = am_mk (va_up I 104 f) L := rfl
theorem mk_105 : (am_mk I L)[105]? = some (.inl (0, 11, I 105)) := rfl
set_option maxRecDepth 100000 in
theorem mk_s105 {f : Nat → Int32} : (am_mk I L).set 105 (.inl (0, 11, f)) = am_mk (va_up I 105 f) L := rfl
theorem mk_106 : (am_mk I L)[106]? = some (.inr (.inr (.inr (4, [.ref 107, .int (I 106 1), .int (I 106 2), .ref 16, .ref 66, .ref 74, .ref 99, .ref 108, .ref 109, .int (I 106 9), .ref 110, .ref 111, .ref 112])))) := rfl
set_option maxRecDepth 100000 in
theorem mk_p106_1 {v : Int32} : (am_mk I L).set 106 (.inr (.inr (.inr (4, [.ref 107, .int (I 106 1), .int (I 106 2), .ref 16, .ref 66, .ref 74, .ref 99, .ref 108, .ref 109, .int (I 106 9), .ref 110, .ref 111, .ref 112].set 1 (.int v))))) = am_mk (va_up I 106 (upd (I 106) 1 v)) L := rfl
set_option maxRecDepth 100000 in
theorem mk_p106_2 {v : Int32} : (am_mk I L).set 106 (.inr (.inr (.inr (4, [.ref 107, .int (I 106 1), .int (I 106 2), .ref 16, .ref 66, .ref 74, .ref 99, .ref 108, .ref 109, .int (I 106 9), .ref 110, .ref 111, .ref 112].set 2 (.int v))))) = am_mk (va_up I 106 (upd (I 106) 2 v)) L := rfl
set_option maxRecDepth 100000 in
theorem mk_p106_9 {v : Int32} : (am_mk I L).set 106 (.inr (.inr (.inr (4, [.ref 107, .int (I 106 1), .int (I 106 2), .ref 16, .ref 66, .ref 74, .ref 99, .ref 108, .ref 109, .int (I 106 9), .ref 110, .ref 111, .ref 112].set 9 (.int v))))) = am_mk (va_up I 106 (upd (I 106) 9 v)) L := rfl
theorem mk_107 : (am_mk I L)[107]? = some (.inl (0, 6, I 107)) := rfl
set_option maxRecDepth 100000 in
theorem mk_s107 {f : Nat → Int32} : (am_mk I L).set 107 (.inl (0, 6, f)) = am_mk (va_up I 107 f) L := rfl
theorem mk_108 : (am_mk I L)[108]? = some (.inl (0, 6, I 108)) := rfl
set_option maxRecDepth 100000 in
theorem mk_s108 {f : Nat → Int32} : (am_mk I L).set 108 (.inl (0, 6, f)) = am_mk (va_up I 108 f) L := rfl
theorem mk_109 : (am_mk I L)[109]? = some (.inl (0, 6, I 109)) := rfl
set_option maxRecDepth 100000 in
theorem mk_s109 {f : Nat → Int32} : (am_mk I L).set 109 (.inl (0, 6, f)) = am_mk (va_up I 109 f) L := rfl
theorem mk_110 : (am_mk I L)[110]? = some (.inl (0, 20, I 110)) := rfl
set_option maxRecDepth 100000 in
theorem mk_s110 {f : Nat → Int32} : (am_mk I L).set 110 (.inl (0, 20, f)) = am_mk (va_up I 110 f) L := rfl
theorem mk_111 : (am_mk I L)[111]? = some (.inl (0, 6, I 111)) := rfl
set_option maxRecDepth 100000 in
theorem mk_s111 {f : Nat → Int32} : (am_mk I L).set 111 (.inl (0, 6, f)) = am_mk (va_up I 111 f) L := rfl
theorem mk_112 : (am_mk I L)[112]? = some (.inr (.inl (64, L 112))) := rfl
set_option maxRecDepth 100000 in
theorem mk_s112 {f : Nat → Int64} : (am_mk I L).set 112 (.inr (.inl (64, f))) = am_mk I (va_up L 112 f) := rfl
theorem mk_113 : (am_mk I L)[113]? = some (.inr (.inr (.inr (12, [.int (I 113 0), .ref 114, .ref 115, .ref 116, .int (I 113 4), .ref 117, .ref 118, .ref 119, .ref 120, .ref 121, .int (I 113 10), .ref 122, .ref 123, .ref 124, .int (I 113 14), .ref 125, .ref 126, .ref 127, .ref 128, .ref 129, .ref 130, .ref 131, .ref 132, .ref 133, .int (I 113 24), .int (I 113 25), .ref 134, .ref 135, .ref 136, .ref 137, .ref 138, .ref 139, .ref 140, .ref 141, .ref 142, .ref 143, .ref 144, .ref 145, .ref 146, .int (I 113 39), .ref 147, .int (I 113 41), .ref 148, .ref 149, .ref 150, .ref 151, .ref 152, .ref 153, .ref 154, .ref 155, .int (I 113 50), .int (I 113 51), .ref 156])))) := rfl
set_option maxRecDepth 100000 in
theorem mk_p113_0 {v : Int32} : (am_mk I L).set 113 (.inr (.inr (.inr (12, [.int (I 113 0), .ref 114, .ref 115, .ref 116, .int (I 113 4), .ref 117, .ref 118, .ref 119, .ref 120, .ref 121, .int (I 113 10), .ref 122, .ref 123, .ref 124, .int (I 113 14), .ref 125, .ref 126, .ref 127, .ref 128, .ref 129, .ref 130, .ref 131, .ref 132, .ref 133, .int (I 113 24), .int (I 113 25), .ref 134, .ref 135, .ref 136, .ref 137, .ref 138, .ref 139, .ref 140, .ref 141, .ref 142, .ref 143, .ref 144, .ref 145, .ref 146, .int (I 113 39), .ref 147, .int (I 113 41), .ref 148, .ref 149, .ref 150, .ref 151, .ref 152, .ref 153, .ref 154, .ref 155, .int (I 113 50), .int (I 113 51), .ref 156].set 0 (.int v))))) = am_mk (va_up I 113 (upd (I 113) 0 v)) L := rfl
set_option maxRecDepth 100000 in
theorem mk_p113_4 {v : Int32} : (am_mk I L).set 113 (.inr (.inr (.inr (12, [.int (I 113 0), .ref 114, .ref 115, .ref 116, .int (I 113 4), .ref 117, .ref 118, .ref 119, .ref 120, .ref 121, .int (I 113 10), .ref 122, .ref 123, .ref 124, .int (I 113 14), .ref 125, .ref 126, .ref 127, .ref 128, .ref 129, .ref 130, .ref 131, .ref 132, .ref 133, .int (I 113 24), .int (I 113 25), .ref 134, .ref 135, .ref 136, .ref 137, .ref 138, .ref 139, .ref 140, .ref 141, .ref 142, .ref 143, .ref 144, .ref 145, .ref 146, .int (I 113 39), .ref 147, .int (I 113 41), .ref 148, .ref 149, .ref 150, .ref 151, .ref 152, .ref 153, .ref 154, .ref 155, .int (I 113 50), .int (I 113 51), .ref 156].set 4 (.int v))))) = am_mk (va_up I 113 (upd (I 113) 4 v)) L := rfl
set_option maxRecDepth 100000 in
theorem mk_p113_10 {v : Int32} : (am_mk I L).set 113 (.inr (.inr (.inr (12, [.int (I 113 0), .ref 114, .ref 115, .ref 116, .int (I 113 4), .ref 117, .ref 118, .ref 119, .ref 120, .ref 121, .int (I 113 10), .ref 122, .ref 123, .ref 124, .int (I 113 14), .ref 125, .ref 126, .ref 127, .ref 128, .ref 129, .ref 130, .ref 131, .ref 132, .ref 133, .int (I 113 24), .int (I 113 25), .ref 134, .ref 135, .ref 136, .ref 137, .ref 138, .ref 139, .ref 140, .ref 141, .ref 142, .ref 143, .ref 144, .ref 145, .ref 146, .int (I 113 39), .ref 147, .int (I 113 41), .ref 148, .ref 149, .ref 150, .ref 151, .ref 152, .ref 153, .ref 154, .ref 155, .int (I 113 50), .int (I 113 51), .ref 156].set 10 (.int v))))) = am_mk (va_up I 113 (upd (I 113) 10 v)) L := rfl
set_option maxRecDepth 100000 in
theorem mk_p113_14 {v : Int32} : (am_mk I L).set 113 (.inr (.inr (.inr (12, [.int (I 113 0), .ref 114, .ref 115, .ref 116, .int (I 113 4), .ref 117, .ref 118, .ref 119, .ref 120, .ref 121, .int (I 113 10), .ref 122, .ref 123, .ref 124, .int (I 113 14), .ref 125, .ref 126, .ref 127, .ref 128, .ref 129, .ref 130, .ref 131, .ref 132, .ref 133, .int (I 113 24), .int (I 113 25), .ref 134, .ref 135, .ref 136, .ref 137, .ref 138, .ref 139, .ref 140, .ref 141, .ref 142, .ref 143, .ref 144, .ref 145, .ref 146, .int (I 113 39), .ref 147, .int (I 113 41), .ref 148, .ref 149, .ref 150, .ref 151, .ref 152, .ref 153, .ref 154, .ref 155, .int (I 113 50), .int (I 113 51), .ref 156].set 14 (.int v))))) = am_mk (va_up I 113 (upd (I 113) 14 v)) L := rfl
set_option maxRecDepth 100000 in
theorem mk_p113_24 {v : Int32} : (am_mk I L).set 113 (.inr (.inr (.inr (12, [.int (I 113 0), .ref 114, .ref 115, .ref 116, .int (I 113 4), .ref 117, .ref 118, .ref 119, .ref 120, .ref 121, .int (I 113 10), .ref 122, .ref 123, .ref 124, .int (I 113 14), .ref 125, .ref 126, .ref 127, .ref 128, .ref 129, .ref 130, .ref 131, .ref 132, .ref 133, .int (I 113 24), .int (I 113 25), .ref 134, .ref 135, .ref 136, .ref 137, .ref 138, .ref 139, .ref 140, .ref 141, .ref 142, .ref 143, .ref 144, .ref 145, .ref 146, .int (I 113 39), .ref 147, .int (I 113 41), .ref 148, .ref 149, .ref 150, .ref 151, .ref 152, .ref 153, .ref 154, .ref 155, .int (I 113 50), .int (I 113 51), .ref 156].set 24 (.int v))))) = am_mk (va_up I 113 (upd (I 113) 24 v)) L := rfl
set_option maxRecDepth 100000 in
theorem mk_p113_25 {v : Int32} : (am_mk I L).set 113 (.inr (.inr (.inr (12, [.int (I 113 0), .ref 114, .ref 115, .ref 116, .int (I 113 4), .ref 117, .ref 118, .ref 119, .ref 120, .ref 121, .int (I 113 10), .ref 122, .ref 123, .ref 124, .int (I 113 14), .ref 125, .ref 126, .ref 127, .ref 128, .ref 129, .ref 130, .ref 131, .ref 132, .ref 133, .int (I 113 24), .int (I 113 25), .ref 134, .ref 135, .ref 136, .ref 137, .ref 138, .ref 139, .ref 140, .ref 141, .ref 142, .ref 143, .ref 144, .ref 145, .ref 146, .int (I 113 39), .ref 147, .int (I 113 41), .ref 148, .ref 149, .ref 150, .ref 151, .ref 152, .ref 153, .ref 154, .ref 155, .int (I 113 50), .int (I 113 51), .ref 156].set 25 (.int v))))) = am_mk (va_up I 113 (upd (I 113) 25 v)) L := rfl
set_option maxRecDepth 100000 in
theorem mk_p113_39 {v : Int32} : (am_mk I L).set 113 (.inr (.inr (.inr (12, [.int (I 113 0), .ref 114, .ref 115, .ref 116, .int (I 113 4), .ref 117, .ref 118, .ref 119, .ref 120, .ref 121, .int (I 113 10), .ref 122, .ref 123, .ref 124, .int (I 113 14), .ref 125, .ref 126, .ref 127, .ref 128, .ref 129, .ref 130, .ref 131, .ref 132, .ref 133, .int (I 113 24), .int (I 113 25), .ref 134, .ref 135, .ref 136, .ref 137, .ref 138, .ref 139, .ref 140, .ref 141, .ref 142, .ref 143, .ref 144, .ref 145, .ref 146, .int (I 113 39), .ref 147, .int (I 113 41), .ref 148, .ref 149, .ref 150, .ref 151, .ref 152, .ref 153, .ref 154, .ref 155, .int (I 113 50), .int (I 113 51), .ref 156].set 39 (.int v))))) = am_mk (va_up I 113 (upd (I 113) 39 v)) L := rfl
set_option maxRecDepth 100000 in
theorem mk_p113_41 {v : Int32} : (am_mk I L).set 113 (.inr (.inr (.inr (12, [.int (I 113 0), .ref 114, .ref 115, .ref 116, .int (I 113 4), .ref 117, .ref 118, .ref 119, .ref 120, .ref 121, .int (I 113 10), .ref 122, .ref 123, .ref 124, .int (I 113 14), .ref 125, .ref 126, .ref 127, .ref 128, .ref 129, .ref 130, .ref 131, .ref 132, .ref 133, .int (I 113 24), .int (I 113 25), .ref 134, .ref 135, .ref 136, .ref 137, .ref 138, .ref 139, .ref 140, .ref 141, .ref 142, .ref 143, .ref 144, .ref 145, .ref 146, .int (I 113 39), .ref 147, .int (I 113 41), .ref 148, .ref 149, .ref 150, .ref 151, .ref 152, .ref 153, .ref 154, .ref 155, .int (I 113 50), .int (I 113 51), .ref 156].set 41 (.int v))))) = am_mk (va_up I 113 (upd (I 113) 41 v)) L := rfl
set_option maxRecDepth 100000 in
theorem mk_p113_50 {v : Int32} : (am_mk I L).set 113 (.inr (.inr (.inr (12, [.int (I 113 0), .ref 114, .ref 115, .ref 116, .int (I 113 4), .ref 117, .ref 118, .ref 119, .ref 120, .ref 121, .int (I 113 10), .ref 122, .ref 123, .ref 124, .int (I 113 14), .ref 125, .ref 126, .ref 127, .ref 128, .ref 129, .ref 130, .ref 131, .ref 132, .ref 133, .int (I 113 24), .int (I 113 25), .ref 134, .ref 135, .ref 136, .ref 137, .ref 138, .ref 139, .ref 140, .ref 141, .ref 142, .ref 143, .ref 144, .ref 145, .ref 146, .int (I 113 39), .ref 147, .int (I 113 41), .ref 148, .ref 149, .ref 150, .ref 151, .ref 152, .ref 153, .ref 154, .ref 155, .int (I 113 50), .int (I 113 51), .ref 156].set 50 (.int v))))) = am_mk (va_up I 113 (upd (I 113) 50 v)) L := rfl
set_option maxRecDepth 100000 in
theorem mk_p113_51 {v : Int32} : (am_mk I L).set 113 (.inr (.inr (.inr (12, [.int (I 113 0), .ref 114, .ref 115, .ref 116, .int (I 113 4), .ref 117, .ref 118, .ref 119, .ref 120, .ref 121, .int (I 113 10), .ref 122, .ref 123, .ref 124, .int (I 113 14), .ref 125, .ref 126, .ref 127, .ref 128, .ref 129, .ref 130, .ref 131, .ref 132, .ref 133, .int (I 113 24), .int (I 113 25), .ref 134, .ref 135, .ref 136, .ref 137, .ref 138, .ref 139, .ref 140, .ref 141, .ref 142, .ref 143, .ref 144, .ref 145, .ref 146, .int (I 113 39), .ref 147, .int (I 113 41), .ref 148, .ref 149, .ref 150, .ref 151, .ref 152, .ref 153, .ref 154, .ref 155, .int (I 113 50), .int (I 113 51), .ref 156].set 51 (.int v))))) = am_mk (va_up I 113 (upd (I 113) 51 v)) L := rfl
theorem mk_114 : (am_mk I L)[114]? = some (.inl (0, 10, I 114)) := rfl
set_option maxRecDepth 100000 in
theorem mk_s114 {f : Nat → Int32} : (am_mk I L).set 114 (.inl (0, 10, f)) = am_mk (va_up I 114 f) L := rfl
theorem mk_115 : (am_mk I L)[115]? = some (.inl (0, 100, I 115)) := rfl
set_option maxRecDepth 100000 in
theorem mk_s115 {f : Nat → Int32} : (am_mk I L).set 115 (.inl (0, 100, f)) = am_mk (va_up I 115 f) L := rfl
theorem mk_116 : (am_mk I L)[116]? = some (.inl (0, 5, I 116)) := rfl
set_option maxRecDepth 100000 in
theorem mk_s116 {f : Nat → Int32} : (am_mk I L).set 116 (.inl (0, 5, f)) = am_mk (va_up I 116 f) L := rfl
theorem mk_117 : (am_mk I L)[117]? = some (.inl (0, 20, I 117)) := rfl
set_option maxRecDepth 100000 in
theorem mk_s117 {f : Nat → Int32} : (am_mk I L).set 117 (.inl (0, 20, f)) = am_mk (va_up I 117 f) L := rfl
theorem mk_118 : (am_mk I L)[118]? = some (.inl (0, 20, I 118)) := rfl
set_option maxRecDepth 100000 in
theorem mk_s118 {f : Nat → Int32} : (am_mk I L).set 118 (.inl (0, 20, f)) = am_mk (va_up I 118 f) L := rfl
theorem mk_119 : (am_mk I L)[119]? = some (.inl (0, 20, I 119)) := rfl
set_option maxRecDepth 100000 in
theorem mk_s119 {f : Nat → Int32} : (am_mk I L).set 119 (.inl (0, 20, f)) = am_mk (va_up I 119 f) L := rfl
theorem mk_120 : (am_mk I L)[120]? = some (.inl (0, 20, I 120)) := rfl
set_option maxRecDepth 100000 in
theorem mk_s120 {f : Nat → Int32} : (am_mk I L).set 120 (.inl (0, 20, f)) = am_mk (va_up I 120 f) L := rfl
theorem mk_121 : (am_mk I L)[121]? = some (.inl (0, 100, I 121)) := rfl
set_option maxRecDepth 100000 in
theorem mk_s121 {f : Nat → Int32} : (am_mk I L).set 121 (.inl (0, 100, f)) = am_mk (va_up I 121 f) L := rfl
theorem mk_122 : (am_mk I L)[122]? = some (.inl (0, 20, I 122)) := rfl
set_option maxRecDepth 100000 in
theorem mk_s122 {f : Nat → Int32} : (am_mk I L).set 122 (.inl (0, 20, f)) = am_mk (va_up I 122 f) L := rfl
theorem mk_123 : (am_mk I L)[123]? = some (.inl (0, 20, I 123)) := rfl
set_option maxRecDepth 100000 in
theorem mk_s123 {f : Nat → Int32} : (am_mk I L).set 123 (.inl (0, 20, f)) = am_mk (va_up I 123 f) L := rfl
theorem mk_124 : (am_mk I L)[124]? = some (.inl (0, 620, I 124)) := rfl
set_option maxRecDepth 100000 in
theorem mk_s124 {f : Nat → Int32} : (am_mk I L).set 124 (.inl (0, 620, f)) = am_mk (va_up I 124 f) L := rfl
theorem mk_125 : (am_mk I L)[125]? = some (.inl (0, 60, I 125)) := rfl
set_option maxRecDepth 100000 in
theorem mk_s125 {f : Nat → Int32} : (am_mk I L).set 125 (.inl (0, 60, f)) = am_mk (va_up I 125 f) L := rfl
theorem mk_126 : (am_mk I L)[126]? = some (.inl (0, 60, I 126)) := rfl
set_option maxRecDepth 100000 in
theorem mk_s126 {f : Nat → Int32} : (am_mk I L).set 126 (.inl (0, 60, f)) = am_mk (va_up I 126 f) L := rfl
theorem mk_127 : (am_mk I L)[127]? = some (.inl (0, 60, I 127)) := rfl
set_option maxRecDepth 100000 in
theorem mk_s127 {f : Nat → Int32} : (am_mk I L).set 127 (.inl (0, 60, f)) = am_mk (va_up I 127 f) L := rfl
theorem mk_128 : (am_mk I L)[128]? = some (.inl (0, 60, I 128)) := rfl
set_option maxRecDepth 100000 in
theorem mk_s128 {f : Nat → Int32} : (am_mk I L).set 128 (.inl (0, 60, f)) = am_mk (va_up I 128 f) L := rfl
theorem mk_129 : (am_mk I L)[129]? = some (.inl (0, 60, I 129)) := rfl
set_option maxRecDepth 100000 in
theorem mk_s129 {f : Nat → Int32} : (am_mk I L).set 129 (.inl (0, 60, f)) = am_mk (va_up I 129 f) L := rfl
theorem mk_130 : (am_mk I L)[130]? = some (.inl (0, 120, I 130)) := rfl
set_option maxRecDepth 100000 in
theorem mk_s130 {f : Nat → Int32} : (am_mk I L).set 130 (.inl (0, 120, f)) = am_mk (va_up I 130 f) L := rfl
theorem mk_131 : (am_mk I L)[131]? = some (.inl (0, 120, I 131)) := rfl
set_option maxRecDepth 100000 in
theorem mk_s131 {f : Nat → Int32} : (am_mk I L).set 131 (.inl (0, 120, f)) = am_mk (va_up I 131 f) L := rfl
theorem mk_132 : (am_mk I L)[132]? = some (.inl (0, 120, I 132)) := rfl
set_option maxRecDepth 100000 in
theorem mk_s132 {f : Nat → Int32} : (am_mk I L).set 132 (.inl (0, 120, f)) = am_mk (va_up I 132 f) L := rfl
theorem mk_133 : (am_mk I L)[133]? = some (.inl (1, 60, I 133)) := rfl
set_option maxRecDepth 100000 in
theorem mk_s133 {f : Nat → Int32} : (am_mk I L).set 133 (.inl (1, 60, f)) = am_mk (va_up I 133 f) L := rfl
theorem mk_134 : (am_mk I L)[134]? = some (.inl (0, 30, I 134)) := rfl
set_option maxRecDepth 100000 in
theorem mk_s134 {f : Nat → Int32} : (am_mk I L).set 134 (.inl (0, 30, f)) = am_mk (va_up I 134 f) L := rfl
theorem mk_135 : (am_mk I L)[135]? = some (.inl (0, 30, I 135)) := rfl
set_option maxRecDepth 100000 in
theorem mk_s135 {f : Nat → Int32} : (am_mk I L).set 135 (.inl (0, 30, f)) = am_mk (va_up I 135 f) L := rfl
theorem mk_136 : (am_mk I L)[136]? = some (.inl (0, 30, I 136)) := rfl
set_option maxRecDepth 100000 in
theorem mk_s136 {f : Nat → Int32} : (am_mk I L).set 136 (.inl (0, 30, f)) = am_mk (va_up I 136 f) L := rfl
theorem mk_137 : (am_mk I L)[137]? = some (.inl (1, 1800, I 137)) := rfl
set_option maxRecDepth 100000 in
theorem mk_s137 {f : Nat → Int32} : (am_mk I L).set 137 (.inl (1, 1800, f)) = am_mk (va_up I 137 f) L := rfl
theorem mk_138 : (am_mk I L)[138]? = some (.inl (2, 7, I 138)) := rfl
set_option maxRecDepth 100000 in
theorem mk_s138 {f : Nat → Int32} : (am_mk I L).set 138 (.inl (2, 7, f)) = am_mk (va_up I 138 f) L := rfl
theorem mk_139 : (am_mk I L)[139]? = some (.inr (.inl (7, L 139))) := rfl
set_option maxRecDepth 100000 in
theorem mk_s139 {f : Nat → Int64} : (am_mk I L).set 139 (.inr (.inl (7, f))) = am_mk I (va_up L 139 f) := rfl
theorem mk_140 : (am_mk I L)[140]? = some (.inl (0, 7, I 140)) := rfl
set_option maxRecDepth 100000 in
theorem mk_s140 {f : Nat → Int32} : (am_mk I L).set 140 (.inl (0, 7, f)) = am_mk (va_up I 140 f) L := rfl
theorem mk_141 : (am_mk I L)[141]? = some (.inr (.inl (7, L 141))) := rfl
set_option maxRecDepth 100000 in
theorem mk_s141 {f : Nat → Int64} : (am_mk I L).set 141 (.inr (.inl (7, f))) = am_mk I (va_up L 141 f) := rfl
theorem mk_142 : (am_mk I L)[142]? = some (.inl (0, 7, I 142)) := rfl
set_option maxRecDepth 100000 in
theorem mk_s142 {f : Nat → Int32} : (am_mk I L).set 142 (.inl (0, 7, f)) = am_mk (va_up I 142 f) L := rfl
theorem mk_143 : (am_mk I L)[143]? = some (.inl (0, 7, I 143)) := rfl
set_option maxRecDepth 100000 in
theorem mk_s143 {f : Nat → Int32} : (am_mk I L).set 143 (.inl (0, 7, f)) = am_mk (va_up I 143 f) L := rfl
theorem mk_144 : (am_mk I L)[144]? = some (.inr (.inl (7, L 144))) := rfl
set_option maxRecDepth 100000 in
theorem mk_s144 {f : Nat → Int64} : (am_mk I L).set 144 (.inr (.inl (7, f))) = am_mk I (va_up L 144 f) := rfl
theorem mk_145 : (am_mk I L)[145]? = some (.inl (2, 1501, I 145)) := rfl
set_option maxRecDepth 100000 in
theorem mk_s145 {f : Nat → Int32} : (am_mk I L).set 145 (.inl (2, 1501, f)) = am_mk (va_up I 145 f) L := rfl
theorem mk_146 : (am_mk I L)[146]? = some (.inl (0, 12, I 146)) := rfl
set_option maxRecDepth 100000 in
theorem mk_s146 {f : Nat → Int32} : (am_mk I L).set 146 (.inl (0, 12, f)) = am_mk (va_up I 146 f) L := rfl
theorem mk_147 : (am_mk I L)[147]? = some (.inl (0, 6, I 147)) := rfl
set_option maxRecDepth 100000 in
theorem mk_s147 {f : Nat → Int32} : (am_mk I L).set 147 (.inl (0, 6, f)) = am_mk (va_up I 147 f) L := rfl
theorem mk_148 : (am_mk I L)[148]? = some (.inl (0, 10, I 148)) := rfl
set_option maxRecDepth 100000 in
theorem mk_s148 {f : Nat → Int32} : (am_mk I L).set 148 (.inl (0, 10, f)) = am_mk (va_up I 148 f) L := rfl
theorem mk_149 : (am_mk I L)[149]? = some (.inl (0, 6, I 149)) := rfl
set_option maxRecDepth 100000 in
theorem mk_s149 {f : Nat → Int32} : (am_mk I L).set 149 (.inl (0, 6, f)) = am_mk (va_up I 149 f) L := rfl
theorem mk_150 : (am_mk I L)[150]? = some (.inl (0, 20, I 150)) := rfl
set_option maxRecDepth 100000 in
theorem mk_s150 {f : Nat → Int32} : (am_mk I L).set 150 (.inl (0, 20, f)) = am_mk (va_up I 150 f) L := rfl
theorem mk_151 : (am_mk I L)[151]? = some (.inl (0, 64, I 151)) := rfl
set_option maxRecDepth 100000 in
theorem mk_s151 {f : Nat → Int32} : (am_mk I L).set 151 (.inl (0, 64, f)) = am_mk (va_up I 151 f) L := rfl
theorem mk_152 : (am_mk I L)[152]? = some (.inl (0, 64, I 152)) := rfl
set_option maxRecDepth 100000 in
theorem mk_s152 {f : Nat → Int32} : (am_mk I L).set 152 (.inl (0, 64, f)) = am_mk (va_up I 152 f) L := rfl
theorem mk_153 : (am_mk I L)[153]? = some (.inl (0, 20, I 153)) := rfl
set_option maxRecDepth 100000 in
theorem mk_s153 {f : Nat → Int32} : (am_mk I L).set 153 (.inl (0, 20, f)) = am_mk (va_up I 153 f) L := rfl
theorem mk_154 : (am_mk I L)[154]? = some (.inl (0, 120, I 154)) := rfl
set_option maxRecDepth 100000 in
theorem mk_s154 {f : Nat → Int32} : (am_mk I L).set 154 (.inl (0, 120, f)) = am_mk (va_up I 154 f) L := rfl
theorem mk_155 : (am_mk I L)[155]? = some (.inl (0, 6, I 155)) := rfl
set_option maxRecDepth 100000 in
theorem mk_s155 {f : Nat → Int32} : (am_mk I L).set 155 (.inl (0, 6, f)) = am_mk (va_up I 155 f) L := rfl
theorem mk_156 : (am_mk I L)[156]? = some (.inl (0, 7, I 156)) := rfl
set_option maxRecDepth 100000 in
theorem mk_s156 {f : Nat → Int32} : (am_mk I L).set 156 (.inl (0, 7, f)) = am_mk (va_up I 156 f) L := rfl
theorem mk_g5 {a : Nat} (h : a < 10) : (am_mk I L)[6 + a]? = some (.inl (0, 10, I (6 + a))) := by
  match a, h with
  | 0, _ => rfl
  | 1, _ => rfl
  | 2, _ => rfl
  | 3, _ => rfl
  | 4, _ => rfl
  | 5, _ => rfl
  | 6, _ => rfl
  | 7, _ => rfl
  | 8, _ => rfl
  | 9, _ => rfl
  | a + 10, h => exact absurd h (by omega)
set_option maxRecDepth 100000 in
theorem mk_gs5 {a : Nat} {f : Nat → Int32} (h : a < 10) : (am_mk I L).set (6 + a) (.inl (0, 10, f)) = am_mk (va_up I (6 + a) f) L := by
  match a, h with
  | 0, _ => rfl
  | 1, _ => rfl
  | 2, _ => rfl
  | 3, _ => rfl
  | 4, _ => rfl
  | 5, _ => rfl
  | 6, _ => rfl
  | 7, _ => rfl
  | 8, _ => rfl
  | 9, _ => rfl
  | a + 10, h => exact absurd h (by omega)
theorem mk_g21 {a : Nat} (h : a < 20) : (am_mk I L)[22 + a]? = some (.inl (0, 5, I (22 + a))) := by
  match a, h with
  | 0, _ => rfl
  | 1, _ => rfl
  | 2, _ => rfl
  | 3, _ => rfl
  | 4, _ => rfl
  | 5, _ => rfl
  | 6, _ => rfl
  | 7, _ => rfl
  | 8, _ => rfl
  | 9, _ => rfl
  | 10, _ => rfl
  | 11, _ => rfl
  | 12, _ => rfl
  | 13, _ => rfl
  | 14, _ => rfl
  | 15, _ => rfl
  | 16, _ => rfl
  | 17, _ => rfl
  | 18, _ => rfl
  | 19, _ => rfl
  | a + 20, h => exact absurd h (by omega)
set_option maxRecDepth 100000 in
theorem mk_gs21 {a : Nat} {f : Nat → Int32} (h : a < 20) : (am_mk I L).set (22 + a) (.inl (0, 5, f)) = am_mk (va_up I (22 + a) f) L := by
  match a, h with
  | 0, _ => rfl
  | 1, _ => rfl
  | 2, _ => rfl
  | 3, _ => rfl
  | 4, _ => rfl
  | 5, _ => rfl
  | 6, _ => rfl
  | 7, _ => rfl
  | 8, _ => rfl
  | 9, _ => rfl
  | 10, _ => rfl
  | 11, _ => rfl
  | 12, _ => rfl
  | 13, _ => rfl
  | 14, _ => rfl
  | 15, _ => rfl
  | 16, _ => rfl
  | 17, _ => rfl
  | 18, _ => rfl
  | 19, _ => rfl
  | a + 20, h => exact absurd h (by omega)
theorem mk_g45 {a : Nat} (h : a < 20) : (am_mk I L)[46 + a]? = some (.inl (0, 31, I (46 + a))) := by
  match a, h with
  | 0, _ => rfl
  | 1, _ => rfl
  | 2, _ => rfl
  | 3, _ => rfl
  | 4, _ => rfl
  | 5, _ => rfl
  | 6, _ => rfl
  | 7, _ => rfl
  | 8, _ => rfl
  | 9, _ => rfl
  | 10, _ => rfl
  | 11, _ => rfl
  | 12, _ => rfl
  | 13, _ => rfl
  | 14, _ => rfl
  | 15, _ => rfl
  | 16, _ => rfl
  | 17, _ => rfl
  | 18, _ => rfl
  | 19, _ => rfl
  | a + 20, h => exact absurd h (by omega)
set_option maxRecDepth 100000 in
theorem mk_gs45 {a : Nat} {f : Nat → Int32} (h : a < 20) : (am_mk I L).set (46 + a) (.inl (0, 31, f)) = am_mk (va_up I (46 + a) f) L := by
  match a, h with
  | 0, _ => rfl
  | 1, _ => rfl
  | 2, _ => rfl
  | 3, _ => rfl
  | 4, _ => rfl
  | 5, _ => rfl
  | 6, _ => rfl
  | 7, _ => rfl
  | 8, _ => rfl
  | 9, _ => rfl
  | 10, _ => rfl
  | 11, _ => rfl
  | 12, _ => rfl
  | 13, _ => rfl
  | 14, _ => rfl
  | 15, _ => rfl
  | 16, _ => rfl
  | 17, _ => rfl
  | 18, _ => rfl
  | 19, _ => rfl
  | a + 20, h => exact absurd h (by omega)
theorem mk_g78 {a : Nat} (h : a < 2) : (am_mk I L)[79 + a]? = some (.inl (0, 60, I (79 + a))) := by
  match a, h with
  | 0, _ => rfl
  | 1, _ => rfl
  | a + 2, h => exact absurd h (by omega)
set_option maxRecDepth 100000 in
theorem mk_gs78 {a : Nat} {f : Nat → Int32} (h : a < 2) : (am_mk I L).set (79 + a) (.inl (0, 60, f)) = am_mk (va_up I (79 + a) f) L := by
  match a, h with
  | 0, _ => rfl
  | 1, _ => rfl
  | a + 2, h => exact absurd h (by omega)
theorem mk_g81 {a : Nat} (h : a < 2) : (am_mk I L)[82 + a]? = some (.inl (0, 60, I (82 + a))) := by
  match a, h with
  | 0, _ => rfl
  | 1, _ => rfl
  | a + 2, h => exact absurd h (by omega)
set_option maxRecDepth 100000 in
theorem mk_gs81 {a : Nat} {f : Nat → Int32} (h : a < 2) : (am_mk I L).set (82 + a) (.inl (0, 60, f)) = am_mk (va_up I (82 + a) f) L := by
  match a, h with
  | 0, _ => rfl
  | 1, _ => rfl
  | a + 2, h => exact absurd h (by omega)
end MK
theorem am_inE {i : Int32} {j n : Nat} (hi : i = nI j) (hj : j < n) (hn : n ≤ 1000000) : am_in i n = true := by
  subst hi
  simp only [am_in, Bool.and_eq_true, Bool.not_eq_true', decide_eq_false_iff_not, decide_eq_true_eq]
  exact ⟨nI_pos (by omega), by rw [nI_clamp (by omega)]; exact hj⟩
theorem am_clT {i : Int32} {j n : Nat} (hi : i = nI j) (hj : j < n) (hn : n ≤ 1000000) : i.toNatClampNeg = j := by
  subst hi
  exact nI_clamp (by omega)
theorem am_clE {α : Type} {f : Nat → α} {i : Int32} {j n : Nat} (hi : i = nI j) (hj : j < n) (hn : n ≤ 1000000) : f i.toNatClampNeg = f j := by rw [am_clT hi hj hn]
/-- what comes back: an int, a long, nothing; and the two objects' cells -/
def am_ri (P : Int32 → (Nat → Nat → Int32) → (Nat → Nat → Int64) → Prop) : am_R := fun v m => ∃ z I L, v = some (.int z) ∧ m = (am_mk I L, 0, 0) ∧ P z I L
def am_rl (P : Int64 → (Nat → Nat → Int32) → (Nat → Nat → Int64) → Prop) : am_R := fun v m => ∃ z I L, v = some (.long z) ∧ m = (am_mk I L, 0, 0) ∧ P z I L
def am_rv (P : (Nat → Nat → Int32) → (Nat → Nat → Int64) → Prop) : am_R := fun v m => ∃ I L, v = none ∧ m = (am_mk I L, 0, 0) ∧ P I L
end
section
theorem r_Towns_hasTown_0 {d : Nat} {R : am_R} {I : Nat → Nat → Int32} {L : Nat → Nat → Int64} {x : Int32} (h : ((x < 0 → (R (some (.int 0)) (am_mk I L, 0, 0))) ∧ (¬ x < 0 → (((x < 10 → (R (some (.int 1)) (am_mk I L, 0, 0))) ∧ (¬ x < 10 → (R (some (.int 0)) (am_mk I L, 0, 0)))))))) : am_Run am_X0 (am_meth d) 146 R 0 [some (.ref 2), some (.int x)] [] (am_mk I L, 0, 0) := by
  refine ar_iload_n (j := 1) (q := 1) rfl rfl rfl rfl ?_
  obtain ⟨hA, hB⟩ := h
  refine ar_b0 am_c_lt (t := 14) (q := 4) rfl rfl rfl (fun c_1 => ?_) (fun c_1 => ?_)
  · have h := hA c_1
    clear hA hB
    refine ar_iconst (v := 0) (q := 15) rfl rfl rfl ?_
    exact ar_zret rfl rfl (Or.inl rfl) h
  · have h := hB c_1
    clear hA hB
    refine ar_iload_n (j := 1) (q := 5) rfl rfl rfl rfl ?_
    refine ar_bipush (v := 10) (q := 7) rfl rfl rfl ?_
    obtain ⟨hA, hB⟩ := h
    refine ar_br am_d_ge (t := 14) (q := 10) rfl rfl rfl (fun c_2 => ?_) (fun c_2 => ?_)
    · have h := hB c_2
      clear hA hB
      refine ar_iconst (v := 0) (q := 15) rfl rfl rfl ?_
      exact ar_zret rfl rfl (Or.inl rfl) h
    · have c_2 := Classical.not_not.mp c_2
      have h := hA c_2
      clear hA hB
      refine ar_iconst (v := 1) (q := 11) rfl rfl rfl ?_
      refine ar_goto (t := 15) rfl rfl ?_
      exact ar_zret rfl rfl (Or.inr rfl) h
theorem r_Towns_hasLand_0 {d : Nat} {R : am_R} {I : Nat → Nat → Int32} {L : Nat → Nat → Int64} {x : Int32} (h : ((x < 0 → (R (some (.int 0)) (am_mk I L, 0, 0))) ∧ (¬ x < 0 → (((x < 5 → (R (some (.int 1)) (am_mk I L, 0, 0))) ∧ (¬ x < 5 → (R (some (.int 0)) (am_mk I L, 0, 0)))))))) : am_Run am_X0 (am_meth d) 147 R 0 [some (.ref 2), some (.int x)] [] (am_mk I L, 0, 0) := by
  refine ar_iload_n (j := 1) (q := 1) rfl rfl rfl rfl ?_
  obtain ⟨hA, hB⟩ := h
  refine ar_b0 am_c_lt (t := 13) (q := 4) rfl rfl rfl (fun c_1 => ?_) (fun c_1 => ?_)
  · have h := hA c_1
    clear hA hB
    refine ar_iconst (v := 0) (q := 14) rfl rfl rfl ?_
    exact ar_zret rfl rfl (Or.inl rfl) h
  · have h := hB c_1
    clear hA hB
    refine ar_iload_n (j := 1) (q := 5) rfl rfl rfl rfl ?_
    refine ar_iconst (v := 5) (q := 6) rfl rfl rfl ?_
    obtain ⟨hA, hB⟩ := h
    refine ar_br am_d_ge (t := 13) (q := 9) rfl rfl rfl (fun c_2 => ?_) (fun c_2 => ?_)
    · have h := hB c_2
      clear hA hB
      refine ar_iconst (v := 0) (q := 14) rfl rfl rfl ?_
      exact ar_zret rfl rfl (Or.inl rfl) h
    · have c_2 := Classical.not_not.mp c_2
      have h := hA c_2
      clear hA hB
      refine ar_iconst (v := 1) (q := 10) rfl rfl rfl ?_
      refine ar_goto (t := 14) rfl rfl ?_
      exact ar_zret rfl rfl (Or.inr rfl) h
theorem r_Towns_daysBetween_0 {d : Nat} {R : am_R} {I : Nat → Nat → Int32} {L : Nat → Nat → Int64} {a : Nat} {b : Nat} (h : a < 10 ∧ (b < 10 ∧ (R (some (.int (((I (6 + a) b) + 23) / 24))) (am_mk I L, 0, 0)))) : am_Run am_X0 (am_meth d) 148 R 0 [some (.ref 2), some (.int (nI a)), some (.int (nI b))] [] (am_mk I L, 0, 0) := by
  refine ar_aload_n (j := 0) (q := 1) rfl rfl rfl rfl ?_
  refine ar_getf (v := .ref 5) (q := 4) rfl rfl mk_2 rfl rfl ?_
  refine ar_iload_n (j := 1) (q := 5) rfl rfl rfl rfl ?_
  obtain ⟨hx_1, h⟩ := h
  refine ar_aald (c2 := 6 + a) (q := 6) rfl mk_5 (am_inE rfl hx_1 (by decide)) (congrArg (fun z => some (6 + z)) (am_clT rfl hx_1 (by decide))) rfl ?_
  refine ar_iload_n (j := 2) (q := 7) rfl rfl rfl rfl ?_
  obtain ⟨hx_2, h⟩ := h
  refine ar_iald (v := I (6 + a) b) (q := 8) rfl (mk_g5 hx_1) (am_inE rfl hx_2 (by decide)) (am_clE rfl hx_2 (by decide)) rfl ?_
  refine ar_bipush (v := 23) (q := 10) rfl rfl rfl ?_
  refine ar_ib (i := .iadd) (z := (I (6 + a) b) + 23) (q := 11) rfl rfl rfl rfl rfl ?_
  refine ar_bipush (v := 24) (q := 13) rfl rfl rfl ?_
  refine ar_idiv (q := 14) rfl (by decide) rfl ?_
  exact ar_iret rfl rfl h
theorem r_Keepers_has_0 {d : Nat} {R : am_R} {I : Nat → Nat → Int32} {L : Nat → Nat → Int64} {x : Int32} (h : ((x < 0 → (R (some (.int 0)) (am_mk I L, 0, 0))) ∧ (¬ x < 0 → (((x < (I 16 0) → (R (some (.int 1)) (am_mk I L, 0, 0))) ∧ (¬ x < (I 16 0) → (R (some (.int 0)) (am_mk I L, 0, 0)))))))) : am_Run am_X0 (am_meth d) 54 R 0 [some (.ref 16), some (.int x)] [] (am_mk I L, 0, 0) := by
  refine ar_iload_n (j := 1) (q := 1) rfl rfl rfl rfl ?_
  obtain ⟨hA, hB⟩ := h
  refine ar_b0 am_c_lt (t := 16) (q := 4) rfl rfl rfl (fun c_1 => ?_) (fun c_1 => ?_)
  · have h := hA c_1
    clear hA hB
    refine ar_iconst (v := 0) (q := 17) rfl rfl rfl ?_
    exact ar_zret rfl rfl (Or.inl rfl) h
  · have h := hB c_1
    clear hA hB
    refine ar_iload_n (j := 1) (q := 5) rfl rfl rfl rfl ?_
    refine ar_aload_n (j := 0) (q := 6) rfl rfl rfl rfl ?_
    refine ar_getf (v := .int (I 16 0)) (q := 9) rfl rfl mk_16 rfl rfl ?_
    obtain ⟨hA, hB⟩ := h
    refine ar_br am_d_ge (t := 16) (q := 12) rfl rfl rfl (fun c_2 => ?_) (fun c_2 => ?_)
    · have h := hB c_2
      clear hA hB
      refine ar_iconst (v := 0) (q := 17) rfl rfl rfl ?_
      exact ar_zret rfl rfl (Or.inl rfl) h
    · have c_2 := Classical.not_not.mp c_2
      have h := hA c_2
      clear hA hB
      refine ar_iconst (v := 1) (q := 13) rfl rfl rfl ?_
      refine ar_goto (t := 17) rfl rfl ?_
      exact ar_zret rfl rfl (Or.inr rfl) h
theorem r_Keepers_add_0 {d : Nat} {R : am_R} {I : Nat → Nat → Int32} {L : Nat → Nat → Int64} {a : Int32} {b : Int32} {c : Int32} {e : Int32} (h : ∀ I_1 : Nat → Nat → Int32, I_1 = va_up I 16 (upd (I 16) 0 ((I 16 0) + 1)) → (∃ j_3 : Nat, j_3 < 20 ∧ I 16 0 = nI j_3 ∧ (∀ I_6 : Nat → Nat → Int32, I_6 = va_up I_1 17 (upd (I_1 17) j_3 a) → (∀ I_8 : Nat → Nat → Int32, I_8 = va_up I_6 18 (upd (I_6 18) j_3 b) → (∀ I_10 : Nat → Nat → Int32, I_10 = va_up I_8 19 (upd (I_8 19) j_3 c) → (∀ I_12 : Nat → Nat → Int32, I_12 = va_up I_10 20 (upd (I_10 20) j_3 e) → (R (some (.int (I 16 0))) (am_mk I_12 L, 0, 0)))))))) : am_Run am_X0 (am_meth d) 53 R 0 [some (.ref 16), some (.int a), some (.int b), some (.int c), some (.int e), none] [] (am_mk I L, 0, 0) := by
  refine ar_aload_n (j := 0) (q := 1) rfl rfl rfl rfl ?_
  refine ar_st (i := .dup) (n := 1) (st' := [.ref 16, .ref 16]) (q := 2) rfl rfl rfl rfl ?_
  refine ar_getf (v := .int (I 16 0)) (q := 5) rfl rfl mk_16 rfl rfl ?_
  refine ar_st (i := .dup_x1) (n := 1) (st' := [.int (I 16 0), .ref 16, .int (I 16 0)]) (q := 6) rfl rfl rfl rfl ?_
  refine ar_iconst (v := 1) (q := 7) rfl rfl rfl ?_
  refine ar_ib (i := .iadd) (z := (I 16 0) + 1) (q := 8) rfl rfl rfl rfl rfl ?_
  obtain ⟨I_1, hI_2⟩ : ∃ z : Nat → Nat → Int32, z = va_up I 16 (upd (I 16) 0 ((I 16 0) + 1)) := ⟨_, rfl⟩
  have h := h I_1 hI_2
  refine ar_putf (hp2 := am_mk I_1 L) (q := 11) rfl rfl mk_16 rfl (by rw [hI_2]; exact mk_p16_0) rfl ?_
  refine ar_istore (ls' := [some (.ref 16), some (.int a), some (.int b), some (.int c), some (.int e), some (.int (I 16 0))]) (q := 13) rfl rfl rfl rfl ?_
  refine ar_aload_n (j := 0) (q := 14) rfl rfl rfl rfl ?_
  refine ar_getf (v := .ref 17) (q := 17) rfl rfl mk_16 rfl rfl ?_
  refine ar_iload (q := 19) rfl rfl rfl ?_
  refine ar_iload_n (j := 1) (q := 20) rfl rfl rfl rfl ?_
  obtain ⟨j_3, hx_4, hi_5, h⟩ := h
  obtain ⟨I_6, hI_7⟩ : ∃ z : Nat → Nat → Int32, z = va_up I_1 17 (upd (I_1 17) j_3 a) := ⟨_, rfl⟩
  have h := h I_6 hI_7
  refine ar_iast (hp2 := am_mk I_6 L) (q := 21) rfl mk_17 (am_inE hi_5 hx_4 (by decide)) (by rw [am_clT hi_5 hx_4 (by decide), hI_7]; exact mk_s17) rfl ?_
  refine ar_aload_n (j := 0) (q := 22) rfl rfl rfl rfl ?_
  refine ar_getf (v := .ref 18) (q := 25) rfl rfl mk_16 rfl rfl ?_
  refine ar_iload (q := 27) rfl rfl rfl ?_
  refine ar_iload_n (j := 2) (q := 28) rfl rfl rfl rfl ?_
  obtain ⟨I_8, hI_9⟩ : ∃ z : Nat → Nat → Int32, z = va_up I_6 18 (upd (I_6 18) j_3 b) := ⟨_, rfl⟩
  have h := h I_8 hI_9
  refine ar_iast (hp2 := am_mk I_8 L) (q := 29) rfl mk_18 (am_inE hi_5 hx_4 (by decide)) (by rw [am_clT hi_5 hx_4 (by decide), hI_9]; exact mk_s18) rfl ?_
  refine ar_aload_n (j := 0) (q := 30) rfl rfl rfl rfl ?_
  refine ar_getf (v := .ref 19) (q := 33) rfl rfl mk_16 rfl rfl ?_
  refine ar_iload (q := 35) rfl rfl rfl ?_
  refine ar_iload_n (j := 3) (q := 36) rfl rfl rfl rfl ?_
  obtain ⟨I_10, hI_11⟩ : ∃ z : Nat → Nat → Int32, z = va_up I_8 19 (upd (I_8 19) j_3 c) := ⟨_, rfl⟩
  have h := h I_10 hI_11
  refine ar_iast (hp2 := am_mk I_10 L) (q := 37) rfl mk_19 (am_inE hi_5 hx_4 (by decide)) (by rw [am_clT hi_5 hx_4 (by decide), hI_11]; exact mk_s19) rfl ?_
  refine ar_aload_n (j := 0) (q := 38) rfl rfl rfl rfl ?_
  refine ar_getf (v := .ref 20) (q := 41) rfl rfl mk_16 rfl rfl ?_
  refine ar_iload (q := 43) rfl rfl rfl ?_
  refine ar_iload (q := 45) rfl rfl rfl ?_
  obtain ⟨I_12, hI_13⟩ : ∃ z : Nat → Nat → Int32, z = va_up I_10 20 (upd (I_10 20) j_3 e) := ⟨_, rfl⟩
  have h := h I_12 hI_13
  refine ar_iast (hp2 := am_mk I_12 L) (q := 46) rfl mk_20 (am_inE hi_5 hx_4 (by decide)) (by rw [am_clT hi_5 hx_4 (by decide), hI_13]; exact mk_s20) rfl ?_
  refine ar_iload (q := 48) rfl rfl rfl ?_
  exact ar_iret rfl rfl h
theorem r_Houses_has_0 {d : Nat} {R : am_R} {I : Nat → Nat → Int32} {L : Nat → Nat → Int64} {x : Int32} (h : ((x < 0 → (R (some (.int 0)) (am_mk I L, 0, 0))) ∧ (¬ x < 0 → (((x < (I 42 0) → (R (some (.int 1)) (am_mk I L, 0, 0))) ∧ (¬ x < (I 42 0) → (R (some (.int 0)) (am_mk I L, 0, 0)))))))) : am_Run am_X0 (am_meth d) 50 R 0 [some (.ref 42), some (.int x)] [] (am_mk I L, 0, 0) := by
  refine ar_iload_n (j := 1) (q := 1) rfl rfl rfl rfl ?_
  obtain ⟨hA, hB⟩ := h
  refine ar_b0 am_c_lt (t := 16) (q := 4) rfl rfl rfl (fun c_1 => ?_) (fun c_1 => ?_)
  · have h := hA c_1
    clear hA hB
    refine ar_iconst (v := 0) (q := 17) rfl rfl rfl ?_
    exact ar_zret rfl rfl (Or.inl rfl) h
  · have h := hB c_1
    clear hA hB
    refine ar_iload_n (j := 1) (q := 5) rfl rfl rfl rfl ?_
    refine ar_aload_n (j := 0) (q := 6) rfl rfl rfl rfl ?_
    refine ar_getf (v := .int (I 42 0)) (q := 9) rfl rfl mk_42 rfl rfl ?_
    obtain ⟨hA, hB⟩ := h
    refine ar_br am_d_ge (t := 16) (q := 12) rfl rfl rfl (fun c_2 => ?_) (fun c_2 => ?_)
    · have h := hB c_2
      clear hA hB
      refine ar_iconst (v := 0) (q := 17) rfl rfl rfl ?_
      exact ar_zret rfl rfl (Or.inl rfl) h
    · have c_2 := Classical.not_not.mp c_2
      have h := hA c_2
      clear hA hB
      refine ar_iconst (v := 1) (q := 13) rfl rfl rfl ?_
      refine ar_goto (t := 17) rfl rfl ?_
      exact ar_zret rfl rfl (Or.inr rfl) h
theorem r_Houses_add_0 {d : Nat} {R : am_R} {I : Nat → Nat → Int32} {L : Nat → Nat → Int64} {a : Int32} {b : Int32} (h : ∀ I_1 : Nat → Nat → Int32, I_1 = va_up I 42 (upd (I 42) 0 ((I 42 0) + 1)) → (∃ j_3 : Nat, j_3 < 20 ∧ I 42 0 = nI j_3 ∧ (∀ I_6 : Nat → Nat → Int32, I_6 = va_up I_1 43 (upd (I_1 43) j_3 a) → (∀ I_8 : Nat → Nat → Int32, I_8 = va_up I_6 44 (upd (I_6 44) j_3 b) → (R (some (.int (I 42 0))) (am_mk I_8 L, 0, 0)))))) : am_Run am_X0 (am_meth d) 49 R 0 [some (.ref 42), some (.int a), some (.int b), none] [] (am_mk I L, 0, 0) := by
  refine ar_aload_n (j := 0) (q := 1) rfl rfl rfl rfl ?_
  refine ar_st (i := .dup) (n := 1) (st' := [.ref 42, .ref 42]) (q := 2) rfl rfl rfl rfl ?_
  refine ar_getf (v := .int (I 42 0)) (q := 5) rfl rfl mk_42 rfl rfl ?_
  refine ar_st (i := .dup_x1) (n := 1) (st' := [.int (I 42 0), .ref 42, .int (I 42 0)]) (q := 6) rfl rfl rfl rfl ?_
  refine ar_iconst (v := 1) (q := 7) rfl rfl rfl ?_
  refine ar_ib (i := .iadd) (z := (I 42 0) + 1) (q := 8) rfl rfl rfl rfl rfl ?_
  obtain ⟨I_1, hI_2⟩ : ∃ z : Nat → Nat → Int32, z = va_up I 42 (upd (I 42) 0 ((I 42 0) + 1)) := ⟨_, rfl⟩
  have h := h I_1 hI_2
  refine ar_putf (hp2 := am_mk I_1 L) (q := 11) rfl rfl mk_42 rfl (by rw [hI_2]; exact mk_p42_0) rfl ?_
  refine ar_istore_n (j := 3) (ls' := [some (.ref 42), some (.int a), some (.int b), some (.int (I 42 0))]) (q := 12) rfl rfl rfl rfl rfl ?_
  refine ar_aload_n (j := 0) (q := 13) rfl rfl rfl rfl ?_
  refine ar_getf (v := .ref 43) (q := 16) rfl rfl mk_42 rfl rfl ?_
  refine ar_iload_n (j := 3) (q := 17) rfl rfl rfl rfl ?_
  refine ar_iload_n (j := 1) (q := 18) rfl rfl rfl rfl ?_
  obtain ⟨j_3, hx_4, hi_5, h⟩ := h
  obtain ⟨I_6, hI_7⟩ : ∃ z : Nat → Nat → Int32, z = va_up I_1 43 (upd (I_1 43) j_3 a) := ⟨_, rfl⟩
  have h := h I_6 hI_7
  refine ar_iast (hp2 := am_mk I_6 L) (q := 19) rfl mk_43 (am_inE hi_5 hx_4 (by decide)) (by rw [am_clT hi_5 hx_4 (by decide), hI_7]; exact mk_s43) rfl ?_
  refine ar_aload_n (j := 0) (q := 20) rfl rfl rfl rfl ?_
  refine ar_getf (v := .ref 44) (q := 23) rfl rfl mk_42 rfl rfl ?_
  refine ar_iload_n (j := 3) (q := 24) rfl rfl rfl rfl ?_
  refine ar_iload_n (j := 2) (q := 25) rfl rfl rfl rfl ?_
  obtain ⟨I_8, hI_9⟩ : ∃ z : Nat → Nat → Int32, z = va_up I_6 44 (upd (I_6 44) j_3 b) := ⟨_, rfl⟩
  have h := h I_8 hI_9
  refine ar_iast (hp2 := am_mk I_8 L) (q := 26) rfl mk_44 (am_inE hi_5 hx_4 (by decide)) (by rw [am_clT hi_5 hx_4 (by decide), hI_9]; exact mk_s44) rfl ?_
  refine ar_iload_n (j := 3) (q := 27) rfl rfl rfl rfl ?_
  exact ar_iret rfl rfl h
theorem r_Stays_has_0 {d : Nat} {R : am_R} {I : Nat → Nat → Int32} {L : Nat → Nat → Int64} {x : Int32} (h : ((x < 0 → (R (some (.int 0)) (am_mk I L, 0, 0))) ∧ (¬ x < 0 → (((x < (I 66 1) → (R (some (.int 1)) (am_mk I L, 0, 0))) ∧ (¬ x < (I 66 1) → (R (some (.int 0)) (am_mk I L, 0, 0)))))))) : am_Run am_X0 (am_meth d) 118 R 0 [some (.ref 66), some (.int x)] [] (am_mk I L, 0, 0) := by
  refine ar_iload_n (j := 1) (q := 1) rfl rfl rfl rfl ?_
  obtain ⟨hA, hB⟩ := h
  refine ar_b0 am_c_lt (t := 16) (q := 4) rfl rfl rfl (fun c_1 => ?_) (fun c_1 => ?_)
  · have h := hA c_1
    clear hA hB
    refine ar_iconst (v := 0) (q := 17) rfl rfl rfl ?_
    exact ar_zret rfl rfl (Or.inl rfl) h
  · have h := hB c_1
    clear hA hB
    refine ar_iload_n (j := 1) (q := 5) rfl rfl rfl rfl ?_
    refine ar_aload_n (j := 0) (q := 6) rfl rfl rfl rfl ?_
    refine ar_getf (v := .int (I 66 1)) (q := 9) rfl rfl mk_66 rfl rfl ?_
    obtain ⟨hA, hB⟩ := h
    refine ar_br am_d_ge (t := 16) (q := 12) rfl rfl rfl (fun c_2 => ?_) (fun c_2 => ?_)
    · have h := hB c_2
      clear hA hB
      refine ar_iconst (v := 0) (q := 17) rfl rfl rfl ?_
      exact ar_zret rfl rfl (Or.inl rfl) h
    · have c_2 := Classical.not_not.mp c_2
      have h := hA c_2
      clear hA hB
      refine ar_iconst (v := 1) (q := 13) rfl rfl rfl ?_
      refine ar_goto (t := 17) rfl rfl ?_
      exact ar_zret rfl rfl (Or.inr rfl) h
theorem r_Stays_add_0 {d : Nat} {R : am_R} {I : Nat → Nat → Int32} {L : Nat → Nat → Int64} {a : Int32} {b : Int32} {c : Int32} (h : ∀ I_1 : Nat → Nat → Int32, I_1 = va_up I 66 (upd (I 66) 1 ((I 66 1) + 1)) → (∃ j_3 : Nat, j_3 < 60 ∧ I 66 1 = nI j_3 ∧ (∀ I_6 : Nat → Nat → Int32, I_6 = va_up I_1 67 (upd (I_1 67) j_3 a) → (∀ I_8 : Nat → Nat → Int32, I_8 = va_up I_6 68 (upd (I_6 68) j_3 b) → (∀ I_10 : Nat → Nat → Int32, I_10 = va_up I_8 69 (upd (I_8 69) j_3 c) → (R (some (.int (I 66 1))) (am_mk I_10 L, 0, 0))))))) : am_Run am_X0 (am_meth d) 117 R 0 [some (.ref 66), some (.int a), some (.int b), some (.int c), none] [] (am_mk I L, 0, 0) := by
  refine ar_aload_n (j := 0) (q := 1) rfl rfl rfl rfl ?_
  refine ar_st (i := .dup) (n := 1) (st' := [.ref 66, .ref 66]) (q := 2) rfl rfl rfl rfl ?_
  refine ar_getf (v := .int (I 66 1)) (q := 5) rfl rfl mk_66 rfl rfl ?_
  refine ar_st (i := .dup_x1) (n := 1) (st' := [.int (I 66 1), .ref 66, .int (I 66 1)]) (q := 6) rfl rfl rfl rfl ?_
  refine ar_iconst (v := 1) (q := 7) rfl rfl rfl ?_
  refine ar_ib (i := .iadd) (z := (I 66 1) + 1) (q := 8) rfl rfl rfl rfl rfl ?_
  obtain ⟨I_1, hI_2⟩ : ∃ z : Nat → Nat → Int32, z = va_up I 66 (upd (I 66) 1 ((I 66 1) + 1)) := ⟨_, rfl⟩
  have h := h I_1 hI_2
  refine ar_putf (hp2 := am_mk I_1 L) (q := 11) rfl rfl mk_66 rfl (by rw [hI_2]; exact mk_p66_1) rfl ?_
  refine ar_istore (ls' := [some (.ref 66), some (.int a), some (.int b), some (.int c), some (.int (I 66 1))]) (q := 13) rfl rfl rfl rfl ?_
  refine ar_aload_n (j := 0) (q := 14) rfl rfl rfl rfl ?_
  refine ar_getf (v := .ref 67) (q := 17) rfl rfl mk_66 rfl rfl ?_
  refine ar_iload (q := 19) rfl rfl rfl ?_
  refine ar_iload_n (j := 1) (q := 20) rfl rfl rfl rfl ?_
  obtain ⟨j_3, hx_4, hi_5, h⟩ := h
  obtain ⟨I_6, hI_7⟩ : ∃ z : Nat → Nat → Int32, z = va_up I_1 67 (upd (I_1 67) j_3 a) := ⟨_, rfl⟩
  have h := h I_6 hI_7
  refine ar_iast (hp2 := am_mk I_6 L) (q := 21) rfl mk_67 (am_inE hi_5 hx_4 (by decide)) (by rw [am_clT hi_5 hx_4 (by decide), hI_7]; exact mk_s67) rfl ?_
  refine ar_aload_n (j := 0) (q := 22) rfl rfl rfl rfl ?_
  refine ar_getf (v := .ref 68) (q := 25) rfl rfl mk_66 rfl rfl ?_
  refine ar_iload (q := 27) rfl rfl rfl ?_
  refine ar_iload_n (j := 2) (q := 28) rfl rfl rfl rfl ?_
  obtain ⟨I_8, hI_9⟩ : ∃ z : Nat → Nat → Int32, z = va_up I_6 68 (upd (I_6 68) j_3 b) := ⟨_, rfl⟩
  have h := h I_8 hI_9
  refine ar_iast (hp2 := am_mk I_8 L) (q := 29) rfl mk_68 (am_inE hi_5 hx_4 (by decide)) (by rw [am_clT hi_5 hx_4 (by decide), hI_9]; exact mk_s68) rfl ?_
  refine ar_aload_n (j := 0) (q := 30) rfl rfl rfl rfl ?_
  refine ar_getf (v := .ref 69) (q := 33) rfl rfl mk_66 rfl rfl ?_
  refine ar_iload (q := 35) rfl rfl rfl ?_
  refine ar_iload_n (j := 3) (q := 36) rfl rfl rfl rfl ?_
  obtain ⟨I_10, hI_11⟩ : ∃ z : Nat → Nat → Int32, z = va_up I_8 69 (upd (I_8 69) j_3 c) := ⟨_, rfl⟩
  have h := h I_10 hI_11
  refine ar_iast (hp2 := am_mk I_10 L) (q := 37) rfl mk_69 (am_inE hi_5 hx_4 (by decide)) (by rw [am_clT hi_5 hx_4 (by decide), hI_11]; exact mk_s69) rfl ?_
  refine ar_iload (q := 39) rfl rfl rfl ?_
  exact ar_iret rfl rfl h
theorem r_Stays_isOver_0 {d : Nat} {R : am_R} {I : Nat → Nat → Int32} {L : Nat → Nat → Int64} {s : Nat} (h : s < 60 ∧ ((((I 69 s) < (I 66 0) → (R (some (.int 1)) (am_mk I L, 0, 0))) ∧ (¬ (I 69 s) < (I 66 0) → (R (some (.int 0)) (am_mk I L, 0, 0)))))) : am_Run am_X0 (am_meth d) 119 R 0 [some (.ref 66), some (.int (nI s))] [] (am_mk I L, 0, 0) := by
  refine ar_aload_n (j := 0) (q := 1) rfl rfl rfl rfl ?_
  refine ar_getf (v := .ref 69) (q := 4) rfl rfl mk_66 rfl rfl ?_
  refine ar_iload_n (j := 1) (q := 5) rfl rfl rfl rfl ?_
  obtain ⟨hx_1, h⟩ := h
  refine ar_iald (v := I 69 s) (q := 6) rfl mk_69 (am_inE rfl hx_1 (by decide)) (am_clE rfl hx_1 (by decide)) rfl ?_
  refine ar_aload_n (j := 0) (q := 7) rfl rfl rfl rfl ?_
  refine ar_getf (v := .int (I 66 0)) (q := 10) rfl rfl mk_66 rfl rfl ?_
  obtain ⟨hA, hB⟩ := h
  refine ar_br am_d_ge (t := 17) (q := 13) rfl rfl rfl (fun c_2 => ?_) (fun c_2 => ?_)
  · have h := hB c_2
    clear hA hB
    refine ar_iconst (v := 0) (q := 18) rfl rfl rfl ?_
    exact ar_zret rfl rfl (Or.inl rfl) h
  · have c_2 := Classical.not_not.mp c_2
    have h := hA c_2
    clear hA hB
    refine ar_iconst (v := 1) (q := 14) rfl rfl rfl ?_
    refine ar_goto (t := 18) rfl rfl ?_
    exact ar_zret rfl rfl (Or.inr rfl) h
theorem r_Stays_isTakenBy_0 {d : Nat} {R : am_R} {I : Nat → Nat → Int32} {L : Nat → Nat → Int64} {s : Nat} {w : Int32} (h : s < 60 ∧ ((((I 70 s) = 1 → ((((I 71 s) = w → (R (some (.int 1)) (am_mk I L, 0, 0))) ∧ (¬ (I 71 s) = w → (R (some (.int 0)) (am_mk I L, 0, 0)))))) ∧ (¬ (I 70 s) = 1 → (R (some (.int 0)) (am_mk I L, 0, 0)))))) : am_Run am_X0 (am_meth d) 120 R 0 [some (.ref 66), some (.int (nI s)), some (.int w)] [] (am_mk I L, 0, 0) := by
  refine ar_aload_n (j := 0) (q := 1) rfl rfl rfl rfl ?_
  refine ar_getf (v := .ref 70) (q := 4) rfl rfl mk_66 rfl rfl ?_
  refine ar_iload_n (j := 1) (q := 5) rfl rfl rfl rfl ?_
  obtain ⟨hx_1, h⟩ := h
  refine ar_iald (v := I 70 s) (q := 6) rfl mk_70 (am_inE rfl hx_1 (by decide)) (am_clE rfl hx_1 (by decide)) rfl ?_
  refine ar_iconst (v := 1) (q := 7) rfl rfl rfl ?_
  obtain ⟨hA, hB⟩ := h
  refine ar_br am_c_ne (t := 24) (q := 10) rfl rfl rfl (fun c_2 => ?_) (fun c_2 => ?_)
  · have h := hB c_2
    clear hA hB
    refine ar_iconst (v := 0) (q := 25) rfl rfl rfl ?_
    exact ar_zret rfl rfl (Or.inl rfl) h
  · have c_2 := Classical.not_not.mp c_2
    have h := hA c_2
    clear hA hB
    refine ar_aload_n (j := 0) (q := 11) rfl rfl rfl rfl ?_
    refine ar_getf (v := .ref 71) (q := 14) rfl rfl mk_66 rfl rfl ?_
    refine ar_iload_n (j := 1) (q := 15) rfl rfl rfl rfl ?_
    refine ar_iald (v := I 71 s) (q := 16) rfl mk_71 (am_inE rfl hx_1 (by decide)) (am_clE rfl hx_1 (by decide)) rfl ?_
    refine ar_iload_n (j := 2) (q := 17) rfl rfl rfl rfl ?_
    obtain ⟨hA, hB⟩ := h
    refine ar_br am_c_ne (t := 24) (q := 20) rfl rfl rfl (fun c_3 => ?_) (fun c_3 => ?_)
    · have h := hB c_3
      clear hA hB
      refine ar_iconst (v := 0) (q := 25) rfl rfl rfl ?_
      exact ar_zret rfl rfl (Or.inl rfl) h
    · have c_3 := Classical.not_not.mp c_3
      have h := hA c_3
      clear hA hB
      refine ar_iconst (v := 1) (q := 21) rfl rfl rfl ?_
      refine ar_goto (t := 25) rfl rfl ?_
      exact ar_zret rfl rfl (Or.inr rfl) h
theorem r_Stays_lengthOf_0 {d : Nat} {R : am_R} {I : Nat → Nat → Int32} {L : Nat → Nat → Int64} {s : Nat} (h : s < 60 ∧ (R (some (.int (((I 69 s) - (I 68 s)) + 1))) (am_mk I L, 0, 0))) : am_Run am_X0 (am_meth d) 121 R 0 [some (.ref 66), some (.int (nI s))] [] (am_mk I L, 0, 0) := by
  refine ar_aload_n (j := 0) (q := 1) rfl rfl rfl rfl ?_
  refine ar_getf (v := .ref 69) (q := 4) rfl rfl mk_66 rfl rfl ?_
  refine ar_iload_n (j := 1) (q := 5) rfl rfl rfl rfl ?_
  obtain ⟨hx_1, h⟩ := h
  refine ar_iald (v := I 69 s) (q := 6) rfl mk_69 (am_inE rfl hx_1 (by decide)) (am_clE rfl hx_1 (by decide)) rfl ?_
  refine ar_aload_n (j := 0) (q := 7) rfl rfl rfl rfl ?_
  refine ar_getf (v := .ref 68) (q := 10) rfl rfl mk_66 rfl rfl ?_
  refine ar_iload_n (j := 1) (q := 11) rfl rfl rfl rfl ?_
  refine ar_iald (v := I 68 s) (q := 12) rfl mk_68 (am_inE rfl hx_1 (by decide)) (am_clE rfl hx_1 (by decide)) rfl ?_
  refine ar_ib (i := .isub) (z := (I 69 s) - (I 68 s)) (q := 13) rfl rfl rfl rfl rfl ?_
  refine ar_iconst (v := 1) (q := 14) rfl rfl rfl ?_
  refine ar_ib (i := .iadd) (z := ((I 69 s) - (I 68 s)) + 1) (q := 15) rfl rfl rfl rfl rfl ?_
  exact ar_iret rfl rfl h
theorem r_Stays_daysWithin_0 {d : Nat} (hd : 1 ≤ d) {R : am_R} {I : Nat → Nat → Int32} {L : Nat → Nat → Int64} {s : Nat} {a : Int32} {b : Int32} (h : s < 60 ∧ (R (some (.int (if ((if b < I 69 s then b else I 69 s) - (if I 68 s < a then a else I 68 s)) + 1 < 0 then 0 else ((if b < I 69 s then b else I 69 s) - (if I 68 s < a then a else I 68 s)) + 1))) (am_mk I L, 0, 0))) : am_Run am_X0 (am_meth d) 116 R 0 [some (.ref 66), some (.int (nI s)), some (.int a), some (.int b), none, none] [] (am_mk I L, 0, 0) := by
  refine ar_aload_n (j := 0) (q := 1) rfl rfl rfl rfl ?_
  refine ar_getf (v := .ref 68) (q := 4) rfl rfl mk_66 rfl rfl ?_
  refine ar_iload_n (j := 1) (q := 5) rfl rfl rfl rfl ?_
  obtain ⟨hx_1, h⟩ := h
  refine ar_iald (v := I 68 s) (q := 6) rfl mk_68 (am_inE rfl hx_1 (by decide)) (am_clE rfl hx_1 (by decide)) rfl ?_
  refine ar_iload_n (j := 2) (q := 7) rfl rfl rfl rfl ?_
  refine ar_invs (as := [.int (I 68 s), .int a]) (rest := []) (b2 := (0, 0)) (b3 := (0, 0)) (q := 10) rfl rfl rfl rfl rfl rfl rfl rfl rfl ?_
  obtain ⟨d9, rfl⟩ : ∃ d9, d = d9 + 1 := ⟨d - 1, by omega⟩
  refine ar_max ?_
  show am_Run am_X0 (am_meth (d9 + 1)) 116 R 10 [some (.ref 66), some (.int (nI s)), some (.int a), some (.int b), none, none] [.int (if I 68 s < a then a else I 68 s)] (am_mk I L, 0, 0)
  generalize hd9 : d9 + 1 = d at *
  refine ar_istore (ls' := [some (.ref 66), some (.int (nI s)), some (.int a), some (.int b), some (.int (if I 68 s < a then a else I 68 s)), none]) (q := 12) rfl rfl rfl rfl ?_
  refine ar_aload_n (j := 0) (q := 13) rfl rfl rfl rfl ?_
  refine ar_getf (v := .ref 69) (q := 16) rfl rfl mk_66 rfl rfl ?_
  refine ar_iload_n (j := 1) (q := 17) rfl rfl rfl rfl ?_
  refine ar_iald (v := I 69 s) (q := 18) rfl mk_69 (am_inE rfl hx_1 (by decide)) (am_clE rfl hx_1 (by decide)) rfl ?_
  refine ar_iload_n (j := 3) (q := 19) rfl rfl rfl rfl ?_
  refine ar_invs (as := [.int (I 69 s), .int b]) (rest := []) (b2 := (0, 0)) (b3 := (0, 0)) (q := 22) rfl rfl rfl rfl rfl rfl rfl rfl rfl ?_
  obtain ⟨d9, rfl⟩ : ∃ d9, d = d9 + 1 := ⟨d - 1, by omega⟩
  refine ar_min ?_
  show am_Run am_X0 (am_meth (d9 + 1)) 116 R 22 [some (.ref 66), some (.int (nI s)), some (.int a), some (.int b), some (.int (if I 68 s < a then a else I 68 s)), none] [.int (if b < I 69 s then b else I 69 s)] (am_mk I L, 0, 0)
  generalize hd9 : d9 + 1 = d at *
  refine ar_istore (ls' := [some (.ref 66), some (.int (nI s)), some (.int a), some (.int b), some (.int (if I 68 s < a then a else I 68 s)), some (.int (if b < I 69 s then b else I 69 s))]) (q := 24) rfl rfl rfl rfl ?_
  refine ar_iload (q := 26) rfl rfl rfl ?_
  refine ar_iload (q := 28) rfl rfl rfl ?_
  refine ar_ib (i := .isub) (z := (if b < I 69 s then b else I 69 s) - (if I 68 s < a then a else I 68 s)) (q := 29) rfl rfl rfl rfl rfl ?_
  refine ar_iconst (v := 1) (q := 30) rfl rfl rfl ?_
  refine ar_ib (i := .iadd) (z := ((if b < I 69 s then b else I 69 s) - (if I 68 s < a then a else I 68 s)) + 1) (q := 31) rfl rfl rfl rfl rfl ?_
  refine ar_iconst (v := 0) (q := 32) rfl rfl rfl ?_
  refine ar_invs (as := [.int (((if b < I 69 s then b else I 69 s) - (if I 68 s < a then a else I 68 s)) + 1), .int 0]) (rest := []) (b2 := (0, 0)) (b3 := (0, 0)) (q := 35) rfl rfl rfl rfl rfl rfl rfl rfl rfl ?_
  obtain ⟨d9, rfl⟩ : ∃ d9, d = d9 + 1 := ⟨d - 1, by omega⟩
  refine ar_max ?_
  show am_Run am_X0 (am_meth (d9 + 1)) 116 R 35 [some (.ref 66), some (.int (nI s)), some (.int a), some (.int b), some (.int (if I 68 s < a then a else I 68 s)), some (.int (if b < I 69 s then b else I 69 s))] [.int (if ((if b < I 69 s then b else I 69 s) - (if I 68 s < a then a else I 68 s)) + 1 < 0 then 0 else ((if b < I 69 s then b else I 69 s) - (if I 68 s < a then a else I 68 s)) + 1)] (am_mk I L, 0, 0)
  generalize hd9 : d9 + 1 = d at *
  exact ar_iret rfl rfl h
theorem r_Stays_hasBothLists_0 {d : Nat} {R : am_R} {I : Nat → Nat → Int32} {L : Nat → Nat → Int64} {s : Nat} (h : s < 60 ∧ ((((I 72 s) = (-1 : Int32) → (R (some (.int 0)) (am_mk I L, 0, 0))) ∧ (¬ (I 72 s) = (-1 : Int32) → ((((I 73 s) = (-1 : Int32) → (R (some (.int 0)) (am_mk I L, 0, 0))) ∧ (¬ (I 73 s) = (-1 : Int32) → (R (some (.int 1)) (am_mk I L, 0, 0))))))))) : am_Run am_X0 (am_meth d) 122 R 0 [some (.ref 66), some (.int (nI s))] [] (am_mk I L, 0, 0) := by
  refine ar_aload_n (j := 0) (q := 1) rfl rfl rfl rfl ?_
  refine ar_getf (v := .ref 72) (q := 4) rfl rfl mk_66 rfl rfl ?_
  refine ar_iload_n (j := 1) (q := 5) rfl rfl rfl rfl ?_
  obtain ⟨hx_1, h⟩ := h
  refine ar_iald (v := I 72 s) (q := 6) rfl mk_72 (am_inE rfl hx_1 (by decide)) (am_clE rfl hx_1 (by decide)) rfl ?_
  refine ar_iconst (v := (-1 : Int32)) (q := 7) rfl rfl rfl ?_
  obtain ⟨hA, hB⟩ := h
  refine ar_br am_c_eq (t := 24) (q := 10) rfl rfl rfl (fun c_2 => ?_) (fun c_2 => ?_)
  · have h := hA c_2
    clear hA hB
    refine ar_iconst (v := 0) (q := 25) rfl rfl rfl ?_
    exact ar_zret rfl rfl (Or.inl rfl) h
  · have h := hB c_2
    clear hA hB
    refine ar_aload_n (j := 0) (q := 11) rfl rfl rfl rfl ?_
    refine ar_getf (v := .ref 73) (q := 14) rfl rfl mk_66 rfl rfl ?_
    refine ar_iload_n (j := 1) (q := 15) rfl rfl rfl rfl ?_
    refine ar_iald (v := I 73 s) (q := 16) rfl mk_73 (am_inE rfl hx_1 (by decide)) (am_clE rfl hx_1 (by decide)) rfl ?_
    refine ar_iconst (v := (-1 : Int32)) (q := 17) rfl rfl rfl ?_
    obtain ⟨hA, hB⟩ := h
    refine ar_br am_c_eq (t := 24) (q := 20) rfl rfl rfl (fun c_3 => ?_) (fun c_3 => ?_)
    · have h := hA c_3
      clear hA hB
      refine ar_iconst (v := 0) (q := 25) rfl rfl rfl ?_
      exact ar_zret rfl rfl (Or.inl rfl) h
    · have h := hB c_3
      clear hA hB
      refine ar_iconst (v := 1) (q := 21) rfl rfl rfl ?_
      refine ar_goto (t := 25) rfl rfl ?_
      exact ar_zret rfl rfl (Or.inr rfl) h
theorem r_Stays_itemsGone_0 {d : Nat} {R : am_R} {I : Nat → Nat → Int32} {L : Nat → Nat → Int64} {s : Nat} (h : s < 60 ∧ (R (some (.int ((I 72 s) &&& ((I 73 s) ^^^ (-1 : Int32))))) (am_mk I L, 0, 0))) : am_Run am_X0 (am_meth d) 123 R 0 [some (.ref 66), some (.int (nI s))] [] (am_mk I L, 0, 0) := by
  refine ar_aload_n (j := 0) (q := 1) rfl rfl rfl rfl ?_
  refine ar_getf (v := .ref 72) (q := 4) rfl rfl mk_66 rfl rfl ?_
  refine ar_iload_n (j := 1) (q := 5) rfl rfl rfl rfl ?_
  obtain ⟨hx_1, h⟩ := h
  refine ar_iald (v := I 72 s) (q := 6) rfl mk_72 (am_inE rfl hx_1 (by decide)) (am_clE rfl hx_1 (by decide)) rfl ?_
  refine ar_aload_n (j := 0) (q := 7) rfl rfl rfl rfl ?_
  refine ar_getf (v := .ref 73) (q := 10) rfl rfl mk_66 rfl rfl ?_
  refine ar_iload_n (j := 1) (q := 11) rfl rfl rfl rfl ?_
  refine ar_iald (v := I 73 s) (q := 12) rfl mk_73 (am_inE rfl hx_1 (by decide)) (am_clE rfl hx_1 (by decide)) rfl ?_
  refine ar_iconst (v := (-1 : Int32)) (q := 13) rfl rfl rfl ?_
  refine ar_ib (i := .ixor) (z := (I 73 s) ^^^ (-1 : Int32)) (q := 14) rfl rfl rfl rfl rfl ?_
  refine ar_ib (i := .iand) (z := (I 72 s) &&& ((I 73 s) ^^^ (-1 : Int32))) (q := 15) rfl rfl rfl rfl rfl ?_
  exact ar_iret rfl rfl h
theorem r_Row_hasRoomFor_tape_0 {d : Nat} {R : am_R} {I : Nat → Nat → Int32} {L : Nat → Nat → Int64} {x : Int32} (h : ((x ≤ (60 - (I 91 0)) → (R (some (.int 1)) (am_mk I L, 0, 0))) ∧ (¬ x ≤ (60 - (I 91 0)) → (R (some (.int 0)) (am_mk I L, 0, 0))))) : am_Run am_X0 (am_meth d) 86 R 0 [some (.ref 91), some (.int x)] [] (am_mk I L, 0, 0) := by
  refine ar_iload_n (j := 1) (q := 1) rfl rfl rfl rfl ?_
  refine ar_aload_n (j := 0) (q := 2) rfl rfl rfl rfl ?_
  refine ar_getf (v := .ref 92) (q := 5) rfl rfl mk_91 rfl rfl ?_
  refine ar_st (i := .arraylength) (n := 1) (st' := [.int 60, .int x]) (q := 6) rfl rfl rfl rfl ?_
  refine ar_aload_n (j := 0) (q := 7) rfl rfl rfl rfl ?_
  refine ar_getf (v := .int (I 91 0)) (q := 10) rfl rfl mk_91 rfl rfl ?_
  refine ar_ib (i := .isub) (z := 60 - (I 91 0)) (q := 11) rfl rfl rfl rfl rfl ?_
  obtain ⟨hA, hB⟩ := h
  refine ar_br am_d_gt (t := 18) (q := 14) rfl rfl rfl (fun c_1 => ?_) (fun c_1 => ?_)
  · have h := hB c_1
    clear hA hB
    refine ar_iconst (v := 0) (q := 19) rfl rfl rfl ?_
    exact ar_zret rfl rfl (Or.inl rfl) h
  · have c_1 := Classical.not_not.mp c_1
    have h := hA c_1
    clear hA hB
    refine ar_iconst (v := 1) (q := 15) rfl rfl rfl ?_
    refine ar_goto (t := 19) rfl rfl ?_
    exact ar_zret rfl rfl (Or.inr rfl) h
theorem r_Row_add_tape_0 {d : Nat} {R : am_R} {I : Nat → Nat → Int32} {L : Nat → Nat → Int64} {x : Int32} (h : (((I 91 0) < 60 → (∀ I_2 : Nat → Nat → Int32, I_2 = va_up I 91 (upd (I 91) 0 ((I 91 0) + 1)) → (∃ j_4 : Nat, j_4 < 60 ∧ I 91 0 = nI j_4 ∧ (∀ I_7 : Nat → Nat → Int32, I_7 = va_up I_2 92 (upd (I_2 92) j_4 x) → (R none (am_mk I_7 L, 0, 0)))))) ∧ (¬ (I 91 0) < 60 → (R none (am_mk I L, 0, 0))))) : am_Run am_X0 (am_meth d) 87 R 0 [some (.ref 91), some (.int x)] [] (am_mk I L, 0, 0) := by
  refine ar_aload_n (j := 0) (q := 1) rfl rfl rfl rfl ?_
  refine ar_getf (v := .int (I 91 0)) (q := 4) rfl rfl mk_91 rfl rfl ?_
  refine ar_aload_n (j := 0) (q := 5) rfl rfl rfl rfl ?_
  refine ar_getf (v := .ref 92) (q := 8) rfl rfl mk_91 rfl rfl ?_
  refine ar_st (i := .arraylength) (n := 1) (st' := [.int 60, .int (I 91 0)]) (q := 9) rfl rfl rfl rfl ?_
  obtain ⟨hA, hB⟩ := h
  refine ar_br am_d_ge (t := 29) (q := 12) rfl rfl rfl (fun c_1 => ?_) (fun c_1 => ?_)
  · have h := hB c_1
    clear hA hB
    exact ar_vret rfl rfl h
  · have c_1 := Classical.not_not.mp c_1
    have h := hA c_1
    clear hA hB
    refine ar_aload_n (j := 0) (q := 13) rfl rfl rfl rfl ?_
    refine ar_getf (v := .ref 92) (q := 16) rfl rfl mk_91 rfl rfl ?_
    refine ar_aload_n (j := 0) (q := 17) rfl rfl rfl rfl ?_
    refine ar_st (i := .dup) (n := 1) (st' := [.ref 91, .ref 91, .ref 92]) (q := 18) rfl rfl rfl rfl ?_
    refine ar_getf (v := .int (I 91 0)) (q := 21) rfl rfl mk_91 rfl rfl ?_
    refine ar_st (i := .dup_x1) (n := 1) (st' := [.int (I 91 0), .ref 91, .int (I 91 0), .ref 92]) (q := 22) rfl rfl rfl rfl ?_
    refine ar_iconst (v := 1) (q := 23) rfl rfl rfl ?_
    refine ar_ib (i := .iadd) (z := (I 91 0) + 1) (q := 24) rfl rfl rfl rfl rfl ?_
    obtain ⟨I_2, hI_3⟩ : ∃ z : Nat → Nat → Int32, z = va_up I 91 (upd (I 91) 0 ((I 91 0) + 1)) := ⟨_, rfl⟩
    have h := h I_2 hI_3
    refine ar_putf (hp2 := am_mk I_2 L) (q := 27) rfl rfl mk_91 rfl (by rw [hI_3]; exact mk_p91_0) rfl ?_
    refine ar_iload_n (j := 1) (q := 28) rfl rfl rfl rfl ?_
    obtain ⟨j_4, hx_5, hi_6, h⟩ := h
    obtain ⟨I_7, hI_8⟩ : ∃ z : Nat → Nat → Int32, z = va_up I_2 92 (upd (I_2 92) j_4 x) := ⟨_, rfl⟩
    have h := h I_7 hI_8
    refine ar_iast (hp2 := am_mk I_7 L) (q := 29) rfl mk_92 (am_inE hi_6 hx_5 (by decide)) (by rw [am_clT hi_6 hx_5 (by decide), hI_8]; exact mk_s92) rfl ?_
    exact ar_vret rfl rfl h
theorem r_Row_at_tape_0 {d : Nat} {R : am_R} {I : Nat → Nat → Int32} {L : Nat → Nat → Int64} {x : Int32} (h : ((x < 0 → (R (some (.int (-1 : Int32))) (am_mk I L, 0, 0))) ∧ (¬ x < 0 → (((x < (I 91 0) → (∃ j_3 : Nat, j_3 < 60 ∧ x = nI j_3 ∧ (R (some (.int (I 92 j_3))) (am_mk I L, 0, 0)))) ∧ (¬ x < (I 91 0) → (R (some (.int (-1 : Int32))) (am_mk I L, 0, 0)))))))) : am_Run am_X0 (am_meth d) 88 R 0 [some (.ref 91), some (.int x)] [] (am_mk I L, 0, 0) := by
  refine ar_iload_n (j := 1) (q := 1) rfl rfl rfl rfl ?_
  obtain ⟨hA, hB⟩ := h
  refine ar_b0 am_c_lt (t := 21) (q := 4) rfl rfl rfl (fun c_1 => ?_) (fun c_1 => ?_)
  · have h := hA c_1
    clear hA hB
    refine ar_iconst (v := (-1 : Int32)) (q := 22) rfl rfl rfl ?_
    exact ar_iret rfl rfl h
  · have h := hB c_1
    clear hA hB
    refine ar_iload_n (j := 1) (q := 5) rfl rfl rfl rfl ?_
    refine ar_aload_n (j := 0) (q := 6) rfl rfl rfl rfl ?_
    refine ar_getf (v := .int (I 91 0)) (q := 9) rfl rfl mk_91 rfl rfl ?_
    obtain ⟨hA, hB⟩ := h
    refine ar_br am_d_ge (t := 21) (q := 12) rfl rfl rfl (fun c_2 => ?_) (fun c_2 => ?_)
    · have h := hB c_2
      clear hA hB
      refine ar_iconst (v := (-1 : Int32)) (q := 22) rfl rfl rfl ?_
      exact ar_iret rfl rfl h
    · have c_2 := Classical.not_not.mp c_2
      have h := hA c_2
      clear hA hB
      refine ar_aload_n (j := 0) (q := 13) rfl rfl rfl rfl ?_
      refine ar_getf (v := .ref 92) (q := 16) rfl rfl mk_91 rfl rfl ?_
      refine ar_iload_n (j := 1) (q := 17) rfl rfl rfl rfl ?_
      obtain ⟨j_3, hx_4, hi_5, h⟩ := h
      refine ar_iald (v := I 92 j_3) (q := 18) rfl mk_92 (am_inE hi_5 hx_4 (by decide)) (am_clE hi_5 hx_4 (by decide)) rfl ?_
      refine ar_goto (t := 22) rfl rfl ?_
      exact ar_iret rfl rfl h
theorem r_Row_clear_tape_0 {d : Nat} {R : am_R} {I : Nat → Nat → Int32} {L : Nat → Nat → Int64}  (h : ∀ I_1 : Nat → Nat → Int32, I_1 = va_up I 91 (upd (I 91) 0 0) → (R none (am_mk I_1 L, 0, 0))) : am_Run am_X0 (am_meth d) 89 R 0 [some (.ref 91)] [] (am_mk I L, 0, 0) := by
  refine ar_aload_n (j := 0) (q := 1) rfl rfl rfl rfl ?_
  refine ar_iconst (v := 0) (q := 2) rfl rfl rfl ?_
  obtain ⟨I_1, hI_2⟩ : ∃ z : Nat → Nat → Int32, z = va_up I 91 (upd (I 91) 0 0) := ⟨_, rfl⟩
  have h := h I_1 hI_2
  refine ar_putf (hp2 := am_mk I_1 L) (q := 5) rfl rfl mk_91 rfl (by rw [hI_2]; exact mk_p91_0) rfl ?_
  exact ar_vret rfl rfl h
theorem r_Row_hasRoomFor_row_0 {d : Nat} {R : am_R} {I : Nat → Nat → Int32} {L : Nat → Nat → Int64} {x : Int32} (h : ((x ≤ (12 - (I 95 0)) → (R (some (.int 1)) (am_mk I L, 0, 0))) ∧ (¬ x ≤ (12 - (I 95 0)) → (R (some (.int 0)) (am_mk I L, 0, 0))))) : am_Run am_X0 (am_meth d) 86 R 0 [some (.ref 95), some (.int x)] [] (am_mk I L, 0, 0) := by
  refine ar_iload_n (j := 1) (q := 1) rfl rfl rfl rfl ?_
  refine ar_aload_n (j := 0) (q := 2) rfl rfl rfl rfl ?_
  refine ar_getf (v := .ref 96) (q := 5) rfl rfl mk_95 rfl rfl ?_
  refine ar_st (i := .arraylength) (n := 1) (st' := [.int 12, .int x]) (q := 6) rfl rfl rfl rfl ?_
  refine ar_aload_n (j := 0) (q := 7) rfl rfl rfl rfl ?_
  refine ar_getf (v := .int (I 95 0)) (q := 10) rfl rfl mk_95 rfl rfl ?_
  refine ar_ib (i := .isub) (z := 12 - (I 95 0)) (q := 11) rfl rfl rfl rfl rfl ?_
  obtain ⟨hA, hB⟩ := h
  refine ar_br am_d_gt (t := 18) (q := 14) rfl rfl rfl (fun c_1 => ?_) (fun c_1 => ?_)
  · have h := hB c_1
    clear hA hB
    refine ar_iconst (v := 0) (q := 19) rfl rfl rfl ?_
    exact ar_zret rfl rfl (Or.inl rfl) h
  · have c_1 := Classical.not_not.mp c_1
    have h := hA c_1
    clear hA hB
    refine ar_iconst (v := 1) (q := 15) rfl rfl rfl ?_
    refine ar_goto (t := 19) rfl rfl ?_
    exact ar_zret rfl rfl (Or.inr rfl) h
theorem r_Row_add_row_0 {d : Nat} {R : am_R} {I : Nat → Nat → Int32} {L : Nat → Nat → Int64} {x : Int32} (h : (((I 95 0) < 12 → (∀ I_2 : Nat → Nat → Int32, I_2 = va_up I 95 (upd (I 95) 0 ((I 95 0) + 1)) → (∃ j_4 : Nat, j_4 < 12 ∧ I 95 0 = nI j_4 ∧ (∀ I_7 : Nat → Nat → Int32, I_7 = va_up I_2 96 (upd (I_2 96) j_4 x) → (R none (am_mk I_7 L, 0, 0)))))) ∧ (¬ (I 95 0) < 12 → (R none (am_mk I L, 0, 0))))) : am_Run am_X0 (am_meth d) 87 R 0 [some (.ref 95), some (.int x)] [] (am_mk I L, 0, 0) := by
  refine ar_aload_n (j := 0) (q := 1) rfl rfl rfl rfl ?_
  refine ar_getf (v := .int (I 95 0)) (q := 4) rfl rfl mk_95 rfl rfl ?_
  refine ar_aload_n (j := 0) (q := 5) rfl rfl rfl rfl ?_
  refine ar_getf (v := .ref 96) (q := 8) rfl rfl mk_95 rfl rfl ?_
  refine ar_st (i := .arraylength) (n := 1) (st' := [.int 12, .int (I 95 0)]) (q := 9) rfl rfl rfl rfl ?_
  obtain ⟨hA, hB⟩ := h
  refine ar_br am_d_ge (t := 29) (q := 12) rfl rfl rfl (fun c_1 => ?_) (fun c_1 => ?_)
  · have h := hB c_1
    clear hA hB
    exact ar_vret rfl rfl h
  · have c_1 := Classical.not_not.mp c_1
    have h := hA c_1
    clear hA hB
    refine ar_aload_n (j := 0) (q := 13) rfl rfl rfl rfl ?_
    refine ar_getf (v := .ref 96) (q := 16) rfl rfl mk_95 rfl rfl ?_
    refine ar_aload_n (j := 0) (q := 17) rfl rfl rfl rfl ?_
    refine ar_st (i := .dup) (n := 1) (st' := [.ref 95, .ref 95, .ref 96]) (q := 18) rfl rfl rfl rfl ?_
    refine ar_getf (v := .int (I 95 0)) (q := 21) rfl rfl mk_95 rfl rfl ?_
    refine ar_st (i := .dup_x1) (n := 1) (st' := [.int (I 95 0), .ref 95, .int (I 95 0), .ref 96]) (q := 22) rfl rfl rfl rfl ?_
    refine ar_iconst (v := 1) (q := 23) rfl rfl rfl ?_
    refine ar_ib (i := .iadd) (z := (I 95 0) + 1) (q := 24) rfl rfl rfl rfl rfl ?_
    obtain ⟨I_2, hI_3⟩ : ∃ z : Nat → Nat → Int32, z = va_up I 95 (upd (I 95) 0 ((I 95 0) + 1)) := ⟨_, rfl⟩
    have h := h I_2 hI_3
    refine ar_putf (hp2 := am_mk I_2 L) (q := 27) rfl rfl mk_95 rfl (by rw [hI_3]; exact mk_p95_0) rfl ?_
    refine ar_iload_n (j := 1) (q := 28) rfl rfl rfl rfl ?_
    obtain ⟨j_4, hx_5, hi_6, h⟩ := h
    obtain ⟨I_7, hI_8⟩ : ∃ z : Nat → Nat → Int32, z = va_up I_2 96 (upd (I_2 96) j_4 x) := ⟨_, rfl⟩
    have h := h I_7 hI_8
    refine ar_iast (hp2 := am_mk I_7 L) (q := 29) rfl mk_96 (am_inE hi_6 hx_5 (by decide)) (by rw [am_clT hi_6 hx_5 (by decide), hI_8]; exact mk_s96) rfl ?_
    exact ar_vret rfl rfl h
theorem r_Row_at_row_0 {d : Nat} {R : am_R} {I : Nat → Nat → Int32} {L : Nat → Nat → Int64} {x : Int32} (h : ((x < 0 → (R (some (.int (-1 : Int32))) (am_mk I L, 0, 0))) ∧ (¬ x < 0 → (((x < (I 95 0) → (∃ j_3 : Nat, j_3 < 12 ∧ x = nI j_3 ∧ (R (some (.int (I 96 j_3))) (am_mk I L, 0, 0)))) ∧ (¬ x < (I 95 0) → (R (some (.int (-1 : Int32))) (am_mk I L, 0, 0)))))))) : am_Run am_X0 (am_meth d) 88 R 0 [some (.ref 95), some (.int x)] [] (am_mk I L, 0, 0) := by
  refine ar_iload_n (j := 1) (q := 1) rfl rfl rfl rfl ?_
  obtain ⟨hA, hB⟩ := h
  refine ar_b0 am_c_lt (t := 21) (q := 4) rfl rfl rfl (fun c_1 => ?_) (fun c_1 => ?_)
  · have h := hA c_1
    clear hA hB
    refine ar_iconst (v := (-1 : Int32)) (q := 22) rfl rfl rfl ?_
    exact ar_iret rfl rfl h
  · have h := hB c_1
    clear hA hB
    refine ar_iload_n (j := 1) (q := 5) rfl rfl rfl rfl ?_
    refine ar_aload_n (j := 0) (q := 6) rfl rfl rfl rfl ?_
    refine ar_getf (v := .int (I 95 0)) (q := 9) rfl rfl mk_95 rfl rfl ?_
    obtain ⟨hA, hB⟩ := h
    refine ar_br am_d_ge (t := 21) (q := 12) rfl rfl rfl (fun c_2 => ?_) (fun c_2 => ?_)
    · have h := hB c_2
      clear hA hB
      refine ar_iconst (v := (-1 : Int32)) (q := 22) rfl rfl rfl ?_
      exact ar_iret rfl rfl h
    · have c_2 := Classical.not_not.mp c_2
      have h := hA c_2
      clear hA hB
      refine ar_aload_n (j := 0) (q := 13) rfl rfl rfl rfl ?_
      refine ar_getf (v := .ref 96) (q := 16) rfl rfl mk_95 rfl rfl ?_
      refine ar_iload_n (j := 1) (q := 17) rfl rfl rfl rfl ?_
      obtain ⟨j_3, hx_4, hi_5, h⟩ := h
      refine ar_iald (v := I 96 j_3) (q := 18) rfl mk_96 (am_inE hi_5 hx_4 (by decide)) (am_clE hi_5 hx_4 (by decide)) rfl ?_
      refine ar_goto (t := 22) rfl rfl ?_
      exact ar_iret rfl rfl h
theorem r_Row_clear_row_0 {d : Nat} {R : am_R} {I : Nat → Nat → Int32} {L : Nat → Nat → Int64}  (h : ∀ I_1 : Nat → Nat → Int32, I_1 = va_up I 95 (upd (I 95) 0 0) → (R none (am_mk I_1 L, 0, 0))) : am_Run am_X0 (am_meth d) 89 R 0 [some (.ref 95)] [] (am_mk I L, 0, 0) := by
  refine ar_aload_n (j := 0) (q := 1) rfl rfl rfl rfl ?_
  refine ar_iconst (v := 0) (q := 2) rfl rfl rfl ?_
  obtain ⟨I_1, hI_2⟩ : ∃ z : Nat → Nat → Int32, z = va_up I 95 (upd (I 95) 0 0) := ⟨_, rfl⟩
  have h := h I_1 hI_2
  refine ar_putf (hp2 := am_mk I_1 L) (q := 5) rfl rfl mk_95 rfl (by rw [hI_2]; exact mk_p95_0) rfl ?_
  exact ar_vret rfl rfl h
theorem r_Row_hasRoomFor_told_0 {d : Nat} {R : am_R} {I : Nat → Nat → Int32} {L : Nat → Nat → Int64} {x : Int32} (h : ((x ≤ (6 - (I 97 0)) → (R (some (.int 1)) (am_mk I L, 0, 0))) ∧ (¬ x ≤ (6 - (I 97 0)) → (R (some (.int 0)) (am_mk I L, 0, 0))))) : am_Run am_X0 (am_meth d) 86 R 0 [some (.ref 97), some (.int x)] [] (am_mk I L, 0, 0) := by
  refine ar_iload_n (j := 1) (q := 1) rfl rfl rfl rfl ?_
  refine ar_aload_n (j := 0) (q := 2) rfl rfl rfl rfl ?_
  refine ar_getf (v := .ref 98) (q := 5) rfl rfl mk_97 rfl rfl ?_
  refine ar_st (i := .arraylength) (n := 1) (st' := [.int 6, .int x]) (q := 6) rfl rfl rfl rfl ?_
  refine ar_aload_n (j := 0) (q := 7) rfl rfl rfl rfl ?_
  refine ar_getf (v := .int (I 97 0)) (q := 10) rfl rfl mk_97 rfl rfl ?_
  refine ar_ib (i := .isub) (z := 6 - (I 97 0)) (q := 11) rfl rfl rfl rfl rfl ?_
  obtain ⟨hA, hB⟩ := h
  refine ar_br am_d_gt (t := 18) (q := 14) rfl rfl rfl (fun c_1 => ?_) (fun c_1 => ?_)
  · have h := hB c_1
    clear hA hB
    refine ar_iconst (v := 0) (q := 19) rfl rfl rfl ?_
    exact ar_zret rfl rfl (Or.inl rfl) h
  · have c_1 := Classical.not_not.mp c_1
    have h := hA c_1
    clear hA hB
    refine ar_iconst (v := 1) (q := 15) rfl rfl rfl ?_
    refine ar_goto (t := 19) rfl rfl ?_
    exact ar_zret rfl rfl (Or.inr rfl) h
theorem r_Row_add_told_0 {d : Nat} {R : am_R} {I : Nat → Nat → Int32} {L : Nat → Nat → Int64} {x : Int32} (h : (((I 97 0) < 6 → (∀ I_2 : Nat → Nat → Int32, I_2 = va_up I 97 (upd (I 97) 0 ((I 97 0) + 1)) → (∃ j_4 : Nat, j_4 < 6 ∧ I 97 0 = nI j_4 ∧ (∀ I_7 : Nat → Nat → Int32, I_7 = va_up I_2 98 (upd (I_2 98) j_4 x) → (R none (am_mk I_7 L, 0, 0)))))) ∧ (¬ (I 97 0) < 6 → (R none (am_mk I L, 0, 0))))) : am_Run am_X0 (am_meth d) 87 R 0 [some (.ref 97), some (.int x)] [] (am_mk I L, 0, 0) := by
  refine ar_aload_n (j := 0) (q := 1) rfl rfl rfl rfl ?_
  refine ar_getf (v := .int (I 97 0)) (q := 4) rfl rfl mk_97 rfl rfl ?_
  refine ar_aload_n (j := 0) (q := 5) rfl rfl rfl rfl ?_
  refine ar_getf (v := .ref 98) (q := 8) rfl rfl mk_97 rfl rfl ?_
  refine ar_st (i := .arraylength) (n := 1) (st' := [.int 6, .int (I 97 0)]) (q := 9) rfl rfl rfl rfl ?_
  obtain ⟨hA, hB⟩ := h
  refine ar_br am_d_ge (t := 29) (q := 12) rfl rfl rfl (fun c_1 => ?_) (fun c_1 => ?_)
  · have h := hB c_1
    clear hA hB
    exact ar_vret rfl rfl h
  · have c_1 := Classical.not_not.mp c_1
    have h := hA c_1
    clear hA hB
    refine ar_aload_n (j := 0) (q := 13) rfl rfl rfl rfl ?_
    refine ar_getf (v := .ref 98) (q := 16) rfl rfl mk_97 rfl rfl ?_
    refine ar_aload_n (j := 0) (q := 17) rfl rfl rfl rfl ?_
    refine ar_st (i := .dup) (n := 1) (st' := [.ref 97, .ref 97, .ref 98]) (q := 18) rfl rfl rfl rfl ?_
    refine ar_getf (v := .int (I 97 0)) (q := 21) rfl rfl mk_97 rfl rfl ?_
    refine ar_st (i := .dup_x1) (n := 1) (st' := [.int (I 97 0), .ref 97, .int (I 97 0), .ref 98]) (q := 22) rfl rfl rfl rfl ?_
    refine ar_iconst (v := 1) (q := 23) rfl rfl rfl ?_
    refine ar_ib (i := .iadd) (z := (I 97 0) + 1) (q := 24) rfl rfl rfl rfl rfl ?_
    obtain ⟨I_2, hI_3⟩ : ∃ z : Nat → Nat → Int32, z = va_up I 97 (upd (I 97) 0 ((I 97 0) + 1)) := ⟨_, rfl⟩
    have h := h I_2 hI_3
    refine ar_putf (hp2 := am_mk I_2 L) (q := 27) rfl rfl mk_97 rfl (by rw [hI_3]; exact mk_p97_0) rfl ?_
    refine ar_iload_n (j := 1) (q := 28) rfl rfl rfl rfl ?_
    obtain ⟨j_4, hx_5, hi_6, h⟩ := h
    obtain ⟨I_7, hI_8⟩ : ∃ z : Nat → Nat → Int32, z = va_up I_2 98 (upd (I_2 98) j_4 x) := ⟨_, rfl⟩
    have h := h I_7 hI_8
    refine ar_iast (hp2 := am_mk I_7 L) (q := 29) rfl mk_98 (am_inE hi_6 hx_5 (by decide)) (by rw [am_clT hi_6 hx_5 (by decide), hI_8]; exact mk_s98) rfl ?_
    exact ar_vret rfl rfl h
theorem r_Row_at_told_0 {d : Nat} {R : am_R} {I : Nat → Nat → Int32} {L : Nat → Nat → Int64} {x : Int32} (h : ((x < 0 → (R (some (.int (-1 : Int32))) (am_mk I L, 0, 0))) ∧ (¬ x < 0 → (((x < (I 97 0) → (∃ j_3 : Nat, j_3 < 6 ∧ x = nI j_3 ∧ (R (some (.int (I 98 j_3))) (am_mk I L, 0, 0)))) ∧ (¬ x < (I 97 0) → (R (some (.int (-1 : Int32))) (am_mk I L, 0, 0)))))))) : am_Run am_X0 (am_meth d) 88 R 0 [some (.ref 97), some (.int x)] [] (am_mk I L, 0, 0) := by
  refine ar_iload_n (j := 1) (q := 1) rfl rfl rfl rfl ?_
  obtain ⟨hA, hB⟩ := h
  refine ar_b0 am_c_lt (t := 21) (q := 4) rfl rfl rfl (fun c_1 => ?_) (fun c_1 => ?_)
  · have h := hA c_1
    clear hA hB
    refine ar_iconst (v := (-1 : Int32)) (q := 22) rfl rfl rfl ?_
    exact ar_iret rfl rfl h
  · have h := hB c_1
    clear hA hB
    refine ar_iload_n (j := 1) (q := 5) rfl rfl rfl rfl ?_
    refine ar_aload_n (j := 0) (q := 6) rfl rfl rfl rfl ?_
    refine ar_getf (v := .int (I 97 0)) (q := 9) rfl rfl mk_97 rfl rfl ?_
    obtain ⟨hA, hB⟩ := h
    refine ar_br am_d_ge (t := 21) (q := 12) rfl rfl rfl (fun c_2 => ?_) (fun c_2 => ?_)
    · have h := hB c_2
      clear hA hB
      refine ar_iconst (v := (-1 : Int32)) (q := 22) rfl rfl rfl ?_
      exact ar_iret rfl rfl h
    · have c_2 := Classical.not_not.mp c_2
      have h := hA c_2
      clear hA hB
      refine ar_aload_n (j := 0) (q := 13) rfl rfl rfl rfl ?_
      refine ar_getf (v := .ref 98) (q := 16) rfl rfl mk_97 rfl rfl ?_
      refine ar_iload_n (j := 1) (q := 17) rfl rfl rfl rfl ?_
      obtain ⟨j_3, hx_4, hi_5, h⟩ := h
      refine ar_iald (v := I 98 j_3) (q := 18) rfl mk_98 (am_inE hi_5 hx_4 (by decide)) (am_clE hi_5 hx_4 (by decide)) rfl ?_
      refine ar_goto (t := 22) rfl rfl ?_
      exact ar_iret rfl rfl h
theorem r_Row_clear_told_0 {d : Nat} {R : am_R} {I : Nat → Nat → Int32} {L : Nat → Nat → Int64}  (h : ∀ I_1 : Nat → Nat → Int32, I_1 = va_up I 97 (upd (I 97) 0 0) → (R none (am_mk I_1 L, 0, 0))) : am_Run am_X0 (am_meth d) 89 R 0 [some (.ref 97)] [] (am_mk I L, 0, 0) := by
  refine ar_aload_n (j := 0) (q := 1) rfl rfl rfl rfl ?_
  refine ar_iconst (v := 0) (q := 2) rfl rfl rfl ?_
  obtain ⟨I_1, hI_2⟩ : ∃ z : Nat → Nat → Int32, z = va_up I 97 (upd (I 97) 0 0) := ⟨_, rfl⟩
  have h := h I_1 hI_2
  refine ar_putf (hp2 := am_mk I_1 L) (q := 5) rfl rfl mk_97 rfl (by rw [hI_2]; exact mk_p97_0) rfl ?_
  exact ar_vret rfl rfl h
theorem r_H_refuse_0 {d : Nat} {R : am_R} {I : Nat → Nat → Int32} {L : Nat → Nat → Int64} {x : Int32} (h : (((-x) < 0 → (R (some (.int x)) (am_mk I L, 0, 0))) ∧ (¬ (-x) < 0 → ((((-x) < 7 → (∃ j_3 : Nat, j_3 < 7 ∧ -x = nI j_3 ∧ (∀ I_6 : Nat → Nat → Int32, I_6 = va_up I 1 (upd (I 1) j_3 ((I 1 j_3) + 1)) → (R (some (.int x)) (am_mk I_6 L, 0, 0))))) ∧ (¬ (-x) < 7 → (R (some (.int x)) (am_mk I L, 0, 0)))))))) : am_Run am_X0 (am_meth d) 2 R 0 [some (.ref 0), some (.int x), none] [] (am_mk I L, 0, 0) := by
  refine ar_iload_n (j := 1) (q := 1) rfl rfl rfl rfl ?_
  refine ar_st (i := .ineg) (n := 1) (st' := [.int (-x)]) (q := 2) rfl rfl rfl rfl ?_
  refine ar_istore_n (j := 2) (ls' := [some (.ref 0), some (.int x), some (.int (-x))]) (q := 3) rfl rfl rfl rfl rfl ?_
  refine ar_iload_n (j := 2) (q := 4) rfl rfl rfl rfl ?_
  obtain ⟨hA, hB⟩ := h
  refine ar_b0 am_c_lt (t := 26) (q := 7) rfl rfl rfl (fun c_1 => ?_) (fun c_1 => ?_)
  · have h := hA c_1
    clear hA hB
    refine ar_iload_n (j := 1) (q := 27) rfl rfl rfl rfl ?_
    exact ar_iret rfl rfl h
  · have h := hB c_1
    clear hA hB
    refine ar_iload_n (j := 2) (q := 8) rfl rfl rfl rfl ?_
    refine ar_aload_n (j := 0) (q := 9) rfl rfl rfl rfl ?_
    refine ar_getf (v := .ref 1) (q := 12) rfl rfl mk_0 rfl rfl ?_
    refine ar_st (i := .arraylength) (n := 1) (st' := [.int 7, .int (-x)]) (q := 13) rfl rfl rfl rfl ?_
    obtain ⟨hA, hB⟩ := h
    refine ar_br am_d_ge (t := 26) (q := 16) rfl rfl rfl (fun c_2 => ?_) (fun c_2 => ?_)
    · have h := hB c_2
      clear hA hB
      refine ar_iload_n (j := 1) (q := 27) rfl rfl rfl rfl ?_
      exact ar_iret rfl rfl h
    · have c_2 := Classical.not_not.mp c_2
      have h := hA c_2
      clear hA hB
      refine ar_aload_n (j := 0) (q := 17) rfl rfl rfl rfl ?_
      refine ar_getf (v := .ref 1) (q := 20) rfl rfl mk_0 rfl rfl ?_
      refine ar_iload_n (j := 2) (q := 21) rfl rfl rfl rfl ?_
      refine ar_st (i := .dup2) (n := 1) (st' := [.int (-x), .ref 1, .int (-x), .ref 1]) (q := 22) rfl rfl rfl rfl ?_
      obtain ⟨j_3, hx_4, hi_5, h⟩ := h
      refine ar_iald (v := I 1 j_3) (q := 23) rfl mk_1 (am_inE hi_5 hx_4 (by decide)) (am_clE hi_5 hx_4 (by decide)) rfl ?_
      refine ar_iconst (v := 1) (q := 24) rfl rfl rfl ?_
      refine ar_ib (i := .iadd) (z := (I 1 j_3) + 1) (q := 25) rfl rfl rfl rfl rfl ?_
      obtain ⟨I_6, hI_7⟩ : ∃ z : Nat → Nat → Int32, z = va_up I 1 (upd (I 1) j_3 ((I 1 j_3) + 1)) := ⟨_, rfl⟩
      have h := h I_6 hI_7
      refine ar_iast (hp2 := am_mk I_6 L) (q := 26) rfl mk_1 (am_inE hi_5 hx_4 (by decide)) (by rw [am_clT hi_5 hx_4 (by decide), hI_7]; exact mk_s1) rfl ?_
      refine ar_iload_n (j := 1) (q := 27) rfl rfl rfl rfl ?_
      exact ar_iret rfl rfl h
theorem r_H_refuseBeyond_0 {d : Nat} {R : am_R} {I : Nat → Nat → Int32} {L : Nat → Nat → Int64} {x : Int32} (h : am_meth d 2 [.ref 0, .int x] (am_mk I L, 0, 0) (am_ri (fun z_1 I_2 L_3 => R (some (.int (1000000000 - z_1))) (am_mk I_2 L_3, 0, 0)))) : am_Run am_X0 (am_meth d) 18 R 0 [some (.ref 0), some (.int x)] [] (am_mk I L, 0, 0) := by
  refine ar_ldcw (v := 1000000000) (q := 3) rfl rfl rfl ?_
  refine ar_aload_n (j := 0) (q := 4) rfl rfl rfl rfl ?_
  refine ar_iload_n (j := 1) (q := 5) rfl rfl rfl rfl ?_
  refine ar_invv (as := [.int x]) (rest := [.int 1000000000]) (b2 := (0, 0)) (b3 := (0, 0)) (q := 8) rfl rfl rfl rfl mk_0 rfl rfl rfl rfl rfl ?_
  refine am_meth_mono d _ _ _ _ _ (fun v9 m9 h9 => ?_) h
  obtain ⟨z_1, I_2, L_3, rfl, rfl, h⟩ := h9
  show am_Run am_X0 (am_meth d) 18 R 8 [some (.ref 0), some (.int x)] [.int z_1, .int 1000000000] (am_mk I_2 L_3, 0, 0)
  refine ar_ib (i := .isub) (z := 1000000000 - z_1) (q := 9) rfl rfl rfl rfl rfl ?_
  exact ar_iret rfl rfl h
theorem r_H_boundRefusal_0 {d : Nat} {R : am_R} {I : Nat → Nat → Int32} {L : Nat → Nat → Int64} {x : Int32} {lo : Int32} {hi : Int32} (h : ((x < lo → (R (some (.int (-4 : Int32))) (am_mk I L, 0, 0))) ∧ (¬ x < lo → (((x ≤ hi → (R (some (.int 0)) (am_mk I L, 0, 0))) ∧ (¬ x ≤ hi → (R (some (.int (-6 : Int32))) (am_mk I L, 0, 0)))))))) : am_Run am_X0 (am_meth d) 5 R 0 [some (.int x), some (.int lo), some (.int hi)] [] (am_mk I L, 0, 0) := by
  refine ar_iload_n (j := 0) (q := 1) rfl rfl rfl rfl ?_
  refine ar_iload_n (j := 1) (q := 2) rfl rfl rfl rfl ?_
  obtain ⟨hA, hB⟩ := h
  refine ar_br am_d_ge (t := 8) (q := 5) rfl rfl rfl (fun c_1 => ?_) (fun c_1 => ?_)
  · have h := hB c_1
    clear hA hB
    refine ar_iload_n (j := 0) (q := 9) rfl rfl rfl rfl ?_
    refine ar_iload_n (j := 2) (q := 10) rfl rfl rfl rfl ?_
    obtain ⟨hA, hB⟩ := h
    refine ar_br am_c_le (t := 18) (q := 13) rfl rfl rfl (fun c_2 => ?_) (fun c_2 => ?_)
    · have h := hA c_2
      clear hA hB
      refine ar_iconst (v := 0) (q := 19) rfl rfl rfl ?_
      exact ar_iret rfl rfl h
    · have h := hB c_2
      clear hA hB
      refine ar_bipush (v := (-6 : Int32)) (q := 15) rfl rfl rfl ?_
      refine ar_goto (t := 19) rfl rfl ?_
      exact ar_iret rfl rfl h
  · have c_1 := Classical.not_not.mp c_1
    have h := hA c_1
    clear hA hB
    refine ar_bipush (v := (-4 : Int32)) (q := 7) rfl rfl rfl ?_
    exact ar_iret rfl rfl h
theorem r_M_no_0 {d : Nat} {R : am_R} {I : Nat → Nat → Int32} {L : Nat → Nat → Int64} {x : Int32} (h : ∃ j_1 : Nat, j_1 < 7 ∧ -x = nI j_1 ∧ (∀ I_4 : Nat → Nat → Int32, I_4 = va_up I 156 (upd (I 156) j_1 ((I 156 j_1) + 1)) → (R (some (.int x)) (am_mk I_4 L, 0, 0)))) : am_Run am_X0 (am_meth d) 151 R 0 [some (.ref 113), some (.int x)] [] (am_mk I L, 0, 0) := by
  refine ar_aload_n (j := 0) (q := 1) rfl rfl rfl rfl ?_
  refine ar_getf (v := .ref 156) (q := 4) rfl rfl mk_113 rfl rfl ?_
  refine ar_iload_n (j := 1) (q := 5) rfl rfl rfl rfl ?_
  refine ar_st (i := .ineg) (n := 1) (st' := [.int (-x), .ref 156]) (q := 6) rfl rfl rfl rfl ?_
  refine ar_st (i := .dup2) (n := 1) (st' := [.int (-x), .ref 156, .int (-x), .ref 156]) (q := 7) rfl rfl rfl rfl ?_
  obtain ⟨j_1, hx_2, hi_3, h⟩ := h
  refine ar_iald (v := I 156 j_1) (q := 8) rfl mk_156 (am_inE hi_3 hx_2 (by decide)) (am_clE hi_3 hx_2 (by decide)) rfl ?_
  refine ar_iconst (v := 1) (q := 9) rfl rfl rfl ?_
  refine ar_ib (i := .iadd) (z := (I 156 j_1) + 1) (q := 10) rfl rfl rfl rfl rfl ?_
  obtain ⟨I_4, hI_5⟩ : ∃ z : Nat → Nat → Int32, z = va_up I 156 (upd (I 156) j_1 ((I 156 j_1) + 1)) := ⟨_, rfl⟩
  have h := h I_4 hI_5
  refine ar_iast (hp2 := am_mk I_4 L) (q := 11) rfl mk_156 (am_inE hi_3 hx_2 (by decide)) (by rw [am_clT hi_3 hx_2 (by decide), hI_5]; exact mk_s156) rfl ?_
  refine ar_iload_n (j := 1) (q := 12) rfl rfl rfl rfl ?_
  exact ar_iret rfl rfl h
theorem r_M_far_0 {d : Nat} {R : am_R} {I : Nat → Nat → Int32} {L : Nat → Nat → Int64} {x : Int32} (h : am_meth d 151 [.ref 113, .int x] (am_mk I L, 0, 0) (am_ri (fun z_1 I_2 L_3 => R (some (.int (1000000000 - z_1))) (am_mk I_2 L_3, 0, 0)))) : am_Run am_X0 (am_meth d) 199 R 0 [some (.ref 113), some (.int x)] [] (am_mk I L, 0, 0) := by
  refine ar_ldc (v := 1000000000) (q := 2) rfl rfl rfl ?_
  refine ar_aload_n (j := 0) (q := 3) rfl rfl rfl rfl ?_
  refine ar_iload_n (j := 1) (q := 4) rfl rfl rfl rfl ?_
  refine ar_invv (as := [.int x]) (rest := [.int 1000000000]) (b2 := (0, 0)) (b3 := (0, 0)) (q := 7) rfl rfl rfl rfl mk_113 rfl rfl rfl rfl rfl ?_
  refine am_meth_mono d _ _ _ _ _ (fun v9 m9 h9 => ?_) h
  obtain ⟨z_1, I_2, L_3, rfl, rfl, h⟩ := h9
  show am_Run am_X0 (am_meth d) 199 R 7 [some (.ref 113), some (.int x)] [.int z_1, .int 1000000000] (am_mk I_2 L_3, 0, 0)
  refine ar_ib (i := .isub) (z := 1000000000 - z_1) (q := 8) rfl rfl rfl rfl rfl ?_
  exact ar_iret rfl rfl h
theorem r_M_isKeeper_0 {d : Nat} {R : am_R} {I : Nat → Nat → Int32} {L : Nat → Nat → Int64} {x : Int32} (h : ((x < 0 → (R (some (.int 0)) (am_mk I L, 0, 0))) ∧ (¬ x < 0 → (((x < (I 113 4) → (R (some (.int 1)) (am_mk I L, 0, 0))) ∧ (¬ x < (I 113 4) → (R (some (.int 0)) (am_mk I L, 0, 0)))))))) : am_Run am_X0 (am_meth d) 164 R 0 [some (.ref 113), some (.int x)] [] (am_mk I L, 0, 0) := by
  refine ar_iload_n (j := 1) (q := 1) rfl rfl rfl rfl ?_
  obtain ⟨hA, hB⟩ := h
  refine ar_b0 am_c_lt (t := 16) (q := 4) rfl rfl rfl (fun c_1 => ?_) (fun c_1 => ?_)
  · have h := hA c_1
    clear hA hB
    refine ar_iconst (v := 0) (q := 17) rfl rfl rfl ?_
    exact ar_zret rfl rfl (Or.inl rfl) h
  · have h := hB c_1
    clear hA hB
    refine ar_iload_n (j := 1) (q := 5) rfl rfl rfl rfl ?_
    refine ar_aload_n (j := 0) (q := 6) rfl rfl rfl rfl ?_
    refine ar_getf (v := .int (I 113 4)) (q := 9) rfl rfl mk_113 rfl rfl ?_
    obtain ⟨hA, hB⟩ := h
    refine ar_br am_d_ge (t := 16) (q := 12) rfl rfl rfl (fun c_2 => ?_) (fun c_2 => ?_)
    · have h := hB c_2
      clear hA hB
      refine ar_iconst (v := 0) (q := 17) rfl rfl rfl ?_
      exact ar_zret rfl rfl (Or.inl rfl) h
    · have c_2 := Classical.not_not.mp c_2
      have h := hA c_2
      clear hA hB
      refine ar_iconst (v := 1) (q := 13) rfl rfl rfl ?_
      refine ar_goto (t := 17) rfl rfl ?_
      exact ar_zret rfl rfl (Or.inr rfl) h
theorem r_M_isHouse_0 {d : Nat} {R : am_R} {I : Nat → Nat → Int32} {L : Nat → Nat → Int64} {x : Int32} (h : ((x < 0 → (R (some (.int 0)) (am_mk I L, 0, 0))) ∧ (¬ x < 0 → (((x < (I 113 10) → (R (some (.int 1)) (am_mk I L, 0, 0))) ∧ (¬ x < (I 113 10) → (R (some (.int 0)) (am_mk I L, 0, 0)))))))) : am_Run am_X0 (am_meth d) 159 R 0 [some (.ref 113), some (.int x)] [] (am_mk I L, 0, 0) := by
  refine ar_iload_n (j := 1) (q := 1) rfl rfl rfl rfl ?_
  obtain ⟨hA, hB⟩ := h
  refine ar_b0 am_c_lt (t := 16) (q := 4) rfl rfl rfl (fun c_1 => ?_) (fun c_1 => ?_)
  · have h := hA c_1
    clear hA hB
    refine ar_iconst (v := 0) (q := 17) rfl rfl rfl ?_
    exact ar_zret rfl rfl (Or.inl rfl) h
  · have h := hB c_1
    clear hA hB
    refine ar_iload_n (j := 1) (q := 5) rfl rfl rfl rfl ?_
    refine ar_aload_n (j := 0) (q := 6) rfl rfl rfl rfl ?_
    refine ar_getf (v := .int (I 113 10)) (q := 9) rfl rfl mk_113 rfl rfl ?_
    obtain ⟨hA, hB⟩ := h
    refine ar_br am_d_ge (t := 16) (q := 12) rfl rfl rfl (fun c_2 => ?_) (fun c_2 => ?_)
    · have h := hB c_2
      clear hA hB
      refine ar_iconst (v := 0) (q := 17) rfl rfl rfl ?_
      exact ar_zret rfl rfl (Or.inl rfl) h
    · have c_2 := Classical.not_not.mp c_2
      have h := hA c_2
      clear hA hB
      refine ar_iconst (v := 1) (q := 13) rfl rfl rfl ?_
      refine ar_goto (t := 17) rfl rfl ?_
      exact ar_zret rfl rfl (Or.inr rfl) h
theorem r_M_isStay_0 {d : Nat} {R : am_R} {I : Nat → Nat → Int32} {L : Nat → Nat → Int64} {x : Int32} (h : ((x < 0 → (R (some (.int 0)) (am_mk I L, 0, 0))) ∧ (¬ x < 0 → (((x < (I 113 14) → (R (some (.int 1)) (am_mk I L, 0, 0))) ∧ (¬ x < (I 113 14) → (R (some (.int 0)) (am_mk I L, 0, 0)))))))) : am_Run am_X0 (am_meth d) 161 R 0 [some (.ref 113), some (.int x)] [] (am_mk I L, 0, 0) := by
  refine ar_iload_n (j := 1) (q := 1) rfl rfl rfl rfl ?_
  obtain ⟨hA, hB⟩ := h
  refine ar_b0 am_c_lt (t := 16) (q := 4) rfl rfl rfl (fun c_1 => ?_) (fun c_1 => ?_)
  · have h := hA c_1
    clear hA hB
    refine ar_iconst (v := 0) (q := 17) rfl rfl rfl ?_
    exact ar_zret rfl rfl (Or.inl rfl) h
  · have h := hB c_1
    clear hA hB
    refine ar_iload_n (j := 1) (q := 5) rfl rfl rfl rfl ?_
    refine ar_aload_n (j := 0) (q := 6) rfl rfl rfl rfl ?_
    refine ar_getf (v := .int (I 113 14)) (q := 9) rfl rfl mk_113 rfl rfl ?_
    obtain ⟨hA, hB⟩ := h
    refine ar_br am_d_ge (t := 16) (q := 12) rfl rfl rfl (fun c_2 => ?_) (fun c_2 => ?_)
    · have h := hB c_2
      clear hA hB
      refine ar_iconst (v := 0) (q := 17) rfl rfl rfl ?_
      exact ar_zret rfl rfl (Or.inl rfl) h
    · have c_2 := Classical.not_not.mp c_2
      have h := hA c_2
      clear hA hB
      refine ar_iconst (v := 1) (q := 13) rfl rfl rfl ?_
      refine ar_goto (t := 17) rfl rfl ?_
      exact ar_zret rfl rfl (Or.inr rfl) h
theorem r_M_isTown_0 {d : Nat} {R : am_R} {I : Nat → Nat → Int32} {L : Nat → Nat → Int64} {x : Int32} (h : ((x < 0 → (R (some (.int 0)) (am_mk I L, 0, 0))) ∧ (¬ x < 0 → (((x < 10 → (R (some (.int 1)) (am_mk I L, 0, 0))) ∧ (¬ x < 10 → (R (some (.int 0)) (am_mk I L, 0, 0)))))))) : am_Run am_X0 (am_meth d) 153 R 0 [some (.ref 113), some (.int x)] [] (am_mk I L, 0, 0) := by
  refine ar_iload_n (j := 1) (q := 1) rfl rfl rfl rfl ?_
  obtain ⟨hA, hB⟩ := h
  refine ar_b0 am_c_lt (t := 14) (q := 4) rfl rfl rfl (fun c_1 => ?_) (fun c_1 => ?_)
  · have h := hA c_1
    clear hA hB
    refine ar_iconst (v := 0) (q := 15) rfl rfl rfl ?_
    exact ar_zret rfl rfl (Or.inl rfl) h
  · have h := hB c_1
    clear hA hB
    refine ar_iload_n (j := 1) (q := 5) rfl rfl rfl rfl ?_
    refine ar_bipush (v := 10) (q := 7) rfl rfl rfl ?_
    obtain ⟨hA, hB⟩ := h
    refine ar_br am_d_ge (t := 14) (q := 10) rfl rfl rfl (fun c_2 => ?_) (fun c_2 => ?_)
    · have h := hB c_2
      clear hA hB
      refine ar_iconst (v := 0) (q := 15) rfl rfl rfl ?_
      exact ar_zret rfl rfl (Or.inl rfl) h
    · have c_2 := Classical.not_not.mp c_2
      have h := hA c_2
      clear hA hB
      refine ar_iconst (v := 1) (q := 11) rfl rfl rfl ?_
      refine ar_goto (t := 15) rfl rfl ?_
      exact ar_zret rfl rfl (Or.inr rfl) h
theorem r_M_townOf_0 {d : Nat} {R : am_R} {I : Nat → Nat → Int32} {L : Nat → Nat → Int64} {s : Nat} (h : s < 60 ∧ (∃ j_2 : Nat, j_2 < 20 ∧ I 125 s = nI j_2 ∧ (R (some (.int (I 122 j_2))) (am_mk I L, 0, 0)))) : am_Run am_X0 (am_meth d) 169 R 0 [some (.ref 113), some (.int (nI s))] [] (am_mk I L, 0, 0) := by
  refine ar_aload_n (j := 0) (q := 1) rfl rfl rfl rfl ?_
  refine ar_getf (v := .ref 122) (q := 4) rfl rfl mk_113 rfl rfl ?_
  refine ar_aload_n (j := 0) (q := 5) rfl rfl rfl rfl ?_
  refine ar_getf (v := .ref 125) (q := 8) rfl rfl mk_113 rfl rfl ?_
  refine ar_iload_n (j := 1) (q := 9) rfl rfl rfl rfl ?_
  obtain ⟨hx_1, h⟩ := h
  refine ar_iald (v := I 125 s) (q := 10) rfl mk_125 (am_inE rfl hx_1 (by decide)) (am_clE rfl hx_1 (by decide)) rfl ?_
  obtain ⟨j_2, hx_3, hi_4, h⟩ := h
  refine ar_iald (v := I 122 j_2) (q := 11) rfl mk_122 (am_inE hi_4 hx_3 (by decide)) (am_clE hi_4 hx_3 (by decide)) rfl ?_
  exact ar_iret rfl rfl h
theorem r_M_isOver_0 {d : Nat} {R : am_R} {I : Nat → Nat → Int32} {L : Nat → Nat → Int64} {s : Nat} (h : s < 60 ∧ ((((I 127 s) < (I 113 0) → (R (some (.int 1)) (am_mk I L, 0, 0))) ∧ (¬ (I 127 s) < (I 113 0) → (R (some (.int 0)) (am_mk I L, 0, 0)))))) : am_Run am_X0 (am_meth d) 162 R 0 [some (.ref 113), some (.int (nI s))] [] (am_mk I L, 0, 0) := by
  refine ar_aload_n (j := 0) (q := 1) rfl rfl rfl rfl ?_
  refine ar_getf (v := .ref 127) (q := 4) rfl rfl mk_113 rfl rfl ?_
  refine ar_iload_n (j := 1) (q := 5) rfl rfl rfl rfl ?_
  obtain ⟨hx_1, h⟩ := h
  refine ar_iald (v := I 127 s) (q := 6) rfl mk_127 (am_inE rfl hx_1 (by decide)) (am_clE rfl hx_1 (by decide)) rfl ?_
  refine ar_aload_n (j := 0) (q := 7) rfl rfl rfl rfl ?_
  refine ar_getf (v := .int (I 113 0)) (q := 10) rfl rfl mk_113 rfl rfl ?_
  obtain ⟨hA, hB⟩ := h
  refine ar_br am_d_ge (t := 17) (q := 13) rfl rfl rfl (fun c_2 => ?_) (fun c_2 => ?_)
  · have h := hB c_2
    clear hA hB
    refine ar_iconst (v := 0) (q := 18) rfl rfl rfl ?_
    exact ar_zret rfl rfl (Or.inl rfl) h
  · have c_2 := Classical.not_not.mp c_2
    have h := hA c_2
    clear hA hB
    refine ar_iconst (v := 1) (q := 14) rfl rfl rfl ?_
    refine ar_goto (t := 18) rfl rfl ?_
    exact ar_zret rfl rfl (Or.inr rfl) h
theorem r_M_has_0 {d : Nat} {R : am_R} {I : Nat → Nat → Int32} {L : Nat → Nat → Int64} {w : Int32} {s : Nat} (h : s < 60 ∧ ((((I 128 s) = 1 → ((((I 129 s) = w → (R (some (.int 1)) (am_mk I L, 0, 0))) ∧ (¬ (I 129 s) = w → (R (some (.int 0)) (am_mk I L, 0, 0)))))) ∧ (¬ (I 128 s) = 1 → (R (some (.int 0)) (am_mk I L, 0, 0)))))) : am_Run am_X0 (am_meth d) 167 R 0 [some (.ref 113), some (.int w), some (.int (nI s))] [] (am_mk I L, 0, 0) := by
  refine ar_aload_n (j := 0) (q := 1) rfl rfl rfl rfl ?_
  refine ar_getf (v := .ref 128) (q := 4) rfl rfl mk_113 rfl rfl ?_
  refine ar_iload_n (j := 2) (q := 5) rfl rfl rfl rfl ?_
  obtain ⟨hx_1, h⟩ := h
  refine ar_iald (v := I 128 s) (q := 6) rfl mk_128 (am_inE rfl hx_1 (by decide)) (am_clE rfl hx_1 (by decide)) rfl ?_
  refine ar_iconst (v := 1) (q := 7) rfl rfl rfl ?_
  obtain ⟨hA, hB⟩ := h
  refine ar_br am_c_ne (t := 24) (q := 10) rfl rfl rfl (fun c_2 => ?_) (fun c_2 => ?_)
  · have h := hB c_2
    clear hA hB
    refine ar_iconst (v := 0) (q := 25) rfl rfl rfl ?_
    exact ar_zret rfl rfl (Or.inl rfl) h
  · have c_2 := Classical.not_not.mp c_2
    have h := hA c_2
    clear hA hB
    refine ar_aload_n (j := 0) (q := 11) rfl rfl rfl rfl ?_
    refine ar_getf (v := .ref 129) (q := 14) rfl rfl mk_113 rfl rfl ?_
    refine ar_iload_n (j := 2) (q := 15) rfl rfl rfl rfl ?_
    refine ar_iald (v := I 129 s) (q := 16) rfl mk_129 (am_inE rfl hx_1 (by decide)) (am_clE rfl hx_1 (by decide)) rfl ?_
    refine ar_iload_n (j := 1) (q := 17) rfl rfl rfl rfl ?_
    obtain ⟨hA, hB⟩ := h
    refine ar_br am_c_ne (t := 24) (q := 20) rfl rfl rfl (fun c_3 => ?_) (fun c_3 => ?_)
    · have h := hB c_3
      clear hA hB
      refine ar_iconst (v := 0) (q := 25) rfl rfl rfl ?_
      exact ar_zret rfl rfl (Or.inl rfl) h
    · have c_3 := Classical.not_not.mp c_3
      have h := hA c_3
      clear hA hB
      refine ar_iconst (v := 1) (q := 21) rfl rfl rfl ?_
      refine ar_goto (t := 25) rfl rfl ?_
      exact ar_zret rfl rfl (Or.inr rfl) h
theorem r_M_isFar_0 {d : Nat} {R : am_R} {I : Nat → Nat → Int32} {L : Nat → Nat → Int64} {a : Nat} {b : Nat} {x : Int32} (h : ∃ j_1 : Nat, j_1 < 100 ∧ (10 * (nI a)) + (nI b) = nI j_1 ∧ (((x < (((I 115 j_1) + 23) / 24) → (R (some (.int 1)) (am_mk I L, 0, 0))) ∧ (¬ x < (((I 115 j_1) + 23) / 24) → (R (some (.int 0)) (am_mk I L, 0, 0)))))) : am_Run am_X0 (am_meth d) 170 R 0 [some (.ref 113), some (.int (nI a)), some (.int (nI b)), some (.int x)] [] (am_mk I L, 0, 0) := by
  refine ar_iload_n (j := 3) (q := 1) rfl rfl rfl rfl ?_
  refine ar_aload_n (j := 0) (q := 2) rfl rfl rfl rfl ?_
  refine ar_getf (v := .ref 115) (q := 5) rfl rfl mk_113 rfl rfl ?_
  refine ar_bipush (v := 10) (q := 7) rfl rfl rfl ?_
  refine ar_iload_n (j := 1) (q := 8) rfl rfl rfl rfl ?_
  refine ar_ib (i := .imul) (z := 10 * (nI a)) (q := 9) rfl rfl rfl rfl rfl ?_
  refine ar_iload_n (j := 2) (q := 10) rfl rfl rfl rfl ?_
  refine ar_ib (i := .iadd) (z := (10 * (nI a)) + (nI b)) (q := 11) rfl rfl rfl rfl rfl ?_
  obtain ⟨j_1, hx_2, hi_3, h⟩ := h
  refine ar_iald (v := I 115 j_1) (q := 12) rfl mk_115 (am_inE hi_3 hx_2 (by decide)) (am_clE hi_3 hx_2 (by decide)) rfl ?_
  refine ar_bipush (v := 23) (q := 14) rfl rfl rfl ?_
  refine ar_ib (i := .iadd) (z := (I 115 j_1) + 23) (q := 15) rfl rfl rfl rfl rfl ?_
  refine ar_bipush (v := 24) (q := 17) rfl rfl rfl ?_
  refine ar_idiv (q := 18) rfl (by decide) rfl ?_
  obtain ⟨hA, hB⟩ := h
  refine ar_br am_d_ge (t := 25) (q := 21) rfl rfl rfl (fun c_4 => ?_) (fun c_4 => ?_)
  · have h := hB c_4
    clear hA hB
    refine ar_iconst (v := 0) (q := 26) rfl rfl rfl ?_
    exact ar_zret rfl rfl (Or.inl rfl) h
  · have c_4 := Classical.not_not.mp c_4
    have h := hA c_4
    clear hA hB
    refine ar_iconst (v := 1) (q := 22) rfl rfl rfl ?_
    refine ar_goto (t := 26) rfl rfl ?_
    exact ar_zret rfl rfl (Or.inr rfl) h
theorem r_M_goneOf_0 {d : Nat} {R : am_R} {I : Nat → Nat → Int32} {L : Nat → Nat → Int64} {s : Nat} (h : ∃ j_1 : Nat, j_1 < 120 ∧ 2 * (nI s) = nI j_1 ∧ ((((I 132 j_1) < 0 → (R (some (.int (-9 : Int32))) (am_mk I L, 0, 0))) ∧ (¬ (I 132 j_1) < 0 → (∃ j_5 : Nat, j_5 < 120 ∧ (2 * (nI s)) + 1 = nI j_5 ∧ ((((I 132 j_5) < 0 → (R (some (.int (-9 : Int32))) (am_mk I L, 0, 0))) ∧ (¬ (I 132 j_5) < 0 → (R (some (.int ((I 132 j_1) &&& ((I 132 j_5) ^^^ (-1 : Int32))))) (am_mk I L, 0, 0)))))))))) : am_Run am_X0 (am_meth d) 237 R 0 [some (.ref 113), some (.int (nI s))] [] (am_mk I L, 0, 0) := by
  refine ar_aload_n (j := 0) (q := 1) rfl rfl rfl rfl ?_
  refine ar_getf (v := .ref 132) (q := 4) rfl rfl mk_113 rfl rfl ?_
  refine ar_iconst (v := 2) (q := 5) rfl rfl rfl ?_
  refine ar_iload_n (j := 1) (q := 6) rfl rfl rfl rfl ?_
  refine ar_ib (i := .imul) (z := 2 * (nI s)) (q := 7) rfl rfl rfl rfl rfl ?_
  obtain ⟨j_1, hx_2, hi_3, h⟩ := h
  refine ar_iald (v := I 132 j_1) (q := 8) rfl mk_132 (am_inE hi_3 hx_2 (by decide)) (am_clE hi_3 hx_2 (by decide)) rfl ?_
  obtain ⟨hA, hB⟩ := h
  refine ar_b0 am_c_lt (t := 24) (q := 11) rfl rfl rfl (fun c_4 => ?_) (fun c_4 => ?_)
  · have h := hA c_4
    clear hA hB
    refine ar_bipush (v := (-9 : Int32)) (q := 26) rfl rfl rfl ?_
    exact ar_iret rfl rfl h
  · have h := hB c_4
    clear hA hB
    refine ar_aload_n (j := 0) (q := 12) rfl rfl rfl rfl ?_
    refine ar_getf (v := .ref 132) (q := 15) rfl rfl mk_113 rfl rfl ?_
    refine ar_iconst (v := 2) (q := 16) rfl rfl rfl ?_
    refine ar_iload_n (j := 1) (q := 17) rfl rfl rfl rfl ?_
    refine ar_ib (i := .imul) (z := 2 * (nI s)) (q := 18) rfl rfl rfl rfl rfl ?_
    refine ar_iconst (v := 1) (q := 19) rfl rfl rfl ?_
    refine ar_ib (i := .iadd) (z := (2 * (nI s)) + 1) (q := 20) rfl rfl rfl rfl rfl ?_
    obtain ⟨j_5, hx_6, hi_7, h⟩ := h
    refine ar_iald (v := I 132 j_5) (q := 21) rfl mk_132 (am_inE hi_7 hx_6 (by decide)) (am_clE hi_7 hx_6 (by decide)) rfl ?_
    obtain ⟨hA, hB⟩ := h
    refine ar_b0 am_d_ge (t := 27) (q := 24) rfl rfl rfl (fun c_8 => ?_) (fun c_8 => ?_)
    · have h := hB c_8
      clear hA hB
      refine ar_aload_n (j := 0) (q := 28) rfl rfl rfl rfl ?_
      refine ar_getf (v := .ref 132) (q := 31) rfl rfl mk_113 rfl rfl ?_
      refine ar_iconst (v := 2) (q := 32) rfl rfl rfl ?_
      refine ar_iload_n (j := 1) (q := 33) rfl rfl rfl rfl ?_
      refine ar_ib (i := .imul) (z := 2 * (nI s)) (q := 34) rfl rfl rfl rfl rfl ?_
      refine ar_iald (v := I 132 j_1) (q := 35) rfl mk_132 (am_inE hi_3 hx_2 (by decide)) (am_clE hi_3 hx_2 (by decide)) rfl ?_
      refine ar_aload_n (j := 0) (q := 36) rfl rfl rfl rfl ?_
      refine ar_getf (v := .ref 132) (q := 39) rfl rfl mk_113 rfl rfl ?_
      refine ar_iconst (v := 2) (q := 40) rfl rfl rfl ?_
      refine ar_iload_n (j := 1) (q := 41) rfl rfl rfl rfl ?_
      refine ar_ib (i := .imul) (z := 2 * (nI s)) (q := 42) rfl rfl rfl rfl rfl ?_
      refine ar_iconst (v := 1) (q := 43) rfl rfl rfl ?_
      refine ar_ib (i := .iadd) (z := (2 * (nI s)) + 1) (q := 44) rfl rfl rfl rfl rfl ?_
      refine ar_iald (v := I 132 j_5) (q := 45) rfl mk_132 (am_inE hi_7 hx_6 (by decide)) (am_clE hi_7 hx_6 (by decide)) rfl ?_
      refine ar_iconst (v := (-1 : Int32)) (q := 46) rfl rfl rfl ?_
      refine ar_ib (i := .ixor) (z := (I 132 j_5) ^^^ (-1 : Int32)) (q := 47) rfl rfl rfl rfl rfl ?_
      refine ar_ib (i := .iand) (z := (I 132 j_1) &&& ((I 132 j_5) ^^^ (-1 : Int32))) (q := 48) rfl rfl rfl rfl rfl ?_
      exact ar_iret rfl rfl h
    · have c_8 := Classical.not_not.mp c_8
      have h := hA c_8
      clear hA hB
      refine ar_bipush (v := (-9 : Int32)) (q := 26) rfl rfl rfl ?_
      exact ar_iret rfl rfl h
end
section
/-! contracts of the leaf helpers -/
def am_rf (I : Nat → Nat → Int32) (j : Nat) : Nat → Nat → Int32 := va_up I 1 (upd (I 1) j (I 1 j + 1))
def am_no (I : Nat → Nat → Int32) (j : Nat) : Nat → Nat → Int32 := va_up I 156 (upd (I 156) j (I 156 j + 1))
/-- an entry as a natural number -/
def am_n (I : Nat → Nat → Int32) (c j : Nat) : Nat := (I c j).toNatClampNeg
def am_ix (I : Nat → Nat → Int32) (c j n : Nat) : Prop := I c j = nI (am_n I c j) ∧ am_n I c j < n
/-- how many of the days a .. b are f .. t's -/
def am_dw (f t a b : Int32) : Int32 := if ((if b < t then b else t) - (if f < a then a else f)) + 1 < 0 then 0 else ((if b < t then b else t) - (if f < a then a else f)) + 1
/-- a number more in a row: its object, its array -/
def am_ad (I : Nat → Nat → Int32) (o r : Nat) (x : Int32) : Nat → Nat → Int32 := va_up (va_up I o (upd (I o) 0 (I o 0 + 1))) r (upd (I r) (am_n I o 0) x)
def am_ka (I : Nat → Nat → Int32) (a b c e : Int32) : Nat → Nat → Int32 := va_up (va_up (va_up (va_up (va_up I 16 (upd (I 16) 0 (I 16 0 + 1))) 17 (upd (I 17) (am_n I 16 0) a)) 18 (upd (I 18) (am_n I 16 0) b)) 19 (upd (I 19) (am_n I 16 0) c)) 20 (upd (I 20) (am_n I 16 0) e)
def am_ha (I : Nat → Nat → Int32) (a b : Int32) : Nat → Nat → Int32 := va_up (va_up (va_up I 42 (upd (I 42) 0 (I 42 0 + 1))) 43 (upd (I 43) (am_n I 42 0) a)) 44 (upd (I 44) (am_n I 42 0) b)
def am_sa (I : Nat → Nat → Int32) (a b c : Int32) : Nat → Nat → Int32 := va_up (va_up (va_up (va_up I 66 (upd (I 66) 1 (I 66 1 + 1))) 67 (upd (I 67) (am_n I 66 1) a)) 68 (upd (I 68) (am_n I 66 1) b)) 69 (upd (I 69) (am_n I 66 1) c)
section OK1
variable {d : Nat} {R : am_R} {I : Nat → Nat → Int32} {L : Nat → Nat → Int64}
theorem ok_To_hasTown (hd : 1 ≤ d) {x : Int32} (h1 : 0 ≤ x ∧ x < 10 → R (some (.int 1)) (am_mk I L, 0, 0)) (h0 : ¬ (0 ≤ x ∧ x < 10) → R (some (.int 0)) (am_mk I L, 0, 0)) : am_meth d 146 [.ref 2, .int x] (am_mk I L, 0, 0) R := by
  obtain ⟨e, rfl⟩ : ∃ e, d = e + 1 := ⟨d - 1, by omega⟩
  refine ar_in rfl rfl rfl (r_Towns_hasTown_0 ⟨fun c => h0 ?_, fun c => ⟨fun c2 => h1 ?_, fun c2 => h0 ?_⟩⟩) <;>
  (simp only [Int32.lt_iff_toInt_lt, Int32.le_iff_toInt_le, Int32.reduceToInt] at *; omega)
theorem ok_To_hasLand (hd : 1 ≤ d) {x : Int32} (h1 : 0 ≤ x ∧ x < 5 → R (some (.int 1)) (am_mk I L, 0, 0)) (h0 : ¬ (0 ≤ x ∧ x < 5) → R (some (.int 0)) (am_mk I L, 0, 0)) : am_meth d 147 [.ref 2, .int x] (am_mk I L, 0, 0) R := by
  obtain ⟨e, rfl⟩ : ∃ e, d = e + 1 := ⟨d - 1, by omega⟩
  refine ar_in rfl rfl rfl (r_Towns_hasLand_0 ⟨fun c => h0 ?_, fun c => ⟨fun c2 => h1 ?_, fun c2 => h0 ?_⟩⟩) <;>
  (simp only [Int32.lt_iff_toInt_lt, Int32.le_iff_toInt_le, Int32.reduceToInt] at *; omega)
theorem ok_Ke_has (hd : 1 ≤ d) {x : Int32} (h1 : 0 ≤ x ∧ x < I 16 0 → R (some (.int 1)) (am_mk I L, 0, 0)) (h0 : ¬ (0 ≤ x ∧ x < I 16 0) → R (some (.int 0)) (am_mk I L, 0, 0)) : am_meth d 54 [.ref 16, .int x] (am_mk I L, 0, 0) R := by
  obtain ⟨e, rfl⟩ : ∃ e, d = e + 1 := ⟨d - 1, by omega⟩
  refine ar_in rfl rfl rfl (r_Keepers_has_0 ⟨fun c => h0 ?_, fun c => ⟨fun c2 => h1 ?_, fun c2 => h0 ?_⟩⟩) <;>
  (simp only [Int32.lt_iff_toInt_lt, Int32.le_iff_toInt_le, Int32.reduceToInt] at *; omega)
theorem ok_Ho_has (hd : 1 ≤ d) {x : Int32} (h1 : 0 ≤ x ∧ x < I 42 0 → R (some (.int 1)) (am_mk I L, 0, 0)) (h0 : ¬ (0 ≤ x ∧ x < I 42 0) → R (some (.int 0)) (am_mk I L, 0, 0)) : am_meth d 50 [.ref 42, .int x] (am_mk I L, 0, 0) R := by
  obtain ⟨e, rfl⟩ : ∃ e, d = e + 1 := ⟨d - 1, by omega⟩
  refine ar_in rfl rfl rfl (r_Houses_has_0 ⟨fun c => h0 ?_, fun c => ⟨fun c2 => h1 ?_, fun c2 => h0 ?_⟩⟩) <;>
  (simp only [Int32.lt_iff_toInt_lt, Int32.le_iff_toInt_le, Int32.reduceToInt] at *; omega)
theorem ok_St_has (hd : 1 ≤ d) {x : Int32} (h1 : 0 ≤ x ∧ x < I 66 1 → R (some (.int 1)) (am_mk I L, 0, 0)) (h0 : ¬ (0 ≤ x ∧ x < I 66 1) → R (some (.int 0)) (am_mk I L, 0, 0)) : am_meth d 118 [.ref 66, .int x] (am_mk I L, 0, 0) R := by
  obtain ⟨e, rfl⟩ : ∃ e, d = e + 1 := ⟨d - 1, by omega⟩
  refine ar_in rfl rfl rfl (r_Stays_has_0 ⟨fun c => h0 ?_, fun c => ⟨fun c2 => h1 ?_, fun c2 => h0 ?_⟩⟩) <;>
  (simp only [Int32.lt_iff_toInt_lt, Int32.le_iff_toInt_le, Int32.reduceToInt] at *; omega)
theorem ok_M_isTown (hd : 1 ≤ d) {x : Int32} (h1 : 0 ≤ x ∧ x < 10 → R (some (.int 1)) (am_mk I L, 0, 0)) (h0 : ¬ (0 ≤ x ∧ x < 10) → R (some (.int 0)) (am_mk I L, 0, 0)) : am_meth d 153 [.ref 113, .int x] (am_mk I L, 0, 0) R := by
  obtain ⟨e, rfl⟩ : ∃ e, d = e + 1 := ⟨d - 1, by omega⟩
  refine ar_in rfl rfl rfl (r_M_isTown_0 ⟨fun c => h0 ?_, fun c => ⟨fun c2 => h1 ?_, fun c2 => h0 ?_⟩⟩) <;>
  (simp only [Int32.lt_iff_toInt_lt, Int32.le_iff_toInt_le, Int32.reduceToInt] at *; omega)
theorem ok_M_isKeeper (hd : 1 ≤ d) {x : Int32} (h1 : 0 ≤ x ∧ x < I 113 4 → R (some (.int 1)) (am_mk I L, 0, 0)) (h0 : ¬ (0 ≤ x ∧ x < I 113 4) → R (some (.int 0)) (am_mk I L, 0, 0)) : am_meth d 164 [.ref 113, .int x] (am_mk I L, 0, 0) R := by
  obtain ⟨e, rfl⟩ : ∃ e, d = e + 1 := ⟨d - 1, by omega⟩
  refine ar_in rfl rfl rfl (r_M_isKeeper_0 ⟨fun c => h0 ?_, fun c => ⟨fun c2 => h1 ?_, fun c2 => h0 ?_⟩⟩) <;>
  (simp only [Int32.lt_iff_toInt_lt, Int32.le_iff_toInt_le, Int32.reduceToInt] at *; omega)
theorem ok_M_isHouse (hd : 1 ≤ d) {x : Int32} (h1 : 0 ≤ x ∧ x < I 113 10 → R (some (.int 1)) (am_mk I L, 0, 0)) (h0 : ¬ (0 ≤ x ∧ x < I 113 10) → R (some (.int 0)) (am_mk I L, 0, 0)) : am_meth d 159 [.ref 113, .int x] (am_mk I L, 0, 0) R := by
  obtain ⟨e, rfl⟩ : ∃ e, d = e + 1 := ⟨d - 1, by omega⟩
  refine ar_in rfl rfl rfl (r_M_isHouse_0 ⟨fun c => h0 ?_, fun c => ⟨fun c2 => h1 ?_, fun c2 => h0 ?_⟩⟩) <;>
  (simp only [Int32.lt_iff_toInt_lt, Int32.le_iff_toInt_le, Int32.reduceToInt] at *; omega)
theorem ok_M_isStay (hd : 1 ≤ d) {x : Int32} (h1 : 0 ≤ x ∧ x < I 113 14 → R (some (.int 1)) (am_mk I L, 0, 0)) (h0 : ¬ (0 ≤ x ∧ x < I 113 14) → R (some (.int 0)) (am_mk I L, 0, 0)) : am_meth d 161 [.ref 113, .int x] (am_mk I L, 0, 0) R := by
  obtain ⟨e, rfl⟩ : ∃ e, d = e + 1 := ⟨d - 1, by omega⟩
  refine ar_in rfl rfl rfl (r_M_isStay_0 ⟨fun c => h0 ?_, fun c => ⟨fun c2 => h1 ?_, fun c2 => h0 ?_⟩⟩) <;>
  (simp only [Int32.lt_iff_toInt_lt, Int32.le_iff_toInt_le, Int32.reduceToInt] at *; omega)
theorem ok_refuse (hd : 1 ≤ d) {x : Int32} {j : Nat} (hx : -x = nI j) (hj : j < 7) (h : R (some (.int x)) (am_mk (am_rf I j) L, 0, 0)) : am_meth d 2 [.ref 0, .int x] (am_mk I L, 0, 0) R := by
  obtain ⟨e, rfl⟩ : ∃ e, d = e + 1 := ⟨d - 1, by omega⟩
  refine ar_in rfl rfl rfl (r_H_refuse_0 ⟨fun c => ?_, fun c => ⟨fun c2 => ⟨j, hj, hx, ?_⟩, fun c2 => ?_⟩⟩)
  · rw [hx] at c; exact absurd c (nI_pos (by omega))
  · rintro _ rfl
    exact h
  · rw [hx] at c2; exact absurd (nI_lt (a := j) (b := 7) hj (by decide)) c2
theorem ok_no (hd : 1 ≤ d) {x : Int32} {j : Nat} (hx : -x = nI j) (hj : j < 7) (h : R (some (.int x)) (am_mk (am_no I j) L, 0, 0)) : am_meth d 151 [.ref 113, .int x] (am_mk I L, 0, 0) R := by
  obtain ⟨e, rfl⟩ : ∃ e, d = e + 1 := ⟨d - 1, by omega⟩
  refine ar_in rfl rfl rfl (r_M_no_0 ⟨j, hj, hx, ?_⟩)
  rintro _ rfl
  exact h
theorem ok_refuseBeyond (hd : 2 ≤ d) {x : Int32} {j : Nat} (hx : -x = nI j) (hj : j < 7) (h : R (some (.int (1000000000 - x))) (am_mk (am_rf I j) L, 0, 0)) : am_meth d 18 [.ref 0, .int x] (am_mk I L, 0, 0) R := by
  obtain ⟨e, rfl⟩ : ∃ e, d = e + 1 := ⟨d - 1, by omega⟩
  exact ar_in rfl rfl rfl (r_H_refuseBeyond_0 (ok_refuse (by omega) hx hj ⟨_, _, _, rfl, rfl, h⟩))
theorem ok_far (hd : 2 ≤ d) {x : Int32} {j : Nat} (hx : -x = nI j) (hj : j < 7) (h : R (some (.int (1000000000 - x))) (am_mk (am_no I j) L, 0, 0)) : am_meth d 199 [.ref 113, .int x] (am_mk I L, 0, 0) R := by
  obtain ⟨e, rfl⟩ : ∃ e, d = e + 1 := ⟨d - 1, by omega⟩
  exact ar_in rfl rfl rfl (r_M_far_0 (ok_no (by omega) hx hj ⟨_, _, _, rfl, rfl, h⟩))
theorem ok_bound (hd : 1 ≤ d) {x lo hi : Int32} (h1 : x < lo → R (some (.int (-4))) (am_mk I L, 0, 0)) (h2 : (¬ x < lo ∧ hi < x) → R (some (.int (-6))) (am_mk I L, 0, 0)) (h3 : (¬ x < lo ∧ ¬ hi < x) → R (some (.int 0)) (am_mk I L, 0, 0)) : am_meth d 5 [.int x, .int lo, .int hi] (am_mk I L, 0, 0) R := by
  obtain ⟨e, rfl⟩ : ∃ e, d = e + 1 := ⟨d - 1, by omega⟩
  refine ar_in rfl rfl rfl (r_H_boundRefusal_0 ⟨fun c => h1 c, fun c => ⟨fun c2 => h3 ⟨?_, ?_⟩, fun c2 => h2 ⟨?_, ?_⟩⟩⟩) <;>
  (simp only [Int32.lt_iff_toInt_lt, Int32.le_iff_toInt_le, Int32.reduceToInt] at *; omega)
theorem ok_St_isOver (hd : 1 ≤ d) {x : Int32} {s : Nat} (hx : x = nI s) (hs : s < 60) (h1 : I 69 s < I 66 0 → R (some (.int 1)) (am_mk I L, 0, 0)) (h0 : ¬ (I 69 s < I 66 0) → R (some (.int 0)) (am_mk I L, 0, 0)) : am_meth d 119 [.ref 66, .int x] (am_mk I L, 0, 0) R := by
  obtain ⟨e, rfl⟩ : ∃ e, d = e + 1 := ⟨d - 1, by omega⟩
  subst hx
  exact ar_in rfl rfl rfl (r_Stays_isOver_0 ⟨hs, fun c => h1 c, fun c => h0 c⟩)
theorem ok_St_isTakenBy (hd : 1 ≤ d) {x w : Int32} {s : Nat} (hx : x = nI s) (hs : s < 60) (h1 : I 70 s = 1 ∧ I 71 s = w → R (some (.int 1)) (am_mk I L, 0, 0)) (h0 : ¬ (I 70 s = 1 ∧ I 71 s = w) → R (some (.int 0)) (am_mk I L, 0, 0)) : am_meth d 120 [.ref 66, .int x, .int w] (am_mk I L, 0, 0) R := by
  obtain ⟨e, rfl⟩ : ∃ e, d = e + 1 := ⟨d - 1, by omega⟩
  subst hx
  exact ar_in rfl rfl rfl (r_Stays_isTakenBy_0 ⟨hs, fun c => ⟨fun c2 => h1 ⟨c, c2⟩, fun c2 => h0 (fun q => c2 q.2)⟩, fun c => h0 (fun q => c q.1)⟩)
theorem ok_St_hasBothLists (hd : 1 ≤ d) {x : Int32} {s : Nat} (hx : x = nI s) (hs : s < 60) (h1 : ¬ I 72 s = -1 ∧ ¬ I 73 s = -1 → R (some (.int 1)) (am_mk I L, 0, 0)) (h0 : ¬ (¬ I 72 s = -1 ∧ ¬ I 73 s = -1) → R (some (.int 0)) (am_mk I L, 0, 0)) : am_meth d 122 [.ref 66, .int x] (am_mk I L, 0, 0) R := by
  obtain ⟨e, rfl⟩ : ∃ e, d = e + 1 := ⟨d - 1, by omega⟩
  subst hx
  exact ar_in rfl rfl rfl (r_Stays_hasBothLists_0 ⟨hs, fun c => h0 (fun q => q.1 c), fun c => ⟨fun c2 => h0 (fun q => q.2 c2), fun c2 => h1 ⟨c, c2⟩⟩⟩)
theorem ok_St_lengthOf (hd : 1 ≤ d) {x : Int32} {s : Nat} (hx : x = nI s) (hs : s < 60) (h : R (some (.int (I 69 s - I 68 s + 1))) (am_mk I L, 0, 0)) : am_meth d 121 [.ref 66, .int x] (am_mk I L, 0, 0) R := by
  obtain ⟨e, rfl⟩ : ∃ e, d = e + 1 := ⟨d - 1, by omega⟩
  subst hx
  exact ar_in rfl rfl rfl (r_Stays_lengthOf_0 ⟨hs, h⟩)
theorem ok_St_itemsGone (hd : 1 ≤ d) {x : Int32} {s : Nat} (hx : x = nI s) (hs : s < 60) (h : R (some (.int (I 72 s &&& (I 73 s ^^^ -1)))) (am_mk I L, 0, 0)) : am_meth d 123 [.ref 66, .int x] (am_mk I L, 0, 0) R := by
  obtain ⟨e, rfl⟩ : ∃ e, d = e + 1 := ⟨d - 1, by omega⟩
  subst hx
  exact ar_in rfl rfl rfl (r_Stays_itemsGone_0 ⟨hs, h⟩)
theorem ok_St_daysWithin (hd : 2 ≤ d) {x a b : Int32} {s : Nat} (hx : x = nI s) (hs : s < 60) (h : R (some (.int (am_dw (I 68 s) (I 69 s) a b))) (am_mk I L, 0, 0)) : am_meth d 116 [.ref 66, .int x, .int a, .int b] (am_mk I L, 0, 0) R := by
  obtain ⟨e, rfl⟩ : ∃ e, d = e + 1 := ⟨d - 1, by omega⟩
  subst hx
  exact ar_in rfl rfl rfl (r_Stays_daysWithin_0 (by omega) ⟨hs, h⟩)
theorem ok_To_daysBetween (hd : 1 ≤ d) {x y : Int32} {a b : Nat} (hx : x = nI a) (hy : y = nI b) (ha : a < 10) (hb : b < 10) (h : R (some (.int ((I (6 + a) b + 23) / 24))) (am_mk I L, 0, 0)) : am_meth d 148 [.ref 2, .int x, .int y] (am_mk I L, 0, 0) R := by
  obtain ⟨e, rfl⟩ : ∃ e, d = e + 1 := ⟨d - 1, by omega⟩
  subst hx; subst hy
  exact ar_in rfl rfl rfl (r_Towns_daysBetween_0 ⟨ha, hb, h⟩)
theorem ok_Ro_hasRoomFor_tape (hd : 1 ≤ d) {x : Int32} (h1 : x ≤ 60 - I 91 0 → R (some (.int 1)) (am_mk I L, 0, 0)) (h0 : ¬ (x ≤ 60 - I 91 0) → R (some (.int 0)) (am_mk I L, 0, 0)) : am_meth d 86 [.ref 91, .int x] (am_mk I L, 0, 0) R := by
  obtain ⟨e, rfl⟩ : ∃ e, d = e + 1 := ⟨d - 1, by omega⟩
  exact ar_in rfl rfl rfl (r_Row_hasRoomFor_tape_0 ⟨fun c => h1 c, fun c => h0 c⟩)
theorem ok_Ro_add_tape (hd : 1 ≤ d) {x : Int32} (hp : am_ix I 91 0 60) (h : R none (am_mk (am_ad I 91 92 x) L, 0, 0)) : am_meth d 87 [.ref 91, .int x] (am_mk I L, 0, 0) R := by
  obtain ⟨e, rfl⟩ : ∃ e, d = e + 1 := ⟨d - 1, by omega⟩
  refine ar_in rfl rfl rfl (r_Row_add_tape_0 ⟨fun c => ?_, fun c => ?_⟩)
  · rintro _ rfl
    refine ⟨_, hp.2, hp.1, ?_⟩
    rintro _ rfl
    exact h
  · rw [hp.1] at c; exact absurd (nI_lt (a := am_n I 91 0) (b := 60) hp.2 (by decide)) c
theorem ok_Ro_clear_tape (hd : 1 ≤ d) (h : R none (am_mk (va_up I 91 (upd (I 91) 0 0)) L, 0, 0)) : am_meth d 89 [.ref 91] (am_mk I L, 0, 0) R := by
  obtain ⟨e, rfl⟩ : ∃ e, d = e + 1 := ⟨d - 1, by omega⟩
  refine ar_in rfl rfl rfl (r_Row_clear_tape_0 ?_)
  rintro _ rfl
  exact h
theorem ok_Ro_at_tape (hd : 1 ≤ d) {x : Int32} {j : Nat} (hx : x = nI j) (hj : j < 60) (hz : nI j < I 91 0) (h : R (some (.int (I 92 j))) (am_mk I L, 0, 0)) : am_meth d 88 [.ref 91, .int x] (am_mk I L, 0, 0) R := by
  obtain ⟨e, rfl⟩ : ∃ e, d = e + 1 := ⟨d - 1, by omega⟩
  subst hx
  refine ar_in rfl rfl rfl (r_Row_at_tape_0 ⟨fun c => absurd c (nI_pos (by omega)), fun c => ⟨fun c2 => ⟨j, hj, rfl, h⟩, fun c2 => absurd hz c2⟩⟩)
theorem ok_Ro_hasRoomFor_row (hd : 1 ≤ d) {x : Int32} (h1 : x ≤ 12 - I 95 0 → R (some (.int 1)) (am_mk I L, 0, 0)) (h0 : ¬ (x ≤ 12 - I 95 0) → R (some (.int 0)) (am_mk I L, 0, 0)) : am_meth d 86 [.ref 95, .int x] (am_mk I L, 0, 0) R := by
  obtain ⟨e, rfl⟩ : ∃ e, d = e + 1 := ⟨d - 1, by omega⟩
  exact ar_in rfl rfl rfl (r_Row_hasRoomFor_row_0 ⟨fun c => h1 c, fun c => h0 c⟩)
theorem ok_Ro_add_row (hd : 1 ≤ d) {x : Int32} (hp : am_ix I 95 0 12) (h : R none (am_mk (am_ad I 95 96 x) L, 0, 0)) : am_meth d 87 [.ref 95, .int x] (am_mk I L, 0, 0) R := by
  obtain ⟨e, rfl⟩ : ∃ e, d = e + 1 := ⟨d - 1, by omega⟩
  refine ar_in rfl rfl rfl (r_Row_add_row_0 ⟨fun c => ?_, fun c => ?_⟩)
  · rintro _ rfl
    refine ⟨_, hp.2, hp.1, ?_⟩
    rintro _ rfl
    exact h
  · rw [hp.1] at c; exact absurd (nI_lt (a := am_n I 95 0) (b := 12) hp.2 (by decide)) c
theorem ok_Ro_clear_row (hd : 1 ≤ d) (h : R none (am_mk (va_up I 95 (upd (I 95) 0 0)) L, 0, 0)) : am_meth d 89 [.ref 95] (am_mk I L, 0, 0) R := by
  obtain ⟨e, rfl⟩ : ∃ e, d = e + 1 := ⟨d - 1, by omega⟩
  refine ar_in rfl rfl rfl (r_Row_clear_row_0 ?_)
  rintro _ rfl
  exact h
theorem ok_Ro_at_row (hd : 1 ≤ d) {x : Int32} {j : Nat} (hx : x = nI j) (hj : j < 12) (hz : nI j < I 95 0) (h : R (some (.int (I 96 j))) (am_mk I L, 0, 0)) : am_meth d 88 [.ref 95, .int x] (am_mk I L, 0, 0) R := by
  obtain ⟨e, rfl⟩ : ∃ e, d = e + 1 := ⟨d - 1, by omega⟩
  subst hx
  refine ar_in rfl rfl rfl (r_Row_at_row_0 ⟨fun c => absurd c (nI_pos (by omega)), fun c => ⟨fun c2 => ⟨j, hj, rfl, h⟩, fun c2 => absurd hz c2⟩⟩)
theorem ok_Ro_hasRoomFor_told (hd : 1 ≤ d) {x : Int32} (h1 : x ≤ 6 - I 97 0 → R (some (.int 1)) (am_mk I L, 0, 0)) (h0 : ¬ (x ≤ 6 - I 97 0) → R (some (.int 0)) (am_mk I L, 0, 0)) : am_meth d 86 [.ref 97, .int x] (am_mk I L, 0, 0) R := by
  obtain ⟨e, rfl⟩ : ∃ e, d = e + 1 := ⟨d - 1, by omega⟩
  exact ar_in rfl rfl rfl (r_Row_hasRoomFor_told_0 ⟨fun c => h1 c, fun c => h0 c⟩)
theorem ok_Ro_add_told (hd : 1 ≤ d) {x : Int32} (hp : am_ix I 97 0 6) (h : R none (am_mk (am_ad I 97 98 x) L, 0, 0)) : am_meth d 87 [.ref 97, .int x] (am_mk I L, 0, 0) R := by
  obtain ⟨e, rfl⟩ : ∃ e, d = e + 1 := ⟨d - 1, by omega⟩
  refine ar_in rfl rfl rfl (r_Row_add_told_0 ⟨fun c => ?_, fun c => ?_⟩)
  · rintro _ rfl
    refine ⟨_, hp.2, hp.1, ?_⟩
    rintro _ rfl
    exact h
  · rw [hp.1] at c; exact absurd (nI_lt (a := am_n I 97 0) (b := 6) hp.2 (by decide)) c
theorem ok_Ro_clear_told (hd : 1 ≤ d) (h : R none (am_mk (va_up I 97 (upd (I 97) 0 0)) L, 0, 0)) : am_meth d 89 [.ref 97] (am_mk I L, 0, 0) R := by
  obtain ⟨e, rfl⟩ : ∃ e, d = e + 1 := ⟨d - 1, by omega⟩
  refine ar_in rfl rfl rfl (r_Row_clear_told_0 ?_)
  rintro _ rfl
  exact h
theorem ok_Ro_at_told (hd : 1 ≤ d) {x : Int32} {j : Nat} (hx : x = nI j) (hj : j < 6) (hz : nI j < I 97 0) (h : R (some (.int (I 98 j))) (am_mk I L, 0, 0)) : am_meth d 88 [.ref 97, .int x] (am_mk I L, 0, 0) R := by
  obtain ⟨e, rfl⟩ : ∃ e, d = e + 1 := ⟨d - 1, by omega⟩
  subst hx
  refine ar_in rfl rfl rfl (r_Row_at_told_0 ⟨fun c => absurd c (nI_pos (by omega)), fun c => ⟨fun c2 => ⟨j, hj, rfl, h⟩, fun c2 => absurd hz c2⟩⟩)
theorem ok_M_isOver (hd : 1 ≤ d) {x : Int32} {s : Nat} (hx : x = nI s) (hs : s < 60) (h1 : I 127 s < I 113 0 → R (some (.int 1)) (am_mk I L, 0, 0)) (h0 : ¬ (I 127 s < I 113 0) → R (some (.int 0)) (am_mk I L, 0, 0)) : am_meth d 162 [.ref 113, .int x] (am_mk I L, 0, 0) R := by
  obtain ⟨e, rfl⟩ : ∃ e, d = e + 1 := ⟨d - 1, by omega⟩
  subst hx
  exact ar_in rfl rfl rfl (r_M_isOver_0 ⟨hs, fun c => h1 c, fun c => h0 c⟩)
theorem ok_M_has (hd : 1 ≤ d) {x w : Int32} {s : Nat} (hx : x = nI s) (hs : s < 60) (h1 : I 128 s = 1 ∧ I 129 s = w → R (some (.int 1)) (am_mk I L, 0, 0)) (h0 : ¬ (I 128 s = 1 ∧ I 129 s = w) → R (some (.int 0)) (am_mk I L, 0, 0)) : am_meth d 167 [.ref 113, .int w, .int x] (am_mk I L, 0, 0) R := by
  obtain ⟨e, rfl⟩ : ∃ e, d = e + 1 := ⟨d - 1, by omega⟩
  subst hx
  exact ar_in rfl rfl rfl (r_M_has_0 ⟨hs, fun c => ⟨fun c2 => h1 ⟨c, c2⟩, fun c2 => h0 (fun q => c2 q.2)⟩, fun c => h0 (fun q => c q.1)⟩)
theorem am_10 {a b : Nat} : 10 * nI a + nI b = nI (10 * a + b) := by rw [show (10 : Int32) = nI 10 from rfl, pk_mul, nI_add]
theorem am_2s {a : Nat} : 2 * nI a = nI (2 * a) := by rw [show (2 : Int32) = nI 2 from rfl, pk_mul]
theorem am_2s1 {a : Nat} : 2 * nI a + 1 = nI (2 * a + 1) := by rw [am_2s, nI_1]
theorem ok_M_isFar (hd : 1 ≤ d) {x y z : Int32} {a b : Nat} (hx : x = nI a) (hy : y = nI b) (ha : a < 10) (hb : b < 10) (h1 : z < (I 115 (10 * a + b) + 23) / 24 → R (some (.int 1)) (am_mk I L, 0, 0)) (h0 : ¬ (z < (I 115 (10 * a + b) + 23) / 24) → R (some (.int 0)) (am_mk I L, 0, 0)) : am_meth d 170 [.ref 113, .int x, .int y, .int z] (am_mk I L, 0, 0) R := by
  obtain ⟨e, rfl⟩ : ∃ e, d = e + 1 := ⟨d - 1, by omega⟩
  subst hx; subst hy
  exact ar_in rfl rfl rfl (r_M_isFar_0 ⟨10 * a + b, by omega, am_10, fun c => h1 c, fun c => h0 c⟩)
theorem ok_M_townOf (hd : 1 ≤ d) {x : Int32} {s : Nat} (hx : x = nI s) (hs : s < 60) (hp : am_ix I 125 s 20) (h : R (some (.int (I 122 (am_n I 125 s)))) (am_mk I L, 0, 0)) : am_meth d 169 [.ref 113, .int x] (am_mk I L, 0, 0) R := by
  obtain ⟨e, rfl⟩ : ∃ e, d = e + 1 := ⟨d - 1, by omega⟩
  subst hx
  exact ar_in rfl rfl rfl (r_M_townOf_0 ⟨hs, _, hp.2, hp.1, h⟩)
theorem ok_M_goneOf (hd : 1 ≤ d) {x : Int32} {s : Nat} (hx : x = nI s) (hs : s < 60) (h1 : (I 132 (2 * s) < 0 ∨ I 132 (2 * s + 1) < 0) → R (some (.int (-9))) (am_mk I L, 0, 0)) (h2 : ¬ (I 132 (2 * s) < 0 ∨ I 132 (2 * s + 1) < 0) → R (some (.int (I 132 (2 * s) &&& (I 132 (2 * s + 1) ^^^ -1)))) (am_mk I L, 0, 0)) : am_meth d 237 [.ref 113, .int x] (am_mk I L, 0, 0) R := by
  obtain ⟨e, rfl⟩ : ∃ e, d = e + 1 := ⟨d - 1, by omega⟩
  subst hx
  refine ar_in rfl rfl rfl (r_M_goneOf_0 ⟨2 * s, by omega, am_2s, fun c => h1 (Or.inl c), fun c => ⟨2 * s + 1, by omega, am_2s1, fun c2 => h1 (Or.inr c2), fun c2 => h2 (fun q => ?_)⟩⟩)
  rcases q with q | q
  · exact c q
  · exact c2 q
theorem ok_Ke_add (hd : 1 ≤ d) {a b c e : Int32} (hp : am_ix I 16 0 20) (h : R (some (.int (I 16 0))) (am_mk (am_ka I a b c e) L, 0, 0)) : am_meth d 53 [.ref 16, .int a, .int b, .int c, .int e] (am_mk I L, 0, 0) R := by
  obtain ⟨e, rfl⟩ : ∃ e, d = e + 1 := ⟨d - 1, by omega⟩
  refine ar_in rfl rfl rfl (r_Keepers_add_0 ?_)
  rintro _ rfl
  refine ⟨_, hp.2, hp.1, ?_⟩
  rintro _ rfl _ rfl _ rfl _ rfl
  exact h
theorem ok_Ho_add (hd : 1 ≤ d) {a b : Int32} (hp : am_ix I 42 0 20) (h : R (some (.int (I 42 0))) (am_mk (am_ha I a b) L, 0, 0)) : am_meth d 49 [.ref 42, .int a, .int b] (am_mk I L, 0, 0) R := by
  obtain ⟨e, rfl⟩ : ∃ e, d = e + 1 := ⟨d - 1, by omega⟩
  refine ar_in rfl rfl rfl (r_Houses_add_0 ?_)
  rintro _ rfl
  refine ⟨_, hp.2, hp.1, ?_⟩
  rintro _ rfl _ rfl
  exact h
theorem ok_St_add (hd : 1 ≤ d) {a b c : Int32} (hp : am_ix I 66 1 60) (h : R (some (.int (I 66 1))) (am_mk (am_sa I a b c) L, 0, 0)) : am_meth d 117 [.ref 66, .int a, .int b, .int c] (am_mk I L, 0, 0) R := by
  obtain ⟨e, rfl⟩ : ∃ e, d = e + 1 := ⟨d - 1, by omega⟩
  refine ar_in rfl rfl rfl (r_Stays_add_0 ?_)
  rintro _ rfl
  refine ⟨_, hp.2, hp.1, ?_⟩
  rintro _ rfl _ rfl _ rfl
  exact h
end OK1
end
section
theorem r_H_days_0 {d : Nat} (hd : 1 ≤ d) {R : am_R} {I : Nat → Nat → Int32} {L : Nat → Nat → Int64} {n : Int32} (h : ((n < 1 → (R (some (.int (-4 : Int32))) (am_mk (am_rf I 4) L, 0, 0))) ∧ (¬ n < 1 → (((n ≤ (1500 - (I 66 0)) → (∀ I_3 : Nat → Nat → Int32, I_3 = va_up I 66 (upd (I 66) 0 ((I 66 0) + n)) → (R (some (.int (I_3 66 0))) (am_mk I_3 L, 0, 0)))) ∧ (¬ n ≤ (1500 - (I 66 0)) → (R (some (.int (-6 : Int32))) (am_mk (am_rf I 6) L, 0, 0)))))))) : am_Run am_X0 (am_meth d) 1 R 0 [some (.ref 0), some (.int n)] [] (am_mk I L, 0, 0) := by
  refine ar_iload_n (j := 1) (q := 1) rfl rfl rfl rfl ?_
  refine ar_iconst (v := 1) (q := 2) rfl rfl rfl ?_
  obtain ⟨hA, hB⟩ := h
  refine ar_br am_d_ge (t := 12) (q := 5) rfl rfl rfl (fun c_1 => ?_) (fun c_1 => ?_)
  · have h := hB c_1
    clear hA hB
    refine ar_iload_n (j := 1) (q := 13) rfl rfl rfl rfl ?_
    refine ar_sipush (v := 1500) (q := 16) rfl rfl rfl ?_
    refine ar_aload_n (j := 0) (q := 17) rfl rfl rfl rfl ?_
    refine ar_getf (v := .ref 66) (q := 20) rfl rfl mk_0 rfl rfl ?_
    refine ar_getf (v := .int (I 66 0)) (q := 23) rfl rfl mk_66 rfl rfl ?_
    refine ar_ib (i := .isub) (z := 1500 - (I 66 0)) (q := 24) rfl rfl rfl rfl rfl ?_
    obtain ⟨hA, hB⟩ := h
    refine ar_br am_c_le (t := 34) (q := 27) rfl rfl rfl (fun c_2 => ?_) (fun c_2 => ?_)
    · have h := hA c_2
      clear hA hB
      refine ar_aload_n (j := 0) (q := 35) rfl rfl rfl rfl ?_
      refine ar_getf (v := .ref 66) (q := 38) rfl rfl mk_0 rfl rfl ?_
      refine ar_st (i := .dup) (n := 1) (st' := [.ref 66, .ref 66]) (q := 39) rfl rfl rfl rfl ?_
      refine ar_getf (v := .int (I 66 0)) (q := 42) rfl rfl mk_66 rfl rfl ?_
      refine ar_iload_n (j := 1) (q := 43) rfl rfl rfl rfl ?_
      refine ar_ib (i := .iadd) (z := (I 66 0) + n) (q := 44) rfl rfl rfl rfl rfl ?_
      obtain ⟨I_3, hI_4⟩ : ∃ z : Nat → Nat → Int32, z = va_up I 66 (upd (I 66) 0 ((I 66 0) + n)) := ⟨_, rfl⟩
      have h := h I_3 hI_4
      refine ar_putf (hp2 := am_mk I_3 L) (q := 47) rfl rfl mk_66 rfl (by rw [hI_4]; exact mk_p66_0) rfl ?_
      refine ar_aload_n (j := 0) (q := 48) rfl rfl rfl rfl ?_
      refine ar_getf (v := .ref 66) (q := 51) rfl rfl mk_0 rfl rfl ?_
      refine ar_getf (v := .int (I_3 66 0)) (q := 54) rfl rfl mk_66 rfl rfl ?_
      exact ar_iret rfl rfl h
    · have h := hB c_2
      clear hA hB
      refine ar_aload_n (j := 0) (q := 28) rfl rfl rfl rfl ?_
      refine ar_bipush (v := (-6 : Int32)) (q := 30) rfl rfl rfl ?_
      refine ar_invv (as := [.int (-6 : Int32)]) (rest := []) (b2 := (0, 0)) (b3 := (0, 0)) (q := 33) rfl rfl rfl rfl mk_0 rfl rfl rfl rfl rfl ?_
      refine ok_refuse (j := 6) (by omega) (by decide) (by decide) ?_
      show am_Run am_X0 (am_meth d) 1 R 33 [some (.ref 0), some (.int n)] [.int (-6 : Int32)] (am_mk (am_rf I 6) L, 0, 0)
      exact ar_iret rfl rfl h
  · have c_1 := Classical.not_not.mp c_1
    have h := hA c_1
    clear hA hB
    refine ar_aload_n (j := 0) (q := 6) rfl rfl rfl rfl ?_
    refine ar_bipush (v := (-4 : Int32)) (q := 8) rfl rfl rfl ?_
    refine ar_invv (as := [.int (-4 : Int32)]) (rest := []) (b2 := (0, 0)) (b3 := (0, 0)) (q := 11) rfl rfl rfl rfl mk_0 rfl rfl rfl rfl rfl ?_
    refine ok_refuse (j := 4) (by omega) (by decide) (by decide) ?_
    show am_Run am_X0 (am_meth d) 1 R 11 [some (.ref 0), some (.int n)] [.int (-4 : Int32)] (am_mk (am_rf I 4) L, 0, 0)
    exact ar_iret rfl rfl h
theorem r_H_town_0 {d : Nat} (hd : 1 ≤ d) {R : am_R} {I : Nat → Nat → Int32} {L : Nat → Nat → Int64} {t : Int32} {l : Int32} (h : ((0 ≤ t ∧ t < 10 → (((0 ≤ l ∧ l < 5 → (∃ j_3 : Nat, j_3 < 10 ∧ t = nI j_3 ∧ (∀ I_6 : Nat → Nat → Int32, I_6 = va_up I 3 (upd (I 3) j_3 l) → (R (some (.int (I 3 j_3))) (am_mk I_6 L, 0, 0))))) ∧ (¬ (0 ≤ l ∧ l < 5) → (R (some (.int (-1 : Int32))) (am_mk (am_rf I 1) L, 0, 0)))))) ∧ (¬ (0 ≤ t ∧ t < 10) → (R (some (.int (-1 : Int32))) (am_mk (am_rf I 1) L, 0, 0))))) : am_Run am_X0 (am_meth d) 3 R 0 [some (.ref 0), some (.int t), some (.int l), none] [] (am_mk I L, 0, 0) := by
  refine ar_aload_n (j := 0) (q := 1) rfl rfl rfl rfl ?_
  refine ar_getf (v := .ref 2) (q := 4) rfl rfl mk_0 rfl rfl ?_
  refine ar_iload_n (j := 1) (q := 5) rfl rfl rfl rfl ?_
  refine ar_invv (as := [.int t]) (rest := []) (b2 := (0, 0)) (b3 := (0, 0)) (q := 8) rfl rfl rfl rfl mk_2 rfl rfl rfl rfl rfl ?_
  obtain ⟨hA, hB⟩ := h
  refine ok_To_hasTown (by omega)  (fun c_1 => ?_) (fun c_1 => ?_)
  · have h := hA c_1
    clear hA hB
    show am_Run am_X0 (am_meth d) 3 R 8 [some (.ref 0), some (.int t), some (.int l), none] [.int 1] (am_mk I L, 0, 0)
    refine ar_b0 am_c_eq (t := 22) (q := 11) rfl rfl rfl (fun c9 => absurd c9 (by decide)) (fun _ => ?_)
    refine ar_aload_n (j := 0) (q := 12) rfl rfl rfl rfl ?_
    refine ar_getf (v := .ref 2) (q := 15) rfl rfl mk_0 rfl rfl ?_
    refine ar_iload_n (j := 2) (q := 16) rfl rfl rfl rfl ?_
    refine ar_invv (as := [.int l]) (rest := []) (b2 := (0, 0)) (b3 := (0, 0)) (q := 19) rfl rfl rfl rfl mk_2 rfl rfl rfl rfl rfl ?_
    obtain ⟨hA, hB⟩ := h
    refine ok_To_hasLand (by omega)  (fun c_2 => ?_) (fun c_2 => ?_)
    · have h := hA c_2
      clear hA hB
      show am_Run am_X0 (am_meth d) 3 R 19 [some (.ref 0), some (.int t), some (.int l), none] [.int 1] (am_mk I L, 0, 0)
      refine ar_b0 am_c_ne (t := 28) (q := 22) rfl rfl rfl (fun _ => ?_) (fun c9 => absurd (by decide) c9)
      refine ar_aload_n (j := 0) (q := 29) rfl rfl rfl rfl ?_
      refine ar_getf (v := .ref 2) (q := 32) rfl rfl mk_0 rfl rfl ?_
      refine ar_getf (v := .ref 3) (q := 35) rfl rfl mk_2 rfl rfl ?_
      refine ar_iload_n (j := 1) (q := 36) rfl rfl rfl rfl ?_
      obtain ⟨j_3, hx_4, hi_5, h⟩ := h
      refine ar_iald (v := I 3 j_3) (q := 37) rfl mk_3 (am_inE hi_5 hx_4 (by decide)) (am_clE hi_5 hx_4 (by decide)) rfl ?_
      refine ar_istore_n (j := 3) (ls' := [some (.ref 0), some (.int t), some (.int l), some (.int (I 3 j_3))]) (q := 38) rfl rfl rfl rfl rfl ?_
      refine ar_aload_n (j := 0) (q := 39) rfl rfl rfl rfl ?_
      refine ar_getf (v := .ref 2) (q := 42) rfl rfl mk_0 rfl rfl ?_
      refine ar_getf (v := .ref 3) (q := 45) rfl rfl mk_2 rfl rfl ?_
      refine ar_iload_n (j := 1) (q := 46) rfl rfl rfl rfl ?_
      refine ar_iload_n (j := 2) (q := 47) rfl rfl rfl rfl ?_
      obtain ⟨I_6, hI_7⟩ : ∃ z : Nat → Nat → Int32, z = va_up I 3 (upd (I 3) j_3 l) := ⟨_, rfl⟩
      have h := h I_6 hI_7
      refine ar_iast (hp2 := am_mk I_6 L) (q := 48) rfl mk_3 (am_inE hi_5 hx_4 (by decide)) (by rw [am_clT hi_5 hx_4 (by decide), hI_7]; exact mk_s3) rfl ?_
      refine ar_iload_n (j := 3) (q := 49) rfl rfl rfl rfl ?_
      exact ar_iret rfl rfl h
    · have h := hB c_2
      clear hA hB
      show am_Run am_X0 (am_meth d) 3 R 19 [some (.ref 0), some (.int t), some (.int l), none] [.int 0] (am_mk I L, 0, 0)
      refine ar_b0 am_c_ne (t := 28) (q := 22) rfl rfl rfl (fun c9 => absurd (by decide) c9) (fun _ => ?_)
      refine ar_aload_n (j := 0) (q := 23) rfl rfl rfl rfl ?_
      refine ar_iconst (v := (-1 : Int32)) (q := 24) rfl rfl rfl ?_
      refine ar_invv (as := [.int (-1 : Int32)]) (rest := []) (b2 := (0, 0)) (b3 := (0, 0)) (q := 27) rfl rfl rfl rfl mk_0 rfl rfl rfl rfl rfl ?_
      refine ok_refuse (j := 1) (by omega) (by decide) (by decide) ?_
      show am_Run am_X0 (am_meth d) 3 R 27 [some (.ref 0), some (.int t), some (.int l), none] [.int (-1 : Int32)] (am_mk (am_rf I 1) L, 0, 0)
      exact ar_iret rfl rfl h
  · have h := hB c_1
    clear hA hB
    show am_Run am_X0 (am_meth d) 3 R 8 [some (.ref 0), some (.int t), some (.int l), none] [.int 0] (am_mk I L, 0, 0)
    refine ar_b0 am_c_eq (t := 22) (q := 11) rfl rfl rfl (fun _ => ?_) (fun c9 => absurd (by decide) c9)
    refine ar_aload_n (j := 0) (q := 23) rfl rfl rfl rfl ?_
    refine ar_iconst (v := (-1 : Int32)) (q := 24) rfl rfl rfl ?_
    refine ar_invv (as := [.int (-1 : Int32)]) (rest := []) (b2 := (0, 0)) (b3 := (0, 0)) (q := 27) rfl rfl rfl rfl mk_0 rfl rfl rfl rfl rfl ?_
    refine ok_refuse (j := 1) (by omega) (by decide) (by decide) ?_
    show am_Run am_X0 (am_meth d) 3 R 27 [some (.ref 0), some (.int t), some (.int l), none] [.int (-1 : Int32)] (am_mk (am_rf I 1) L, 0, 0)
    exact ar_iret rfl rfl h
theorem r_H_way_0 {d : Nat} (hd : 1 ≤ d) {R : am_R} {I : Nat → Nat → Int32} {L : Nat → Nat → Int64} {a : Int32} {b : Int32} {x : Int32} (h : ((0 ≤ a ∧ a < 10 → (((0 ≤ b ∧ b < 10 → (((a = b → (R (some (.int (-1 : Int32))) (am_mk (am_rf I 1) L, 0, 0))) ∧ (¬ a = b → (((x < 1 → (R (some (.int (-4 : Int32))) (am_mk (am_rf I 4) L, 0, 0))) ∧ ((¬ x < 1 ∧ 240 < x) → (R (some (.int (-6 : Int32))) (am_mk (am_rf I 6) L, 0, 0))) ∧ ((¬ x < 1 ∧ ¬ 240 < x) → (∃ j_5 : Nat, j_5 < 10 ∧ a = nI j_5 ∧ (∃ j_8 : Nat, j_8 < 10 ∧ b = nI j_8 ∧ (∀ I_11 : Nat → Nat → Int32, I_11 = va_up I (6 + j_5) (upd (I (6 + j_5)) j_8 x) → (∀ I_13 : Nat → Nat → Int32, I_13 = va_up I_11 (6 + j_8) (upd (I_11 (6 + j_8)) j_5 x) → (R (some (.int (I (6 + j_5) j_8))) (am_mk I_13 L, 0, 0))))))))))))) ∧ (¬ (0 ≤ b ∧ b < 10) → (R (some (.int (-1 : Int32))) (am_mk (am_rf I 1) L, 0, 0)))))) ∧ (¬ (0 ≤ a ∧ a < 10) → (R (some (.int (-1 : Int32))) (am_mk (am_rf I 1) L, 0, 0))))) : am_Run am_X0 (am_meth d) 4 R 0 [some (.ref 0), some (.int a), some (.int b), some (.int x), none, none] [] (am_mk I L, 0, 0) := by
  refine ar_aload_n (j := 0) (q := 1) rfl rfl rfl rfl ?_
  refine ar_getf (v := .ref 2) (q := 4) rfl rfl mk_0 rfl rfl ?_
  refine ar_iload_n (j := 1) (q := 5) rfl rfl rfl rfl ?_
  refine ar_invv (as := [.int a]) (rest := []) (b2 := (0, 0)) (b3 := (0, 0)) (q := 8) rfl rfl rfl rfl mk_2 rfl rfl rfl rfl rfl ?_
  obtain ⟨hA, hB⟩ := h
  refine ok_To_hasTown (by omega)  (fun c_1 => ?_) (fun c_1 => ?_)
  · have h := hA c_1
    clear hA hB
    show am_Run am_X0 (am_meth d) 4 R 8 [some (.ref 0), some (.int a), some (.int b), some (.int x), none, none] [.int 1] (am_mk I L, 0, 0)
    refine ar_b0 am_c_eq (t := 27) (q := 11) rfl rfl rfl (fun c9 => absurd c9 (by decide)) (fun _ => ?_)
    refine ar_aload_n (j := 0) (q := 12) rfl rfl rfl rfl ?_
    refine ar_getf (v := .ref 2) (q := 15) rfl rfl mk_0 rfl rfl ?_
    refine ar_iload_n (j := 2) (q := 16) rfl rfl rfl rfl ?_
    refine ar_invv (as := [.int b]) (rest := []) (b2 := (0, 0)) (b3 := (0, 0)) (q := 19) rfl rfl rfl rfl mk_2 rfl rfl rfl rfl rfl ?_
    obtain ⟨hA, hB⟩ := h
    refine ok_To_hasTown (by omega)  (fun c_2 => ?_) (fun c_2 => ?_)
    · have h := hA c_2
      clear hA hB
      show am_Run am_X0 (am_meth d) 4 R 19 [some (.ref 0), some (.int a), some (.int b), some (.int x), none, none] [.int 1] (am_mk I L, 0, 0)
      refine ar_b0 am_c_eq (t := 27) (q := 22) rfl rfl rfl (fun c9 => absurd c9 (by decide)) (fun _ => ?_)
      refine ar_iload_n (j := 1) (q := 23) rfl rfl rfl rfl ?_
      refine ar_iload_n (j := 2) (q := 24) rfl rfl rfl rfl ?_
      obtain ⟨hA, hB⟩ := h
      refine ar_br am_c_ne (t := 33) (q := 27) rfl rfl rfl (fun c_3 => ?_) (fun c_3 => ?_)
      · have h := hB c_3
        clear hA hB
        refine ar_iload_n (j := 3) (q := 34) rfl rfl rfl rfl ?_
        refine ar_iconst (v := 1) (q := 35) rfl rfl rfl ?_
        refine ar_sipush (v := 240) (q := 38) rfl rfl rfl ?_
        refine ar_invs (as := [.int x, .int 1, .int 240]) (rest := []) (b2 := (0, 0)) (b3 := (0, 0)) (q := 41) rfl rfl rfl rfl rfl rfl rfl rfl rfl ?_
        obtain ⟨hC0, hC1, hC2⟩ := h
        refine ok_bound (by omega)  (fun c_4 => ?_) (fun c_4 => ?_) (fun c_4 => ?_)
        · have h := hC0 c_4
          clear hC0 hC1 hC2
          show am_Run am_X0 (am_meth d) 4 R 41 [some (.ref 0), some (.int a), some (.int b), some (.int x), none, none] [.int (-4 : Int32)] (am_mk I L, 0, 0)
          refine ar_istore (ls' := [some (.ref 0), some (.int a), some (.int b), some (.int x), some (.int (-4 : Int32)), none]) (q := 43) rfl rfl rfl rfl ?_
          refine ar_iload (q := 45) rfl rfl rfl ?_
          refine ar_b0 am_c_eq (t := 55) (q := 48) rfl rfl rfl (fun c9 => absurd c9 (by decide)) (fun _ => ?_)
          refine ar_aload_n (j := 0) (q := 49) rfl rfl rfl rfl ?_
          refine ar_iload (q := 51) rfl rfl rfl ?_
          refine ar_invv (as := [.int (-4 : Int32)]) (rest := []) (b2 := (0, 0)) (b3 := (0, 0)) (q := 54) rfl rfl rfl rfl mk_0 rfl rfl rfl rfl rfl ?_
          refine ok_refuse (j := 4) (by omega) (by decide) (by decide) ?_
          show am_Run am_X0 (am_meth d) 4 R 54 [some (.ref 0), some (.int a), some (.int b), some (.int x), some (.int (-4 : Int32)), none] [.int (-4 : Int32)] (am_mk (am_rf I 4) L, 0, 0)
          exact ar_iret rfl rfl h
        · have h := hC1 c_4
          clear hC0 hC1 hC2
          show am_Run am_X0 (am_meth d) 4 R 41 [some (.ref 0), some (.int a), some (.int b), some (.int x), none, none] [.int (-6 : Int32)] (am_mk I L, 0, 0)
          refine ar_istore (ls' := [some (.ref 0), some (.int a), some (.int b), some (.int x), some (.int (-6 : Int32)), none]) (q := 43) rfl rfl rfl rfl ?_
          refine ar_iload (q := 45) rfl rfl rfl ?_
          refine ar_b0 am_c_eq (t := 55) (q := 48) rfl rfl rfl (fun c9 => absurd c9 (by decide)) (fun _ => ?_)
          refine ar_aload_n (j := 0) (q := 49) rfl rfl rfl rfl ?_
          refine ar_iload (q := 51) rfl rfl rfl ?_
          refine ar_invv (as := [.int (-6 : Int32)]) (rest := []) (b2 := (0, 0)) (b3 := (0, 0)) (q := 54) rfl rfl rfl rfl mk_0 rfl rfl rfl rfl rfl ?_
          refine ok_refuse (j := 6) (by omega) (by decide) (by decide) ?_
          show am_Run am_X0 (am_meth d) 4 R 54 [some (.ref 0), some (.int a), some (.int b), some (.int x), some (.int (-6 : Int32)), none] [.int (-6 : Int32)] (am_mk (am_rf I 6) L, 0, 0)
          exact ar_iret rfl rfl h
        · have h := hC2 c_4
          clear hC0 hC1 hC2
          show am_Run am_X0 (am_meth d) 4 R 41 [some (.ref 0), some (.int a), some (.int b), some (.int x), none, none] [.int 0] (am_mk I L, 0, 0)
          refine ar_istore (ls' := [some (.ref 0), some (.int a), some (.int b), some (.int x), some (.int 0), none]) (q := 43) rfl rfl rfl rfl ?_
          refine ar_iload (q := 45) rfl rfl rfl ?_
          refine ar_b0 am_c_eq (t := 55) (q := 48) rfl rfl rfl (fun _ => ?_) (fun c9 => absurd (by decide) c9)
          refine ar_aload_n (j := 0) (q := 56) rfl rfl rfl rfl ?_
          refine ar_getf (v := .ref 2) (q := 59) rfl rfl mk_0 rfl rfl ?_
          refine ar_getf (v := .ref 5) (q := 62) rfl rfl mk_2 rfl rfl ?_
          refine ar_iload_n (j := 1) (q := 63) rfl rfl rfl rfl ?_
          obtain ⟨j_5, hx_6, hi_7, h⟩ := h
          refine ar_aald (c2 := 6 + j_5) (q := 64) rfl mk_5 (am_inE hi_7 hx_6 (by decide)) (congrArg (fun z => some (6 + z)) (am_clT hi_7 hx_6 (by decide))) rfl ?_
          refine ar_iload_n (j := 2) (q := 65) rfl rfl rfl rfl ?_
          obtain ⟨j_8, hx_9, hi_10, h⟩ := h
          refine ar_iald (v := I (6 + j_5) j_8) (q := 66) rfl (mk_g5 hx_6) (am_inE hi_10 hx_9 (by decide)) (am_clE hi_10 hx_9 (by decide)) rfl ?_
          refine ar_istore (ls' := [some (.ref 0), some (.int a), some (.int b), some (.int x), some (.int 0), some (.int (I (6 + j_5) j_8))]) (q := 68) rfl rfl rfl rfl ?_
          refine ar_aload_n (j := 0) (q := 69) rfl rfl rfl rfl ?_
          refine ar_getf (v := .ref 2) (q := 72) rfl rfl mk_0 rfl rfl ?_
          refine ar_getf (v := .ref 5) (q := 75) rfl rfl mk_2 rfl rfl ?_
          refine ar_iload_n (j := 1) (q := 76) rfl rfl rfl rfl ?_
          refine ar_aald (c2 := 6 + j_5) (q := 77) rfl mk_5 (am_inE hi_7 hx_6 (by decide)) (congrArg (fun z => some (6 + z)) (am_clT hi_7 hx_6 (by decide))) rfl ?_
          refine ar_iload_n (j := 2) (q := 78) rfl rfl rfl rfl ?_
          refine ar_iload_n (j := 3) (q := 79) rfl rfl rfl rfl ?_
          obtain ⟨I_11, hI_12⟩ : ∃ z : Nat → Nat → Int32, z = va_up I (6 + j_5) (upd (I (6 + j_5)) j_8 x) := ⟨_, rfl⟩
          have h := h I_11 hI_12
          refine ar_iast (hp2 := am_mk I_11 L) (q := 80) rfl (mk_g5 hx_6) (am_inE hi_10 hx_9 (by decide)) (by rw [am_clT hi_10 hx_9 (by decide), hI_12]; exact (mk_gs5 hx_6)) rfl ?_
          refine ar_aload_n (j := 0) (q := 81) rfl rfl rfl rfl ?_
          refine ar_getf (v := .ref 2) (q := 84) rfl rfl mk_0 rfl rfl ?_
          refine ar_getf (v := .ref 5) (q := 87) rfl rfl mk_2 rfl rfl ?_
          refine ar_iload_n (j := 2) (q := 88) rfl rfl rfl rfl ?_
          refine ar_aald (c2 := 6 + j_8) (q := 89) rfl mk_5 (am_inE hi_10 hx_9 (by decide)) (congrArg (fun z => some (6 + z)) (am_clT hi_10 hx_9 (by decide))) rfl ?_
          refine ar_iload_n (j := 1) (q := 90) rfl rfl rfl rfl ?_
          refine ar_iload_n (j := 3) (q := 91) rfl rfl rfl rfl ?_
          obtain ⟨I_13, hI_14⟩ : ∃ z : Nat → Nat → Int32, z = va_up I_11 (6 + j_8) (upd (I_11 (6 + j_8)) j_5 x) := ⟨_, rfl⟩
          have h := h I_13 hI_14
          refine ar_iast (hp2 := am_mk I_13 L) (q := 92) rfl (mk_g5 hx_9) (am_inE hi_7 hx_6 (by decide)) (by rw [am_clT hi_7 hx_6 (by decide), hI_14]; exact (mk_gs5 hx_9)) rfl ?_
          refine ar_iload (q := 94) rfl rfl rfl ?_
          exact ar_iret rfl rfl h
      · have c_3 := Classical.not_not.mp c_3
        have h := hA c_3
        clear hA hB
        refine ar_aload_n (j := 0) (q := 28) rfl rfl rfl rfl ?_
        refine ar_iconst (v := (-1 : Int32)) (q := 29) rfl rfl rfl ?_
        refine ar_invv (as := [.int (-1 : Int32)]) (rest := []) (b2 := (0, 0)) (b3 := (0, 0)) (q := 32) rfl rfl rfl rfl mk_0 rfl rfl rfl rfl rfl ?_
        refine ok_refuse (j := 1) (by omega) (by decide) (by decide) ?_
        show am_Run am_X0 (am_meth d) 4 R 32 [some (.ref 0), some (.int a), some (.int b), some (.int x), none, none] [.int (-1 : Int32)] (am_mk (am_rf I 1) L, 0, 0)
        exact ar_iret rfl rfl h
    · have h := hB c_2
      clear hA hB
      show am_Run am_X0 (am_meth d) 4 R 19 [some (.ref 0), some (.int a), some (.int b), some (.int x), none, none] [.int 0] (am_mk I L, 0, 0)
      refine ar_b0 am_c_eq (t := 27) (q := 22) rfl rfl rfl (fun _ => ?_) (fun c9 => absurd (by decide) c9)
      refine ar_aload_n (j := 0) (q := 28) rfl rfl rfl rfl ?_
      refine ar_iconst (v := (-1 : Int32)) (q := 29) rfl rfl rfl ?_
      refine ar_invv (as := [.int (-1 : Int32)]) (rest := []) (b2 := (0, 0)) (b3 := (0, 0)) (q := 32) rfl rfl rfl rfl mk_0 rfl rfl rfl rfl rfl ?_
      refine ok_refuse (j := 1) (by omega) (by decide) (by decide) ?_
      show am_Run am_X0 (am_meth d) 4 R 32 [some (.ref 0), some (.int a), some (.int b), some (.int x), none, none] [.int (-1 : Int32)] (am_mk (am_rf I 1) L, 0, 0)
      exact ar_iret rfl rfl h
  · have h := hB c_1
    clear hA hB
    show am_Run am_X0 (am_meth d) 4 R 8 [some (.ref 0), some (.int a), some (.int b), some (.int x), none, none] [.int 0] (am_mk I L, 0, 0)
    refine ar_b0 am_c_eq (t := 27) (q := 11) rfl rfl rfl (fun _ => ?_) (fun c9 => absurd (by decide) c9)
    refine ar_aload_n (j := 0) (q := 28) rfl rfl rfl rfl ?_
    refine ar_iconst (v := (-1 : Int32)) (q := 29) rfl rfl rfl ?_
    refine ar_invv (as := [.int (-1 : Int32)]) (rest := []) (b2 := (0, 0)) (b3 := (0, 0)) (q := 32) rfl rfl rfl rfl mk_0 rfl rfl rfl rfl rfl ?_
    refine ok_refuse (j := 1) (by omega) (by decide) (by decide) ?_
    show am_Run am_X0 (am_meth d) 4 R 32 [some (.ref 0), some (.int a), some (.int b), some (.int x), none, none] [.int (-1 : Int32)] (am_mk (am_rf I 1) L, 0, 0)
    exact ar_iret rfl rfl h
theorem r_H_limit_0 {d : Nat} (hd : 1 ≤ d) {R : am_R} {I : Nat → Nat → Int32} {L : Nat → Nat → Int64} {l : Int32} {x : Int32} (h : ((0 ≤ l ∧ l < 5 → (((x < 0 → (R (some (.int (-4 : Int32))) (am_mk (am_rf I 4) L, 0, 0))) ∧ ((¬ x < 0 ∧ 180 < x) → (R (some (.int (-6 : Int32))) (am_mk (am_rf I 6) L, 0, 0))) ∧ ((¬ x < 0 ∧ ¬ 180 < x) → (∃ j_3 : Nat, j_3 < 5 ∧ l = nI j_3 ∧ (∀ I_6 : Nat → Nat → Int32, I_6 = va_up I 4 (upd (I 4) j_3 x) → (R (some (.int (I 4 j_3))) (am_mk I_6 L, 0, 0)))))))) ∧ (¬ (0 ≤ l ∧ l < 5) → (R (some (.int (-1 : Int32))) (am_mk (am_rf I 1) L, 0, 0))))) : am_Run am_X0 (am_meth d) 6 R 0 [some (.ref 0), some (.int l), some (.int x), none, none] [] (am_mk I L, 0, 0) := by
  refine ar_aload_n (j := 0) (q := 1) rfl rfl rfl rfl ?_
  refine ar_getf (v := .ref 2) (q := 4) rfl rfl mk_0 rfl rfl ?_
  refine ar_iload_n (j := 1) (q := 5) rfl rfl rfl rfl ?_
  refine ar_invv (as := [.int l]) (rest := []) (b2 := (0, 0)) (b3 := (0, 0)) (q := 8) rfl rfl rfl rfl mk_2 rfl rfl rfl rfl rfl ?_
  obtain ⟨hA, hB⟩ := h
  refine ok_To_hasLand (by omega)  (fun c_1 => ?_) (fun c_1 => ?_)
  · have h := hA c_1
    clear hA hB
    show am_Run am_X0 (am_meth d) 6 R 8 [some (.ref 0), some (.int l), some (.int x), none, none] [.int 1] (am_mk I L, 0, 0)
    refine ar_b0 am_c_ne (t := 17) (q := 11) rfl rfl rfl (fun _ => ?_) (fun c9 => absurd (by decide) c9)
    refine ar_iload_n (j := 2) (q := 18) rfl rfl rfl rfl ?_
    refine ar_iconst (v := 0) (q := 19) rfl rfl rfl ?_
    refine ar_sipush (v := 180) (q := 22) rfl rfl rfl ?_
    refine ar_invs (as := [.int x, .int 0, .int 180]) (rest := []) (b2 := (0, 0)) (b3 := (0, 0)) (q := 25) rfl rfl rfl rfl rfl rfl rfl rfl rfl ?_
    obtain ⟨hC0, hC1, hC2⟩ := h
    refine ok_bound (by omega)  (fun c_2 => ?_) (fun c_2 => ?_) (fun c_2 => ?_)
    · have h := hC0 c_2
      clear hC0 hC1 hC2
      show am_Run am_X0 (am_meth d) 6 R 25 [some (.ref 0), some (.int l), some (.int x), none, none] [.int (-4 : Int32)] (am_mk I L, 0, 0)
      refine ar_istore_n (j := 3) (ls' := [some (.ref 0), some (.int l), some (.int x), some (.int (-4 : Int32)), none]) (q := 26) rfl rfl rfl rfl rfl ?_
      refine ar_iload_n (j := 3) (q := 27) rfl rfl rfl rfl ?_
      refine ar_b0 am_c_eq (t := 36) (q := 30) rfl rfl rfl (fun c9 => absurd c9 (by decide)) (fun _ => ?_)
      refine ar_aload_n (j := 0) (q := 31) rfl rfl rfl rfl ?_
      refine ar_iload_n (j := 3) (q := 32) rfl rfl rfl rfl ?_
      refine ar_invv (as := [.int (-4 : Int32)]) (rest := []) (b2 := (0, 0)) (b3 := (0, 0)) (q := 35) rfl rfl rfl rfl mk_0 rfl rfl rfl rfl rfl ?_
      refine ok_refuse (j := 4) (by omega) (by decide) (by decide) ?_
      show am_Run am_X0 (am_meth d) 6 R 35 [some (.ref 0), some (.int l), some (.int x), some (.int (-4 : Int32)), none] [.int (-4 : Int32)] (am_mk (am_rf I 4) L, 0, 0)
      exact ar_iret rfl rfl h
    · have h := hC1 c_2
      clear hC0 hC1 hC2
      show am_Run am_X0 (am_meth d) 6 R 25 [some (.ref 0), some (.int l), some (.int x), none, none] [.int (-6 : Int32)] (am_mk I L, 0, 0)
      refine ar_istore_n (j := 3) (ls' := [some (.ref 0), some (.int l), some (.int x), some (.int (-6 : Int32)), none]) (q := 26) rfl rfl rfl rfl rfl ?_
      refine ar_iload_n (j := 3) (q := 27) rfl rfl rfl rfl ?_
      refine ar_b0 am_c_eq (t := 36) (q := 30) rfl rfl rfl (fun c9 => absurd c9 (by decide)) (fun _ => ?_)
      refine ar_aload_n (j := 0) (q := 31) rfl rfl rfl rfl ?_
      refine ar_iload_n (j := 3) (q := 32) rfl rfl rfl rfl ?_
      refine ar_invv (as := [.int (-6 : Int32)]) (rest := []) (b2 := (0, 0)) (b3 := (0, 0)) (q := 35) rfl rfl rfl rfl mk_0 rfl rfl rfl rfl rfl ?_
      refine ok_refuse (j := 6) (by omega) (by decide) (by decide) ?_
      show am_Run am_X0 (am_meth d) 6 R 35 [some (.ref 0), some (.int l), some (.int x), some (.int (-6 : Int32)), none] [.int (-6 : Int32)] (am_mk (am_rf I 6) L, 0, 0)
      exact ar_iret rfl rfl h
    · have h := hC2 c_2
      clear hC0 hC1 hC2
      show am_Run am_X0 (am_meth d) 6 R 25 [some (.ref 0), some (.int l), some (.int x), none, none] [.int 0] (am_mk I L, 0, 0)
      refine ar_istore_n (j := 3) (ls' := [some (.ref 0), some (.int l), some (.int x), some (.int 0), none]) (q := 26) rfl rfl rfl rfl rfl ?_
      refine ar_iload_n (j := 3) (q := 27) rfl rfl rfl rfl ?_
      refine ar_b0 am_c_eq (t := 36) (q := 30) rfl rfl rfl (fun _ => ?_) (fun c9 => absurd (by decide) c9)
      refine ar_aload_n (j := 0) (q := 37) rfl rfl rfl rfl ?_
      refine ar_getf (v := .ref 2) (q := 40) rfl rfl mk_0 rfl rfl ?_
      refine ar_getf (v := .ref 4) (q := 43) rfl rfl mk_2 rfl rfl ?_
      refine ar_iload_n (j := 1) (q := 44) rfl rfl rfl rfl ?_
      obtain ⟨j_3, hx_4, hi_5, h⟩ := h
      refine ar_iald (v := I 4 j_3) (q := 45) rfl mk_4 (am_inE hi_5 hx_4 (by decide)) (am_clE hi_5 hx_4 (by decide)) rfl ?_
      refine ar_istore (ls' := [some (.ref 0), some (.int l), some (.int x), some (.int 0), some (.int (I 4 j_3))]) (q := 47) rfl rfl rfl rfl ?_
      refine ar_aload_n (j := 0) (q := 48) rfl rfl rfl rfl ?_
      refine ar_getf (v := .ref 2) (q := 51) rfl rfl mk_0 rfl rfl ?_
      refine ar_getf (v := .ref 4) (q := 54) rfl rfl mk_2 rfl rfl ?_
      refine ar_iload_n (j := 1) (q := 55) rfl rfl rfl rfl ?_
      refine ar_iload_n (j := 2) (q := 56) rfl rfl rfl rfl ?_
      obtain ⟨I_6, hI_7⟩ : ∃ z : Nat → Nat → Int32, z = va_up I 4 (upd (I 4) j_3 x) := ⟨_, rfl⟩
      have h := h I_6 hI_7
      refine ar_iast (hp2 := am_mk I_6 L) (q := 57) rfl mk_4 (am_inE hi_5 hx_4 (by decide)) (by rw [am_clT hi_5 hx_4 (by decide), hI_7]; exact mk_s4) rfl ?_
      refine ar_iload (q := 59) rfl rfl rfl ?_
      exact ar_iret rfl rfl h
  · have h := hB c_1
    clear hA hB
    show am_Run am_X0 (am_meth d) 6 R 8 [some (.ref 0), some (.int l), some (.int x), none, none] [.int 0] (am_mk I L, 0, 0)
    refine ar_b0 am_c_ne (t := 17) (q := 11) rfl rfl rfl (fun c9 => absurd (by decide) c9) (fun _ => ?_)
    refine ar_aload_n (j := 0) (q := 12) rfl rfl rfl rfl ?_
    refine ar_iconst (v := (-1 : Int32)) (q := 13) rfl rfl rfl ?_
    refine ar_invv (as := [.int (-1 : Int32)]) (rest := []) (b2 := (0, 0)) (b3 := (0, 0)) (q := 16) rfl rfl rfl rfl mk_0 rfl rfl rfl rfl rfl ?_
    refine ok_refuse (j := 1) (by omega) (by decide) (by decide) ?_
    show am_Run am_X0 (am_meth d) 6 R 16 [some (.ref 0), some (.int l), some (.int x), none, none] [.int (-1 : Int32)] (am_mk (am_rf I 1) L, 0, 0)
    exact ar_iret rfl rfl h
theorem r_H_keeper_0 {d : Nat} (hd : 1 ≤ d) {R : am_R} {I : Nat → Nat → Int32} {L : Nat → Nat → Int64} {t : Int32} {b : Int32} {p : Int32} {m : Int32} (h : ((0 ≤ t ∧ t < 10 → (((b < 0 → (R (some (.int (-4 : Int32))) (am_mk (am_rf I 4) L, 0, 0))) ∧ (¬ b < 0 → (((p < 1 → (R (some (.int (-4 : Int32))) (am_mk (am_rf I 4) L, 0, 0))) ∧ (¬ p < 1 → (((m < 0 → (R (some (.int (-4 : Int32))) (am_mk (am_rf I 4) L, 0, 0))) ∧ (¬ m < 0 → (((b ≤ 255 → (((p ≤ 2 → (((m ≤ 99999 → ((((I 16 0) < 20 → ((am_ix I 16 0 20) ∧ (R (some (.int (I 16 0))) (am_mk (am_ka I t b p m) L, 0, 0)))) ∧ (¬ (I 16 0) < 20 → (R (some (.int (-6 : Int32))) (am_mk (am_rf I 6) L, 0, 0)))))) ∧ (¬ m ≤ 99999 → (R (some (.int (-6 : Int32))) (am_mk (am_rf I 6) L, 0, 0)))))) ∧ (¬ p ≤ 2 → (R (some (.int (-6 : Int32))) (am_mk (am_rf I 6) L, 0, 0)))))) ∧ (¬ b ≤ 255 → (R (some (.int (-6 : Int32))) (am_mk (am_rf I 6) L, 0, 0))))))))))))))) ∧ (¬ (0 ≤ t ∧ t < 10) → (R (some (.int (-1 : Int32))) (am_mk (am_rf I 1) L, 0, 0))))) : am_Run am_X0 (am_meth d) 7 R 0 [some (.ref 0), some (.int t), some (.int b), some (.int p), some (.int m)] [] (am_mk I L, 0, 0) := by
  refine ar_aload_n (j := 0) (q := 1) rfl rfl rfl rfl ?_
  refine ar_getf (v := .ref 2) (q := 4) rfl rfl mk_0 rfl rfl ?_
  refine ar_iload_n (j := 1) (q := 5) rfl rfl rfl rfl ?_
  refine ar_invv (as := [.int t]) (rest := []) (b2 := (0, 0)) (b3 := (0, 0)) (q := 8) rfl rfl rfl rfl mk_2 rfl rfl rfl rfl rfl ?_
  obtain ⟨hA, hB⟩ := h
  refine ok_To_hasTown (by omega)  (fun c_1 => ?_) (fun c_1 => ?_)
  · have h := hA c_1
    clear hA hB
    show am_Run am_X0 (am_meth d) 7 R 8 [some (.ref 0), some (.int t), some (.int b), some (.int p), some (.int m)] [.int 1] (am_mk I L, 0, 0)
    refine ar_b0 am_c_ne (t := 17) (q := 11) rfl rfl rfl (fun _ => ?_) (fun c9 => absurd (by decide) c9)
    refine ar_iload_n (j := 2) (q := 18) rfl rfl rfl rfl ?_
    obtain ⟨hA, hB⟩ := h
    refine ar_b0 am_c_lt (t := 31) (q := 21) rfl rfl rfl (fun c_2 => ?_) (fun c_2 => ?_)
    · have h := hA c_2
      clear hA hB
      refine ar_aload_n (j := 0) (q := 32) rfl rfl rfl rfl ?_
      refine ar_bipush (v := (-4 : Int32)) (q := 34) rfl rfl rfl ?_
      refine ar_invv (as := [.int (-4 : Int32)]) (rest := []) (b2 := (0, 0)) (b3 := (0, 0)) (q := 37) rfl rfl rfl rfl mk_0 rfl rfl rfl rfl rfl ?_
      refine ok_refuse (j := 4) (by omega) (by decide) (by decide) ?_
      show am_Run am_X0 (am_meth d) 7 R 37 [some (.ref 0), some (.int t), some (.int b), some (.int p), some (.int m)] [.int (-4 : Int32)] (am_mk (am_rf I 4) L, 0, 0)
      exact ar_iret rfl rfl h
    · have h := hB c_2
      clear hA hB
      refine ar_iload_n (j := 3) (q := 22) rfl rfl rfl rfl ?_
      refine ar_iconst (v := 1) (q := 23) rfl rfl rfl ?_
      obtain ⟨hA, hB⟩ := h
      refine ar_br am_c_lt (t := 31) (q := 26) rfl rfl rfl (fun c_3 => ?_) (fun c_3 => ?_)
      · have h := hA c_3
        clear hA hB
        refine ar_aload_n (j := 0) (q := 32) rfl rfl rfl rfl ?_
        refine ar_bipush (v := (-4 : Int32)) (q := 34) rfl rfl rfl ?_
        refine ar_invv (as := [.int (-4 : Int32)]) (rest := []) (b2 := (0, 0)) (b3 := (0, 0)) (q := 37) rfl rfl rfl rfl mk_0 rfl rfl rfl rfl rfl ?_
        refine ok_refuse (j := 4) (by omega) (by decide) (by decide) ?_
        show am_Run am_X0 (am_meth d) 7 R 37 [some (.ref 0), some (.int t), some (.int b), some (.int p), some (.int m)] [.int (-4 : Int32)] (am_mk (am_rf I 4) L, 0, 0)
        exact ar_iret rfl rfl h
      · have h := hB c_3
        clear hA hB
        refine ar_iload (q := 28) rfl rfl rfl ?_
        obtain ⟨hA, hB⟩ := h
        refine ar_b0 am_d_ge (t := 38) (q := 31) rfl rfl rfl (fun c_4 => ?_) (fun c_4 => ?_)
        · have h := hB c_4
          clear hA hB
          refine ar_iload_n (j := 2) (q := 39) rfl rfl rfl rfl ?_
          refine ar_sipush (v := 255) (q := 42) rfl rfl rfl ?_
          obtain ⟨hA, hB⟩ := h
          refine ar_br am_d_gt (t := 57) (q := 45) rfl rfl rfl (fun c_5 => ?_) (fun c_5 => ?_)
          · have h := hB c_5
            clear hA hB
            refine ar_aload_n (j := 0) (q := 58) rfl rfl rfl rfl ?_
            refine ar_bipush (v := (-6 : Int32)) (q := 60) rfl rfl rfl ?_
            refine ar_invv (as := [.int (-6 : Int32)]) (rest := []) (b2 := (0, 0)) (b3 := (0, 0)) (q := 63) rfl rfl rfl rfl mk_0 rfl rfl rfl rfl rfl ?_
            refine ok_refuse (j := 6) (by omega) (by decide) (by decide) ?_
            show am_Run am_X0 (am_meth d) 7 R 63 [some (.ref 0), some (.int t), some (.int b), some (.int p), some (.int m)] [.int (-6 : Int32)] (am_mk (am_rf I 6) L, 0, 0)
            exact ar_iret rfl rfl h
          · have c_5 := Classical.not_not.mp c_5
            have h := hA c_5
            clear hA hB
            refine ar_iload_n (j := 3) (q := 46) rfl rfl rfl rfl ?_
            refine ar_iconst (v := 2) (q := 47) rfl rfl rfl ?_
            obtain ⟨hA, hB⟩ := h
            refine ar_br am_d_gt (t := 57) (q := 50) rfl rfl rfl (fun c_6 => ?_) (fun c_6 => ?_)
            · have h := hB c_6
              clear hA hB
              refine ar_aload_n (j := 0) (q := 58) rfl rfl rfl rfl ?_
              refine ar_bipush (v := (-6 : Int32)) (q := 60) rfl rfl rfl ?_
              refine ar_invv (as := [.int (-6 : Int32)]) (rest := []) (b2 := (0, 0)) (b3 := (0, 0)) (q := 63) rfl rfl rfl rfl mk_0 rfl rfl rfl rfl rfl ?_
              refine ok_refuse (j := 6) (by omega) (by decide) (by decide) ?_
              show am_Run am_X0 (am_meth d) 7 R 63 [some (.ref 0), some (.int t), some (.int b), some (.int p), some (.int m)] [.int (-6 : Int32)] (am_mk (am_rf I 6) L, 0, 0)
              exact ar_iret rfl rfl h
            · have c_6 := Classical.not_not.mp c_6
              have h := hA c_6
              clear hA hB
              refine ar_iload (q := 52) rfl rfl rfl ?_
              refine ar_ldc (v := 99999) (q := 54) rfl rfl rfl ?_
              obtain ⟨hA, hB⟩ := h
              refine ar_br am_c_le (t := 64) (q := 57) rfl rfl rfl (fun c_7 => ?_) (fun c_7 => ?_)
              · have h := hA c_7
                clear hA hB
                refine ar_aload_n (j := 0) (q := 65) rfl rfl rfl rfl ?_
                refine ar_getf (v := .ref 16) (q := 68) rfl rfl mk_0 rfl rfl ?_
                refine ar_getf (v := .int (I 16 0)) (q := 71) rfl rfl mk_16 rfl rfl ?_
                refine ar_bipush (v := 20) (q := 73) rfl rfl rfl ?_
                obtain ⟨hA, hB⟩ := h
                refine ar_br am_c_lt (t := 83) (q := 76) rfl rfl rfl (fun c_8 => ?_) (fun c_8 => ?_)
                · have h := hA c_8
                  clear hA hB
                  refine ar_aload_n (j := 0) (q := 84) rfl rfl rfl rfl ?_
                  refine ar_getf (v := .ref 16) (q := 87) rfl rfl mk_0 rfl rfl ?_
                  refine ar_iload_n (j := 1) (q := 88) rfl rfl rfl rfl ?_
                  refine ar_iload_n (j := 2) (q := 89) rfl rfl rfl rfl ?_
                  refine ar_iload_n (j := 3) (q := 90) rfl rfl rfl rfl ?_
                  refine ar_iload (q := 92) rfl rfl rfl ?_
                  refine ar_invv (as := [.int t, .int b, .int p, .int m]) (rest := []) (b2 := (0, 0)) (b3 := (0, 0)) (q := 95) rfl rfl rfl rfl mk_16 rfl rfl rfl rfl rfl ?_
                  obtain ⟨hp_9, h⟩ := h
                  refine ok_Ke_add (by omega) hp_9 ?_
                  show am_Run am_X0 (am_meth d) 7 R 95 [some (.ref 0), some (.int t), some (.int b), some (.int p), some (.int m)] [.int (I 16 0)] (am_mk (am_ka I t b p m) L, 0, 0)
                  exact ar_iret rfl rfl h
                · have h := hB c_8
                  clear hA hB
                  refine ar_aload_n (j := 0) (q := 77) rfl rfl rfl rfl ?_
                  refine ar_bipush (v := (-6 : Int32)) (q := 79) rfl rfl rfl ?_
                  refine ar_invv (as := [.int (-6 : Int32)]) (rest := []) (b2 := (0, 0)) (b3 := (0, 0)) (q := 82) rfl rfl rfl rfl mk_0 rfl rfl rfl rfl rfl ?_
                  refine ok_refuse (j := 6) (by omega) (by decide) (by decide) ?_
                  show am_Run am_X0 (am_meth d) 7 R 82 [some (.ref 0), some (.int t), some (.int b), some (.int p), some (.int m)] [.int (-6 : Int32)] (am_mk (am_rf I 6) L, 0, 0)
                  exact ar_iret rfl rfl h
              · have h := hB c_7
                clear hA hB
                refine ar_aload_n (j := 0) (q := 58) rfl rfl rfl rfl ?_
                refine ar_bipush (v := (-6 : Int32)) (q := 60) rfl rfl rfl ?_
                refine ar_invv (as := [.int (-6 : Int32)]) (rest := []) (b2 := (0, 0)) (b3 := (0, 0)) (q := 63) rfl rfl rfl rfl mk_0 rfl rfl rfl rfl rfl ?_
                refine ok_refuse (j := 6) (by omega) (by decide) (by decide) ?_
                show am_Run am_X0 (am_meth d) 7 R 63 [some (.ref 0), some (.int t), some (.int b), some (.int p), some (.int m)] [.int (-6 : Int32)] (am_mk (am_rf I 6) L, 0, 0)
                exact ar_iret rfl rfl h
        · have c_4 := Classical.not_not.mp c_4
          have h := hA c_4
          clear hA hB
          refine ar_aload_n (j := 0) (q := 32) rfl rfl rfl rfl ?_
          refine ar_bipush (v := (-4 : Int32)) (q := 34) rfl rfl rfl ?_
          refine ar_invv (as := [.int (-4 : Int32)]) (rest := []) (b2 := (0, 0)) (b3 := (0, 0)) (q := 37) rfl rfl rfl rfl mk_0 rfl rfl rfl rfl rfl ?_
          refine ok_refuse (j := 4) (by omega) (by decide) (by decide) ?_
          show am_Run am_X0 (am_meth d) 7 R 37 [some (.ref 0), some (.int t), some (.int b), some (.int p), some (.int m)] [.int (-4 : Int32)] (am_mk (am_rf I 4) L, 0, 0)
          exact ar_iret rfl rfl h
  · have h := hB c_1
    clear hA hB
    show am_Run am_X0 (am_meth d) 7 R 8 [some (.ref 0), some (.int t), some (.int b), some (.int p), some (.int m)] [.int 0] (am_mk I L, 0, 0)
    refine ar_b0 am_c_ne (t := 17) (q := 11) rfl rfl rfl (fun c9 => absurd (by decide) c9) (fun _ => ?_)
    refine ar_aload_n (j := 0) (q := 12) rfl rfl rfl rfl ?_
    refine ar_iconst (v := (-1 : Int32)) (q := 13) rfl rfl rfl ?_
    refine ar_invv (as := [.int (-1 : Int32)]) (rest := []) (b2 := (0, 0)) (b3 := (0, 0)) (q := 16) rfl rfl rfl rfl mk_0 rfl rfl rfl rfl rfl ?_
    refine ok_refuse (j := 1) (by omega) (by decide) (by decide) ?_
    show am_Run am_X0 (am_meth d) 7 R 16 [some (.ref 0), some (.int t), some (.int b), some (.int p), some (.int m)] [.int (-1 : Int32)] (am_mk (am_rf I 1) L, 0, 0)
    exact ar_iret rfl rfl h
theorem r_H_house_0 {d : Nat} (hd : 1 ≤ d) {R : am_R} {I : Nat → Nat → Int32} {L : Nat → Nat → Int64} {t : Int32} {b : Int32} (h : ((0 ≤ t ∧ t < 10 → (((b < 0 → (R (some (.int (-4 : Int32))) (am_mk (am_rf I 4) L, 0, 0))) ∧ ((¬ b < 0 ∧ 255 < b) → (R (some (.int (-6 : Int32))) (am_mk (am_rf I 6) L, 0, 0))) ∧ ((¬ b < 0 ∧ ¬ 255 < b) → ((((I 42 0) < 20 → ((am_ix I 42 0 20) ∧ (R (some (.int (I 42 0))) (am_mk (am_ha I t b) L, 0, 0)))) ∧ (¬ (I 42 0) < 20 → (R (some (.int (-6 : Int32))) (am_mk (am_rf I 6) L, 0, 0))))))))) ∧ (¬ (0 ≤ t ∧ t < 10) → (R (some (.int (-1 : Int32))) (am_mk (am_rf I 1) L, 0, 0))))) : am_Run am_X0 (am_meth d) 8 R 0 [some (.ref 0), some (.int t), some (.int b), none] [] (am_mk I L, 0, 0) := by
  refine ar_aload_n (j := 0) (q := 1) rfl rfl rfl rfl ?_
  refine ar_getf (v := .ref 2) (q := 4) rfl rfl mk_0 rfl rfl ?_
  refine ar_iload_n (j := 1) (q := 5) rfl rfl rfl rfl ?_
  refine ar_invv (as := [.int t]) (rest := []) (b2 := (0, 0)) (b3 := (0, 0)) (q := 8) rfl rfl rfl rfl mk_2 rfl rfl rfl rfl rfl ?_
  obtain ⟨hA, hB⟩ := h
  refine ok_To_hasTown (by omega)  (fun c_1 => ?_) (fun c_1 => ?_)
  · have h := hA c_1
    clear hA hB
    show am_Run am_X0 (am_meth d) 8 R 8 [some (.ref 0), some (.int t), some (.int b), none] [.int 1] (am_mk I L, 0, 0)
    refine ar_b0 am_c_ne (t := 17) (q := 11) rfl rfl rfl (fun _ => ?_) (fun c9 => absurd (by decide) c9)
    refine ar_iload_n (j := 2) (q := 18) rfl rfl rfl rfl ?_
    refine ar_iconst (v := 0) (q := 19) rfl rfl rfl ?_
    refine ar_sipush (v := 255) (q := 22) rfl rfl rfl ?_
    refine ar_invs (as := [.int b, .int 0, .int 255]) (rest := []) (b2 := (0, 0)) (b3 := (0, 0)) (q := 25) rfl rfl rfl rfl rfl rfl rfl rfl rfl ?_
    obtain ⟨hC0, hC1, hC2⟩ := h
    refine ok_bound (by omega)  (fun c_2 => ?_) (fun c_2 => ?_) (fun c_2 => ?_)
    · have h := hC0 c_2
      clear hC0 hC1 hC2
      show am_Run am_X0 (am_meth d) 8 R 25 [some (.ref 0), some (.int t), some (.int b), none] [.int (-4 : Int32)] (am_mk I L, 0, 0)
      refine ar_istore_n (j := 3) (ls' := [some (.ref 0), some (.int t), some (.int b), some (.int (-4 : Int32))]) (q := 26) rfl rfl rfl rfl rfl ?_
      refine ar_iload_n (j := 3) (q := 27) rfl rfl rfl rfl ?_
      refine ar_b0 am_c_eq (t := 36) (q := 30) rfl rfl rfl (fun c9 => absurd c9 (by decide)) (fun _ => ?_)
      refine ar_aload_n (j := 0) (q := 31) rfl rfl rfl rfl ?_
      refine ar_iload_n (j := 3) (q := 32) rfl rfl rfl rfl ?_
      refine ar_invv (as := [.int (-4 : Int32)]) (rest := []) (b2 := (0, 0)) (b3 := (0, 0)) (q := 35) rfl rfl rfl rfl mk_0 rfl rfl rfl rfl rfl ?_
      refine ok_refuse (j := 4) (by omega) (by decide) (by decide) ?_
      show am_Run am_X0 (am_meth d) 8 R 35 [some (.ref 0), some (.int t), some (.int b), some (.int (-4 : Int32))] [.int (-4 : Int32)] (am_mk (am_rf I 4) L, 0, 0)
      exact ar_iret rfl rfl h
    · have h := hC1 c_2
      clear hC0 hC1 hC2
      show am_Run am_X0 (am_meth d) 8 R 25 [some (.ref 0), some (.int t), some (.int b), none] [.int (-6 : Int32)] (am_mk I L, 0, 0)
      refine ar_istore_n (j := 3) (ls' := [some (.ref 0), some (.int t), some (.int b), some (.int (-6 : Int32))]) (q := 26) rfl rfl rfl rfl rfl ?_
      refine ar_iload_n (j := 3) (q := 27) rfl rfl rfl rfl ?_
      refine ar_b0 am_c_eq (t := 36) (q := 30) rfl rfl rfl (fun c9 => absurd c9 (by decide)) (fun _ => ?_)
      refine ar_aload_n (j := 0) (q := 31) rfl rfl rfl rfl ?_
      refine ar_iload_n (j := 3) (q := 32) rfl rfl rfl rfl ?_
      refine ar_invv (as := [.int (-6 : Int32)]) (rest := []) (b2 := (0, 0)) (b3 := (0, 0)) (q := 35) rfl rfl rfl rfl mk_0 rfl rfl rfl rfl rfl ?_
      refine ok_refuse (j := 6) (by omega) (by decide) (by decide) ?_
      show am_Run am_X0 (am_meth d) 8 R 35 [some (.ref 0), some (.int t), some (.int b), some (.int (-6 : Int32))] [.int (-6 : Int32)] (am_mk (am_rf I 6) L, 0, 0)
      exact ar_iret rfl rfl h
    · have h := hC2 c_2
      clear hC0 hC1 hC2
      show am_Run am_X0 (am_meth d) 8 R 25 [some (.ref 0), some (.int t), some (.int b), none] [.int 0] (am_mk I L, 0, 0)
      refine ar_istore_n (j := 3) (ls' := [some (.ref 0), some (.int t), some (.int b), some (.int 0)]) (q := 26) rfl rfl rfl rfl rfl ?_
      refine ar_iload_n (j := 3) (q := 27) rfl rfl rfl rfl ?_
      refine ar_b0 am_c_eq (t := 36) (q := 30) rfl rfl rfl (fun _ => ?_) (fun c9 => absurd (by decide) c9)
      refine ar_aload_n (j := 0) (q := 37) rfl rfl rfl rfl ?_
      refine ar_getf (v := .ref 42) (q := 40) rfl rfl mk_0 rfl rfl ?_
      refine ar_getf (v := .int (I 42 0)) (q := 43) rfl rfl mk_42 rfl rfl ?_
      refine ar_bipush (v := 20) (q := 45) rfl rfl rfl ?_
      obtain ⟨hA, hB⟩ := h
      refine ar_br am_c_lt (t := 55) (q := 48) rfl rfl rfl (fun c_3 => ?_) (fun c_3 => ?_)
      · have h := hA c_3
        clear hA hB
        refine ar_aload_n (j := 0) (q := 56) rfl rfl rfl rfl ?_
        refine ar_getf (v := .ref 42) (q := 59) rfl rfl mk_0 rfl rfl ?_
        refine ar_iload_n (j := 1) (q := 60) rfl rfl rfl rfl ?_
        refine ar_iload_n (j := 2) (q := 61) rfl rfl rfl rfl ?_
        refine ar_invv (as := [.int t, .int b]) (rest := []) (b2 := (0, 0)) (b3 := (0, 0)) (q := 64) rfl rfl rfl rfl mk_42 rfl rfl rfl rfl rfl ?_
        obtain ⟨hp_4, h⟩ := h
        refine ok_Ho_add (by omega) hp_4 ?_
        show am_Run am_X0 (am_meth d) 8 R 64 [some (.ref 0), some (.int t), some (.int b), some (.int 0)] [.int (I 42 0)] (am_mk (am_ha I t b) L, 0, 0)
        exact ar_iret rfl rfl h
      · have h := hB c_3
        clear hA hB
        refine ar_aload_n (j := 0) (q := 49) rfl rfl rfl rfl ?_
        refine ar_bipush (v := (-6 : Int32)) (q := 51) rfl rfl rfl ?_
        refine ar_invv (as := [.int (-6 : Int32)]) (rest := []) (b2 := (0, 0)) (b3 := (0, 0)) (q := 54) rfl rfl rfl rfl mk_0 rfl rfl rfl rfl rfl ?_
        refine ok_refuse (j := 6) (by omega) (by decide) (by decide) ?_
        show am_Run am_X0 (am_meth d) 8 R 54 [some (.ref 0), some (.int t), some (.int b), some (.int 0)] [.int (-6 : Int32)] (am_mk (am_rf I 6) L, 0, 0)
        exact ar_iret rfl rfl h
  · have h := hB c_1
    clear hA hB
    show am_Run am_X0 (am_meth d) 8 R 8 [some (.ref 0), some (.int t), some (.int b), none] [.int 0] (am_mk I L, 0, 0)
    refine ar_b0 am_c_ne (t := 17) (q := 11) rfl rfl rfl (fun c9 => absurd (by decide) c9) (fun _ => ?_)
    refine ar_aload_n (j := 0) (q := 12) rfl rfl rfl rfl ?_
    refine ar_iconst (v := (-1 : Int32)) (q := 13) rfl rfl rfl ?_
    refine ar_invv (as := [.int (-1 : Int32)]) (rest := []) (b2 := (0, 0)) (b3 := (0, 0)) (q := 16) rfl rfl rfl rfl mk_0 rfl rfl rfl rfl rfl ?_
    refine ok_refuse (j := 1) (by omega) (by decide) (by decide) ?_
    show am_Run am_X0 (am_meth d) 8 R 16 [some (.ref 0), some (.int t), some (.int b), none] [.int (-1 : Int32)] (am_mk (am_rf I 1) L, 0, 0)
    exact ar_iret rfl rfl h
theorem r_H_stayOf_0 {d : Nat} (hd : 1 ≤ d) {R : am_R} {I : Nat → Nat → Int32} {L : Nat → Nat → Int64} {s : Int32} {w : Int32} (h : ((0 ≤ s ∧ s < I 66 1 → ((((w : Int32).toInt = 0 → (∃ j_3 : Nat, j_3 < 60 ∧ s = nI j_3 ∧ (R (some (.int (I 67 j_3))) (am_mk I L, 0, 0)))) ∧ ((w : Int32).toInt = 1 → (∃ j_6 : Nat, j_6 < 60 ∧ s = nI j_6 ∧ (R (some (.int (I 68 j_6))) (am_mk I L, 0, 0)))) ∧ ((w : Int32).toInt = 2 → (∃ j_9 : Nat, j_9 < 60 ∧ s = nI j_9 ∧ (R (some (.int (I 69 j_9))) (am_mk I L, 0, 0)))) ∧ ((w : Int32).toInt = 3 → (∃ j_12 : Nat, j_12 < 60 ∧ s = nI j_12 ∧ (R (some (.int (I 70 j_12))) (am_mk I L, 0, 0)))) ∧ ((w : Int32).toInt = 4 → (∃ j_15 : Nat, j_15 < 60 ∧ s = nI j_15 ∧ (R (some (.int (I 71 j_15))) (am_mk I L, 0, 0)))) ∧ ((w : Int32).toInt = 5 → (∃ j_18 : Nat, s = nI j_18 ∧ ((j_18 < 60) ∧ (((I 69 j_18 < I 66 0 → (R (some (.int 1)) (am_mk I L, 0, 0))) ∧ (¬ (I 69 j_18 < I 66 0) → (R (some (.int 0)) (am_mk I L, 0, 0)))))))) ∧ (((w : Int32).toInt < 0 ∨ 5 < (w : Int32).toInt) → (R (some (.int (-2 : Int32))) (am_mk (am_rf I 2) L, 0, 0)))))) ∧ (¬ (0 ≤ s ∧ s < I 66 1) → (R (some (.int (-1 : Int32))) (am_mk (am_rf I 1) L, 0, 0))))) : am_Run am_X0 (am_meth d) 10 R 0 [some (.ref 0), some (.int s), some (.int w)] [] (am_mk I L, 0, 0) := by
  refine ar_aload_n (j := 0) (q := 1) rfl rfl rfl rfl ?_
  refine ar_getf (v := .ref 66) (q := 4) rfl rfl mk_0 rfl rfl ?_
  refine ar_iload_n (j := 1) (q := 5) rfl rfl rfl rfl ?_
  refine ar_invv (as := [.int s]) (rest := []) (b2 := (0, 0)) (b3 := (0, 0)) (q := 8) rfl rfl rfl rfl mk_66 rfl rfl rfl rfl rfl ?_
  obtain ⟨hA, hB⟩ := h
  refine ok_St_has (by omega)  (fun c_1 => ?_) (fun c_1 => ?_)
  · have h := hA c_1
    clear hA hB
    show am_Run am_X0 (am_meth d) 10 R 8 [some (.ref 0), some (.int s), some (.int w)] [.int 1] (am_mk I L, 0, 0)
    refine ar_b0 am_c_ne (t := 17) (q := 11) rfl rfl rfl (fun _ => ?_) (fun c9 => absurd (by decide) c9)
    refine ar_iload_n (j := 2) (q := 18) rfl rfl rfl rfl ?_
    obtain ⟨hT0, hT1, hT2, hT3, hT4, hT5, hD⟩ := h
    refine ar_tsw (t0 := 123) rfl rfl (fun c_2 => ?_) (fun c_2 => ?_)
    · have h := hD (by omega)
      clear hT0 hT1 hT2 hT3 hT4 hT5 hD
      refine ar_aload_n (j := 0) (q := 124) rfl rfl rfl rfl ?_
      refine ar_bipush (v := (-2 : Int32)) (q := 126) rfl rfl rfl ?_
      refine ar_invv (as := [.int (-2 : Int32)]) (rest := []) (b2 := (0, 0)) (b3 := (0, 0)) (q := 129) rfl rfl rfl rfl mk_0 rfl rfl rfl rfl rfl ?_
      refine ok_refuse (j := 2) (by omega) (by decide) (by decide) ?_
      show am_Run am_X0 (am_meth d) 10 R 129 [some (.ref 0), some (.int s), some (.int w)] [.int (-2 : Int32)] (am_mk (am_rf I 2) L, 0, 0)
      exact ar_iret rfl rfl h
    · rcases (show (w : Int32).toInt = 0 ∨ (w : Int32).toInt = 1 ∨ (w : Int32).toInt = 2 ∨ (w : Int32).toInt = 3 ∨ (w : Int32).toInt = 4 ∨ (w : Int32).toInt = 5 by omega) with e9 | e9 | e9 | e9 | e9 | e9
      · refine ⟨38, 56, by rw [e9]; rfl, rfl, ?_⟩
        have h := hT0 e9
        clear hT0 hT1 hT2 hT3 hT4 hT5 hD
        refine ar_aload_n (j := 0) (q := 57) rfl rfl rfl rfl ?_
        refine ar_getf (v := .ref 66) (q := 60) rfl rfl mk_0 rfl rfl ?_
        refine ar_getf (v := .ref 67) (q := 63) rfl rfl mk_66 rfl rfl ?_
        refine ar_iload_n (j := 1) (q := 64) rfl rfl rfl rfl ?_
        obtain ⟨j_3, hx_4, hi_5, h⟩ := h
        refine ar_iald (v := I 67 j_3) (q := 65) rfl mk_67 (am_inE hi_5 hx_4 (by decide)) (am_clE hi_5 hx_4 (by decide)) rfl ?_
        exact ar_iret rfl rfl h
      · refine ⟨48, 66, by rw [e9]; rfl, rfl, ?_⟩
        have h := hT1 e9
        clear hT0 hT1 hT2 hT3 hT4 hT5 hD
        refine ar_aload_n (j := 0) (q := 67) rfl rfl rfl rfl ?_
        refine ar_getf (v := .ref 66) (q := 70) rfl rfl mk_0 rfl rfl ?_
        refine ar_getf (v := .ref 68) (q := 73) rfl rfl mk_66 rfl rfl ?_
        refine ar_iload_n (j := 1) (q := 74) rfl rfl rfl rfl ?_
        obtain ⟨j_6, hx_7, hi_8, h⟩ := h
        refine ar_iald (v := I 68 j_6) (q := 75) rfl mk_68 (am_inE hi_8 hx_7 (by decide)) (am_clE hi_8 hx_7 (by decide)) rfl ?_
        exact ar_iret rfl rfl h
      · refine ⟨58, 76, by rw [e9]; rfl, rfl, ?_⟩
        have h := hT2 e9
        clear hT0 hT1 hT2 hT3 hT4 hT5 hD
        refine ar_aload_n (j := 0) (q := 77) rfl rfl rfl rfl ?_
        refine ar_getf (v := .ref 66) (q := 80) rfl rfl mk_0 rfl rfl ?_
        refine ar_getf (v := .ref 69) (q := 83) rfl rfl mk_66 rfl rfl ?_
        refine ar_iload_n (j := 1) (q := 84) rfl rfl rfl rfl ?_
        obtain ⟨j_9, hx_10, hi_11, h⟩ := h
        refine ar_iald (v := I 69 j_9) (q := 85) rfl mk_69 (am_inE hi_11 hx_10 (by decide)) (am_clE hi_11 hx_10 (by decide)) rfl ?_
        exact ar_iret rfl rfl h
      · refine ⟨68, 86, by rw [e9]; rfl, rfl, ?_⟩
        have h := hT3 e9
        clear hT0 hT1 hT2 hT3 hT4 hT5 hD
        refine ar_aload_n (j := 0) (q := 87) rfl rfl rfl rfl ?_
        refine ar_getf (v := .ref 66) (q := 90) rfl rfl mk_0 rfl rfl ?_
        refine ar_getf (v := .ref 70) (q := 93) rfl rfl mk_66 rfl rfl ?_
        refine ar_iload_n (j := 1) (q := 94) rfl rfl rfl rfl ?_
        obtain ⟨j_12, hx_13, hi_14, h⟩ := h
        refine ar_iald (v := I 70 j_12) (q := 95) rfl mk_70 (am_inE hi_14 hx_13 (by decide)) (am_clE hi_14 hx_13 (by decide)) rfl ?_
        exact ar_iret rfl rfl h
      · refine ⟨78, 96, by rw [e9]; rfl, rfl, ?_⟩
        have h := hT4 e9
        clear hT0 hT1 hT2 hT3 hT4 hT5 hD
        refine ar_aload_n (j := 0) (q := 97) rfl rfl rfl rfl ?_
        refine ar_getf (v := .ref 66) (q := 100) rfl rfl mk_0 rfl rfl ?_
        refine ar_getf (v := .ref 71) (q := 103) rfl rfl mk_66 rfl rfl ?_
        refine ar_iload_n (j := 1) (q := 104) rfl rfl rfl rfl ?_
        obtain ⟨j_15, hx_16, hi_17, h⟩ := h
        refine ar_iald (v := I 71 j_15) (q := 105) rfl mk_71 (am_inE hi_17 hx_16 (by decide)) (am_clE hi_17 hx_16 (by decide)) rfl ?_
        exact ar_iret rfl rfl h
      · refine ⟨88, 106, by rw [e9]; rfl, rfl, ?_⟩
        have h := hT5 e9
        clear hT0 hT1 hT2 hT3 hT4 hT5 hD
        refine ar_aload_n (j := 0) (q := 107) rfl rfl rfl rfl ?_
        refine ar_getf (v := .ref 66) (q := 110) rfl rfl mk_0 rfl rfl ?_
        refine ar_iload_n (j := 1) (q := 111) rfl rfl rfl rfl ?_
        refine ar_invv (as := [.int s]) (rest := []) (b2 := (0, 0)) (b3 := (0, 0)) (q := 114) rfl rfl rfl rfl mk_66 rfl rfl rfl rfl rfl ?_
        obtain ⟨j_18, hi_19, h⟩ := h
        obtain ⟨hp_21, h⟩ := h
        obtain ⟨hA, hB⟩ := h
        refine ok_St_isOver (by omega) hi_19 hp_21 (fun c_20 => ?_) (fun c_20 => ?_)
        · have h := hA c_20
          clear hA hB
          show am_Run am_X0 (am_meth d) 10 R 114 [some (.ref 0), some (.int s), some (.int w)] [.int 1] (am_mk I L, 0, 0)
          refine ar_b0 am_c_eq (t := 121) (q := 117) rfl rfl rfl (fun c9 => absurd c9 (by decide)) (fun _ => ?_)
          refine ar_iconst (v := 1) (q := 118) rfl rfl rfl ?_
          refine ar_goto (t := 122) rfl rfl ?_
          exact ar_iret rfl rfl h
        · have h := hB c_20
          clear hA hB
          show am_Run am_X0 (am_meth d) 10 R 114 [some (.ref 0), some (.int s), some (.int w)] [.int 0] (am_mk I L, 0, 0)
          refine ar_b0 am_c_eq (t := 121) (q := 117) rfl rfl rfl (fun _ => ?_) (fun c9 => absurd (by decide) c9)
          refine ar_iconst (v := 0) (q := 122) rfl rfl rfl ?_
          exact ar_iret rfl rfl h
  · have h := hB c_1
    clear hA hB
    show am_Run am_X0 (am_meth d) 10 R 8 [some (.ref 0), some (.int s), some (.int w)] [.int 0] (am_mk I L, 0, 0)
    refine ar_b0 am_c_ne (t := 17) (q := 11) rfl rfl rfl (fun c9 => absurd (by decide) c9) (fun _ => ?_)
    refine ar_aload_n (j := 0) (q := 12) rfl rfl rfl rfl ?_
    refine ar_iconst (v := (-1 : Int32)) (q := 13) rfl rfl rfl ?_
    refine ar_invv (as := [.int (-1 : Int32)]) (rest := []) (b2 := (0, 0)) (b3 := (0, 0)) (q := 16) rfl rfl rfl rfl mk_0 rfl rfl rfl rfl rfl ?_
    refine ok_refuse (j := 1) (by omega) (by decide) (by decide) ?_
    show am_Run am_X0 (am_meth d) 10 R 16 [some (.ref 0), some (.int s), some (.int w)] [.int (-1 : Int32)] (am_mk (am_rf I 1) L, 0, 0)
    exact ar_iret rfl rfl h
theorem r_H_cancel_0 {d : Nat} (hd : 1 ≤ d) {R : am_R} {I : Nat → Nat → Int32} {L : Nat → Nat → Int64} {s : Int32} (h : ((0 ≤ s ∧ s < I 66 1 → (∃ j_2 : Nat, s = nI j_2 ∧ ((j_2 < 60) ∧ (((I 69 j_2 < I 66 0 → (R (some (.int (-3 : Int32))) (am_mk (am_rf I 3) L, 0, 0))) ∧ (¬ (I 69 j_2 < I 66 0) → (∃ j_6 : Nat, j_6 < 60 ∧ s = nI j_6 ∧ ((((I 70 j_6) = 2 → (R (some (.int (-3 : Int32))) (am_mk (am_rf I 3) L, 0, 0))) ∧ (¬ (I 70 j_6) = 2 → (∀ I_10 : Nat → Nat → Int32, I_10 = va_up I 70 (upd (I 70) j_6 2) → (R (some (.int (I_10 71 j_6))) (am_mk I_10 L, 0, 0))))))))))))) ∧ (¬ (0 ≤ s ∧ s < I 66 1) → (R (some (.int (-1 : Int32))) (am_mk (am_rf I 1) L, 0, 0))))) : am_Run am_X0 (am_meth d) 13 R 0 [some (.ref 0), some (.int s)] [] (am_mk I L, 0, 0) := by
  refine ar_aload_n (j := 0) (q := 1) rfl rfl rfl rfl ?_
  refine ar_getf (v := .ref 66) (q := 4) rfl rfl mk_0 rfl rfl ?_
  refine ar_iload_n (j := 1) (q := 5) rfl rfl rfl rfl ?_
  refine ar_invv (as := [.int s]) (rest := []) (b2 := (0, 0)) (b3 := (0, 0)) (q := 8) rfl rfl rfl rfl mk_66 rfl rfl rfl rfl rfl ?_
  obtain ⟨hA, hB⟩ := h
  refine ok_St_has (by omega)  (fun c_1 => ?_) (fun c_1 => ?_)
  · have h := hA c_1
    clear hA hB
    show am_Run am_X0 (am_meth d) 13 R 8 [some (.ref 0), some (.int s)] [.int 1] (am_mk I L, 0, 0)
    refine ar_b0 am_c_ne (t := 17) (q := 11) rfl rfl rfl (fun _ => ?_) (fun c9 => absurd (by decide) c9)
    refine ar_aload_n (j := 0) (q := 18) rfl rfl rfl rfl ?_
    refine ar_getf (v := .ref 66) (q := 21) rfl rfl mk_0 rfl rfl ?_
    refine ar_iload_n (j := 1) (q := 22) rfl rfl rfl rfl ?_
    refine ar_invv (as := [.int s]) (rest := []) (b2 := (0, 0)) (b3 := (0, 0)) (q := 25) rfl rfl rfl rfl mk_66 rfl rfl rfl rfl rfl ?_
    obtain ⟨j_2, hi_3, h⟩ := h
    obtain ⟨hp_5, h⟩ := h
    obtain ⟨hA, hB⟩ := h
    refine ok_St_isOver (by omega) hi_3 hp_5 (fun c_4 => ?_) (fun c_4 => ?_)
    · have h := hA c_4
      clear hA hB
      show am_Run am_X0 (am_meth d) 13 R 25 [some (.ref 0), some (.int s)] [.int 1] (am_mk I L, 0, 0)
      refine ar_b0 am_c_ne (t := 41) (q := 28) rfl rfl rfl (fun _ => ?_) (fun c9 => absurd (by decide) c9)
      refine ar_aload_n (j := 0) (q := 42) rfl rfl rfl rfl ?_
      refine ar_bipush (v := (-3 : Int32)) (q := 44) rfl rfl rfl ?_
      refine ar_invv (as := [.int (-3 : Int32)]) (rest := []) (b2 := (0, 0)) (b3 := (0, 0)) (q := 47) rfl rfl rfl rfl mk_0 rfl rfl rfl rfl rfl ?_
      refine ok_refuse (j := 3) (by omega) (by decide) (by decide) ?_
      show am_Run am_X0 (am_meth d) 13 R 47 [some (.ref 0), some (.int s)] [.int (-3 : Int32)] (am_mk (am_rf I 3) L, 0, 0)
      exact ar_iret rfl rfl h
    · have h := hB c_4
      clear hA hB
      show am_Run am_X0 (am_meth d) 13 R 25 [some (.ref 0), some (.int s)] [.int 0] (am_mk I L, 0, 0)
      refine ar_b0 am_c_ne (t := 41) (q := 28) rfl rfl rfl (fun c9 => absurd (by decide) c9) (fun _ => ?_)
      refine ar_aload_n (j := 0) (q := 29) rfl rfl rfl rfl ?_
      refine ar_getf (v := .ref 66) (q := 32) rfl rfl mk_0 rfl rfl ?_
      refine ar_getf (v := .ref 70) (q := 35) rfl rfl mk_66 rfl rfl ?_
      refine ar_iload_n (j := 1) (q := 36) rfl rfl rfl rfl ?_
      obtain ⟨j_6, hx_7, hi_8, h⟩ := h
      refine ar_iald (v := I 70 j_6) (q := 37) rfl mk_70 (am_inE hi_8 hx_7 (by decide)) (am_clE hi_8 hx_7 (by decide)) rfl ?_
      refine ar_iconst (v := 2) (q := 38) rfl rfl rfl ?_
      obtain ⟨hA, hB⟩ := h
      refine ar_br am_c_ne (t := 48) (q := 41) rfl rfl rfl (fun c_9 => ?_) (fun c_9 => ?_)
      · have h := hB c_9
        clear hA hB
        refine ar_aload_n (j := 0) (q := 49) rfl rfl rfl rfl ?_
        refine ar_getf (v := .ref 66) (q := 52) rfl rfl mk_0 rfl rfl ?_
        refine ar_getf (v := .ref 70) (q := 55) rfl rfl mk_66 rfl rfl ?_
        refine ar_iload_n (j := 1) (q := 56) rfl rfl rfl rfl ?_
        refine ar_iconst (v := 2) (q := 57) rfl rfl rfl ?_
        obtain ⟨I_10, hI_11⟩ : ∃ z : Nat → Nat → Int32, z = va_up I 70 (upd (I 70) j_6 2) := ⟨_, rfl⟩
        have h := h I_10 hI_11
        refine ar_iast (hp2 := am_mk I_10 L) (q := 58) rfl mk_70 (am_inE hi_8 hx_7 (by decide)) (by rw [am_clT hi_8 hx_7 (by decide), hI_11]; exact mk_s70) rfl ?_
        refine ar_aload_n (j := 0) (q := 59) rfl rfl rfl rfl ?_
        refine ar_getf (v := .ref 66) (q := 62) rfl rfl mk_0 rfl rfl ?_
        refine ar_getf (v := .ref 71) (q := 65) rfl rfl mk_66 rfl rfl ?_
        refine ar_iload_n (j := 1) (q := 66) rfl rfl rfl rfl ?_
        refine ar_iald (v := I_10 71 j_6) (q := 67) rfl mk_71 (am_inE hi_8 hx_7 (by decide)) (am_clE hi_8 hx_7 (by decide)) rfl ?_
        exact ar_iret rfl rfl h
      · have c_9 := Classical.not_not.mp c_9
        have h := hA c_9
        clear hA hB
        refine ar_aload_n (j := 0) (q := 42) rfl rfl rfl rfl ?_
        refine ar_bipush (v := (-3 : Int32)) (q := 44) rfl rfl rfl ?_
        refine ar_invv (as := [.int (-3 : Int32)]) (rest := []) (b2 := (0, 0)) (b3 := (0, 0)) (q := 47) rfl rfl rfl rfl mk_0 rfl rfl rfl rfl rfl ?_
        refine ok_refuse (j := 3) (by omega) (by decide) (by decide) ?_
        show am_Run am_X0 (am_meth d) 13 R 47 [some (.ref 0), some (.int s)] [.int (-3 : Int32)] (am_mk (am_rf I 3) L, 0, 0)
        exact ar_iret rfl rfl h
  · have h := hB c_1
    clear hA hB
    show am_Run am_X0 (am_meth d) 13 R 8 [some (.ref 0), some (.int s)] [.int 0] (am_mk I L, 0, 0)
    refine ar_b0 am_c_ne (t := 17) (q := 11) rfl rfl rfl (fun c9 => absurd (by decide) c9) (fun _ => ?_)
    refine ar_aload_n (j := 0) (q := 12) rfl rfl rfl rfl ?_
    refine ar_iconst (v := (-1 : Int32)) (q := 13) rfl rfl rfl ?_
    refine ar_invv (as := [.int (-1 : Int32)]) (rest := []) (b2 := (0, 0)) (b3 := (0, 0)) (q := 16) rfl rfl rfl rfl mk_0 rfl rfl rfl rfl rfl ?_
    refine ok_refuse (j := 1) (by omega) (by decide) (by decide) ?_
    show am_Run am_X0 (am_meth d) 13 R 16 [some (.ref 0), some (.int s)] [.int (-1 : Int32)] (am_mk (am_rf I 1) L, 0, 0)
    exact ar_iret rfl rfl h
theorem r_H_unput_0 {d : Nat} (hd : 1 ≤ d) {R : am_R} {I : Nat → Nat → Int32} {L : Nat → Nat → Int64}  (h : R (some (.int (I 95 0))) (am_mk (va_up I 95 (upd (I 95) 0 0)) L, 0, 0)) : am_Run am_X0 (am_meth d) 26 R 0 [some (.ref 0), none] [] (am_mk I L, 0, 0) := by
  refine ar_aload_n (j := 0) (q := 1) rfl rfl rfl rfl ?_
  refine ar_getf (v := .ref 95) (q := 4) rfl rfl mk_0 rfl rfl ?_
  refine ar_getf (v := .int (I 95 0)) (q := 7) rfl rfl mk_95 rfl rfl ?_
  refine ar_istore_n (j := 1) (ls' := [some (.ref 0), some (.int (I 95 0))]) (q := 8) rfl rfl rfl rfl rfl ?_
  refine ar_aload_n (j := 0) (q := 9) rfl rfl rfl rfl ?_
  refine ar_getf (v := .ref 95) (q := 12) rfl rfl mk_0 rfl rfl ?_
  refine ar_invv (as := []) (rest := []) (b2 := (0, 0)) (b3 := (0, 0)) (q := 15) rfl rfl rfl rfl mk_95 rfl rfl rfl rfl rfl ?_
  refine ok_Ro_clear_row (by omega)  ?_
  show am_Run am_X0 (am_meth d) 26 R 15 [some (.ref 0), some (.int (I 95 0))] [] (am_mk (va_up I 95 (upd (I 95) 0 0)) L, 0, 0)
  refine ar_iload_n (j := 1) (q := 16) rfl rfl rfl rfl ?_
  exact ar_iret rfl rfl h
theorem r_H_wish_0 {d : Nat} (hd : 1 ≤ d) {R : am_R} {I : Nat → Nat → Int32} {L : Nat → Nat → Int64} {k : Int32} {l : Int32} {v : Int32} (h : ((0 ≤ k ∧ k < I 16 0 → (((0 ≤ l ∧ l < 5 → (((v < 0 → (R (some (.int (-4 : Int32))) (am_mk (am_rf I 4) L, 0, 0))) ∧ ((¬ v < 0 ∧ 99 < v) → (R (some (.int (-6 : Int32))) (am_mk (am_rf I 6) L, 0, 0))) ∧ ((¬ v < 0 ∧ ¬ 99 < v) → (∃ j_4 : Nat, j_4 < 20 ∧ k = nI j_4 ∧ (∃ j_7 : Nat, j_7 < 5 ∧ l = nI j_7 ∧ (∀ I_10 : Nat → Nat → Int32, I_10 = va_up I (22 + j_4) (upd (I (22 + j_4)) j_7 v) → (R (some (.int (I (22 + j_4) j_7))) (am_mk I_10 L, 0, 0))))))))) ∧ (¬ (0 ≤ l ∧ l < 5) → (R (some (.int (-1 : Int32))) (am_mk (am_rf I 1) L, 0, 0)))))) ∧ (¬ (0 ≤ k ∧ k < I 16 0) → (R (some (.int (-1 : Int32))) (am_mk (am_rf I 1) L, 0, 0))))) : am_Run am_X0 (am_meth d) 30 R 0 [some (.ref 0), some (.int k), some (.int l), some (.int v), none, none] [] (am_mk I L, 0, 0) := by
  refine ar_aload_n (j := 0) (q := 1) rfl rfl rfl rfl ?_
  refine ar_getf (v := .ref 16) (q := 4) rfl rfl mk_0 rfl rfl ?_
  refine ar_iload_n (j := 1) (q := 5) rfl rfl rfl rfl ?_
  refine ar_invv (as := [.int k]) (rest := []) (b2 := (0, 0)) (b3 := (0, 0)) (q := 8) rfl rfl rfl rfl mk_16 rfl rfl rfl rfl rfl ?_
  obtain ⟨hA, hB⟩ := h
  refine ok_Ke_has (by omega)  (fun c_1 => ?_) (fun c_1 => ?_)
  · have h := hA c_1
    clear hA hB
    show am_Run am_X0 (am_meth d) 30 R 8 [some (.ref 0), some (.int k), some (.int l), some (.int v), none, none] [.int 1] (am_mk I L, 0, 0)
    refine ar_b0 am_c_eq (t := 22) (q := 11) rfl rfl rfl (fun c9 => absurd c9 (by decide)) (fun _ => ?_)
    refine ar_aload_n (j := 0) (q := 12) rfl rfl rfl rfl ?_
    refine ar_getf (v := .ref 2) (q := 15) rfl rfl mk_0 rfl rfl ?_
    refine ar_iload_n (j := 2) (q := 16) rfl rfl rfl rfl ?_
    refine ar_invv (as := [.int l]) (rest := []) (b2 := (0, 0)) (b3 := (0, 0)) (q := 19) rfl rfl rfl rfl mk_2 rfl rfl rfl rfl rfl ?_
    obtain ⟨hA, hB⟩ := h
    refine ok_To_hasLand (by omega)  (fun c_2 => ?_) (fun c_2 => ?_)
    · have h := hA c_2
      clear hA hB
      show am_Run am_X0 (am_meth d) 30 R 19 [some (.ref 0), some (.int k), some (.int l), some (.int v), none, none] [.int 1] (am_mk I L, 0, 0)
      refine ar_b0 am_c_ne (t := 28) (q := 22) rfl rfl rfl (fun _ => ?_) (fun c9 => absurd (by decide) c9)
      refine ar_iload_n (j := 3) (q := 29) rfl rfl rfl rfl ?_
      refine ar_iconst (v := 0) (q := 30) rfl rfl rfl ?_
      refine ar_bipush (v := 99) (q := 32) rfl rfl rfl ?_
      refine ar_invs (as := [.int v, .int 0, .int 99]) (rest := []) (b2 := (0, 0)) (b3 := (0, 0)) (q := 35) rfl rfl rfl rfl rfl rfl rfl rfl rfl ?_
      obtain ⟨hC0, hC1, hC2⟩ := h
      refine ok_bound (by omega)  (fun c_3 => ?_) (fun c_3 => ?_) (fun c_3 => ?_)
      · have h := hC0 c_3
        clear hC0 hC1 hC2
        show am_Run am_X0 (am_meth d) 30 R 35 [some (.ref 0), some (.int k), some (.int l), some (.int v), none, none] [.int (-4 : Int32)] (am_mk I L, 0, 0)
        refine ar_istore (ls' := [some (.ref 0), some (.int k), some (.int l), some (.int v), some (.int (-4 : Int32)), none]) (q := 37) rfl rfl rfl rfl ?_
        refine ar_iload (q := 39) rfl rfl rfl ?_
        refine ar_b0 am_c_eq (t := 49) (q := 42) rfl rfl rfl (fun c9 => absurd c9 (by decide)) (fun _ => ?_)
        refine ar_aload_n (j := 0) (q := 43) rfl rfl rfl rfl ?_
        refine ar_iload (q := 45) rfl rfl rfl ?_
        refine ar_invv (as := [.int (-4 : Int32)]) (rest := []) (b2 := (0, 0)) (b3 := (0, 0)) (q := 48) rfl rfl rfl rfl mk_0 rfl rfl rfl rfl rfl ?_
        refine ok_refuse (j := 4) (by omega) (by decide) (by decide) ?_
        show am_Run am_X0 (am_meth d) 30 R 48 [some (.ref 0), some (.int k), some (.int l), some (.int v), some (.int (-4 : Int32)), none] [.int (-4 : Int32)] (am_mk (am_rf I 4) L, 0, 0)
        exact ar_iret rfl rfl h
      · have h := hC1 c_3
        clear hC0 hC1 hC2
        show am_Run am_X0 (am_meth d) 30 R 35 [some (.ref 0), some (.int k), some (.int l), some (.int v), none, none] [.int (-6 : Int32)] (am_mk I L, 0, 0)
        refine ar_istore (ls' := [some (.ref 0), some (.int k), some (.int l), some (.int v), some (.int (-6 : Int32)), none]) (q := 37) rfl rfl rfl rfl ?_
        refine ar_iload (q := 39) rfl rfl rfl ?_
        refine ar_b0 am_c_eq (t := 49) (q := 42) rfl rfl rfl (fun c9 => absurd c9 (by decide)) (fun _ => ?_)
        refine ar_aload_n (j := 0) (q := 43) rfl rfl rfl rfl ?_
        refine ar_iload (q := 45) rfl rfl rfl ?_
        refine ar_invv (as := [.int (-6 : Int32)]) (rest := []) (b2 := (0, 0)) (b3 := (0, 0)) (q := 48) rfl rfl rfl rfl mk_0 rfl rfl rfl rfl rfl ?_
        refine ok_refuse (j := 6) (by omega) (by decide) (by decide) ?_
        show am_Run am_X0 (am_meth d) 30 R 48 [some (.ref 0), some (.int k), some (.int l), some (.int v), some (.int (-6 : Int32)), none] [.int (-6 : Int32)] (am_mk (am_rf I 6) L, 0, 0)
        exact ar_iret rfl rfl h
      · have h := hC2 c_3
        clear hC0 hC1 hC2
        show am_Run am_X0 (am_meth d) 30 R 35 [some (.ref 0), some (.int k), some (.int l), some (.int v), none, none] [.int 0] (am_mk I L, 0, 0)
        refine ar_istore (ls' := [some (.ref 0), some (.int k), some (.int l), some (.int v), some (.int 0), none]) (q := 37) rfl rfl rfl rfl ?_
        refine ar_iload (q := 39) rfl rfl rfl ?_
        refine ar_b0 am_c_eq (t := 49) (q := 42) rfl rfl rfl (fun _ => ?_) (fun c9 => absurd (by decide) c9)
        refine ar_aload_n (j := 0) (q := 50) rfl rfl rfl rfl ?_
        refine ar_getf (v := .ref 16) (q := 53) rfl rfl mk_0 rfl rfl ?_
        refine ar_getf (v := .ref 21) (q := 56) rfl rfl mk_16 rfl rfl ?_
        refine ar_iload_n (j := 1) (q := 57) rfl rfl rfl rfl ?_
        obtain ⟨j_4, hx_5, hi_6, h⟩ := h
        refine ar_aald (c2 := 22 + j_4) (q := 58) rfl mk_21 (am_inE hi_6 hx_5 (by decide)) (congrArg (fun z => some (22 + z)) (am_clT hi_6 hx_5 (by decide))) rfl ?_
        refine ar_iload_n (j := 2) (q := 59) rfl rfl rfl rfl ?_
        obtain ⟨j_7, hx_8, hi_9, h⟩ := h
        refine ar_iald (v := I (22 + j_4) j_7) (q := 60) rfl (mk_g21 hx_5) (am_inE hi_9 hx_8 (by decide)) (am_clE hi_9 hx_8 (by decide)) rfl ?_
        refine ar_istore (ls' := [some (.ref 0), some (.int k), some (.int l), some (.int v), some (.int 0), some (.int (I (22 + j_4) j_7))]) (q := 62) rfl rfl rfl rfl ?_
        refine ar_aload_n (j := 0) (q := 63) rfl rfl rfl rfl ?_
        refine ar_getf (v := .ref 16) (q := 66) rfl rfl mk_0 rfl rfl ?_
        refine ar_getf (v := .ref 21) (q := 69) rfl rfl mk_16 rfl rfl ?_
        refine ar_iload_n (j := 1) (q := 70) rfl rfl rfl rfl ?_
        refine ar_aald (c2 := 22 + j_4) (q := 71) rfl mk_21 (am_inE hi_6 hx_5 (by decide)) (congrArg (fun z => some (22 + z)) (am_clT hi_6 hx_5 (by decide))) rfl ?_
        refine ar_iload_n (j := 2) (q := 72) rfl rfl rfl rfl ?_
        refine ar_iload_n (j := 3) (q := 73) rfl rfl rfl rfl ?_
        obtain ⟨I_10, hI_11⟩ : ∃ z : Nat → Nat → Int32, z = va_up I (22 + j_4) (upd (I (22 + j_4)) j_7 v) := ⟨_, rfl⟩
        have h := h I_10 hI_11
        refine ar_iast (hp2 := am_mk I_10 L) (q := 74) rfl (mk_g21 hx_5) (am_inE hi_9 hx_8 (by decide)) (by rw [am_clT hi_9 hx_8 (by decide), hI_11]; exact (mk_gs21 hx_5)) rfl ?_
        refine ar_iload (q := 76) rfl rfl rfl ?_
        exact ar_iret rfl rfl h
    · have h := hB c_2
      clear hA hB
      show am_Run am_X0 (am_meth d) 30 R 19 [some (.ref 0), some (.int k), some (.int l), some (.int v), none, none] [.int 0] (am_mk I L, 0, 0)
      refine ar_b0 am_c_ne (t := 28) (q := 22) rfl rfl rfl (fun c9 => absurd (by decide) c9) (fun _ => ?_)
      refine ar_aload_n (j := 0) (q := 23) rfl rfl rfl rfl ?_
      refine ar_iconst (v := (-1 : Int32)) (q := 24) rfl rfl rfl ?_
      refine ar_invv (as := [.int (-1 : Int32)]) (rest := []) (b2 := (0, 0)) (b3 := (0, 0)) (q := 27) rfl rfl rfl rfl mk_0 rfl rfl rfl rfl rfl ?_
      refine ok_refuse (j := 1) (by omega) (by decide) (by decide) ?_
      show am_Run am_X0 (am_meth d) 30 R 27 [some (.ref 0), some (.int k), some (.int l), some (.int v), none, none] [.int (-1 : Int32)] (am_mk (am_rf I 1) L, 0, 0)
      exact ar_iret rfl rfl h
  · have h := hB c_1
    clear hA hB
    show am_Run am_X0 (am_meth d) 30 R 8 [some (.ref 0), some (.int k), some (.int l), some (.int v), none, none] [.int 0] (am_mk I L, 0, 0)
    refine ar_b0 am_c_eq (t := 22) (q := 11) rfl rfl rfl (fun _ => ?_) (fun c9 => absurd (by decide) c9)
    refine ar_aload_n (j := 0) (q := 23) rfl rfl rfl rfl ?_
    refine ar_iconst (v := (-1 : Int32)) (q := 24) rfl rfl rfl ?_
    refine ar_invv (as := [.int (-1 : Int32)]) (rest := []) (b2 := (0, 0)) (b3 := (0, 0)) (q := 27) rfl rfl rfl rfl mk_0 rfl rfl rfl rfl rfl ?_
    refine ok_refuse (j := 1) (by omega) (by decide) (by decide) ?_
    show am_Run am_X0 (am_meth d) 30 R 27 [some (.ref 0), some (.int k), some (.int l), some (.int v), none, none] [.int (-1 : Int32)] (am_mk (am_rf I 1) L, 0, 0)
    exact ar_iret rfl rfl h
theorem r_H_look_0 {d : Nat} (hd : 1 ≤ d) {R : am_R} {I : Nat → Nat → Int32} {L : Nat → Nat → Int64} {a : Int32} {b : Int32} {v : Int32} (h : ((0 ≤ a ∧ a < I 42 0 → (((b < 0 → (R (some (.int (-4 : Int32))) (am_mk (am_rf I 4) L, 0, 0))) ∧ (¬ b < 0 → (((v < 0 → (R (some (.int (-4 : Int32))) (am_mk (am_rf I 4) L, 0, 0))) ∧ (¬ v < 0 → (((b < 31 → (((v ≤ 9 → (∃ j_6 : Nat, j_6 < 20 ∧ a = nI j_6 ∧ (∃ j_9 : Nat, j_9 < 31 ∧ b = nI j_9 ∧ (∀ I_12 : Nat → Nat → Int32, I_12 = va_up I (46 + j_6) (upd (I (46 + j_6)) j_9 v) → (R (some (.int (I (46 + j_6) j_9))) (am_mk I_12 L, 0, 0)))))) ∧ (¬ v ≤ 9 → (R (some (.int (-6 : Int32))) (am_mk (am_rf I 6) L, 0, 0)))))) ∧ (¬ b < 31 → (R (some (.int (-6 : Int32))) (am_mk (am_rf I 6) L, 0, 0)))))))))))) ∧ (¬ (0 ≤ a ∧ a < I 42 0) → (R (some (.int (-1 : Int32))) (am_mk (am_rf I 1) L, 0, 0))))) : am_Run am_X0 (am_meth d) 39 R 0 [some (.ref 0), some (.int a), some (.int b), some (.int v), none] [] (am_mk I L, 0, 0) := by
  refine ar_aload_n (j := 0) (q := 1) rfl rfl rfl rfl ?_
  refine ar_getf (v := .ref 42) (q := 4) rfl rfl mk_0 rfl rfl ?_
  refine ar_iload_n (j := 1) (q := 5) rfl rfl rfl rfl ?_
  refine ar_invv (as := [.int a]) (rest := []) (b2 := (0, 0)) (b3 := (0, 0)) (q := 8) rfl rfl rfl rfl mk_42 rfl rfl rfl rfl rfl ?_
  obtain ⟨hA, hB⟩ := h
  refine ok_Ho_has (by omega)  (fun c_1 => ?_) (fun c_1 => ?_)
  · have h := hA c_1
    clear hA hB
    show am_Run am_X0 (am_meth d) 39 R 8 [some (.ref 0), some (.int a), some (.int b), some (.int v), none] [.int 1] (am_mk I L, 0, 0)
    refine ar_b0 am_c_ne (t := 17) (q := 11) rfl rfl rfl (fun _ => ?_) (fun c9 => absurd (by decide) c9)
    refine ar_iload_n (j := 2) (q := 18) rfl rfl rfl rfl ?_
    obtain ⟨hA, hB⟩ := h
    refine ar_b0 am_c_lt (t := 25) (q := 21) rfl rfl rfl (fun c_2 => ?_) (fun c_2 => ?_)
    · have h := hA c_2
      clear hA hB
      refine ar_aload_n (j := 0) (q := 26) rfl rfl rfl rfl ?_
      refine ar_bipush (v := (-4 : Int32)) (q := 28) rfl rfl rfl ?_
      refine ar_invv (as := [.int (-4 : Int32)]) (rest := []) (b2 := (0, 0)) (b3 := (0, 0)) (q := 31) rfl rfl rfl rfl mk_0 rfl rfl rfl rfl rfl ?_
      refine ok_refuse (j := 4) (by omega) (by decide) (by decide) ?_
      show am_Run am_X0 (am_meth d) 39 R 31 [some (.ref 0), some (.int a), some (.int b), some (.int v), none] [.int (-4 : Int32)] (am_mk (am_rf I 4) L, 0, 0)
      exact ar_iret rfl rfl h
    · have h := hB c_2
      clear hA hB
      refine ar_iload_n (j := 3) (q := 22) rfl rfl rfl rfl ?_
      obtain ⟨hA, hB⟩ := h
      refine ar_b0 am_d_ge (t := 32) (q := 25) rfl rfl rfl (fun c_3 => ?_) (fun c_3 => ?_)
      · have h := hB c_3
        clear hA hB
        refine ar_iload_n (j := 2) (q := 33) rfl rfl rfl rfl ?_
        refine ar_bipush (v := 31) (q := 35) rfl rfl rfl ?_
        obtain ⟨hA, hB⟩ := h
        refine ar_br am_d_ge (t := 44) (q := 38) rfl rfl rfl (fun c_4 => ?_) (fun c_4 => ?_)
        · have h := hB c_4
          clear hA hB
          refine ar_aload_n (j := 0) (q := 45) rfl rfl rfl rfl ?_
          refine ar_bipush (v := (-6 : Int32)) (q := 47) rfl rfl rfl ?_
          refine ar_invv (as := [.int (-6 : Int32)]) (rest := []) (b2 := (0, 0)) (b3 := (0, 0)) (q := 50) rfl rfl rfl rfl mk_0 rfl rfl rfl rfl rfl ?_
          refine ok_refuse (j := 6) (by omega) (by decide) (by decide) ?_
          show am_Run am_X0 (am_meth d) 39 R 50 [some (.ref 0), some (.int a), some (.int b), some (.int v), none] [.int (-6 : Int32)] (am_mk (am_rf I 6) L, 0, 0)
          exact ar_iret rfl rfl h
        · have c_4 := Classical.not_not.mp c_4
          have h := hA c_4
          clear hA hB
          refine ar_iload_n (j := 3) (q := 39) rfl rfl rfl rfl ?_
          refine ar_bipush (v := 9) (q := 41) rfl rfl rfl ?_
          obtain ⟨hA, hB⟩ := h
          refine ar_br am_c_le (t := 51) (q := 44) rfl rfl rfl (fun c_5 => ?_) (fun c_5 => ?_)
          · have h := hA c_5
            clear hA hB
            refine ar_aload_n (j := 0) (q := 52) rfl rfl rfl rfl ?_
            refine ar_getf (v := .ref 42) (q := 55) rfl rfl mk_0 rfl rfl ?_
            refine ar_getf (v := .ref 45) (q := 58) rfl rfl mk_42 rfl rfl ?_
            refine ar_iload_n (j := 1) (q := 59) rfl rfl rfl rfl ?_
            obtain ⟨j_6, hx_7, hi_8, h⟩ := h
            refine ar_aald (c2 := 46 + j_6) (q := 60) rfl mk_45 (am_inE hi_8 hx_7 (by decide)) (congrArg (fun z => some (46 + z)) (am_clT hi_8 hx_7 (by decide))) rfl ?_
            refine ar_iload_n (j := 2) (q := 61) rfl rfl rfl rfl ?_
            obtain ⟨j_9, hx_10, hi_11, h⟩ := h
            refine ar_iald (v := I (46 + j_6) j_9) (q := 62) rfl (mk_g45 hx_7) (am_inE hi_11 hx_10 (by decide)) (am_clE hi_11 hx_10 (by decide)) rfl ?_
            refine ar_istore (ls' := [some (.ref 0), some (.int a), some (.int b), some (.int v), some (.int (I (46 + j_6) j_9))]) (q := 64) rfl rfl rfl rfl ?_
            refine ar_aload_n (j := 0) (q := 65) rfl rfl rfl rfl ?_
            refine ar_getf (v := .ref 42) (q := 68) rfl rfl mk_0 rfl rfl ?_
            refine ar_getf (v := .ref 45) (q := 71) rfl rfl mk_42 rfl rfl ?_
            refine ar_iload_n (j := 1) (q := 72) rfl rfl rfl rfl ?_
            refine ar_aald (c2 := 46 + j_6) (q := 73) rfl mk_45 (am_inE hi_8 hx_7 (by decide)) (congrArg (fun z => some (46 + z)) (am_clT hi_8 hx_7 (by decide))) rfl ?_
            refine ar_iload_n (j := 2) (q := 74) rfl rfl rfl rfl ?_
            refine ar_iload_n (j := 3) (q := 75) rfl rfl rfl rfl ?_
            obtain ⟨I_12, hI_13⟩ : ∃ z : Nat → Nat → Int32, z = va_up I (46 + j_6) (upd (I (46 + j_6)) j_9 v) := ⟨_, rfl⟩
            have h := h I_12 hI_13
            refine ar_iast (hp2 := am_mk I_12 L) (q := 76) rfl (mk_g45 hx_7) (am_inE hi_11 hx_10 (by decide)) (by rw [am_clT hi_11 hx_10 (by decide), hI_13]; exact (mk_gs45 hx_7)) rfl ?_
            refine ar_iload (q := 78) rfl rfl rfl ?_
            exact ar_iret rfl rfl h
          · have h := hB c_5
            clear hA hB
            refine ar_aload_n (j := 0) (q := 45) rfl rfl rfl rfl ?_
            refine ar_bipush (v := (-6 : Int32)) (q := 47) rfl rfl rfl ?_
            refine ar_invv (as := [.int (-6 : Int32)]) (rest := []) (b2 := (0, 0)) (b3 := (0, 0)) (q := 50) rfl rfl rfl rfl mk_0 rfl rfl rfl rfl rfl ?_
            refine ok_refuse (j := 6) (by omega) (by decide) (by decide) ?_
            show am_Run am_X0 (am_meth d) 39 R 50 [some (.ref 0), some (.int a), some (.int b), some (.int v), none] [.int (-6 : Int32)] (am_mk (am_rf I 6) L, 0, 0)
            exact ar_iret rfl rfl h
      · have c_3 := Classical.not_not.mp c_3
        have h := hA c_3
        clear hA hB
        refine ar_aload_n (j := 0) (q := 26) rfl rfl rfl rfl ?_
        refine ar_bipush (v := (-4 : Int32)) (q := 28) rfl rfl rfl ?_
        refine ar_invv (as := [.int (-4 : Int32)]) (rest := []) (b2 := (0, 0)) (b3 := (0, 0)) (q := 31) rfl rfl rfl rfl mk_0 rfl rfl rfl rfl rfl ?_
        refine ok_refuse (j := 4) (by omega) (by decide) (by decide) ?_
        show am_Run am_X0 (am_meth d) 39 R 31 [some (.ref 0), some (.int a), some (.int b), some (.int v), none] [.int (-4 : Int32)] (am_mk (am_rf I 4) L, 0, 0)
        exact ar_iret rfl rfl h
  · have h := hB c_1
    clear hA hB
    show am_Run am_X0 (am_meth d) 39 R 8 [some (.ref 0), some (.int a), some (.int b), some (.int v), none] [.int 0] (am_mk I L, 0, 0)
    refine ar_b0 am_c_ne (t := 17) (q := 11) rfl rfl rfl (fun c9 => absurd (by decide) c9) (fun _ => ?_)
    refine ar_aload_n (j := 0) (q := 12) rfl rfl rfl rfl ?_
    refine ar_iconst (v := (-1 : Int32)) (q := 13) rfl rfl rfl ?_
    refine ar_invv (as := [.int (-1 : Int32)]) (rest := []) (b2 := (0, 0)) (b3 := (0, 0)) (q := 16) rfl rfl rfl rfl mk_0 rfl rfl rfl rfl rfl ?_
    refine ok_refuse (j := 1) (by omega) (by decide) (by decide) ?_
    show am_Run am_X0 (am_meth d) 39 R 16 [some (.ref 0), some (.int a), some (.int b), some (.int v), none] [.int (-1 : Int32)] (am_mk (am_rf I 1) L, 0, 0)
    exact ar_iret rfl rfl h
theorem r_H_gone_0 {d : Nat} (hd : 1 ≤ d) {R : am_R} {I : Nat → Nat → Int32} {L : Nat → Nat → Int64} {s : Int32} (h : ((0 ≤ s ∧ s < I 66 1 → (∃ j_2 : Nat, s = nI j_2 ∧ ((j_2 < 60) ∧ (((¬ I 72 j_2 = -1 ∧ ¬ I 73 j_2 = -1 → (∃ j_6 : Nat, s = nI j_6 ∧ ((j_6 < 60) ∧ (R (some (.int (I 72 j_6 &&& (I 73 j_6 ^^^ -1)))) (am_mk I L, 0, 0))))) ∧ (¬ (¬ I 72 j_2 = -1 ∧ ¬ I 73 j_2 = -1) → (R (some (.int (-9 : Int32))) (am_mk I L, 0, 0)))))))) ∧ (¬ (0 ≤ s ∧ s < I 66 1) → (R (some (.int (-1 : Int32))) (am_mk (am_rf I 1) L, 0, 0))))) : am_Run am_X0 (am_meth d) 40 R 0 [some (.ref 0), some (.int s)] [] (am_mk I L, 0, 0) := by
  refine ar_aload_n (j := 0) (q := 1) rfl rfl rfl rfl ?_
  refine ar_getf (v := .ref 66) (q := 4) rfl rfl mk_0 rfl rfl ?_
  refine ar_iload_n (j := 1) (q := 5) rfl rfl rfl rfl ?_
  refine ar_invv (as := [.int s]) (rest := []) (b2 := (0, 0)) (b3 := (0, 0)) (q := 8) rfl rfl rfl rfl mk_66 rfl rfl rfl rfl rfl ?_
  obtain ⟨hA, hB⟩ := h
  refine ok_St_has (by omega)  (fun c_1 => ?_) (fun c_1 => ?_)
  · have h := hA c_1
    clear hA hB
    show am_Run am_X0 (am_meth d) 40 R 8 [some (.ref 0), some (.int s)] [.int 1] (am_mk I L, 0, 0)
    refine ar_b0 am_c_ne (t := 17) (q := 11) rfl rfl rfl (fun _ => ?_) (fun c9 => absurd (by decide) c9)
    refine ar_aload_n (j := 0) (q := 18) rfl rfl rfl rfl ?_
    refine ar_getf (v := .ref 66) (q := 21) rfl rfl mk_0 rfl rfl ?_
    refine ar_iload_n (j := 1) (q := 22) rfl rfl rfl rfl ?_
    refine ar_invv (as := [.int s]) (rest := []) (b2 := (0, 0)) (b3 := (0, 0)) (q := 25) rfl rfl rfl rfl mk_66 rfl rfl rfl rfl rfl ?_
    obtain ⟨j_2, hi_3, h⟩ := h
    obtain ⟨hp_5, h⟩ := h
    obtain ⟨hA, hB⟩ := h
    refine ok_St_hasBothLists (by omega) hi_3 hp_5 (fun c_4 => ?_) (fun c_4 => ?_)
    · have h := hA c_4
      clear hA hB
      show am_Run am_X0 (am_meth d) 40 R 25 [some (.ref 0), some (.int s)] [.int 1] (am_mk I L, 0, 0)
      refine ar_b0 am_c_eq (t := 39) (q := 28) rfl rfl rfl (fun c9 => absurd c9 (by decide)) (fun _ => ?_)
      refine ar_aload_n (j := 0) (q := 29) rfl rfl rfl rfl ?_
      refine ar_getf (v := .ref 66) (q := 32) rfl rfl mk_0 rfl rfl ?_
      refine ar_iload_n (j := 1) (q := 33) rfl rfl rfl rfl ?_
      refine ar_invv (as := [.int s]) (rest := []) (b2 := (0, 0)) (b3 := (0, 0)) (q := 36) rfl rfl rfl rfl mk_66 rfl rfl rfl rfl rfl ?_
      obtain ⟨j_6, hi_7, h⟩ := h
      obtain ⟨hp_8, h⟩ := h
      refine ok_St_itemsGone (by omega) hi_7 hp_8 ?_
      show am_Run am_X0 (am_meth d) 40 R 36 [some (.ref 0), some (.int s)] [.int (I 72 j_6 &&& (I 73 j_6 ^^^ -1))] (am_mk I L, 0, 0)
      refine ar_goto (t := 41) rfl rfl ?_
      exact ar_iret rfl rfl h
    · have h := hB c_4
      clear hA hB
      show am_Run am_X0 (am_meth d) 40 R 25 [some (.ref 0), some (.int s)] [.int 0] (am_mk I L, 0, 0)
      refine ar_b0 am_c_eq (t := 39) (q := 28) rfl rfl rfl (fun _ => ?_) (fun c9 => absurd (by decide) c9)
      refine ar_bipush (v := (-9 : Int32)) (q := 41) rfl rfl rfl ?_
      exact ar_iret rfl rfl h
  · have h := hB c_1
    clear hA hB
    show am_Run am_X0 (am_meth d) 40 R 8 [some (.ref 0), some (.int s)] [.int 0] (am_mk I L, 0, 0)
    refine ar_b0 am_c_ne (t := 17) (q := 11) rfl rfl rfl (fun c9 => absurd (by decide) c9) (fun _ => ?_)
    refine ar_aload_n (j := 0) (q := 12) rfl rfl rfl rfl ?_
    refine ar_iconst (v := (-1 : Int32)) (q := 13) rfl rfl rfl ?_
    refine ar_invv (as := [.int (-1 : Int32)]) (rest := []) (b2 := (0, 0)) (b3 := (0, 0)) (q := 16) rfl rfl rfl rfl mk_0 rfl rfl rfl rfl rfl ?_
    refine ok_refuse (j := 1) (by omega) (by decide) (by decide) ?_
    show am_Run am_X0 (am_meth d) 40 R 16 [some (.ref 0), some (.int s)] [.int (-1 : Int32)] (am_mk (am_rf I 1) L, 0, 0)
    exact ar_iret rfl rfl h
theorem r_H_list_0 {d : Nat} (hd : 1 ≤ d) {R : am_R} {I : Nat → Nat → Int32} {L : Nat → Nat → Int64} {s : Int32} {a : Int32} {x : Int32} (h : ((0 ≤ s ∧ s < I 66 1 → (((a = 0 → (∃ j_3 : Nat, j_3 < 60 ∧ s = nI j_3 ∧ ((((I 66 0) ≤ (I 68 j_3) → ((((I 70 j_3) = 1 → (((x < 0 → (R (some (.int (-4 : Int32))) (am_mk (am_rf I 4) L, 0, 0))) ∧ (¬ x < 0 → ((((I 72 j_3) = (-1 : Int32) → (∀ I_10 : Nat → Nat → Int32, I_10 = va_up I 72 (upd (I 72) j_3 x) → (R (some (.int 1)) (am_mk I_10 L, 0, 0)))) ∧ (¬ (I 72 j_3) = (-1 : Int32) → (∀ I_12 : Nat → Nat → Int32, I_12 = va_up I 72 (upd (I 72) j_3 x) → (R (some (.int 0)) (am_mk I_12 L, 0, 0)))))))))) ∧ (¬ (I 70 j_3) = 1 → (R (some (.int (-3 : Int32))) (am_mk (am_rf I 3) L, 0, 0)))))) ∧ (¬ (I 66 0) ≤ (I 68 j_3) → ((((I 70 j_3) = 1 → (R (some (.int (-3 : Int32))) (am_mk (am_rf I 3) L, 0, 0))) ∧ (¬ (I 70 j_3) = 1 → (R (some (.int (-3 : Int32))) (am_mk (am_rf I 3) L, 0, 0)))))))))) ∧ (¬ a = 0 → (∃ j_15 : Nat, s = nI j_15 ∧ ((j_15 < 60) ∧ (((I 69 j_15 < I 66 0 → (∃ j_19 : Nat, j_19 < 60 ∧ s = nI j_19 ∧ ((((I 70 j_19) = 1 → (((x < 0 → (R (some (.int (-4 : Int32))) (am_mk (am_rf I 4) L, 0, 0))) ∧ (¬ x < 0 → ((((I 73 j_19) = (-1 : Int32) → (∀ I_25 : Nat → Nat → Int32, I_25 = va_up I 73 (upd (I 73) j_19 x) → (R (some (.int 1)) (am_mk I_25 L, 0, 0)))) ∧ (¬ (I 73 j_19) = (-1 : Int32) → (∀ I_27 : Nat → Nat → Int32, I_27 = va_up I 73 (upd (I 73) j_19 x) → (R (some (.int 0)) (am_mk I_27 L, 0, 0)))))))))) ∧ (¬ (I 70 j_19) = 1 → (R (some (.int (-3 : Int32))) (am_mk (am_rf I 3) L, 0, 0))))))) ∧ (¬ (I 69 j_15 < I 66 0) → (∃ j_29 : Nat, j_29 < 60 ∧ s = nI j_29 ∧ ((((I 70 j_29) = 1 → (R (some (.int (-3 : Int32))) (am_mk (am_rf I 3) L, 0, 0))) ∧ (¬ (I 70 j_29) = 1 → (R (some (.int (-3 : Int32))) (am_mk (am_rf I 3) L, 0, 0))))))))))))))) ∧ (¬ (0 ≤ s ∧ s < I 66 1) → (R (some (.int (-1 : Int32))) (am_mk (am_rf I 1) L, 0, 0))))) : am_Run am_X0 (am_meth d) 38 R 0 [some (.ref 0), some (.int s), some (.int a), some (.int x), none, none, none] [] (am_mk I L, 0, 0) := by
  refine ar_aload_n (j := 0) (q := 1) rfl rfl rfl rfl ?_
  refine ar_getf (v := .ref 66) (q := 4) rfl rfl mk_0 rfl rfl ?_
  refine ar_iload_n (j := 1) (q := 5) rfl rfl rfl rfl ?_
  refine ar_invv (as := [.int s]) (rest := []) (b2 := (0, 0)) (b3 := (0, 0)) (q := 8) rfl rfl rfl rfl mk_66 rfl rfl rfl rfl rfl ?_
  obtain ⟨hA, hB⟩ := h
  refine ok_St_has (by omega)  (fun c_1 => ?_) (fun c_1 => ?_)
  · have h := hA c_1
    clear hA hB
    show am_Run am_X0 (am_meth d) 38 R 8 [some (.ref 0), some (.int s), some (.int a), some (.int x), none, none, none] [.int 1] (am_mk I L, 0, 0)
    refine ar_b0 am_c_ne (t := 17) (q := 11) rfl rfl rfl (fun _ => ?_) (fun c9 => absurd (by decide) c9)
    refine ar_iload_n (j := 2) (q := 18) rfl rfl rfl rfl ?_
    obtain ⟨hA, hB⟩ := h
    refine ar_b0 am_c_eq (t := 32) (q := 21) rfl rfl rfl (fun c_2 => ?_) (fun c_2 => ?_)
    · have h := hA c_2
      clear hA hB
      refine ar_aload_n (j := 0) (q := 33) rfl rfl rfl rfl ?_
      refine ar_getf (v := .ref 66) (q := 36) rfl rfl mk_0 rfl rfl ?_
      refine ar_getf (v := .int (I 66 0)) (q := 39) rfl rfl mk_66 rfl rfl ?_
      refine ar_aload_n (j := 0) (q := 40) rfl rfl rfl rfl ?_
      refine ar_getf (v := .ref 66) (q := 43) rfl rfl mk_0 rfl rfl ?_
      refine ar_getf (v := .ref 68) (q := 46) rfl rfl mk_66 rfl rfl ?_
      refine ar_iload_n (j := 1) (q := 47) rfl rfl rfl rfl ?_
      obtain ⟨j_3, hx_4, hi_5, h⟩ := h
      refine ar_iald (v := I 68 j_3) (q := 48) rfl mk_68 (am_inE hi_5 hx_4 (by decide)) (am_clE hi_5 hx_4 (by decide)) rfl ?_
      obtain ⟨hA, hB⟩ := h
      refine ar_br am_d_gt (t := 55) (q := 51) rfl rfl rfl (fun c_6 => ?_) (fun c_6 => ?_)
      · have h := hB c_6
        clear hA hB
        refine ar_iconst (v := 0) (q := 56) rfl rfl rfl ?_
        refine ar_istore (ls' := [some (.ref 0), some (.int s), some (.int a), some (.int x), some (.int 0), none, none]) (q := 58) rfl rfl rfl rfl ?_
        refine ar_aload_n (j := 0) (q := 59) rfl rfl rfl rfl ?_
        refine ar_getf (v := .ref 66) (q := 62) rfl rfl mk_0 rfl rfl ?_
        refine ar_getf (v := .ref 70) (q := 65) rfl rfl mk_66 rfl rfl ?_
        refine ar_iload_n (j := 1) (q := 66) rfl rfl rfl rfl ?_
        refine ar_iald (v := I 70 j_3) (q := 67) rfl mk_70 (am_inE hi_5 hx_4 (by decide)) (am_clE hi_5 hx_4 (by decide)) rfl ?_
        refine ar_iconst (v := 1) (q := 68) rfl rfl rfl ?_
        obtain ⟨hA, hB⟩ := h
        refine ar_br am_c_ne (t := 76) (q := 71) rfl rfl rfl (fun c_14 => ?_) (fun c_14 => ?_)
        · have h := hB c_14
          clear hA hB
          refine ar_aload_n (j := 0) (q := 77) rfl rfl rfl rfl ?_
          refine ar_bipush (v := (-3 : Int32)) (q := 79) rfl rfl rfl ?_
          refine ar_invv (as := [.int (-3 : Int32)]) (rest := []) (b2 := (0, 0)) (b3 := (0, 0)) (q := 82) rfl rfl rfl rfl mk_0 rfl rfl rfl rfl rfl ?_
          refine ok_refuse (j := 3) (by omega) (by decide) (by decide) ?_
          show am_Run am_X0 (am_meth d) 38 R 82 [some (.ref 0), some (.int s), some (.int a), some (.int x), some (.int 0), none, none] [.int (-3 : Int32)] (am_mk (am_rf I 3) L, 0, 0)
          exact ar_iret rfl rfl h
        · have c_14 := Classical.not_not.mp c_14
          have h := hA c_14
          clear hA hB
          refine ar_iload (q := 73) rfl rfl rfl ?_
          refine ar_b0 am_c_ne (t := 83) (q := 76) rfl rfl rfl (fun c9 => absurd (by decide) c9) (fun _ => ?_)
          refine ar_aload_n (j := 0) (q := 77) rfl rfl rfl rfl ?_
          refine ar_bipush (v := (-3 : Int32)) (q := 79) rfl rfl rfl ?_
          refine ar_invv (as := [.int (-3 : Int32)]) (rest := []) (b2 := (0, 0)) (b3 := (0, 0)) (q := 82) rfl rfl rfl rfl mk_0 rfl rfl rfl rfl rfl ?_
          refine ok_refuse (j := 3) (by omega) (by decide) (by decide) ?_
          show am_Run am_X0 (am_meth d) 38 R 82 [some (.ref 0), some (.int s), some (.int a), some (.int x), some (.int 0), none, none] [.int (-3 : Int32)] (am_mk (am_rf I 3) L, 0, 0)
          exact ar_iret rfl rfl h
      · have c_6 := Classical.not_not.mp c_6
        have h := hA c_6
        clear hA hB
        refine ar_iconst (v := 1) (q := 52) rfl rfl rfl ?_
        refine ar_goto (t := 56) rfl rfl ?_
        refine ar_istore (ls' := [some (.ref 0), some (.int s), some (.int a), some (.int x), some (.int 1), none, none]) (q := 58) rfl rfl rfl rfl ?_
        refine ar_aload_n (j := 0) (q := 59) rfl rfl rfl rfl ?_
        refine ar_getf (v := .ref 66) (q := 62) rfl rfl mk_0 rfl rfl ?_
        refine ar_getf (v := .ref 70) (q := 65) rfl rfl mk_66 rfl rfl ?_
        refine ar_iload_n (j := 1) (q := 66) rfl rfl rfl rfl ?_
        refine ar_iald (v := I 70 j_3) (q := 67) rfl mk_70 (am_inE hi_5 hx_4 (by decide)) (am_clE hi_5 hx_4 (by decide)) rfl ?_
        refine ar_iconst (v := 1) (q := 68) rfl rfl rfl ?_
        obtain ⟨hA, hB⟩ := h
        refine ar_br am_c_ne (t := 76) (q := 71) rfl rfl rfl (fun c_7 => ?_) (fun c_7 => ?_)
        · have h := hB c_7
          clear hA hB
          refine ar_aload_n (j := 0) (q := 77) rfl rfl rfl rfl ?_
          refine ar_bipush (v := (-3 : Int32)) (q := 79) rfl rfl rfl ?_
          refine ar_invv (as := [.int (-3 : Int32)]) (rest := []) (b2 := (0, 0)) (b3 := (0, 0)) (q := 82) rfl rfl rfl rfl mk_0 rfl rfl rfl rfl rfl ?_
          refine ok_refuse (j := 3) (by omega) (by decide) (by decide) ?_
          show am_Run am_X0 (am_meth d) 38 R 82 [some (.ref 0), some (.int s), some (.int a), some (.int x), some (.int 1), none, none] [.int (-3 : Int32)] (am_mk (am_rf I 3) L, 0, 0)
          exact ar_iret rfl rfl h
        · have c_7 := Classical.not_not.mp c_7
          have h := hA c_7
          clear hA hB
          refine ar_iload (q := 73) rfl rfl rfl ?_
          refine ar_b0 am_c_ne (t := 83) (q := 76) rfl rfl rfl (fun _ => ?_) (fun c9 => absurd (by decide) c9)
          refine ar_iload_n (j := 3) (q := 84) rfl rfl rfl rfl ?_
          obtain ⟨hA, hB⟩ := h
          refine ar_b0 am_d_ge (t := 94) (q := 87) rfl rfl rfl (fun c_8 => ?_) (fun c_8 => ?_)
          · have h := hB c_8
            clear hA hB
            refine ar_iload_n (j := 2) (q := 95) rfl rfl rfl rfl ?_
            refine ar_b0 am_c_eq (t := 108) (q := 98) rfl rfl rfl (fun _ => ?_) (fun c9 => absurd c_2 c9)
            refine ar_aload_n (j := 0) (q := 109) rfl rfl rfl rfl ?_
            refine ar_getf (v := .ref 66) (q := 112) rfl rfl mk_0 rfl rfl ?_
            refine ar_getf (v := .ref 72) (q := 115) rfl rfl mk_66 rfl rfl ?_
            refine ar_astore (ls' := [some (.ref 0), some (.int s), some (.int a), some (.int x), some (.int 1), some (.ref 72), none]) (q := 117) rfl rfl rfl rfl ?_
            refine ar_aload (q := 119) rfl rfl rfl ?_
            refine ar_iload_n (j := 1) (q := 120) rfl rfl rfl rfl ?_
            refine ar_iald (v := I 72 j_3) (q := 121) rfl mk_72 (am_inE hi_5 hx_4 (by decide)) (am_clE hi_5 hx_4 (by decide)) rfl ?_
            refine ar_iconst (v := (-1 : Int32)) (q := 122) rfl rfl rfl ?_
            obtain ⟨hA, hB⟩ := h
            refine ar_br am_c_ne (t := 129) (q := 125) rfl rfl rfl (fun c_9 => ?_) (fun c_9 => ?_)
            · have h := hB c_9
              clear hA hB
              refine ar_iconst (v := 0) (q := 130) rfl rfl rfl ?_
              refine ar_istore (ls' := [some (.ref 0), some (.int s), some (.int a), some (.int x), some (.int 1), some (.ref 72), some (.int 0)]) (q := 132) rfl rfl rfl rfl ?_
              refine ar_aload (q := 134) rfl rfl rfl ?_
              refine ar_iload_n (j := 1) (q := 135) rfl rfl rfl rfl ?_
              refine ar_iload_n (j := 3) (q := 136) rfl rfl rfl rfl ?_
              obtain ⟨I_12, hI_13⟩ : ∃ z : Nat → Nat → Int32, z = va_up I 72 (upd (I 72) j_3 x) := ⟨_, rfl⟩
              have h := h I_12 hI_13
              refine ar_iast (hp2 := am_mk I_12 L) (q := 137) rfl mk_72 (am_inE hi_5 hx_4 (by decide)) (by rw [am_clT hi_5 hx_4 (by decide), hI_13]; exact mk_s72) rfl ?_
              refine ar_iload (q := 139) rfl rfl rfl ?_
              exact ar_iret rfl rfl h
            · have c_9 := Classical.not_not.mp c_9
              have h := hA c_9
              clear hA hB
              refine ar_iconst (v := 1) (q := 126) rfl rfl rfl ?_
              refine ar_goto (t := 130) rfl rfl ?_
              refine ar_istore (ls' := [some (.ref 0), some (.int s), some (.int a), some (.int x), some (.int 1), some (.ref 72), some (.int 1)]) (q := 132) rfl rfl rfl rfl ?_
              refine ar_aload (q := 134) rfl rfl rfl ?_
              refine ar_iload_n (j := 1) (q := 135) rfl rfl rfl rfl ?_
              refine ar_iload_n (j := 3) (q := 136) rfl rfl rfl rfl ?_
              obtain ⟨I_10, hI_11⟩ : ∃ z : Nat → Nat → Int32, z = va_up I 72 (upd (I 72) j_3 x) := ⟨_, rfl⟩
              have h := h I_10 hI_11
              refine ar_iast (hp2 := am_mk I_10 L) (q := 137) rfl mk_72 (am_inE hi_5 hx_4 (by decide)) (by rw [am_clT hi_5 hx_4 (by decide), hI_11]; exact mk_s72) rfl ?_
              refine ar_iload (q := 139) rfl rfl rfl ?_
              exact ar_iret rfl rfl h
          · have c_8 := Classical.not_not.mp c_8
            have h := hA c_8
            clear hA hB
            refine ar_aload_n (j := 0) (q := 88) rfl rfl rfl rfl ?_
            refine ar_bipush (v := (-4 : Int32)) (q := 90) rfl rfl rfl ?_
            refine ar_invv (as := [.int (-4 : Int32)]) (rest := []) (b2 := (0, 0)) (b3 := (0, 0)) (q := 93) rfl rfl rfl rfl mk_0 rfl rfl rfl rfl rfl ?_
            refine ok_refuse (j := 4) (by omega) (by decide) (by decide) ?_
            show am_Run am_X0 (am_meth d) 38 R 93 [some (.ref 0), some (.int s), some (.int a), some (.int x), some (.int 1), none, none] [.int (-4 : Int32)] (am_mk (am_rf I 4) L, 0, 0)
            exact ar_iret rfl rfl h
    · have h := hB c_2
      clear hA hB
      refine ar_aload_n (j := 0) (q := 22) rfl rfl rfl rfl ?_
      refine ar_getf (v := .ref 66) (q := 25) rfl rfl mk_0 rfl rfl ?_
      refine ar_iload_n (j := 1) (q := 26) rfl rfl rfl rfl ?_
      refine ar_invv (as := [.int s]) (rest := []) (b2 := (0, 0)) (b3 := (0, 0)) (q := 29) rfl rfl rfl rfl mk_66 rfl rfl rfl rfl rfl ?_
      obtain ⟨j_15, hi_16, h⟩ := h
      obtain ⟨hp_18, h⟩ := h
      obtain ⟨hA, hB⟩ := h
      refine ok_St_isOver (by omega) hi_16 hp_18 (fun c_17 => ?_) (fun c_17 => ?_)
      · have h := hA c_17
        clear hA hB
        show am_Run am_X0 (am_meth d) 38 R 29 [some (.ref 0), some (.int s), some (.int a), some (.int x), none, none, none] [.int 1] (am_mk I L, 0, 0)
        refine ar_goto (t := 56) rfl rfl ?_
        refine ar_istore (ls' := [some (.ref 0), some (.int s), some (.int a), some (.int x), some (.int 1), none, none]) (q := 58) rfl rfl rfl rfl ?_
        refine ar_aload_n (j := 0) (q := 59) rfl rfl rfl rfl ?_
        refine ar_getf (v := .ref 66) (q := 62) rfl rfl mk_0 rfl rfl ?_
        refine ar_getf (v := .ref 70) (q := 65) rfl rfl mk_66 rfl rfl ?_
        refine ar_iload_n (j := 1) (q := 66) rfl rfl rfl rfl ?_
        obtain ⟨j_19, hx_20, hi_21, h⟩ := h
        refine ar_iald (v := I 70 j_19) (q := 67) rfl mk_70 (am_inE hi_21 hx_20 (by decide)) (am_clE hi_21 hx_20 (by decide)) rfl ?_
        refine ar_iconst (v := 1) (q := 68) rfl rfl rfl ?_
        obtain ⟨hA, hB⟩ := h
        refine ar_br am_c_ne (t := 76) (q := 71) rfl rfl rfl (fun c_22 => ?_) (fun c_22 => ?_)
        · have h := hB c_22
          clear hA hB
          refine ar_aload_n (j := 0) (q := 77) rfl rfl rfl rfl ?_
          refine ar_bipush (v := (-3 : Int32)) (q := 79) rfl rfl rfl ?_
          refine ar_invv (as := [.int (-3 : Int32)]) (rest := []) (b2 := (0, 0)) (b3 := (0, 0)) (q := 82) rfl rfl rfl rfl mk_0 rfl rfl rfl rfl rfl ?_
          refine ok_refuse (j := 3) (by omega) (by decide) (by decide) ?_
          show am_Run am_X0 (am_meth d) 38 R 82 [some (.ref 0), some (.int s), some (.int a), some (.int x), some (.int 1), none, none] [.int (-3 : Int32)] (am_mk (am_rf I 3) L, 0, 0)
          exact ar_iret rfl rfl h
        · have c_22 := Classical.not_not.mp c_22
          have h := hA c_22
          clear hA hB
          refine ar_iload (q := 73) rfl rfl rfl ?_
          refine ar_b0 am_c_ne (t := 83) (q := 76) rfl rfl rfl (fun _ => ?_) (fun c9 => absurd (by decide) c9)
          refine ar_iload_n (j := 3) (q := 84) rfl rfl rfl rfl ?_
          obtain ⟨hA, hB⟩ := h
          refine ar_b0 am_d_ge (t := 94) (q := 87) rfl rfl rfl (fun c_23 => ?_) (fun c_23 => ?_)
          · have h := hB c_23
            clear hA hB
            refine ar_iload_n (j := 2) (q := 95) rfl rfl rfl rfl ?_
            refine ar_b0 am_c_eq (t := 108) (q := 98) rfl rfl rfl (fun c9 => absurd c9 c_2) (fun _ => ?_)
            refine ar_aload_n (j := 0) (q := 99) rfl rfl rfl rfl ?_
            refine ar_getf (v := .ref 66) (q := 102) rfl rfl mk_0 rfl rfl ?_
            refine ar_getf (v := .ref 73) (q := 105) rfl rfl mk_66 rfl rfl ?_
            refine ar_goto (t := 115) rfl rfl ?_
            refine ar_astore (ls' := [some (.ref 0), some (.int s), some (.int a), some (.int x), some (.int 1), some (.ref 73), none]) (q := 117) rfl rfl rfl rfl ?_
            refine ar_aload (q := 119) rfl rfl rfl ?_
            refine ar_iload_n (j := 1) (q := 120) rfl rfl rfl rfl ?_
            refine ar_iald (v := I 73 j_19) (q := 121) rfl mk_73 (am_inE hi_21 hx_20 (by decide)) (am_clE hi_21 hx_20 (by decide)) rfl ?_
            refine ar_iconst (v := (-1 : Int32)) (q := 122) rfl rfl rfl ?_
            obtain ⟨hA, hB⟩ := h
            refine ar_br am_c_ne (t := 129) (q := 125) rfl rfl rfl (fun c_24 => ?_) (fun c_24 => ?_)
            · have h := hB c_24
              clear hA hB
              refine ar_iconst (v := 0) (q := 130) rfl rfl rfl ?_
              refine ar_istore (ls' := [some (.ref 0), some (.int s), some (.int a), some (.int x), some (.int 1), some (.ref 73), some (.int 0)]) (q := 132) rfl rfl rfl rfl ?_
              refine ar_aload (q := 134) rfl rfl rfl ?_
              refine ar_iload_n (j := 1) (q := 135) rfl rfl rfl rfl ?_
              refine ar_iload_n (j := 3) (q := 136) rfl rfl rfl rfl ?_
              obtain ⟨I_27, hI_28⟩ : ∃ z : Nat → Nat → Int32, z = va_up I 73 (upd (I 73) j_19 x) := ⟨_, rfl⟩
              have h := h I_27 hI_28
              refine ar_iast (hp2 := am_mk I_27 L) (q := 137) rfl mk_73 (am_inE hi_21 hx_20 (by decide)) (by rw [am_clT hi_21 hx_20 (by decide), hI_28]; exact mk_s73) rfl ?_
              refine ar_iload (q := 139) rfl rfl rfl ?_
              exact ar_iret rfl rfl h
            · have c_24 := Classical.not_not.mp c_24
              have h := hA c_24
              clear hA hB
              refine ar_iconst (v := 1) (q := 126) rfl rfl rfl ?_
              refine ar_goto (t := 130) rfl rfl ?_
              refine ar_istore (ls' := [some (.ref 0), some (.int s), some (.int a), some (.int x), some (.int 1), some (.ref 73), some (.int 1)]) (q := 132) rfl rfl rfl rfl ?_
              refine ar_aload (q := 134) rfl rfl rfl ?_
              refine ar_iload_n (j := 1) (q := 135) rfl rfl rfl rfl ?_
              refine ar_iload_n (j := 3) (q := 136) rfl rfl rfl rfl ?_
              obtain ⟨I_25, hI_26⟩ : ∃ z : Nat → Nat → Int32, z = va_up I 73 (upd (I 73) j_19 x) := ⟨_, rfl⟩
              have h := h I_25 hI_26
              refine ar_iast (hp2 := am_mk I_25 L) (q := 137) rfl mk_73 (am_inE hi_21 hx_20 (by decide)) (by rw [am_clT hi_21 hx_20 (by decide), hI_26]; exact mk_s73) rfl ?_
              refine ar_iload (q := 139) rfl rfl rfl ?_
              exact ar_iret rfl rfl h
          · have c_23 := Classical.not_not.mp c_23
            have h := hA c_23
            clear hA hB
            refine ar_aload_n (j := 0) (q := 88) rfl rfl rfl rfl ?_
            refine ar_bipush (v := (-4 : Int32)) (q := 90) rfl rfl rfl ?_
            refine ar_invv (as := [.int (-4 : Int32)]) (rest := []) (b2 := (0, 0)) (b3 := (0, 0)) (q := 93) rfl rfl rfl rfl mk_0 rfl rfl rfl rfl rfl ?_
            refine ok_refuse (j := 4) (by omega) (by decide) (by decide) ?_
            show am_Run am_X0 (am_meth d) 38 R 93 [some (.ref 0), some (.int s), some (.int a), some (.int x), some (.int 1), none, none] [.int (-4 : Int32)] (am_mk (am_rf I 4) L, 0, 0)
            exact ar_iret rfl rfl h
      · have h := hB c_17
        clear hA hB
        show am_Run am_X0 (am_meth d) 38 R 29 [some (.ref 0), some (.int s), some (.int a), some (.int x), none, none, none] [.int 0] (am_mk I L, 0, 0)
        refine ar_goto (t := 56) rfl rfl ?_
        refine ar_istore (ls' := [some (.ref 0), some (.int s), some (.int a), some (.int x), some (.int 0), none, none]) (q := 58) rfl rfl rfl rfl ?_
        refine ar_aload_n (j := 0) (q := 59) rfl rfl rfl rfl ?_
        refine ar_getf (v := .ref 66) (q := 62) rfl rfl mk_0 rfl rfl ?_
        refine ar_getf (v := .ref 70) (q := 65) rfl rfl mk_66 rfl rfl ?_
        refine ar_iload_n (j := 1) (q := 66) rfl rfl rfl rfl ?_
        obtain ⟨j_29, hx_30, hi_31, h⟩ := h
        refine ar_iald (v := I 70 j_29) (q := 67) rfl mk_70 (am_inE hi_31 hx_30 (by decide)) (am_clE hi_31 hx_30 (by decide)) rfl ?_
        refine ar_iconst (v := 1) (q := 68) rfl rfl rfl ?_
        obtain ⟨hA, hB⟩ := h
        refine ar_br am_c_ne (t := 76) (q := 71) rfl rfl rfl (fun c_32 => ?_) (fun c_32 => ?_)
        · have h := hB c_32
          clear hA hB
          refine ar_aload_n (j := 0) (q := 77) rfl rfl rfl rfl ?_
          refine ar_bipush (v := (-3 : Int32)) (q := 79) rfl rfl rfl ?_
          refine ar_invv (as := [.int (-3 : Int32)]) (rest := []) (b2 := (0, 0)) (b3 := (0, 0)) (q := 82) rfl rfl rfl rfl mk_0 rfl rfl rfl rfl rfl ?_
          refine ok_refuse (j := 3) (by omega) (by decide) (by decide) ?_
          show am_Run am_X0 (am_meth d) 38 R 82 [some (.ref 0), some (.int s), some (.int a), some (.int x), some (.int 0), none, none] [.int (-3 : Int32)] (am_mk (am_rf I 3) L, 0, 0)
          exact ar_iret rfl rfl h
        · have c_32 := Classical.not_not.mp c_32
          have h := hA c_32
          clear hA hB
          refine ar_iload (q := 73) rfl rfl rfl ?_
          refine ar_b0 am_c_ne (t := 83) (q := 76) rfl rfl rfl (fun c9 => absurd (by decide) c9) (fun _ => ?_)
          refine ar_aload_n (j := 0) (q := 77) rfl rfl rfl rfl ?_
          refine ar_bipush (v := (-3 : Int32)) (q := 79) rfl rfl rfl ?_
          refine ar_invv (as := [.int (-3 : Int32)]) (rest := []) (b2 := (0, 0)) (b3 := (0, 0)) (q := 82) rfl rfl rfl rfl mk_0 rfl rfl rfl rfl rfl ?_
          refine ok_refuse (j := 3) (by omega) (by decide) (by decide) ?_
          show am_Run am_X0 (am_meth d) 38 R 82 [some (.ref 0), some (.int s), some (.int a), some (.int x), some (.int 0), none, none] [.int (-3 : Int32)] (am_mk (am_rf I 3) L, 0, 0)
          exact ar_iret rfl rfl h
  · have h := hB c_1
    clear hA hB
    show am_Run am_X0 (am_meth d) 38 R 8 [some (.ref 0), some (.int s), some (.int a), some (.int x), none, none, none] [.int 0] (am_mk I L, 0, 0)
    refine ar_b0 am_c_ne (t := 17) (q := 11) rfl rfl rfl (fun c9 => absurd (by decide) c9) (fun _ => ?_)
    refine ar_aload_n (j := 0) (q := 12) rfl rfl rfl rfl ?_
    refine ar_iconst (v := (-1 : Int32)) (q := 13) rfl rfl rfl ?_
    refine ar_invv (as := [.int (-1 : Int32)]) (rest := []) (b2 := (0, 0)) (b3 := (0, 0)) (q := 16) rfl rfl rfl rfl mk_0 rfl rfl rfl rfl rfl ?_
    refine ok_refuse (j := 1) (by omega) (by decide) (by decide) ?_
    show am_Run am_X0 (am_meth d) 38 R 16 [some (.ref 0), some (.int s), some (.int a), some (.int x), none, none, none] [.int (-1 : Int32)] (am_mk (am_rf I 1) L, 0, 0)
    exact ar_iret rfl rfl h
theorem r_H_putInto_row_0 {d : Nat} (hd : 1 ≤ d) {R : am_R} {I : Nat → Nat → Int32} {L : Nat → Nat → Int64} {v : Int32} (h : ((v < (-1 : Int32) → (R (some (.int (-4 : Int32))) (am_mk (am_rf I 4) L, 0, 0))) ∧ ((¬ v < (-1 : Int32) ∧ 99 < v) → (R (some (.int (-6 : Int32))) (am_mk (am_rf I 6) L, 0, 0))) ∧ ((¬ v < (-1 : Int32) ∧ ¬ 99 < v) → (((1 ≤ 12 - I 95 0 → ((am_ix I 95 0 12) ∧ (R (some (.int ((am_ad I 95 96 v) 95 0))) (am_mk (am_ad I 95 96 v) L, 0, 0)))) ∧ (¬ (1 ≤ 12 - I 95 0) → (R (some (.int (-6 : Int32))) (am_mk (am_rf I 6) L, 0, 0)))))))) : am_Run am_X0 (am_meth d) 25 R 0 [some (.ref 0), some (.ref 95), some (.int v), none] [] (am_mk I L, 0, 0) := by
  refine ar_iload_n (j := 2) (q := 1) rfl rfl rfl rfl ?_
  refine ar_iconst (v := (-1 : Int32)) (q := 2) rfl rfl rfl ?_
  refine ar_bipush (v := 99) (q := 4) rfl rfl rfl ?_
  refine ar_invs (as := [.int v, .int (-1 : Int32), .int 99]) (rest := []) (b2 := (0, 0)) (b3 := (0, 0)) (q := 7) rfl rfl rfl rfl rfl rfl rfl rfl rfl ?_
  obtain ⟨hC0, hC1, hC2⟩ := h
  refine ok_bound (by omega)  (fun c_1 => ?_) (fun c_1 => ?_) (fun c_1 => ?_)
  · have h := hC0 c_1
    clear hC0 hC1 hC2
    show am_Run am_X0 (am_meth d) 25 R 7 [some (.ref 0), some (.ref 95), some (.int v), none] [.int (-4 : Int32)] (am_mk I L, 0, 0)
    refine ar_istore_n (j := 3) (ls' := [some (.ref 0), some (.ref 95), some (.int v), some (.int (-4 : Int32))]) (q := 8) rfl rfl rfl rfl rfl ?_
    refine ar_iload_n (j := 3) (q := 9) rfl rfl rfl rfl ?_
    refine ar_b0 am_c_eq (t := 18) (q := 12) rfl rfl rfl (fun c9 => absurd c9 (by decide)) (fun _ => ?_)
    refine ar_aload_n (j := 0) (q := 13) rfl rfl rfl rfl ?_
    refine ar_iload_n (j := 3) (q := 14) rfl rfl rfl rfl ?_
    refine ar_invv (as := [.int (-4 : Int32)]) (rest := []) (b2 := (0, 0)) (b3 := (0, 0)) (q := 17) rfl rfl rfl rfl mk_0 rfl rfl rfl rfl rfl ?_
    refine ok_refuse (j := 4) (by omega) (by decide) (by decide) ?_
    show am_Run am_X0 (am_meth d) 25 R 17 [some (.ref 0), some (.ref 95), some (.int v), some (.int (-4 : Int32))] [.int (-4 : Int32)] (am_mk (am_rf I 4) L, 0, 0)
    exact ar_iret rfl rfl h
  · have h := hC1 c_1
    clear hC0 hC1 hC2
    show am_Run am_X0 (am_meth d) 25 R 7 [some (.ref 0), some (.ref 95), some (.int v), none] [.int (-6 : Int32)] (am_mk I L, 0, 0)
    refine ar_istore_n (j := 3) (ls' := [some (.ref 0), some (.ref 95), some (.int v), some (.int (-6 : Int32))]) (q := 8) rfl rfl rfl rfl rfl ?_
    refine ar_iload_n (j := 3) (q := 9) rfl rfl rfl rfl ?_
    refine ar_b0 am_c_eq (t := 18) (q := 12) rfl rfl rfl (fun c9 => absurd c9 (by decide)) (fun _ => ?_)
    refine ar_aload_n (j := 0) (q := 13) rfl rfl rfl rfl ?_
    refine ar_iload_n (j := 3) (q := 14) rfl rfl rfl rfl ?_
    refine ar_invv (as := [.int (-6 : Int32)]) (rest := []) (b2 := (0, 0)) (b3 := (0, 0)) (q := 17) rfl rfl rfl rfl mk_0 rfl rfl rfl rfl rfl ?_
    refine ok_refuse (j := 6) (by omega) (by decide) (by decide) ?_
    show am_Run am_X0 (am_meth d) 25 R 17 [some (.ref 0), some (.ref 95), some (.int v), some (.int (-6 : Int32))] [.int (-6 : Int32)] (am_mk (am_rf I 6) L, 0, 0)
    exact ar_iret rfl rfl h
  · have h := hC2 c_1
    clear hC0 hC1 hC2
    show am_Run am_X0 (am_meth d) 25 R 7 [some (.ref 0), some (.ref 95), some (.int v), none] [.int 0] (am_mk I L, 0, 0)
    refine ar_istore_n (j := 3) (ls' := [some (.ref 0), some (.ref 95), some (.int v), some (.int 0)]) (q := 8) rfl rfl rfl rfl rfl ?_
    refine ar_iload_n (j := 3) (q := 9) rfl rfl rfl rfl ?_
    refine ar_b0 am_c_eq (t := 18) (q := 12) rfl rfl rfl (fun _ => ?_) (fun c9 => absurd (by decide) c9)
    refine ar_aload_n (j := 1) (q := 19) rfl rfl rfl rfl ?_
    refine ar_iconst (v := 1) (q := 20) rfl rfl rfl ?_
    refine ar_invv (as := [.int 1]) (rest := []) (b2 := (0, 0)) (b3 := (0, 0)) (q := 23) rfl rfl rfl rfl mk_95 rfl rfl rfl rfl rfl ?_
    obtain ⟨hA, hB⟩ := h
    refine ok_Ro_hasRoomFor_row (by omega)  (fun c_2 => ?_) (fun c_2 => ?_)
    · have h := hA c_2
      clear hA hB
      show am_Run am_X0 (am_meth d) 25 R 23 [some (.ref 0), some (.ref 95), some (.int v), some (.int 0)] [.int 1] (am_mk I L, 0, 0)
      refine ar_b0 am_c_ne (t := 33) (q := 26) rfl rfl rfl (fun _ => ?_) (fun c9 => absurd (by decide) c9)
      refine ar_aload_n (j := 1) (q := 34) rfl rfl rfl rfl ?_
      refine ar_iload_n (j := 2) (q := 35) rfl rfl rfl rfl ?_
      refine ar_invv (as := [.int v]) (rest := []) (b2 := (0, 0)) (b3 := (0, 0)) (q := 38) rfl rfl rfl rfl mk_95 rfl rfl rfl rfl rfl ?_
      obtain ⟨hp_3, h⟩ := h
      refine ok_Ro_add_row (by omega) hp_3 ?_
      show am_Run am_X0 (am_meth d) 25 R 38 [some (.ref 0), some (.ref 95), some (.int v), some (.int 0)] [] (am_mk (am_ad I 95 96 v) L, 0, 0)
      refine ar_aload_n (j := 1) (q := 39) rfl rfl rfl rfl ?_
      refine ar_getf (v := .int ((am_ad I 95 96 v) 95 0)) (q := 42) rfl rfl mk_95 rfl rfl ?_
      exact ar_iret rfl rfl h
    · have h := hB c_2
      clear hA hB
      show am_Run am_X0 (am_meth d) 25 R 23 [some (.ref 0), some (.ref 95), some (.int v), some (.int 0)] [.int 0] (am_mk I L, 0, 0)
      refine ar_b0 am_c_ne (t := 33) (q := 26) rfl rfl rfl (fun c9 => absurd (by decide) c9) (fun _ => ?_)
      refine ar_aload_n (j := 0) (q := 27) rfl rfl rfl rfl ?_
      refine ar_bipush (v := (-6 : Int32)) (q := 29) rfl rfl rfl ?_
      refine ar_invv (as := [.int (-6 : Int32)]) (rest := []) (b2 := (0, 0)) (b3 := (0, 0)) (q := 32) rfl rfl rfl rfl mk_0 rfl rfl rfl rfl rfl ?_
      refine ok_refuse (j := 6) (by omega) (by decide) (by decide) ?_
      show am_Run am_X0 (am_meth d) 25 R 32 [some (.ref 0), some (.ref 95), some (.int v), some (.int 0)] [.int (-6 : Int32)] (am_mk (am_rf I 6) L, 0, 0)
      exact ar_iret rfl rfl h
theorem r_H_putInto_told_0 {d : Nat} (hd : 1 ≤ d) {R : am_R} {I : Nat → Nat → Int32} {L : Nat → Nat → Int64} {v : Int32} (h : ((v < (-1 : Int32) → (R (some (.int (-4 : Int32))) (am_mk (am_rf I 4) L, 0, 0))) ∧ ((¬ v < (-1 : Int32) ∧ 99 < v) → (R (some (.int (-6 : Int32))) (am_mk (am_rf I 6) L, 0, 0))) ∧ ((¬ v < (-1 : Int32) ∧ ¬ 99 < v) → (((1 ≤ 6 - I 97 0 → ((am_ix I 97 0 6) ∧ (R (some (.int ((am_ad I 97 98 v) 97 0))) (am_mk (am_ad I 97 98 v) L, 0, 0)))) ∧ (¬ (1 ≤ 6 - I 97 0) → (R (some (.int (-6 : Int32))) (am_mk (am_rf I 6) L, 0, 0)))))))) : am_Run am_X0 (am_meth d) 25 R 0 [some (.ref 0), some (.ref 97), some (.int v), none] [] (am_mk I L, 0, 0) := by
  refine ar_iload_n (j := 2) (q := 1) rfl rfl rfl rfl ?_
  refine ar_iconst (v := (-1 : Int32)) (q := 2) rfl rfl rfl ?_
  refine ar_bipush (v := 99) (q := 4) rfl rfl rfl ?_
  refine ar_invs (as := [.int v, .int (-1 : Int32), .int 99]) (rest := []) (b2 := (0, 0)) (b3 := (0, 0)) (q := 7) rfl rfl rfl rfl rfl rfl rfl rfl rfl ?_
  obtain ⟨hC0, hC1, hC2⟩ := h
  refine ok_bound (by omega)  (fun c_1 => ?_) (fun c_1 => ?_) (fun c_1 => ?_)
  · have h := hC0 c_1
    clear hC0 hC1 hC2
    show am_Run am_X0 (am_meth d) 25 R 7 [some (.ref 0), some (.ref 97), some (.int v), none] [.int (-4 : Int32)] (am_mk I L, 0, 0)
    refine ar_istore_n (j := 3) (ls' := [some (.ref 0), some (.ref 97), some (.int v), some (.int (-4 : Int32))]) (q := 8) rfl rfl rfl rfl rfl ?_
    refine ar_iload_n (j := 3) (q := 9) rfl rfl rfl rfl ?_
    refine ar_b0 am_c_eq (t := 18) (q := 12) rfl rfl rfl (fun c9 => absurd c9 (by decide)) (fun _ => ?_)
    refine ar_aload_n (j := 0) (q := 13) rfl rfl rfl rfl ?_
    refine ar_iload_n (j := 3) (q := 14) rfl rfl rfl rfl ?_
    refine ar_invv (as := [.int (-4 : Int32)]) (rest := []) (b2 := (0, 0)) (b3 := (0, 0)) (q := 17) rfl rfl rfl rfl mk_0 rfl rfl rfl rfl rfl ?_
    refine ok_refuse (j := 4) (by omega) (by decide) (by decide) ?_
    show am_Run am_X0 (am_meth d) 25 R 17 [some (.ref 0), some (.ref 97), some (.int v), some (.int (-4 : Int32))] [.int (-4 : Int32)] (am_mk (am_rf I 4) L, 0, 0)
    exact ar_iret rfl rfl h
  · have h := hC1 c_1
    clear hC0 hC1 hC2
    show am_Run am_X0 (am_meth d) 25 R 7 [some (.ref 0), some (.ref 97), some (.int v), none] [.int (-6 : Int32)] (am_mk I L, 0, 0)
    refine ar_istore_n (j := 3) (ls' := [some (.ref 0), some (.ref 97), some (.int v), some (.int (-6 : Int32))]) (q := 8) rfl rfl rfl rfl rfl ?_
    refine ar_iload_n (j := 3) (q := 9) rfl rfl rfl rfl ?_
    refine ar_b0 am_c_eq (t := 18) (q := 12) rfl rfl rfl (fun c9 => absurd c9 (by decide)) (fun _ => ?_)
    refine ar_aload_n (j := 0) (q := 13) rfl rfl rfl rfl ?_
    refine ar_iload_n (j := 3) (q := 14) rfl rfl rfl rfl ?_
    refine ar_invv (as := [.int (-6 : Int32)]) (rest := []) (b2 := (0, 0)) (b3 := (0, 0)) (q := 17) rfl rfl rfl rfl mk_0 rfl rfl rfl rfl rfl ?_
    refine ok_refuse (j := 6) (by omega) (by decide) (by decide) ?_
    show am_Run am_X0 (am_meth d) 25 R 17 [some (.ref 0), some (.ref 97), some (.int v), some (.int (-6 : Int32))] [.int (-6 : Int32)] (am_mk (am_rf I 6) L, 0, 0)
    exact ar_iret rfl rfl h
  · have h := hC2 c_1
    clear hC0 hC1 hC2
    show am_Run am_X0 (am_meth d) 25 R 7 [some (.ref 0), some (.ref 97), some (.int v), none] [.int 0] (am_mk I L, 0, 0)
    refine ar_istore_n (j := 3) (ls' := [some (.ref 0), some (.ref 97), some (.int v), some (.int 0)]) (q := 8) rfl rfl rfl rfl rfl ?_
    refine ar_iload_n (j := 3) (q := 9) rfl rfl rfl rfl ?_
    refine ar_b0 am_c_eq (t := 18) (q := 12) rfl rfl rfl (fun _ => ?_) (fun c9 => absurd (by decide) c9)
    refine ar_aload_n (j := 1) (q := 19) rfl rfl rfl rfl ?_
    refine ar_iconst (v := 1) (q := 20) rfl rfl rfl ?_
    refine ar_invv (as := [.int 1]) (rest := []) (b2 := (0, 0)) (b3 := (0, 0)) (q := 23) rfl rfl rfl rfl mk_97 rfl rfl rfl rfl rfl ?_
    obtain ⟨hA, hB⟩ := h
    refine ok_Ro_hasRoomFor_told (by omega)  (fun c_2 => ?_) (fun c_2 => ?_)
    · have h := hA c_2
      clear hA hB
      show am_Run am_X0 (am_meth d) 25 R 23 [some (.ref 0), some (.ref 97), some (.int v), some (.int 0)] [.int 1] (am_mk I L, 0, 0)
      refine ar_b0 am_c_ne (t := 33) (q := 26) rfl rfl rfl (fun _ => ?_) (fun c9 => absurd (by decide) c9)
      refine ar_aload_n (j := 1) (q := 34) rfl rfl rfl rfl ?_
      refine ar_iload_n (j := 2) (q := 35) rfl rfl rfl rfl ?_
      refine ar_invv (as := [.int v]) (rest := []) (b2 := (0, 0)) (b3 := (0, 0)) (q := 38) rfl rfl rfl rfl mk_97 rfl rfl rfl rfl rfl ?_
      obtain ⟨hp_3, h⟩ := h
      refine ok_Ro_add_told (by omega) hp_3 ?_
      show am_Run am_X0 (am_meth d) 25 R 38 [some (.ref 0), some (.ref 97), some (.int v), some (.int 0)] [] (am_mk (am_ad I 97 98 v) L, 0, 0)
      refine ar_aload_n (j := 1) (q := 39) rfl rfl rfl rfl ?_
      refine ar_getf (v := .int ((am_ad I 97 98 v) 97 0)) (q := 42) rfl rfl mk_97 rfl rfl ?_
      exact ar_iret rfl rfl h
    · have h := hB c_2
      clear hA hB
      show am_Run am_X0 (am_meth d) 25 R 23 [some (.ref 0), some (.ref 97), some (.int v), some (.int 0)] [.int 0] (am_mk I L, 0, 0)
      refine ar_b0 am_c_ne (t := 33) (q := 26) rfl rfl rfl (fun c9 => absurd (by decide) c9) (fun _ => ?_)
      refine ar_aload_n (j := 0) (q := 27) rfl rfl rfl rfl ?_
      refine ar_bipush (v := (-6 : Int32)) (q := 29) rfl rfl rfl ?_
      refine ar_invv (as := [.int (-6 : Int32)]) (rest := []) (b2 := (0, 0)) (b3 := (0, 0)) (q := 32) rfl rfl rfl rfl mk_0 rfl rfl rfl rfl rfl ?_
      refine ok_refuse (j := 6) (by omega) (by decide) (by decide) ?_
      show am_Run am_X0 (am_meth d) 25 R 32 [some (.ref 0), some (.ref 97), some (.int v), some (.int 0)] [.int (-6 : Int32)] (am_mk (am_rf I 6) L, 0, 0)
      exact ar_iret rfl rfl h
theorem r_H_put_0 {d : Nat} {R : am_R} {I : Nat → Nat → Int32} {L : Nat → Nat → Int64} {v : Int32} (h : am_meth d 25 [.ref 0, .ref 95, .int v] (am_mk I L, 0, 0) (am_ri (fun z_1 I_2 L_3 => R (some (.int z_1)) (am_mk I_2 L_3, 0, 0)))) : am_Run am_X0 (am_meth d) 24 R 0 [some (.ref 0), some (.int v)] [] (am_mk I L, 0, 0) := by
  refine ar_aload_n (j := 0) (q := 1) rfl rfl rfl rfl ?_
  refine ar_aload_n (j := 0) (q := 2) rfl rfl rfl rfl ?_
  refine ar_getf (v := .ref 95) (q := 5) rfl rfl mk_0 rfl rfl ?_
  refine ar_iload_n (j := 1) (q := 6) rfl rfl rfl rfl ?_
  refine ar_invv (as := [.ref 95, .int v]) (rest := []) (b2 := (0, 0)) (b3 := (0, 0)) (q := 9) rfl rfl rfl rfl mk_0 rfl rfl rfl rfl rfl ?_
  refine am_meth_mono d _ _ _ _ _ (fun v9 m9 h9 => ?_) h
  obtain ⟨z_1, I_2, L_3, rfl, rfl, h⟩ := h9
  show am_Run am_X0 (am_meth d) 24 R 9 [some (.ref 0), some (.int v)] [.int z_1] (am_mk I_2 L_3, 0, 0)
  exact ar_iret rfl rfl h
theorem r_H_tell_0 {d : Nat} {R : am_R} {I : Nat → Nat → Int32} {L : Nat → Nat → Int64} {v : Int32} (h : am_meth d 25 [.ref 0, .ref 97, .int v] (am_mk I L, 0, 0) (am_ri (fun z_1 I_2 L_3 => R (some (.int z_1)) (am_mk I_2 L_3, 0, 0)))) : am_Run am_X0 (am_meth d) 33 R 0 [some (.ref 0), some (.int v)] [] (am_mk I L, 0, 0) := by
  refine ar_aload_n (j := 0) (q := 1) rfl rfl rfl rfl ?_
  refine ar_aload_n (j := 0) (q := 2) rfl rfl rfl rfl ?_
  refine ar_getf (v := .ref 97) (q := 5) rfl rfl mk_0 rfl rfl ?_
  refine ar_iload_n (j := 1) (q := 6) rfl rfl rfl rfl ?_
  refine ar_invv (as := [.ref 97, .int v]) (rest := []) (b2 := (0, 0)) (b3 := (0, 0)) (q := 9) rfl rfl rfl rfl mk_0 rfl rfl rfl rfl rfl ?_
  refine am_meth_mono d _ _ _ _ _ (fun v9 m9 h9 => ?_) h
  obtain ⟨z_1, I_2, L_3, rfl, rfl, h⟩ := h9
  show am_Run am_X0 (am_meth d) 33 R 9 [some (.ref 0), some (.int v)] [.int z_1] (am_mk I_2 L_3, 0, 0)
  exact ar_iret rfl rfl h
theorem r_M_days_0 {d : Nat} (hd : 1 ≤ d) {R : am_R} {I : Nat → Nat → Int32} {L : Nat → Nat → Int64} {n : Int32} (h : ((n < 1 → (R (some (.int (-4 : Int32))) (am_mk (am_no I 4) L, 0, 0))) ∧ (¬ n < 1 → (((n ≤ (1500 - (I 113 0)) → (∀ I_3 : Nat → Nat → Int32, I_3 = va_up I 113 (upd (I 113) 0 ((I 113 0) + n)) → (R (some (.int (I_3 113 0))) (am_mk I_3 L, 0, 0)))) ∧ (¬ n ≤ (1500 - (I 113 0)) → (R (some (.int (-6 : Int32))) (am_mk (am_no I 6) L, 0, 0)))))))) : am_Run am_X0 (am_meth d) 150 R 0 [some (.ref 113), some (.int n)] [] (am_mk I L, 0, 0) := by
  refine ar_iload_n (j := 1) (q := 1) rfl rfl rfl rfl ?_
  refine ar_iconst (v := 1) (q := 2) rfl rfl rfl ?_
  obtain ⟨hA, hB⟩ := h
  refine ar_br am_d_ge (t := 12) (q := 5) rfl rfl rfl (fun c_1 => ?_) (fun c_1 => ?_)
  · have h := hB c_1
    clear hA hB
    refine ar_iload_n (j := 1) (q := 13) rfl rfl rfl rfl ?_
    refine ar_sipush (v := 1500) (q := 16) rfl rfl rfl ?_
    refine ar_aload_n (j := 0) (q := 17) rfl rfl rfl rfl ?_
    refine ar_getf (v := .int (I 113 0)) (q := 20) rfl rfl mk_113 rfl rfl ?_
    refine ar_ib (i := .isub) (z := 1500 - (I 113 0)) (q := 21) rfl rfl rfl rfl rfl ?_
    obtain ⟨hA, hB⟩ := h
    refine ar_br am_c_le (t := 31) (q := 24) rfl rfl rfl (fun c_2 => ?_) (fun c_2 => ?_)
    · have h := hA c_2
      clear hA hB
      refine ar_aload_n (j := 0) (q := 32) rfl rfl rfl rfl ?_
      refine ar_st (i := .dup) (n := 1) (st' := [.ref 113, .ref 113]) (q := 33) rfl rfl rfl rfl ?_
      refine ar_getf (v := .int (I 113 0)) (q := 36) rfl rfl mk_113 rfl rfl ?_
      refine ar_iload_n (j := 1) (q := 37) rfl rfl rfl rfl ?_
      refine ar_ib (i := .iadd) (z := (I 113 0) + n) (q := 38) rfl rfl rfl rfl rfl ?_
      obtain ⟨I_3, hI_4⟩ : ∃ z : Nat → Nat → Int32, z = va_up I 113 (upd (I 113) 0 ((I 113 0) + n)) := ⟨_, rfl⟩
      have h := h I_3 hI_4
      refine ar_putf (hp2 := am_mk I_3 L) (q := 41) rfl rfl mk_113 rfl (by rw [hI_4]; exact mk_p113_0) rfl ?_
      refine ar_aload_n (j := 0) (q := 42) rfl rfl rfl rfl ?_
      refine ar_getf (v := .int (I_3 113 0)) (q := 45) rfl rfl mk_113 rfl rfl ?_
      exact ar_iret rfl rfl h
    · have h := hB c_2
      clear hA hB
      refine ar_aload_n (j := 0) (q := 25) rfl rfl rfl rfl ?_
      refine ar_bipush (v := (-6 : Int32)) (q := 27) rfl rfl rfl ?_
      refine ar_invv (as := [.int (-6 : Int32)]) (rest := []) (b2 := (0, 0)) (b3 := (0, 0)) (q := 30) rfl rfl rfl rfl mk_113 rfl rfl rfl rfl rfl ?_
      refine ok_no (j := 6) (by omega) (by decide) (by decide) ?_
      show am_Run am_X0 (am_meth d) 150 R 30 [some (.ref 113), some (.int n)] [.int (-6 : Int32)] (am_mk (am_no I 6) L, 0, 0)
      exact ar_iret rfl rfl h
  · have c_1 := Classical.not_not.mp c_1
    have h := hA c_1
    clear hA hB
    refine ar_aload_n (j := 0) (q := 6) rfl rfl rfl rfl ?_
    refine ar_bipush (v := (-4 : Int32)) (q := 8) rfl rfl rfl ?_
    refine ar_invv (as := [.int (-4 : Int32)]) (rest := []) (b2 := (0, 0)) (b3 := (0, 0)) (q := 11) rfl rfl rfl rfl mk_113 rfl rfl rfl rfl rfl ?_
    refine ok_no (j := 4) (by omega) (by decide) (by decide) ?_
    show am_Run am_X0 (am_meth d) 150 R 11 [some (.ref 113), some (.int n)] [.int (-4 : Int32)] (am_mk (am_no I 4) L, 0, 0)
    exact ar_iret rfl rfl h
theorem r_M_town_0 {d : Nat} (hd : 1 ≤ d) {R : am_R} {I : Nat → Nat → Int32} {L : Nat → Nat → Int64} {t : Int32} {l : Int32} (h : ((0 ≤ t ∧ t < 10 → (((l < 0 → (R (some (.int (-1 : Int32))) (am_mk (am_no I 1) L, 0, 0))) ∧ (¬ l < 0 → (((l ≤ 4 → (∃ j_4 : Nat, j_4 < 10 ∧ t = nI j_4 ∧ (∀ I_7 : Nat → Nat → Int32, I_7 = va_up I 114 (upd (I 114) j_4 l) → (R (some (.int (I 114 j_4))) (am_mk I_7 L, 0, 0))))) ∧ (¬ l ≤ 4 → (R (some (.int (-1 : Int32))) (am_mk (am_no I 1) L, 0, 0))))))))) ∧ (¬ (0 ≤ t ∧ t < 10) → (R (some (.int (-1 : Int32))) (am_mk (am_no I 1) L, 0, 0))))) : am_Run am_X0 (am_meth d) 152 R 0 [some (.ref 113), some (.int t), some (.int l), none] [] (am_mk I L, 0, 0) := by
  refine ar_aload_n (j := 0) (q := 1) rfl rfl rfl rfl ?_
  refine ar_iload_n (j := 1) (q := 2) rfl rfl rfl rfl ?_
  refine ar_invv (as := [.int t]) (rest := []) (b2 := (0, 0)) (b3 := (0, 0)) (q := 5) rfl rfl rfl rfl mk_113 rfl rfl rfl rfl rfl ?_
  obtain ⟨hA, hB⟩ := h
  refine ok_M_isTown (by omega)  (fun c_1 => ?_) (fun c_1 => ?_)
  · have h := hA c_1
    clear hA hB
    show am_Run am_X0 (am_meth d) 152 R 5 [some (.ref 113), some (.int t), some (.int l), none] [.int 1] (am_mk I L, 0, 0)
    refine ar_b0 am_c_eq (t := 17) (q := 8) rfl rfl rfl (fun c9 => absurd c9 (by decide)) (fun _ => ?_)
    refine ar_iload_n (j := 2) (q := 9) rfl rfl rfl rfl ?_
    obtain ⟨hA, hB⟩ := h
    refine ar_b0 am_c_lt (t := 17) (q := 12) rfl rfl rfl (fun c_2 => ?_) (fun c_2 => ?_)
    · have h := hA c_2
      clear hA hB
      refine ar_aload_n (j := 0) (q := 18) rfl rfl rfl rfl ?_
      refine ar_iconst (v := (-1 : Int32)) (q := 19) rfl rfl rfl ?_
      refine ar_invv (as := [.int (-1 : Int32)]) (rest := []) (b2 := (0, 0)) (b3 := (0, 0)) (q := 22) rfl rfl rfl rfl mk_113 rfl rfl rfl rfl rfl ?_
      refine ok_no (j := 1) (by omega) (by decide) (by decide) ?_
      show am_Run am_X0 (am_meth d) 152 R 22 [some (.ref 113), some (.int t), some (.int l), none] [.int (-1 : Int32)] (am_mk (am_no I 1) L, 0, 0)
      exact ar_iret rfl rfl h
    · have h := hB c_2
      clear hA hB
      refine ar_iload_n (j := 2) (q := 13) rfl rfl rfl rfl ?_
      refine ar_iconst (v := 4) (q := 14) rfl rfl rfl ?_
      obtain ⟨hA, hB⟩ := h
      refine ar_br am_c_le (t := 23) (q := 17) rfl rfl rfl (fun c_3 => ?_) (fun c_3 => ?_)
      · have h := hA c_3
        clear hA hB
        refine ar_aload_n (j := 0) (q := 24) rfl rfl rfl rfl ?_
        refine ar_getf (v := .ref 114) (q := 27) rfl rfl mk_113 rfl rfl ?_
        refine ar_iload_n (j := 1) (q := 28) rfl rfl rfl rfl ?_
        obtain ⟨j_4, hx_5, hi_6, h⟩ := h
        refine ar_iald (v := I 114 j_4) (q := 29) rfl mk_114 (am_inE hi_6 hx_5 (by decide)) (am_clE hi_6 hx_5 (by decide)) rfl ?_
        refine ar_istore_n (j := 3) (ls' := [some (.ref 113), some (.int t), some (.int l), some (.int (I 114 j_4))]) (q := 30) rfl rfl rfl rfl rfl ?_
        refine ar_aload_n (j := 0) (q := 31) rfl rfl rfl rfl ?_
        refine ar_getf (v := .ref 114) (q := 34) rfl rfl mk_113 rfl rfl ?_
        refine ar_iload_n (j := 1) (q := 35) rfl rfl rfl rfl ?_
        refine ar_iload_n (j := 2) (q := 36) rfl rfl rfl rfl ?_
        obtain ⟨I_7, hI_8⟩ : ∃ z : Nat → Nat → Int32, z = va_up I 114 (upd (I 114) j_4 l) := ⟨_, rfl⟩
        have h := h I_7 hI_8
        refine ar_iast (hp2 := am_mk I_7 L) (q := 37) rfl mk_114 (am_inE hi_6 hx_5 (by decide)) (by rw [am_clT hi_6 hx_5 (by decide), hI_8]; exact mk_s114) rfl ?_
        refine ar_iload_n (j := 3) (q := 38) rfl rfl rfl rfl ?_
        exact ar_iret rfl rfl h
      · have h := hB c_3
        clear hA hB
        refine ar_aload_n (j := 0) (q := 18) rfl rfl rfl rfl ?_
        refine ar_iconst (v := (-1 : Int32)) (q := 19) rfl rfl rfl ?_
        refine ar_invv (as := [.int (-1 : Int32)]) (rest := []) (b2 := (0, 0)) (b3 := (0, 0)) (q := 22) rfl rfl rfl rfl mk_113 rfl rfl rfl rfl rfl ?_
        refine ok_no (j := 1) (by omega) (by decide) (by decide) ?_
        show am_Run am_X0 (am_meth d) 152 R 22 [some (.ref 113), some (.int t), some (.int l), none] [.int (-1 : Int32)] (am_mk (am_no I 1) L, 0, 0)
        exact ar_iret rfl rfl h
  · have h := hB c_1
    clear hA hB
    show am_Run am_X0 (am_meth d) 152 R 5 [some (.ref 113), some (.int t), some (.int l), none] [.int 0] (am_mk I L, 0, 0)
    refine ar_b0 am_c_eq (t := 17) (q := 8) rfl rfl rfl (fun _ => ?_) (fun c9 => absurd (by decide) c9)
    refine ar_aload_n (j := 0) (q := 18) rfl rfl rfl rfl ?_
    refine ar_iconst (v := (-1 : Int32)) (q := 19) rfl rfl rfl ?_
    refine ar_invv (as := [.int (-1 : Int32)]) (rest := []) (b2 := (0, 0)) (b3 := (0, 0)) (q := 22) rfl rfl rfl rfl mk_113 rfl rfl rfl rfl rfl ?_
    refine ok_no (j := 1) (by omega) (by decide) (by decide) ?_
    show am_Run am_X0 (am_meth d) 152 R 22 [some (.ref 113), some (.int t), some (.int l), none] [.int (-1 : Int32)] (am_mk (am_no I 1) L, 0, 0)
    exact ar_iret rfl rfl h
theorem r_M_way_0 {d : Nat} (hd : 1 ≤ d) {R : am_R} {I : Nat → Nat → Int32} {L : Nat → Nat → Int64} {a : Int32} {b : Int32} {x : Int32} (h : ((0 ≤ a ∧ a < 10 → (((0 ≤ b ∧ b < 10 → (((a = b → (R (some (.int (-1 : Int32))) (am_mk (am_no I 1) L, 0, 0))) ∧ (¬ a = b → (((x < 1 → (R (some (.int (-4 : Int32))) (am_mk (am_no I 4) L, 0, 0))) ∧ (¬ x < 1 → (((x ≤ 240 → (∃ j_6 : Nat, j_6 < 100 ∧ (10 * a) + b = nI j_6 ∧ (∀ I_9 : Nat → Nat → Int32, I_9 = va_up I 115 (upd (I 115) j_6 x) → (∃ j_11 : Nat, j_11 < 100 ∧ (10 * b) + a = nI j_11 ∧ (∀ I_14 : Nat → Nat → Int32, I_14 = va_up I_9 115 (upd (I_9 115) j_11 x) → (R (some (.int (I 115 j_6))) (am_mk I_14 L, 0, 0))))))) ∧ (¬ x ≤ 240 → (R (some (.int (-6 : Int32))) (am_mk (am_no I 6) L, 0, 0)))))))))))) ∧ (¬ (0 ≤ b ∧ b < 10) → (R (some (.int (-1 : Int32))) (am_mk (am_no I 1) L, 0, 0)))))) ∧ (¬ (0 ≤ a ∧ a < 10) → (R (some (.int (-1 : Int32))) (am_mk (am_no I 1) L, 0, 0))))) : am_Run am_X0 (am_meth d) 154 R 0 [some (.ref 113), some (.int a), some (.int b), some (.int x), none] [] (am_mk I L, 0, 0) := by
  refine ar_aload_n (j := 0) (q := 1) rfl rfl rfl rfl ?_
  refine ar_iload_n (j := 1) (q := 2) rfl rfl rfl rfl ?_
  refine ar_invv (as := [.int a]) (rest := []) (b2 := (0, 0)) (b3 := (0, 0)) (q := 5) rfl rfl rfl rfl mk_113 rfl rfl rfl rfl rfl ?_
  obtain ⟨hA, hB⟩ := h
  refine ok_M_isTown (by omega)  (fun c_1 => ?_) (fun c_1 => ?_)
  · have h := hA c_1
    clear hA hB
    show am_Run am_X0 (am_meth d) 154 R 5 [some (.ref 113), some (.int a), some (.int b), some (.int x), none] [.int 1] (am_mk I L, 0, 0)
    refine ar_b0 am_c_eq (t := 21) (q := 8) rfl rfl rfl (fun c9 => absurd c9 (by decide)) (fun _ => ?_)
    refine ar_aload_n (j := 0) (q := 9) rfl rfl rfl rfl ?_
    refine ar_iload_n (j := 2) (q := 10) rfl rfl rfl rfl ?_
    refine ar_invv (as := [.int b]) (rest := []) (b2 := (0, 0)) (b3 := (0, 0)) (q := 13) rfl rfl rfl rfl mk_113 rfl rfl rfl rfl rfl ?_
    obtain ⟨hA, hB⟩ := h
    refine ok_M_isTown (by omega)  (fun c_2 => ?_) (fun c_2 => ?_)
    · have h := hA c_2
      clear hA hB
      show am_Run am_X0 (am_meth d) 154 R 13 [some (.ref 113), some (.int a), some (.int b), some (.int x), none] [.int 1] (am_mk I L, 0, 0)
      refine ar_b0 am_c_eq (t := 21) (q := 16) rfl rfl rfl (fun c9 => absurd c9 (by decide)) (fun _ => ?_)
      refine ar_iload_n (j := 1) (q := 17) rfl rfl rfl rfl ?_
      refine ar_iload_n (j := 2) (q := 18) rfl rfl rfl rfl ?_
      obtain ⟨hA, hB⟩ := h
      refine ar_br am_c_ne (t := 27) (q := 21) rfl rfl rfl (fun c_3 => ?_) (fun c_3 => ?_)
      · have h := hB c_3
        clear hA hB
        refine ar_iload_n (j := 3) (q := 28) rfl rfl rfl rfl ?_
        refine ar_iconst (v := 1) (q := 29) rfl rfl rfl ?_
        obtain ⟨hA, hB⟩ := h
        refine ar_br am_d_ge (t := 39) (q := 32) rfl rfl rfl (fun c_4 => ?_) (fun c_4 => ?_)
        · have h := hB c_4
          clear hA hB
          refine ar_iload_n (j := 3) (q := 40) rfl rfl rfl rfl ?_
          refine ar_sipush (v := 240) (q := 43) rfl rfl rfl ?_
          obtain ⟨hA, hB⟩ := h
          refine ar_br am_c_le (t := 53) (q := 46) rfl rfl rfl (fun c_5 => ?_) (fun c_5 => ?_)
          · have h := hA c_5
            clear hA hB
            refine ar_aload_n (j := 0) (q := 54) rfl rfl rfl rfl ?_
            refine ar_getf (v := .ref 115) (q := 57) rfl rfl mk_113 rfl rfl ?_
            refine ar_bipush (v := 10) (q := 59) rfl rfl rfl ?_
            refine ar_iload_n (j := 1) (q := 60) rfl rfl rfl rfl ?_
            refine ar_ib (i := .imul) (z := 10 * a) (q := 61) rfl rfl rfl rfl rfl ?_
            refine ar_iload_n (j := 2) (q := 62) rfl rfl rfl rfl ?_
            refine ar_ib (i := .iadd) (z := (10 * a) + b) (q := 63) rfl rfl rfl rfl rfl ?_
            obtain ⟨j_6, hx_7, hi_8, h⟩ := h
            refine ar_iald (v := I 115 j_6) (q := 64) rfl mk_115 (am_inE hi_8 hx_7 (by decide)) (am_clE hi_8 hx_7 (by decide)) rfl ?_
            refine ar_istore (ls' := [some (.ref 113), some (.int a), some (.int b), some (.int x), some (.int (I 115 j_6))]) (q := 66) rfl rfl rfl rfl ?_
            refine ar_aload_n (j := 0) (q := 67) rfl rfl rfl rfl ?_
            refine ar_getf (v := .ref 115) (q := 70) rfl rfl mk_113 rfl rfl ?_
            refine ar_bipush (v := 10) (q := 72) rfl rfl rfl ?_
            refine ar_iload_n (j := 1) (q := 73) rfl rfl rfl rfl ?_
            refine ar_ib (i := .imul) (z := 10 * a) (q := 74) rfl rfl rfl rfl rfl ?_
            refine ar_iload_n (j := 2) (q := 75) rfl rfl rfl rfl ?_
            refine ar_ib (i := .iadd) (z := (10 * a) + b) (q := 76) rfl rfl rfl rfl rfl ?_
            refine ar_iload_n (j := 3) (q := 77) rfl rfl rfl rfl ?_
            obtain ⟨I_9, hI_10⟩ : ∃ z : Nat → Nat → Int32, z = va_up I 115 (upd (I 115) j_6 x) := ⟨_, rfl⟩
            have h := h I_9 hI_10
            refine ar_iast (hp2 := am_mk I_9 L) (q := 78) rfl mk_115 (am_inE hi_8 hx_7 (by decide)) (by rw [am_clT hi_8 hx_7 (by decide), hI_10]; exact mk_s115) rfl ?_
            refine ar_aload_n (j := 0) (q := 79) rfl rfl rfl rfl ?_
            refine ar_getf (v := .ref 115) (q := 82) rfl rfl mk_113 rfl rfl ?_
            refine ar_bipush (v := 10) (q := 84) rfl rfl rfl ?_
            refine ar_iload_n (j := 2) (q := 85) rfl rfl rfl rfl ?_
            refine ar_ib (i := .imul) (z := 10 * b) (q := 86) rfl rfl rfl rfl rfl ?_
            refine ar_iload_n (j := 1) (q := 87) rfl rfl rfl rfl ?_
            refine ar_ib (i := .iadd) (z := (10 * b) + a) (q := 88) rfl rfl rfl rfl rfl ?_
            refine ar_iload_n (j := 3) (q := 89) rfl rfl rfl rfl ?_
            obtain ⟨j_11, hx_12, hi_13, h⟩ := h
            obtain ⟨I_14, hI_15⟩ : ∃ z : Nat → Nat → Int32, z = va_up I_9 115 (upd (I_9 115) j_11 x) := ⟨_, rfl⟩
            have h := h I_14 hI_15
            refine ar_iast (hp2 := am_mk I_14 L) (q := 90) rfl mk_115 (am_inE hi_13 hx_12 (by decide)) (by rw [am_clT hi_13 hx_12 (by decide), hI_15]; exact mk_s115) rfl ?_
            refine ar_iload (q := 92) rfl rfl rfl ?_
            exact ar_iret rfl rfl h
          · have h := hB c_5
            clear hA hB
            refine ar_aload_n (j := 0) (q := 47) rfl rfl rfl rfl ?_
            refine ar_bipush (v := (-6 : Int32)) (q := 49) rfl rfl rfl ?_
            refine ar_invv (as := [.int (-6 : Int32)]) (rest := []) (b2 := (0, 0)) (b3 := (0, 0)) (q := 52) rfl rfl rfl rfl mk_113 rfl rfl rfl rfl rfl ?_
            refine ok_no (j := 6) (by omega) (by decide) (by decide) ?_
            show am_Run am_X0 (am_meth d) 154 R 52 [some (.ref 113), some (.int a), some (.int b), some (.int x), none] [.int (-6 : Int32)] (am_mk (am_no I 6) L, 0, 0)
            exact ar_iret rfl rfl h
        · have c_4 := Classical.not_not.mp c_4
          have h := hA c_4
          clear hA hB
          refine ar_aload_n (j := 0) (q := 33) rfl rfl rfl rfl ?_
          refine ar_bipush (v := (-4 : Int32)) (q := 35) rfl rfl rfl ?_
          refine ar_invv (as := [.int (-4 : Int32)]) (rest := []) (b2 := (0, 0)) (b3 := (0, 0)) (q := 38) rfl rfl rfl rfl mk_113 rfl rfl rfl rfl rfl ?_
          refine ok_no (j := 4) (by omega) (by decide) (by decide) ?_
          show am_Run am_X0 (am_meth d) 154 R 38 [some (.ref 113), some (.int a), some (.int b), some (.int x), none] [.int (-4 : Int32)] (am_mk (am_no I 4) L, 0, 0)
          exact ar_iret rfl rfl h
      · have c_3 := Classical.not_not.mp c_3
        have h := hA c_3
        clear hA hB
        refine ar_aload_n (j := 0) (q := 22) rfl rfl rfl rfl ?_
        refine ar_iconst (v := (-1 : Int32)) (q := 23) rfl rfl rfl ?_
        refine ar_invv (as := [.int (-1 : Int32)]) (rest := []) (b2 := (0, 0)) (b3 := (0, 0)) (q := 26) rfl rfl rfl rfl mk_113 rfl rfl rfl rfl rfl ?_
        refine ok_no (j := 1) (by omega) (by decide) (by decide) ?_
        show am_Run am_X0 (am_meth d) 154 R 26 [some (.ref 113), some (.int a), some (.int b), some (.int x), none] [.int (-1 : Int32)] (am_mk (am_no I 1) L, 0, 0)
        exact ar_iret rfl rfl h
    · have h := hB c_2
      clear hA hB
      show am_Run am_X0 (am_meth d) 154 R 13 [some (.ref 113), some (.int a), some (.int b), some (.int x), none] [.int 0] (am_mk I L, 0, 0)
      refine ar_b0 am_c_eq (t := 21) (q := 16) rfl rfl rfl (fun _ => ?_) (fun c9 => absurd (by decide) c9)
      refine ar_aload_n (j := 0) (q := 22) rfl rfl rfl rfl ?_
      refine ar_iconst (v := (-1 : Int32)) (q := 23) rfl rfl rfl ?_
      refine ar_invv (as := [.int (-1 : Int32)]) (rest := []) (b2 := (0, 0)) (b3 := (0, 0)) (q := 26) rfl rfl rfl rfl mk_113 rfl rfl rfl rfl rfl ?_
      refine ok_no (j := 1) (by omega) (by decide) (by decide) ?_
      show am_Run am_X0 (am_meth d) 154 R 26 [some (.ref 113), some (.int a), some (.int b), some (.int x), none] [.int (-1 : Int32)] (am_mk (am_no I 1) L, 0, 0)
      exact ar_iret rfl rfl h
  · have h := hB c_1
    clear hA hB
    show am_Run am_X0 (am_meth d) 154 R 5 [some (.ref 113), some (.int a), some (.int b), some (.int x), none] [.int 0] (am_mk I L, 0, 0)
    refine ar_b0 am_c_eq (t := 21) (q := 8) rfl rfl rfl (fun _ => ?_) (fun c9 => absurd (by decide) c9)
    refine ar_aload_n (j := 0) (q := 22) rfl rfl rfl rfl ?_
    refine ar_iconst (v := (-1 : Int32)) (q := 23) rfl rfl rfl ?_
    refine ar_invv (as := [.int (-1 : Int32)]) (rest := []) (b2 := (0, 0)) (b3 := (0, 0)) (q := 26) rfl rfl rfl rfl mk_113 rfl rfl rfl rfl rfl ?_
    refine ok_no (j := 1) (by omega) (by decide) (by decide) ?_
    show am_Run am_X0 (am_meth d) 154 R 26 [some (.ref 113), some (.int a), some (.int b), some (.int x), none] [.int (-1 : Int32)] (am_mk (am_no I 1) L, 0, 0)
    exact ar_iret rfl rfl h
theorem r_M_limit_0 {d : Nat} (hd : 1 ≤ d) {R : am_R} {I : Nat → Nat → Int32} {L : Nat → Nat → Int64} {l : Int32} {x : Int32} (h : ((l < 0 → (R (some (.int (-1 : Int32))) (am_mk (am_no I 1) L, 0, 0))) ∧ (¬ l < 0 → (((l ≤ 4 → (((x < 0 → (R (some (.int (-4 : Int32))) (am_mk (am_no I 4) L, 0, 0))) ∧ (¬ x < 0 → (((x ≤ 180 → (∃ j_5 : Nat, j_5 < 5 ∧ l = nI j_5 ∧ (∀ I_8 : Nat → Nat → Int32, I_8 = va_up I 116 (upd (I 116) j_5 x) → (R (some (.int (I 116 j_5))) (am_mk I_8 L, 0, 0))))) ∧ (¬ x ≤ 180 → (R (some (.int (-6 : Int32))) (am_mk (am_no I 6) L, 0, 0))))))))) ∧ (¬ l ≤ 4 → (R (some (.int (-1 : Int32))) (am_mk (am_no I 1) L, 0, 0)))))))) : am_Run am_X0 (am_meth d) 155 R 0 [some (.ref 113), some (.int l), some (.int x), none] [] (am_mk I L, 0, 0) := by
  refine ar_iload_n (j := 1) (q := 1) rfl rfl rfl rfl ?_
  obtain ⟨hA, hB⟩ := h
  refine ar_b0 am_c_lt (t := 9) (q := 4) rfl rfl rfl (fun c_1 => ?_) (fun c_1 => ?_)
  · have h := hA c_1
    clear hA hB
    refine ar_aload_n (j := 0) (q := 10) rfl rfl rfl rfl ?_
    refine ar_iconst (v := (-1 : Int32)) (q := 11) rfl rfl rfl ?_
    refine ar_invv (as := [.int (-1 : Int32)]) (rest := []) (b2 := (0, 0)) (b3 := (0, 0)) (q := 14) rfl rfl rfl rfl mk_113 rfl rfl rfl rfl rfl ?_
    refine ok_no (j := 1) (by omega) (by decide) (by decide) ?_
    show am_Run am_X0 (am_meth d) 155 R 14 [some (.ref 113), some (.int l), some (.int x), none] [.int (-1 : Int32)] (am_mk (am_no I 1) L, 0, 0)
    exact ar_iret rfl rfl h
  · have h := hB c_1
    clear hA hB
    refine ar_iload_n (j := 1) (q := 5) rfl rfl rfl rfl ?_
    refine ar_iconst (v := 4) (q := 6) rfl rfl rfl ?_
    obtain ⟨hA, hB⟩ := h
    refine ar_br am_c_le (t := 15) (q := 9) rfl rfl rfl (fun c_2 => ?_) (fun c_2 => ?_)
    · have h := hA c_2
      clear hA hB
      refine ar_iload_n (j := 2) (q := 16) rfl rfl rfl rfl ?_
      obtain ⟨hA, hB⟩ := h
      refine ar_b0 am_d_ge (t := 26) (q := 19) rfl rfl rfl (fun c_3 => ?_) (fun c_3 => ?_)
      · have h := hB c_3
        clear hA hB
        refine ar_iload_n (j := 2) (q := 27) rfl rfl rfl rfl ?_
        refine ar_sipush (v := 180) (q := 30) rfl rfl rfl ?_
        obtain ⟨hA, hB⟩ := h
        refine ar_br am_c_le (t := 40) (q := 33) rfl rfl rfl (fun c_4 => ?_) (fun c_4 => ?_)
        · have h := hA c_4
          clear hA hB
          refine ar_aload_n (j := 0) (q := 41) rfl rfl rfl rfl ?_
          refine ar_getf (v := .ref 116) (q := 44) rfl rfl mk_113 rfl rfl ?_
          refine ar_iload_n (j := 1) (q := 45) rfl rfl rfl rfl ?_
          obtain ⟨j_5, hx_6, hi_7, h⟩ := h
          refine ar_iald (v := I 116 j_5) (q := 46) rfl mk_116 (am_inE hi_7 hx_6 (by decide)) (am_clE hi_7 hx_6 (by decide)) rfl ?_
          refine ar_istore_n (j := 3) (ls' := [some (.ref 113), some (.int l), some (.int x), some (.int (I 116 j_5))]) (q := 47) rfl rfl rfl rfl rfl ?_
          refine ar_aload_n (j := 0) (q := 48) rfl rfl rfl rfl ?_
          refine ar_getf (v := .ref 116) (q := 51) rfl rfl mk_113 rfl rfl ?_
          refine ar_iload_n (j := 1) (q := 52) rfl rfl rfl rfl ?_
          refine ar_iload_n (j := 2) (q := 53) rfl rfl rfl rfl ?_
          obtain ⟨I_8, hI_9⟩ : ∃ z : Nat → Nat → Int32, z = va_up I 116 (upd (I 116) j_5 x) := ⟨_, rfl⟩
          have h := h I_8 hI_9
          refine ar_iast (hp2 := am_mk I_8 L) (q := 54) rfl mk_116 (am_inE hi_7 hx_6 (by decide)) (by rw [am_clT hi_7 hx_6 (by decide), hI_9]; exact mk_s116) rfl ?_
          refine ar_iload_n (j := 3) (q := 55) rfl rfl rfl rfl ?_
          exact ar_iret rfl rfl h
        · have h := hB c_4
          clear hA hB
          refine ar_aload_n (j := 0) (q := 34) rfl rfl rfl rfl ?_
          refine ar_bipush (v := (-6 : Int32)) (q := 36) rfl rfl rfl ?_
          refine ar_invv (as := [.int (-6 : Int32)]) (rest := []) (b2 := (0, 0)) (b3 := (0, 0)) (q := 39) rfl rfl rfl rfl mk_113 rfl rfl rfl rfl rfl ?_
          refine ok_no (j := 6) (by omega) (by decide) (by decide) ?_
          show am_Run am_X0 (am_meth d) 155 R 39 [some (.ref 113), some (.int l), some (.int x), none] [.int (-6 : Int32)] (am_mk (am_no I 6) L, 0, 0)
          exact ar_iret rfl rfl h
      · have c_3 := Classical.not_not.mp c_3
        have h := hA c_3
        clear hA hB
        refine ar_aload_n (j := 0) (q := 20) rfl rfl rfl rfl ?_
        refine ar_bipush (v := (-4 : Int32)) (q := 22) rfl rfl rfl ?_
        refine ar_invv (as := [.int (-4 : Int32)]) (rest := []) (b2 := (0, 0)) (b3 := (0, 0)) (q := 25) rfl rfl rfl rfl mk_113 rfl rfl rfl rfl rfl ?_
        refine ok_no (j := 4) (by omega) (by decide) (by decide) ?_
        show am_Run am_X0 (am_meth d) 155 R 25 [some (.ref 113), some (.int l), some (.int x), none] [.int (-4 : Int32)] (am_mk (am_no I 4) L, 0, 0)
        exact ar_iret rfl rfl h
    · have h := hB c_2
      clear hA hB
      refine ar_aload_n (j := 0) (q := 10) rfl rfl rfl rfl ?_
      refine ar_iconst (v := (-1 : Int32)) (q := 11) rfl rfl rfl ?_
      refine ar_invv (as := [.int (-1 : Int32)]) (rest := []) (b2 := (0, 0)) (b3 := (0, 0)) (q := 14) rfl rfl rfl rfl mk_113 rfl rfl rfl rfl rfl ?_
      refine ok_no (j := 1) (by omega) (by decide) (by decide) ?_
      show am_Run am_X0 (am_meth d) 155 R 14 [some (.ref 113), some (.int l), some (.int x), none] [.int (-1 : Int32)] (am_mk (am_no I 1) L, 0, 0)
      exact ar_iret rfl rfl h
theorem r_M_keeper_0 {d : Nat} (hd : 1 ≤ d) {R : am_R} {I : Nat → Nat → Int32} {L : Nat → Nat → Int64} {t : Int32} {b : Int32} {p : Int32} {m : Int32} (h : ((0 ≤ t ∧ t < 10 → (((b < 0 → (R (some (.int (-4 : Int32))) (am_mk (am_no I 4) L, 0, 0))) ∧ (¬ b < 0 → (((p < 1 → (R (some (.int (-4 : Int32))) (am_mk (am_no I 4) L, 0, 0))) ∧ (¬ p < 1 → (((m < 0 → (R (some (.int (-4 : Int32))) (am_mk (am_no I 4) L, 0, 0))) ∧ (¬ m < 0 → (((b ≤ 255 → (((p ≤ 2 → (((m ≤ 99999 → ((((I 113 4) = 20 → (R (some (.int (-6 : Int32))) (am_mk (am_no I 6) L, 0, 0))) ∧ (¬ (I 113 4) = 20 → (∃ j_9 : Nat, j_9 < 20 ∧ I 113 4 = nI j_9 ∧ (∀ I_12 : Nat → Nat → Int32, I_12 = va_up I 117 (upd (I 117) j_9 t) → (∃ j_14 : Nat, j_14 < 20 ∧ I_12 113 4 = nI j_14 ∧ (∀ I_17 : Nat → Nat → Int32, I_17 = va_up I_12 118 (upd (I_12 118) j_14 b) → (∃ j_19 : Nat, j_19 < 20 ∧ I_17 113 4 = nI j_19 ∧ (∀ I_22 : Nat → Nat → Int32, I_22 = va_up I_17 119 (upd (I_17 119) j_19 p) → (∃ j_24 : Nat, j_24 < 20 ∧ I_22 113 4 = nI j_24 ∧ (∀ I_27 : Nat → Nat → Int32, I_27 = va_up I_22 120 (upd (I_22 120) j_24 m) → (∀ I_29 : Nat → Nat → Int32, I_29 = va_up I_27 113 (upd (I_27 113) 4 ((I_27 113 4) + 1)) → (R (some (.int ((I_29 113 4) - 1))) (am_mk I_29 L, 0, 0))))))))))))))) ∧ (¬ m ≤ 99999 → (R (some (.int (-6 : Int32))) (am_mk (am_no I 6) L, 0, 0)))))) ∧ (¬ p ≤ 2 → (R (some (.int (-6 : Int32))) (am_mk (am_no I 6) L, 0, 0)))))) ∧ (¬ b ≤ 255 → (R (some (.int (-6 : Int32))) (am_mk (am_no I 6) L, 0, 0))))))))))))))) ∧ (¬ (0 ≤ t ∧ t < 10) → (R (some (.int (-1 : Int32))) (am_mk (am_no I 1) L, 0, 0))))) : am_Run am_X0 (am_meth d) 156 R 0 [some (.ref 113), some (.int t), some (.int b), some (.int p), some (.int m)] [] (am_mk I L, 0, 0) := by
  refine ar_aload_n (j := 0) (q := 1) rfl rfl rfl rfl ?_
  refine ar_iload_n (j := 1) (q := 2) rfl rfl rfl rfl ?_
  refine ar_invv (as := [.int t]) (rest := []) (b2 := (0, 0)) (b3 := (0, 0)) (q := 5) rfl rfl rfl rfl mk_113 rfl rfl rfl rfl rfl ?_
  obtain ⟨hA, hB⟩ := h
  refine ok_M_isTown (by omega)  (fun c_1 => ?_) (fun c_1 => ?_)
  · have h := hA c_1
    clear hA hB
    show am_Run am_X0 (am_meth d) 156 R 5 [some (.ref 113), some (.int t), some (.int b), some (.int p), some (.int m)] [.int 1] (am_mk I L, 0, 0)
    refine ar_b0 am_c_ne (t := 14) (q := 8) rfl rfl rfl (fun _ => ?_) (fun c9 => absurd (by decide) c9)
    refine ar_iload_n (j := 2) (q := 15) rfl rfl rfl rfl ?_
    obtain ⟨hA, hB⟩ := h
    refine ar_b0 am_c_lt (t := 28) (q := 18) rfl rfl rfl (fun c_2 => ?_) (fun c_2 => ?_)
    · have h := hA c_2
      clear hA hB
      refine ar_aload_n (j := 0) (q := 29) rfl rfl rfl rfl ?_
      refine ar_bipush (v := (-4 : Int32)) (q := 31) rfl rfl rfl ?_
      refine ar_invv (as := [.int (-4 : Int32)]) (rest := []) (b2 := (0, 0)) (b3 := (0, 0)) (q := 34) rfl rfl rfl rfl mk_113 rfl rfl rfl rfl rfl ?_
      refine ok_no (j := 4) (by omega) (by decide) (by decide) ?_
      show am_Run am_X0 (am_meth d) 156 R 34 [some (.ref 113), some (.int t), some (.int b), some (.int p), some (.int m)] [.int (-4 : Int32)] (am_mk (am_no I 4) L, 0, 0)
      exact ar_iret rfl rfl h
    · have h := hB c_2
      clear hA hB
      refine ar_iload_n (j := 3) (q := 19) rfl rfl rfl rfl ?_
      refine ar_iconst (v := 1) (q := 20) rfl rfl rfl ?_
      obtain ⟨hA, hB⟩ := h
      refine ar_br am_c_lt (t := 28) (q := 23) rfl rfl rfl (fun c_3 => ?_) (fun c_3 => ?_)
      · have h := hA c_3
        clear hA hB
        refine ar_aload_n (j := 0) (q := 29) rfl rfl rfl rfl ?_
        refine ar_bipush (v := (-4 : Int32)) (q := 31) rfl rfl rfl ?_
        refine ar_invv (as := [.int (-4 : Int32)]) (rest := []) (b2 := (0, 0)) (b3 := (0, 0)) (q := 34) rfl rfl rfl rfl mk_113 rfl rfl rfl rfl rfl ?_
        refine ok_no (j := 4) (by omega) (by decide) (by decide) ?_
        show am_Run am_X0 (am_meth d) 156 R 34 [some (.ref 113), some (.int t), some (.int b), some (.int p), some (.int m)] [.int (-4 : Int32)] (am_mk (am_no I 4) L, 0, 0)
        exact ar_iret rfl rfl h
      · have h := hB c_3
        clear hA hB
        refine ar_iload (q := 25) rfl rfl rfl ?_
        obtain ⟨hA, hB⟩ := h
        refine ar_b0 am_d_ge (t := 35) (q := 28) rfl rfl rfl (fun c_4 => ?_) (fun c_4 => ?_)
        · have h := hB c_4
          clear hA hB
          refine ar_iload_n (j := 2) (q := 36) rfl rfl rfl rfl ?_
          refine ar_sipush (v := 255) (q := 39) rfl rfl rfl ?_
          obtain ⟨hA, hB⟩ := h
          refine ar_br am_d_gt (t := 63) (q := 42) rfl rfl rfl (fun c_5 => ?_) (fun c_5 => ?_)
          · have h := hB c_5
            clear hA hB
            refine ar_aload_n (j := 0) (q := 64) rfl rfl rfl rfl ?_
            refine ar_bipush (v := (-6 : Int32)) (q := 66) rfl rfl rfl ?_
            refine ar_invv (as := [.int (-6 : Int32)]) (rest := []) (b2 := (0, 0)) (b3 := (0, 0)) (q := 69) rfl rfl rfl rfl mk_113 rfl rfl rfl rfl rfl ?_
            refine ok_no (j := 6) (by omega) (by decide) (by decide) ?_
            show am_Run am_X0 (am_meth d) 156 R 69 [some (.ref 113), some (.int t), some (.int b), some (.int p), some (.int m)] [.int (-6 : Int32)] (am_mk (am_no I 6) L, 0, 0)
            exact ar_iret rfl rfl h
          · have c_5 := Classical.not_not.mp c_5
            have h := hA c_5
            clear hA hB
            refine ar_iload_n (j := 3) (q := 43) rfl rfl rfl rfl ?_
            refine ar_iconst (v := 2) (q := 44) rfl rfl rfl ?_
            obtain ⟨hA, hB⟩ := h
            refine ar_br am_d_gt (t := 63) (q := 47) rfl rfl rfl (fun c_6 => ?_) (fun c_6 => ?_)
            · have h := hB c_6
              clear hA hB
              refine ar_aload_n (j := 0) (q := 64) rfl rfl rfl rfl ?_
              refine ar_bipush (v := (-6 : Int32)) (q := 66) rfl rfl rfl ?_
              refine ar_invv (as := [.int (-6 : Int32)]) (rest := []) (b2 := (0, 0)) (b3 := (0, 0)) (q := 69) rfl rfl rfl rfl mk_113 rfl rfl rfl rfl rfl ?_
              refine ok_no (j := 6) (by omega) (by decide) (by decide) ?_
              show am_Run am_X0 (am_meth d) 156 R 69 [some (.ref 113), some (.int t), some (.int b), some (.int p), some (.int m)] [.int (-6 : Int32)] (am_mk (am_no I 6) L, 0, 0)
              exact ar_iret rfl rfl h
            · have c_6 := Classical.not_not.mp c_6
              have h := hA c_6
              clear hA hB
              refine ar_iload (q := 49) rfl rfl rfl ?_
              refine ar_ldc (v := 99999) (q := 51) rfl rfl rfl ?_
              obtain ⟨hA, hB⟩ := h
              refine ar_br am_d_gt (t := 63) (q := 54) rfl rfl rfl (fun c_7 => ?_) (fun c_7 => ?_)
              · have h := hB c_7
                clear hA hB
                refine ar_aload_n (j := 0) (q := 64) rfl rfl rfl rfl ?_
                refine ar_bipush (v := (-6 : Int32)) (q := 66) rfl rfl rfl ?_
                refine ar_invv (as := [.int (-6 : Int32)]) (rest := []) (b2 := (0, 0)) (b3 := (0, 0)) (q := 69) rfl rfl rfl rfl mk_113 rfl rfl rfl rfl rfl ?_
                refine ok_no (j := 6) (by omega) (by decide) (by decide) ?_
                show am_Run am_X0 (am_meth d) 156 R 69 [some (.ref 113), some (.int t), some (.int b), some (.int p), some (.int m)] [.int (-6 : Int32)] (am_mk (am_no I 6) L, 0, 0)
                exact ar_iret rfl rfl h
              · have c_7 := Classical.not_not.mp c_7
                have h := hA c_7
                clear hA hB
                refine ar_aload_n (j := 0) (q := 55) rfl rfl rfl rfl ?_
                refine ar_getf (v := .int (I 113 4)) (q := 58) rfl rfl mk_113 rfl rfl ?_
                refine ar_bipush (v := 20) (q := 60) rfl rfl rfl ?_
                obtain ⟨hA, hB⟩ := h
                refine ar_br am_c_ne (t := 70) (q := 63) rfl rfl rfl (fun c_8 => ?_) (fun c_8 => ?_)
                · have h := hB c_8
                  clear hA hB
                  refine ar_aload_n (j := 0) (q := 71) rfl rfl rfl rfl ?_
                  refine ar_getf (v := .ref 117) (q := 74) rfl rfl mk_113 rfl rfl ?_
                  refine ar_aload_n (j := 0) (q := 75) rfl rfl rfl rfl ?_
                  refine ar_getf (v := .int (I 113 4)) (q := 78) rfl rfl mk_113 rfl rfl ?_
                  refine ar_iload_n (j := 1) (q := 79) rfl rfl rfl rfl ?_
                  obtain ⟨j_9, hx_10, hi_11, h⟩ := h
                  obtain ⟨I_12, hI_13⟩ : ∃ z : Nat → Nat → Int32, z = va_up I 117 (upd (I 117) j_9 t) := ⟨_, rfl⟩
                  have h := h I_12 hI_13
                  refine ar_iast (hp2 := am_mk I_12 L) (q := 80) rfl mk_117 (am_inE hi_11 hx_10 (by decide)) (by rw [am_clT hi_11 hx_10 (by decide), hI_13]; exact mk_s117) rfl ?_
                  refine ar_aload_n (j := 0) (q := 81) rfl rfl rfl rfl ?_
                  refine ar_getf (v := .ref 118) (q := 84) rfl rfl mk_113 rfl rfl ?_
                  refine ar_aload_n (j := 0) (q := 85) rfl rfl rfl rfl ?_
                  refine ar_getf (v := .int (I_12 113 4)) (q := 88) rfl rfl mk_113 rfl rfl ?_
                  refine ar_iload_n (j := 2) (q := 89) rfl rfl rfl rfl ?_
                  obtain ⟨j_14, hx_15, hi_16, h⟩ := h
                  obtain ⟨I_17, hI_18⟩ : ∃ z : Nat → Nat → Int32, z = va_up I_12 118 (upd (I_12 118) j_14 b) := ⟨_, rfl⟩
                  have h := h I_17 hI_18
                  refine ar_iast (hp2 := am_mk I_17 L) (q := 90) rfl mk_118 (am_inE hi_16 hx_15 (by decide)) (by rw [am_clT hi_16 hx_15 (by decide), hI_18]; exact mk_s118) rfl ?_
                  refine ar_aload_n (j := 0) (q := 91) rfl rfl rfl rfl ?_
                  refine ar_getf (v := .ref 119) (q := 94) rfl rfl mk_113 rfl rfl ?_
                  refine ar_aload_n (j := 0) (q := 95) rfl rfl rfl rfl ?_
                  refine ar_getf (v := .int (I_17 113 4)) (q := 98) rfl rfl mk_113 rfl rfl ?_
                  refine ar_iload_n (j := 3) (q := 99) rfl rfl rfl rfl ?_
                  obtain ⟨j_19, hx_20, hi_21, h⟩ := h
                  obtain ⟨I_22, hI_23⟩ : ∃ z : Nat → Nat → Int32, z = va_up I_17 119 (upd (I_17 119) j_19 p) := ⟨_, rfl⟩
                  have h := h I_22 hI_23
                  refine ar_iast (hp2 := am_mk I_22 L) (q := 100) rfl mk_119 (am_inE hi_21 hx_20 (by decide)) (by rw [am_clT hi_21 hx_20 (by decide), hI_23]; exact mk_s119) rfl ?_
                  refine ar_aload_n (j := 0) (q := 101) rfl rfl rfl rfl ?_
                  refine ar_getf (v := .ref 120) (q := 104) rfl rfl mk_113 rfl rfl ?_
                  refine ar_aload_n (j := 0) (q := 105) rfl rfl rfl rfl ?_
                  refine ar_getf (v := .int (I_22 113 4)) (q := 108) rfl rfl mk_113 rfl rfl ?_
                  refine ar_iload (q := 110) rfl rfl rfl ?_
                  obtain ⟨j_24, hx_25, hi_26, h⟩ := h
                  obtain ⟨I_27, hI_28⟩ : ∃ z : Nat → Nat → Int32, z = va_up I_22 120 (upd (I_22 120) j_24 m) := ⟨_, rfl⟩
                  have h := h I_27 hI_28
                  refine ar_iast (hp2 := am_mk I_27 L) (q := 111) rfl mk_120 (am_inE hi_26 hx_25 (by decide)) (by rw [am_clT hi_26 hx_25 (by decide), hI_28]; exact mk_s120) rfl ?_
                  refine ar_aload_n (j := 0) (q := 112) rfl rfl rfl rfl ?_
                  refine ar_st (i := .dup) (n := 1) (st' := [.ref 113, .ref 113]) (q := 113) rfl rfl rfl rfl ?_
                  refine ar_getf (v := .int (I_27 113 4)) (q := 116) rfl rfl mk_113 rfl rfl ?_
                  refine ar_iconst (v := 1) (q := 117) rfl rfl rfl ?_
                  refine ar_ib (i := .iadd) (z := (I_27 113 4) + 1) (q := 118) rfl rfl rfl rfl rfl ?_
                  obtain ⟨I_29, hI_30⟩ : ∃ z : Nat → Nat → Int32, z = va_up I_27 113 (upd (I_27 113) 4 ((I_27 113 4) + 1)) := ⟨_, rfl⟩
                  have h := h I_29 hI_30
                  refine ar_putf (hp2 := am_mk I_29 L) (q := 121) rfl rfl mk_113 rfl (by rw [hI_30]; exact mk_p113_4) rfl ?_
                  refine ar_aload_n (j := 0) (q := 122) rfl rfl rfl rfl ?_
                  refine ar_getf (v := .int (I_29 113 4)) (q := 125) rfl rfl mk_113 rfl rfl ?_
                  refine ar_iconst (v := 1) (q := 126) rfl rfl rfl ?_
                  refine ar_ib (i := .isub) (z := (I_29 113 4) - 1) (q := 127) rfl rfl rfl rfl rfl ?_
                  exact ar_iret rfl rfl h
                · have c_8 := Classical.not_not.mp c_8
                  have h := hA c_8
                  clear hA hB
                  refine ar_aload_n (j := 0) (q := 64) rfl rfl rfl rfl ?_
                  refine ar_bipush (v := (-6 : Int32)) (q := 66) rfl rfl rfl ?_
                  refine ar_invv (as := [.int (-6 : Int32)]) (rest := []) (b2 := (0, 0)) (b3 := (0, 0)) (q := 69) rfl rfl rfl rfl mk_113 rfl rfl rfl rfl rfl ?_
                  refine ok_no (j := 6) (by omega) (by decide) (by decide) ?_
                  show am_Run am_X0 (am_meth d) 156 R 69 [some (.ref 113), some (.int t), some (.int b), some (.int p), some (.int m)] [.int (-6 : Int32)] (am_mk (am_no I 6) L, 0, 0)
                  exact ar_iret rfl rfl h
        · have c_4 := Classical.not_not.mp c_4
          have h := hA c_4
          clear hA hB
          refine ar_aload_n (j := 0) (q := 29) rfl rfl rfl rfl ?_
          refine ar_bipush (v := (-4 : Int32)) (q := 31) rfl rfl rfl ?_
          refine ar_invv (as := [.int (-4 : Int32)]) (rest := []) (b2 := (0, 0)) (b3 := (0, 0)) (q := 34) rfl rfl rfl rfl mk_113 rfl rfl rfl rfl rfl ?_
          refine ok_no (j := 4) (by omega) (by decide) (by decide) ?_
          show am_Run am_X0 (am_meth d) 156 R 34 [some (.ref 113), some (.int t), some (.int b), some (.int p), some (.int m)] [.int (-4 : Int32)] (am_mk (am_no I 4) L, 0, 0)
          exact ar_iret rfl rfl h
  · have h := hB c_1
    clear hA hB
    show am_Run am_X0 (am_meth d) 156 R 5 [some (.ref 113), some (.int t), some (.int b), some (.int p), some (.int m)] [.int 0] (am_mk I L, 0, 0)
    refine ar_b0 am_c_ne (t := 14) (q := 8) rfl rfl rfl (fun c9 => absurd (by decide) c9) (fun _ => ?_)
    refine ar_aload_n (j := 0) (q := 9) rfl rfl rfl rfl ?_
    refine ar_iconst (v := (-1 : Int32)) (q := 10) rfl rfl rfl ?_
    refine ar_invv (as := [.int (-1 : Int32)]) (rest := []) (b2 := (0, 0)) (b3 := (0, 0)) (q := 13) rfl rfl rfl rfl mk_113 rfl rfl rfl rfl rfl ?_
    refine ok_no (j := 1) (by omega) (by decide) (by decide) ?_
    show am_Run am_X0 (am_meth d) 156 R 13 [some (.ref 113), some (.int t), some (.int b), some (.int p), some (.int m)] [.int (-1 : Int32)] (am_mk (am_no I 1) L, 0, 0)
    exact ar_iret rfl rfl h
theorem r_M_house_0 {d : Nat} (hd : 1 ≤ d) {R : am_R} {I : Nat → Nat → Int32} {L : Nat → Nat → Int64} {t : Int32} {b : Int32} (h : ((0 ≤ t ∧ t < 10 → (((b < 0 → (R (some (.int (-4 : Int32))) (am_mk (am_no I 4) L, 0, 0))) ∧ (¬ b < 0 → (((b ≤ 255 → ((((I 113 10) = 20 → (R (some (.int (-6 : Int32))) (am_mk (am_no I 6) L, 0, 0))) ∧ (¬ (I 113 10) = 20 → (∃ j_5 : Nat, j_5 < 20 ∧ I 113 10 = nI j_5 ∧ (∀ I_8 : Nat → Nat → Int32, I_8 = va_up I 122 (upd (I 122) j_5 t) → (∃ j_10 : Nat, j_10 < 20 ∧ I_8 113 10 = nI j_10 ∧ (∀ I_13 : Nat → Nat → Int32, I_13 = va_up I_8 123 (upd (I_8 123) j_10 b) → (∀ I_15 : Nat → Nat → Int32, I_15 = va_up I_13 113 (upd (I_13 113) 10 ((I_13 113 10) + 1)) → (R (some (.int ((I_15 113 10) - 1))) (am_mk I_15 L, 0, 0))))))))))) ∧ (¬ b ≤ 255 → (R (some (.int (-6 : Int32))) (am_mk (am_no I 6) L, 0, 0))))))))) ∧ (¬ (0 ≤ t ∧ t < 10) → (R (some (.int (-1 : Int32))) (am_mk (am_no I 1) L, 0, 0))))) : am_Run am_X0 (am_meth d) 157 R 0 [some (.ref 113), some (.int t), some (.int b)] [] (am_mk I L, 0, 0) := by
  refine ar_aload_n (j := 0) (q := 1) rfl rfl rfl rfl ?_
  refine ar_iload_n (j := 1) (q := 2) rfl rfl rfl rfl ?_
  refine ar_invv (as := [.int t]) (rest := []) (b2 := (0, 0)) (b3 := (0, 0)) (q := 5) rfl rfl rfl rfl mk_113 rfl rfl rfl rfl rfl ?_
  obtain ⟨hA, hB⟩ := h
  refine ok_M_isTown (by omega)  (fun c_1 => ?_) (fun c_1 => ?_)
  · have h := hA c_1
    clear hA hB
    show am_Run am_X0 (am_meth d) 157 R 5 [some (.ref 113), some (.int t), some (.int b)] [.int 1] (am_mk I L, 0, 0)
    refine ar_b0 am_c_ne (t := 14) (q := 8) rfl rfl rfl (fun _ => ?_) (fun c9 => absurd (by decide) c9)
    refine ar_iload_n (j := 2) (q := 15) rfl rfl rfl rfl ?_
    obtain ⟨hA, hB⟩ := h
    refine ar_b0 am_d_ge (t := 25) (q := 18) rfl rfl rfl (fun c_2 => ?_) (fun c_2 => ?_)
    · have h := hB c_2
      clear hA hB
      refine ar_iload_n (j := 2) (q := 26) rfl rfl rfl rfl ?_
      refine ar_sipush (v := 255) (q := 29) rfl rfl rfl ?_
      obtain ⟨hA, hB⟩ := h
      refine ar_br am_d_gt (t := 41) (q := 32) rfl rfl rfl (fun c_3 => ?_) (fun c_3 => ?_)
      · have h := hB c_3
        clear hA hB
        refine ar_aload_n (j := 0) (q := 42) rfl rfl rfl rfl ?_
        refine ar_bipush (v := (-6 : Int32)) (q := 44) rfl rfl rfl ?_
        refine ar_invv (as := [.int (-6 : Int32)]) (rest := []) (b2 := (0, 0)) (b3 := (0, 0)) (q := 47) rfl rfl rfl rfl mk_113 rfl rfl rfl rfl rfl ?_
        refine ok_no (j := 6) (by omega) (by decide) (by decide) ?_
        show am_Run am_X0 (am_meth d) 157 R 47 [some (.ref 113), some (.int t), some (.int b)] [.int (-6 : Int32)] (am_mk (am_no I 6) L, 0, 0)
        exact ar_iret rfl rfl h
      · have c_3 := Classical.not_not.mp c_3
        have h := hA c_3
        clear hA hB
        refine ar_aload_n (j := 0) (q := 33) rfl rfl rfl rfl ?_
        refine ar_getf (v := .int (I 113 10)) (q := 36) rfl rfl mk_113 rfl rfl ?_
        refine ar_bipush (v := 20) (q := 38) rfl rfl rfl ?_
        obtain ⟨hA, hB⟩ := h
        refine ar_br am_c_ne (t := 48) (q := 41) rfl rfl rfl (fun c_4 => ?_) (fun c_4 => ?_)
        · have h := hB c_4
          clear hA hB
          refine ar_aload_n (j := 0) (q := 49) rfl rfl rfl rfl ?_
          refine ar_getf (v := .ref 122) (q := 52) rfl rfl mk_113 rfl rfl ?_
          refine ar_aload_n (j := 0) (q := 53) rfl rfl rfl rfl ?_
          refine ar_getf (v := .int (I 113 10)) (q := 56) rfl rfl mk_113 rfl rfl ?_
          refine ar_iload_n (j := 1) (q := 57) rfl rfl rfl rfl ?_
          obtain ⟨j_5, hx_6, hi_7, h⟩ := h
          obtain ⟨I_8, hI_9⟩ : ∃ z : Nat → Nat → Int32, z = va_up I 122 (upd (I 122) j_5 t) := ⟨_, rfl⟩
          have h := h I_8 hI_9
          refine ar_iast (hp2 := am_mk I_8 L) (q := 58) rfl mk_122 (am_inE hi_7 hx_6 (by decide)) (by rw [am_clT hi_7 hx_6 (by decide), hI_9]; exact mk_s122) rfl ?_
          refine ar_aload_n (j := 0) (q := 59) rfl rfl rfl rfl ?_
          refine ar_getf (v := .ref 123) (q := 62) rfl rfl mk_113 rfl rfl ?_
          refine ar_aload_n (j := 0) (q := 63) rfl rfl rfl rfl ?_
          refine ar_getf (v := .int (I_8 113 10)) (q := 66) rfl rfl mk_113 rfl rfl ?_
          refine ar_iload_n (j := 2) (q := 67) rfl rfl rfl rfl ?_
          obtain ⟨j_10, hx_11, hi_12, h⟩ := h
          obtain ⟨I_13, hI_14⟩ : ∃ z : Nat → Nat → Int32, z = va_up I_8 123 (upd (I_8 123) j_10 b) := ⟨_, rfl⟩
          have h := h I_13 hI_14
          refine ar_iast (hp2 := am_mk I_13 L) (q := 68) rfl mk_123 (am_inE hi_12 hx_11 (by decide)) (by rw [am_clT hi_12 hx_11 (by decide), hI_14]; exact mk_s123) rfl ?_
          refine ar_aload_n (j := 0) (q := 69) rfl rfl rfl rfl ?_
          refine ar_st (i := .dup) (n := 1) (st' := [.ref 113, .ref 113]) (q := 70) rfl rfl rfl rfl ?_
          refine ar_getf (v := .int (I_13 113 10)) (q := 73) rfl rfl mk_113 rfl rfl ?_
          refine ar_iconst (v := 1) (q := 74) rfl rfl rfl ?_
          refine ar_ib (i := .iadd) (z := (I_13 113 10) + 1) (q := 75) rfl rfl rfl rfl rfl ?_
          obtain ⟨I_15, hI_16⟩ : ∃ z : Nat → Nat → Int32, z = va_up I_13 113 (upd (I_13 113) 10 ((I_13 113 10) + 1)) := ⟨_, rfl⟩
          have h := h I_15 hI_16
          refine ar_putf (hp2 := am_mk I_15 L) (q := 78) rfl rfl mk_113 rfl (by rw [hI_16]; exact mk_p113_10) rfl ?_
          refine ar_aload_n (j := 0) (q := 79) rfl rfl rfl rfl ?_
          refine ar_getf (v := .int (I_15 113 10)) (q := 82) rfl rfl mk_113 rfl rfl ?_
          refine ar_iconst (v := 1) (q := 83) rfl rfl rfl ?_
          refine ar_ib (i := .isub) (z := (I_15 113 10) - 1) (q := 84) rfl rfl rfl rfl rfl ?_
          exact ar_iret rfl rfl h
        · have c_4 := Classical.not_not.mp c_4
          have h := hA c_4
          clear hA hB
          refine ar_aload_n (j := 0) (q := 42) rfl rfl rfl rfl ?_
          refine ar_bipush (v := (-6 : Int32)) (q := 44) rfl rfl rfl ?_
          refine ar_invv (as := [.int (-6 : Int32)]) (rest := []) (b2 := (0, 0)) (b3 := (0, 0)) (q := 47) rfl rfl rfl rfl mk_113 rfl rfl rfl rfl rfl ?_
          refine ok_no (j := 6) (by omega) (by decide) (by decide) ?_
          show am_Run am_X0 (am_meth d) 157 R 47 [some (.ref 113), some (.int t), some (.int b)] [.int (-6 : Int32)] (am_mk (am_no I 6) L, 0, 0)
          exact ar_iret rfl rfl h
    · have c_2 := Classical.not_not.mp c_2
      have h := hA c_2
      clear hA hB
      refine ar_aload_n (j := 0) (q := 19) rfl rfl rfl rfl ?_
      refine ar_bipush (v := (-4 : Int32)) (q := 21) rfl rfl rfl ?_
      refine ar_invv (as := [.int (-4 : Int32)]) (rest := []) (b2 := (0, 0)) (b3 := (0, 0)) (q := 24) rfl rfl rfl rfl mk_113 rfl rfl rfl rfl rfl ?_
      refine ok_no (j := 4) (by omega) (by decide) (by decide) ?_
      show am_Run am_X0 (am_meth d) 157 R 24 [some (.ref 113), some (.int t), some (.int b)] [.int (-4 : Int32)] (am_mk (am_no I 4) L, 0, 0)
      exact ar_iret rfl rfl h
  · have h := hB c_1
    clear hA hB
    show am_Run am_X0 (am_meth d) 157 R 5 [some (.ref 113), some (.int t), some (.int b)] [.int 0] (am_mk I L, 0, 0)
    refine ar_b0 am_c_ne (t := 14) (q := 8) rfl rfl rfl (fun c9 => absurd (by decide) c9) (fun _ => ?_)
    refine ar_aload_n (j := 0) (q := 9) rfl rfl rfl rfl ?_
    refine ar_iconst (v := (-1 : Int32)) (q := 10) rfl rfl rfl ?_
    refine ar_invv (as := [.int (-1 : Int32)]) (rest := []) (b2 := (0, 0)) (b3 := (0, 0)) (q := 13) rfl rfl rfl rfl mk_113 rfl rfl rfl rfl rfl ?_
    refine ok_no (j := 1) (by omega) (by decide) (by decide) ?_
    show am_Run am_X0 (am_meth d) 157 R 13 [some (.ref 113), some (.int t), some (.int b)] [.int (-1 : Int32)] (am_mk (am_no I 1) L, 0, 0)
    exact ar_iret rfl rfl h
theorem r_M_stayOf_0 {d : Nat} (hd : 1 ≤ d) {R : am_R} {I : Nat → Nat → Int32} {L : Nat → Nat → Int64} {s : Int32} {w : Int32} (h : ((0 ≤ s ∧ s < I 113 14 → (((w < 0 → (R (some (.int (-2 : Int32))) (am_mk (am_no I 2) L, 0, 0))) ∧ (¬ w < 0 → (((w ≤ 5 → (((w = 0 → (∃ j_5 : Nat, j_5 < 60 ∧ s = nI j_5 ∧ (R (some (.int (I 125 j_5))) (am_mk I L, 0, 0)))) ∧ (¬ w = 0 → (((w = 1 → (∃ j_9 : Nat, j_9 < 60 ∧ s = nI j_9 ∧ (R (some (.int (I 126 j_9))) (am_mk I L, 0, 0)))) ∧ (¬ w = 1 → (((w = 2 → (∃ j_13 : Nat, j_13 < 60 ∧ s = nI j_13 ∧ (R (some (.int (I 127 j_13))) (am_mk I L, 0, 0)))) ∧ (¬ w = 2 → (((w = 3 → (∃ j_17 : Nat, j_17 < 60 ∧ s = nI j_17 ∧ (R (some (.int (I 128 j_17))) (am_mk I L, 0, 0)))) ∧ (¬ w = 3 → (((w = 4 → (∃ j_21 : Nat, j_21 < 60 ∧ s = nI j_21 ∧ (R (some (.int (I 129 j_21))) (am_mk I L, 0, 0)))) ∧ (¬ w = 4 → (∃ j_24 : Nat, s = nI j_24 ∧ ((j_24 < 60) ∧ (((I 127 j_24 < I 113 0 → (R (some (.int 1)) (am_mk I L, 0, 0))) ∧ (¬ (I 127 j_24 < I 113 0) → (R (some (.int 0)) (am_mk I L, 0, 0))))))))))))))))))))))) ∧ (¬ w ≤ 5 → (R (some (.int (-2 : Int32))) (am_mk (am_no I 2) L, 0, 0))))))))) ∧ (¬ (0 ≤ s ∧ s < I 113 14) → (R (some (.int (-1 : Int32))) (am_mk (am_no I 1) L, 0, 0))))) : am_Run am_X0 (am_meth d) 160 R 0 [some (.ref 113), some (.int s), some (.int w)] [] (am_mk I L, 0, 0) := by
  refine ar_aload_n (j := 0) (q := 1) rfl rfl rfl rfl ?_
  refine ar_iload_n (j := 1) (q := 2) rfl rfl rfl rfl ?_
  refine ar_invv (as := [.int s]) (rest := []) (b2 := (0, 0)) (b3 := (0, 0)) (q := 5) rfl rfl rfl rfl mk_113 rfl rfl rfl rfl rfl ?_
  obtain ⟨hA, hB⟩ := h
  refine ok_M_isStay (by omega)  (fun c_1 => ?_) (fun c_1 => ?_)
  · have h := hA c_1
    clear hA hB
    show am_Run am_X0 (am_meth d) 160 R 5 [some (.ref 113), some (.int s), some (.int w)] [.int 1] (am_mk I L, 0, 0)
    refine ar_b0 am_c_ne (t := 14) (q := 8) rfl rfl rfl (fun _ => ?_) (fun c9 => absurd (by decide) c9)
    refine ar_iload_n (j := 2) (q := 15) rfl rfl rfl rfl ?_
    obtain ⟨hA, hB⟩ := h
    refine ar_b0 am_c_lt (t := 23) (q := 18) rfl rfl rfl (fun c_2 => ?_) (fun c_2 => ?_)
    · have h := hA c_2
      clear hA hB
      refine ar_aload_n (j := 0) (q := 24) rfl rfl rfl rfl ?_
      refine ar_bipush (v := (-2 : Int32)) (q := 26) rfl rfl rfl ?_
      refine ar_invv (as := [.int (-2 : Int32)]) (rest := []) (b2 := (0, 0)) (b3 := (0, 0)) (q := 29) rfl rfl rfl rfl mk_113 rfl rfl rfl rfl rfl ?_
      refine ok_no (j := 2) (by omega) (by decide) (by decide) ?_
      show am_Run am_X0 (am_meth d) 160 R 29 [some (.ref 113), some (.int s), some (.int w)] [.int (-2 : Int32)] (am_mk (am_no I 2) L, 0, 0)
      exact ar_iret rfl rfl h
    · have h := hB c_2
      clear hA hB
      refine ar_iload_n (j := 2) (q := 19) rfl rfl rfl rfl ?_
      refine ar_iconst (v := 5) (q := 20) rfl rfl rfl ?_
      obtain ⟨hA, hB⟩ := h
      refine ar_br am_c_le (t := 30) (q := 23) rfl rfl rfl (fun c_3 => ?_) (fun c_3 => ?_)
      · have h := hA c_3
        clear hA hB
        refine ar_iload_n (j := 2) (q := 31) rfl rfl rfl rfl ?_
        obtain ⟨hA, hB⟩ := h
        refine ar_b0 am_c_ne (t := 41) (q := 34) rfl rfl rfl (fun c_4 => ?_) (fun c_4 => ?_)
        · have h := hB c_4
          clear hA hB
          refine ar_iload_n (j := 2) (q := 42) rfl rfl rfl rfl ?_
          refine ar_iconst (v := 1) (q := 43) rfl rfl rfl ?_
          obtain ⟨hA, hB⟩ := h
          refine ar_br am_c_ne (t := 53) (q := 46) rfl rfl rfl (fun c_8 => ?_) (fun c_8 => ?_)
          · have h := hB c_8
            clear hA hB
            refine ar_iload_n (j := 2) (q := 54) rfl rfl rfl rfl ?_
            refine ar_iconst (v := 2) (q := 55) rfl rfl rfl ?_
            obtain ⟨hA, hB⟩ := h
            refine ar_br am_c_ne (t := 65) (q := 58) rfl rfl rfl (fun c_12 => ?_) (fun c_12 => ?_)
            · have h := hB c_12
              clear hA hB
              refine ar_iload_n (j := 2) (q := 66) rfl rfl rfl rfl ?_
              refine ar_iconst (v := 3) (q := 67) rfl rfl rfl ?_
              obtain ⟨hA, hB⟩ := h
              refine ar_br am_c_ne (t := 77) (q := 70) rfl rfl rfl (fun c_16 => ?_) (fun c_16 => ?_)
              · have h := hB c_16
                clear hA hB
                refine ar_iload_n (j := 2) (q := 78) rfl rfl rfl rfl ?_
                refine ar_iconst (v := 4) (q := 79) rfl rfl rfl ?_
                obtain ⟨hA, hB⟩ := h
                refine ar_br am_c_ne (t := 89) (q := 82) rfl rfl rfl (fun c_20 => ?_) (fun c_20 => ?_)
                · have h := hB c_20
                  clear hA hB
                  refine ar_aload_n (j := 0) (q := 90) rfl rfl rfl rfl ?_
                  refine ar_iload_n (j := 1) (q := 91) rfl rfl rfl rfl ?_
                  refine ar_invv (as := [.int s]) (rest := []) (b2 := (0, 0)) (b3 := (0, 0)) (q := 94) rfl rfl rfl rfl mk_113 rfl rfl rfl rfl rfl ?_
                  obtain ⟨j_24, hi_25, h⟩ := h
                  obtain ⟨hp_27, h⟩ := h
                  obtain ⟨hA, hB⟩ := h
                  refine ok_M_isOver (by omega) hi_25 hp_27 (fun c_26 => ?_) (fun c_26 => ?_)
                  · have h := hA c_26
                    clear hA hB
                    show am_Run am_X0 (am_meth d) 160 R 94 [some (.ref 113), some (.int s), some (.int w)] [.int 1] (am_mk I L, 0, 0)
                    refine ar_b0 am_c_eq (t := 101) (q := 97) rfl rfl rfl (fun c9 => absurd c9 (by decide)) (fun _ => ?_)
                    refine ar_iconst (v := 1) (q := 98) rfl rfl rfl ?_
                    refine ar_goto (t := 102) rfl rfl ?_
                    exact ar_iret rfl rfl h
                  · have h := hB c_26
                    clear hA hB
                    show am_Run am_X0 (am_meth d) 160 R 94 [some (.ref 113), some (.int s), some (.int w)] [.int 0] (am_mk I L, 0, 0)
                    refine ar_b0 am_c_eq (t := 101) (q := 97) rfl rfl rfl (fun _ => ?_) (fun c9 => absurd (by decide) c9)
                    refine ar_iconst (v := 0) (q := 102) rfl rfl rfl ?_
                    exact ar_iret rfl rfl h
                · have c_20 := Classical.not_not.mp c_20
                  have h := hA c_20
                  clear hA hB
                  refine ar_aload_n (j := 0) (q := 83) rfl rfl rfl rfl ?_
                  refine ar_getf (v := .ref 129) (q := 86) rfl rfl mk_113 rfl rfl ?_
                  refine ar_iload_n (j := 1) (q := 87) rfl rfl rfl rfl ?_
                  obtain ⟨j_21, hx_22, hi_23, h⟩ := h
                  refine ar_iald (v := I 129 j_21) (q := 88) rfl mk_129 (am_inE hi_23 hx_22 (by decide)) (am_clE hi_23 hx_22 (by decide)) rfl ?_
                  exact ar_iret rfl rfl h
              · have c_16 := Classical.not_not.mp c_16
                have h := hA c_16
                clear hA hB
                refine ar_aload_n (j := 0) (q := 71) rfl rfl rfl rfl ?_
                refine ar_getf (v := .ref 128) (q := 74) rfl rfl mk_113 rfl rfl ?_
                refine ar_iload_n (j := 1) (q := 75) rfl rfl rfl rfl ?_
                obtain ⟨j_17, hx_18, hi_19, h⟩ := h
                refine ar_iald (v := I 128 j_17) (q := 76) rfl mk_128 (am_inE hi_19 hx_18 (by decide)) (am_clE hi_19 hx_18 (by decide)) rfl ?_
                exact ar_iret rfl rfl h
            · have c_12 := Classical.not_not.mp c_12
              have h := hA c_12
              clear hA hB
              refine ar_aload_n (j := 0) (q := 59) rfl rfl rfl rfl ?_
              refine ar_getf (v := .ref 127) (q := 62) rfl rfl mk_113 rfl rfl ?_
              refine ar_iload_n (j := 1) (q := 63) rfl rfl rfl rfl ?_
              obtain ⟨j_13, hx_14, hi_15, h⟩ := h
              refine ar_iald (v := I 127 j_13) (q := 64) rfl mk_127 (am_inE hi_15 hx_14 (by decide)) (am_clE hi_15 hx_14 (by decide)) rfl ?_
              exact ar_iret rfl rfl h
          · have c_8 := Classical.not_not.mp c_8
            have h := hA c_8
            clear hA hB
            refine ar_aload_n (j := 0) (q := 47) rfl rfl rfl rfl ?_
            refine ar_getf (v := .ref 126) (q := 50) rfl rfl mk_113 rfl rfl ?_
            refine ar_iload_n (j := 1) (q := 51) rfl rfl rfl rfl ?_
            obtain ⟨j_9, hx_10, hi_11, h⟩ := h
            refine ar_iald (v := I 126 j_9) (q := 52) rfl mk_126 (am_inE hi_11 hx_10 (by decide)) (am_clE hi_11 hx_10 (by decide)) rfl ?_
            exact ar_iret rfl rfl h
        · have c_4 := Classical.not_not.mp c_4
          have h := hA c_4
          clear hA hB
          refine ar_aload_n (j := 0) (q := 35) rfl rfl rfl rfl ?_
          refine ar_getf (v := .ref 125) (q := 38) rfl rfl mk_113 rfl rfl ?_
          refine ar_iload_n (j := 1) (q := 39) rfl rfl rfl rfl ?_
          obtain ⟨j_5, hx_6, hi_7, h⟩ := h
          refine ar_iald (v := I 125 j_5) (q := 40) rfl mk_125 (am_inE hi_7 hx_6 (by decide)) (am_clE hi_7 hx_6 (by decide)) rfl ?_
          exact ar_iret rfl rfl h
      · have h := hB c_3
        clear hA hB
        refine ar_aload_n (j := 0) (q := 24) rfl rfl rfl rfl ?_
        refine ar_bipush (v := (-2 : Int32)) (q := 26) rfl rfl rfl ?_
        refine ar_invv (as := [.int (-2 : Int32)]) (rest := []) (b2 := (0, 0)) (b3 := (0, 0)) (q := 29) rfl rfl rfl rfl mk_113 rfl rfl rfl rfl rfl ?_
        refine ok_no (j := 2) (by omega) (by decide) (by decide) ?_
        show am_Run am_X0 (am_meth d) 160 R 29 [some (.ref 113), some (.int s), some (.int w)] [.int (-2 : Int32)] (am_mk (am_no I 2) L, 0, 0)
        exact ar_iret rfl rfl h
  · have h := hB c_1
    clear hA hB
    show am_Run am_X0 (am_meth d) 160 R 5 [some (.ref 113), some (.int s), some (.int w)] [.int 0] (am_mk I L, 0, 0)
    refine ar_b0 am_c_ne (t := 14) (q := 8) rfl rfl rfl (fun c9 => absurd (by decide) c9) (fun _ => ?_)
    refine ar_aload_n (j := 0) (q := 9) rfl rfl rfl rfl ?_
    refine ar_iconst (v := (-1 : Int32)) (q := 10) rfl rfl rfl ?_
    refine ar_invv (as := [.int (-1 : Int32)]) (rest := []) (b2 := (0, 0)) (b3 := (0, 0)) (q := 13) rfl rfl rfl rfl mk_113 rfl rfl rfl rfl rfl ?_
    refine ok_no (j := 1) (by omega) (by decide) (by decide) ?_
    show am_Run am_X0 (am_meth d) 160 R 13 [some (.ref 113), some (.int s), some (.int w)] [.int (-1 : Int32)] (am_mk (am_no I 1) L, 0, 0)
    exact ar_iret rfl rfl h
theorem r_M_cancel_0 {d : Nat} (hd : 1 ≤ d) {R : am_R} {I : Nat → Nat → Int32} {L : Nat → Nat → Int64} {s : Int32} (h : ((0 ≤ s ∧ s < I 113 14 → (∃ j_2 : Nat, s = nI j_2 ∧ ((j_2 < 60) ∧ (((I 127 j_2 < I 113 0 → (R (some (.int (-3 : Int32))) (am_mk (am_no I 3) L, 0, 0))) ∧ (¬ (I 127 j_2 < I 113 0) → (∃ j_6 : Nat, j_6 < 60 ∧ s = nI j_6 ∧ ((((I 128 j_6) = 2 → (R (some (.int (-3 : Int32))) (am_mk (am_no I 3) L, 0, 0))) ∧ (¬ (I 128 j_6) = 2 → (∀ I_10 : Nat → Nat → Int32, I_10 = va_up I 128 (upd (I 128) j_6 2) → (R (some (.int (I_10 129 j_6))) (am_mk I_10 L, 0, 0))))))))))))) ∧ (¬ (0 ≤ s ∧ s < I 113 14) → (R (some (.int (-1 : Int32))) (am_mk (am_no I 1) L, 0, 0))))) : am_Run am_X0 (am_meth d) 192 R 0 [some (.ref 113), some (.int s)] [] (am_mk I L, 0, 0) := by
  refine ar_aload_n (j := 0) (q := 1) rfl rfl rfl rfl ?_
  refine ar_iload_n (j := 1) (q := 2) rfl rfl rfl rfl ?_
  refine ar_invv (as := [.int s]) (rest := []) (b2 := (0, 0)) (b3 := (0, 0)) (q := 5) rfl rfl rfl rfl mk_113 rfl rfl rfl rfl rfl ?_
  obtain ⟨hA, hB⟩ := h
  refine ok_M_isStay (by omega)  (fun c_1 => ?_) (fun c_1 => ?_)
  · have h := hA c_1
    clear hA hB
    show am_Run am_X0 (am_meth d) 192 R 5 [some (.ref 113), some (.int s)] [.int 1] (am_mk I L, 0, 0)
    refine ar_b0 am_c_ne (t := 14) (q := 8) rfl rfl rfl (fun _ => ?_) (fun c9 => absurd (by decide) c9)
    refine ar_aload_n (j := 0) (q := 15) rfl rfl rfl rfl ?_
    refine ar_iload_n (j := 1) (q := 16) rfl rfl rfl rfl ?_
    refine ar_invv (as := [.int s]) (rest := []) (b2 := (0, 0)) (b3 := (0, 0)) (q := 19) rfl rfl rfl rfl mk_113 rfl rfl rfl rfl rfl ?_
    obtain ⟨j_2, hi_3, h⟩ := h
    obtain ⟨hp_5, h⟩ := h
    obtain ⟨hA, hB⟩ := h
    refine ok_M_isOver (by omega) hi_3 hp_5 (fun c_4 => ?_) (fun c_4 => ?_)
    · have h := hA c_4
      clear hA hB
      show am_Run am_X0 (am_meth d) 192 R 19 [some (.ref 113), some (.int s)] [.int 1] (am_mk I L, 0, 0)
      refine ar_b0 am_c_ne (t := 32) (q := 22) rfl rfl rfl (fun _ => ?_) (fun c9 => absurd (by decide) c9)
      refine ar_aload_n (j := 0) (q := 33) rfl rfl rfl rfl ?_
      refine ar_bipush (v := (-3 : Int32)) (q := 35) rfl rfl rfl ?_
      refine ar_invv (as := [.int (-3 : Int32)]) (rest := []) (b2 := (0, 0)) (b3 := (0, 0)) (q := 38) rfl rfl rfl rfl mk_113 rfl rfl rfl rfl rfl ?_
      refine ok_no (j := 3) (by omega) (by decide) (by decide) ?_
      show am_Run am_X0 (am_meth d) 192 R 38 [some (.ref 113), some (.int s)] [.int (-3 : Int32)] (am_mk (am_no I 3) L, 0, 0)
      exact ar_iret rfl rfl h
    · have h := hB c_4
      clear hA hB
      show am_Run am_X0 (am_meth d) 192 R 19 [some (.ref 113), some (.int s)] [.int 0] (am_mk I L, 0, 0)
      refine ar_b0 am_c_ne (t := 32) (q := 22) rfl rfl rfl (fun c9 => absurd (by decide) c9) (fun _ => ?_)
      refine ar_aload_n (j := 0) (q := 23) rfl rfl rfl rfl ?_
      refine ar_getf (v := .ref 128) (q := 26) rfl rfl mk_113 rfl rfl ?_
      refine ar_iload_n (j := 1) (q := 27) rfl rfl rfl rfl ?_
      obtain ⟨j_6, hx_7, hi_8, h⟩ := h
      refine ar_iald (v := I 128 j_6) (q := 28) rfl mk_128 (am_inE hi_8 hx_7 (by decide)) (am_clE hi_8 hx_7 (by decide)) rfl ?_
      refine ar_iconst (v := 2) (q := 29) rfl rfl rfl ?_
      obtain ⟨hA, hB⟩ := h
      refine ar_br am_c_ne (t := 39) (q := 32) rfl rfl rfl (fun c_9 => ?_) (fun c_9 => ?_)
      · have h := hB c_9
        clear hA hB
        refine ar_aload_n (j := 0) (q := 40) rfl rfl rfl rfl ?_
        refine ar_getf (v := .ref 128) (q := 43) rfl rfl mk_113 rfl rfl ?_
        refine ar_iload_n (j := 1) (q := 44) rfl rfl rfl rfl ?_
        refine ar_iconst (v := 2) (q := 45) rfl rfl rfl ?_
        obtain ⟨I_10, hI_11⟩ : ∃ z : Nat → Nat → Int32, z = va_up I 128 (upd (I 128) j_6 2) := ⟨_, rfl⟩
        have h := h I_10 hI_11
        refine ar_iast (hp2 := am_mk I_10 L) (q := 46) rfl mk_128 (am_inE hi_8 hx_7 (by decide)) (by rw [am_clT hi_8 hx_7 (by decide), hI_11]; exact mk_s128) rfl ?_
        refine ar_aload_n (j := 0) (q := 47) rfl rfl rfl rfl ?_
        refine ar_getf (v := .ref 129) (q := 50) rfl rfl mk_113 rfl rfl ?_
        refine ar_iload_n (j := 1) (q := 51) rfl rfl rfl rfl ?_
        refine ar_iald (v := I_10 129 j_6) (q := 52) rfl mk_129 (am_inE hi_8 hx_7 (by decide)) (am_clE hi_8 hx_7 (by decide)) rfl ?_
        exact ar_iret rfl rfl h
      · have c_9 := Classical.not_not.mp c_9
        have h := hA c_9
        clear hA hB
        refine ar_aload_n (j := 0) (q := 33) rfl rfl rfl rfl ?_
        refine ar_bipush (v := (-3 : Int32)) (q := 35) rfl rfl rfl ?_
        refine ar_invv (as := [.int (-3 : Int32)]) (rest := []) (b2 := (0, 0)) (b3 := (0, 0)) (q := 38) rfl rfl rfl rfl mk_113 rfl rfl rfl rfl rfl ?_
        refine ok_no (j := 3) (by omega) (by decide) (by decide) ?_
        show am_Run am_X0 (am_meth d) 192 R 38 [some (.ref 113), some (.int s)] [.int (-3 : Int32)] (am_mk (am_no I 3) L, 0, 0)
        exact ar_iret rfl rfl h
  · have h := hB c_1
    clear hA hB
    show am_Run am_X0 (am_meth d) 192 R 5 [some (.ref 113), some (.int s)] [.int 0] (am_mk I L, 0, 0)
    refine ar_b0 am_c_ne (t := 14) (q := 8) rfl rfl rfl (fun c9 => absurd (by decide) c9) (fun _ => ?_)
    refine ar_aload_n (j := 0) (q := 9) rfl rfl rfl rfl ?_
    refine ar_iconst (v := (-1 : Int32)) (q := 10) rfl rfl rfl ?_
    refine ar_invv (as := [.int (-1 : Int32)]) (rest := []) (b2 := (0, 0)) (b3 := (0, 0)) (q := 13) rfl rfl rfl rfl mk_113 rfl rfl rfl rfl rfl ?_
    refine ok_no (j := 1) (by omega) (by decide) (by decide) ?_
    show am_Run am_X0 (am_meth d) 192 R 13 [some (.ref 113), some (.int s)] [.int (-1 : Int32)] (am_mk (am_no I 1) L, 0, 0)
    exact ar_iret rfl rfl h
theorem r_M_put_0 {d : Nat} (hd : 1 ≤ d) {R : am_R} {I : Nat → Nat → Int32} {L : Nat → Nat → Int64} {v : Int32} (h : ((v < (-1 : Int32) → (R (some (.int (-4 : Int32))) (am_mk (am_no I 4) L, 0, 0))) ∧ (¬ v < (-1 : Int32) → (((v ≤ 99 → ((((I 113 39) = 12 → (R (some (.int (-6 : Int32))) (am_mk (am_no I 6) L, 0, 0))) ∧ (¬ (I 113 39) = 12 → (∃ j_4 : Nat, j_4 < 12 ∧ I 113 39 = nI j_4 ∧ (∀ I_7 : Nat → Nat → Int32, I_7 = va_up I 146 (upd (I 146) j_4 v) → (∀ I_9 : Nat → Nat → Int32, I_9 = va_up I_7 113 (upd (I_7 113) 39 ((I_7 113 39) + 1)) → (R (some (.int (I_9 113 39))) (am_mk I_9 L, 0, 0))))))))) ∧ (¬ v ≤ 99 → (R (some (.int (-6 : Int32))) (am_mk (am_no I 6) L, 0, 0)))))))) : am_Run am_X0 (am_meth d) 205 R 0 [some (.ref 113), some (.int v)] [] (am_mk I L, 0, 0) := by
  refine ar_iload_n (j := 1) (q := 1) rfl rfl rfl rfl ?_
  refine ar_iconst (v := (-1 : Int32)) (q := 2) rfl rfl rfl ?_
  obtain ⟨hA, hB⟩ := h
  refine ar_br am_d_ge (t := 12) (q := 5) rfl rfl rfl (fun c_1 => ?_) (fun c_1 => ?_)
  · have h := hB c_1
    clear hA hB
    refine ar_iload_n (j := 1) (q := 13) rfl rfl rfl rfl ?_
    refine ar_bipush (v := 99) (q := 15) rfl rfl rfl ?_
    obtain ⟨hA, hB⟩ := h
    refine ar_br am_d_gt (t := 27) (q := 18) rfl rfl rfl (fun c_2 => ?_) (fun c_2 => ?_)
    · have h := hB c_2
      clear hA hB
      refine ar_aload_n (j := 0) (q := 28) rfl rfl rfl rfl ?_
      refine ar_bipush (v := (-6 : Int32)) (q := 30) rfl rfl rfl ?_
      refine ar_invv (as := [.int (-6 : Int32)]) (rest := []) (b2 := (0, 0)) (b3 := (0, 0)) (q := 33) rfl rfl rfl rfl mk_113 rfl rfl rfl rfl rfl ?_
      refine ok_no (j := 6) (by omega) (by decide) (by decide) ?_
      show am_Run am_X0 (am_meth d) 205 R 33 [some (.ref 113), some (.int v)] [.int (-6 : Int32)] (am_mk (am_no I 6) L, 0, 0)
      exact ar_iret rfl rfl h
    · have c_2 := Classical.not_not.mp c_2
      have h := hA c_2
      clear hA hB
      refine ar_aload_n (j := 0) (q := 19) rfl rfl rfl rfl ?_
      refine ar_getf (v := .int (I 113 39)) (q := 22) rfl rfl mk_113 rfl rfl ?_
      refine ar_bipush (v := 12) (q := 24) rfl rfl rfl ?_
      obtain ⟨hA, hB⟩ := h
      refine ar_br am_c_ne (t := 34) (q := 27) rfl rfl rfl (fun c_3 => ?_) (fun c_3 => ?_)
      · have h := hB c_3
        clear hA hB
        refine ar_aload_n (j := 0) (q := 35) rfl rfl rfl rfl ?_
        refine ar_getf (v := .ref 146) (q := 38) rfl rfl mk_113 rfl rfl ?_
        refine ar_aload_n (j := 0) (q := 39) rfl rfl rfl rfl ?_
        refine ar_getf (v := .int (I 113 39)) (q := 42) rfl rfl mk_113 rfl rfl ?_
        refine ar_iload_n (j := 1) (q := 43) rfl rfl rfl rfl ?_
        obtain ⟨j_4, hx_5, hi_6, h⟩ := h
        obtain ⟨I_7, hI_8⟩ : ∃ z : Nat → Nat → Int32, z = va_up I 146 (upd (I 146) j_4 v) := ⟨_, rfl⟩
        have h := h I_7 hI_8
        refine ar_iast (hp2 := am_mk I_7 L) (q := 44) rfl mk_146 (am_inE hi_6 hx_5 (by decide)) (by rw [am_clT hi_6 hx_5 (by decide), hI_8]; exact mk_s146) rfl ?_
        refine ar_aload_n (j := 0) (q := 45) rfl rfl rfl rfl ?_
        refine ar_st (i := .dup) (n := 1) (st' := [.ref 113, .ref 113]) (q := 46) rfl rfl rfl rfl ?_
        refine ar_getf (v := .int (I_7 113 39)) (q := 49) rfl rfl mk_113 rfl rfl ?_
        refine ar_iconst (v := 1) (q := 50) rfl rfl rfl ?_
        refine ar_ib (i := .iadd) (z := (I_7 113 39) + 1) (q := 51) rfl rfl rfl rfl rfl ?_
        obtain ⟨I_9, hI_10⟩ : ∃ z : Nat → Nat → Int32, z = va_up I_7 113 (upd (I_7 113) 39 ((I_7 113 39) + 1)) := ⟨_, rfl⟩
        have h := h I_9 hI_10
        refine ar_putf (hp2 := am_mk I_9 L) (q := 54) rfl rfl mk_113 rfl (by rw [hI_10]; exact mk_p113_39) rfl ?_
        refine ar_aload_n (j := 0) (q := 55) rfl rfl rfl rfl ?_
        refine ar_getf (v := .int (I_9 113 39)) (q := 58) rfl rfl mk_113 rfl rfl ?_
        exact ar_iret rfl rfl h
      · have c_3 := Classical.not_not.mp c_3
        have h := hA c_3
        clear hA hB
        refine ar_aload_n (j := 0) (q := 28) rfl rfl rfl rfl ?_
        refine ar_bipush (v := (-6 : Int32)) (q := 30) rfl rfl rfl ?_
        refine ar_invv (as := [.int (-6 : Int32)]) (rest := []) (b2 := (0, 0)) (b3 := (0, 0)) (q := 33) rfl rfl rfl rfl mk_113 rfl rfl rfl rfl rfl ?_
        refine ok_no (j := 6) (by omega) (by decide) (by decide) ?_
        show am_Run am_X0 (am_meth d) 205 R 33 [some (.ref 113), some (.int v)] [.int (-6 : Int32)] (am_mk (am_no I 6) L, 0, 0)
        exact ar_iret rfl rfl h
  · have c_1 := Classical.not_not.mp c_1
    have h := hA c_1
    clear hA hB
    refine ar_aload_n (j := 0) (q := 6) rfl rfl rfl rfl ?_
    refine ar_bipush (v := (-4 : Int32)) (q := 8) rfl rfl rfl ?_
    refine ar_invv (as := [.int (-4 : Int32)]) (rest := []) (b2 := (0, 0)) (b3 := (0, 0)) (q := 11) rfl rfl rfl rfl mk_113 rfl rfl rfl rfl rfl ?_
    refine ok_no (j := 4) (by omega) (by decide) (by decide) ?_
    show am_Run am_X0 (am_meth d) 205 R 11 [some (.ref 113), some (.int v)] [.int (-4 : Int32)] (am_mk (am_no I 4) L, 0, 0)
    exact ar_iret rfl rfl h
theorem r_M_unput_0 {d : Nat} {R : am_R} {I : Nat → Nat → Int32} {L : Nat → Nat → Int64}  (h : ∀ I_1 : Nat → Nat → Int32, I_1 = va_up I 113 (upd (I 113) 39 0) → (R (some (.int (I 113 39))) (am_mk I_1 L, 0, 0))) : am_Run am_X0 (am_meth d) 206 R 0 [some (.ref 113), none] [] (am_mk I L, 0, 0) := by
  refine ar_aload_n (j := 0) (q := 1) rfl rfl rfl rfl ?_
  refine ar_getf (v := .int (I 113 39)) (q := 4) rfl rfl mk_113 rfl rfl ?_
  refine ar_istore_n (j := 1) (ls' := [some (.ref 113), some (.int (I 113 39))]) (q := 5) rfl rfl rfl rfl rfl ?_
  refine ar_aload_n (j := 0) (q := 6) rfl rfl rfl rfl ?_
  refine ar_iconst (v := 0) (q := 7) rfl rfl rfl ?_
  obtain ⟨I_1, hI_2⟩ : ∃ z : Nat → Nat → Int32, z = va_up I 113 (upd (I 113) 39 0) := ⟨_, rfl⟩
  have h := h I_1 hI_2
  refine ar_putf (hp2 := am_mk I_1 L) (q := 10) rfl rfl mk_113 rfl (by rw [hI_2]; exact mk_p113_39) rfl ?_
  refine ar_iload_n (j := 1) (q := 11) rfl rfl rfl rfl ?_
  exact ar_iret rfl rfl h
theorem r_M_tell_0 {d : Nat} (hd : 1 ≤ d) {R : am_R} {I : Nat → Nat → Int32} {L : Nat → Nat → Int64} {v : Int32} (h : ((v < (-1 : Int32) → (R (some (.int (-4 : Int32))) (am_mk (am_no I 4) L, 0, 0))) ∧ (¬ v < (-1 : Int32) → (((v ≤ 99 → ((((I 113 41) = 6 → (R (some (.int (-6 : Int32))) (am_mk (am_no I 6) L, 0, 0))) ∧ (¬ (I 113 41) = 6 → (∃ j_4 : Nat, j_4 < 6 ∧ I 113 41 = nI j_4 ∧ (∀ I_7 : Nat → Nat → Int32, I_7 = va_up I 147 (upd (I 147) j_4 v) → (∀ I_9 : Nat → Nat → Int32, I_9 = va_up I_7 113 (upd (I_7 113) 41 ((I_7 113 41) + 1)) → (R (some (.int (I_9 113 41))) (am_mk I_9 L, 0, 0))))))))) ∧ (¬ v ≤ 99 → (R (some (.int (-6 : Int32))) (am_mk (am_no I 6) L, 0, 0)))))))) : am_Run am_X0 (am_meth d) 224 R 0 [some (.ref 113), some (.int v)] [] (am_mk I L, 0, 0) := by
  refine ar_iload_n (j := 1) (q := 1) rfl rfl rfl rfl ?_
  refine ar_iconst (v := (-1 : Int32)) (q := 2) rfl rfl rfl ?_
  obtain ⟨hA, hB⟩ := h
  refine ar_br am_d_ge (t := 12) (q := 5) rfl rfl rfl (fun c_1 => ?_) (fun c_1 => ?_)
  · have h := hB c_1
    clear hA hB
    refine ar_iload_n (j := 1) (q := 13) rfl rfl rfl rfl ?_
    refine ar_bipush (v := 99) (q := 15) rfl rfl rfl ?_
    obtain ⟨hA, hB⟩ := h
    refine ar_br am_d_gt (t := 27) (q := 18) rfl rfl rfl (fun c_2 => ?_) (fun c_2 => ?_)
    · have h := hB c_2
      clear hA hB
      refine ar_aload_n (j := 0) (q := 28) rfl rfl rfl rfl ?_
      refine ar_bipush (v := (-6 : Int32)) (q := 30) rfl rfl rfl ?_
      refine ar_invv (as := [.int (-6 : Int32)]) (rest := []) (b2 := (0, 0)) (b3 := (0, 0)) (q := 33) rfl rfl rfl rfl mk_113 rfl rfl rfl rfl rfl ?_
      refine ok_no (j := 6) (by omega) (by decide) (by decide) ?_
      show am_Run am_X0 (am_meth d) 224 R 33 [some (.ref 113), some (.int v)] [.int (-6 : Int32)] (am_mk (am_no I 6) L, 0, 0)
      exact ar_iret rfl rfl h
    · have c_2 := Classical.not_not.mp c_2
      have h := hA c_2
      clear hA hB
      refine ar_aload_n (j := 0) (q := 19) rfl rfl rfl rfl ?_
      refine ar_getf (v := .int (I 113 41)) (q := 22) rfl rfl mk_113 rfl rfl ?_
      refine ar_bipush (v := 6) (q := 24) rfl rfl rfl ?_
      obtain ⟨hA, hB⟩ := h
      refine ar_br am_c_ne (t := 34) (q := 27) rfl rfl rfl (fun c_3 => ?_) (fun c_3 => ?_)
      · have h := hB c_3
        clear hA hB
        refine ar_aload_n (j := 0) (q := 35) rfl rfl rfl rfl ?_
        refine ar_getf (v := .ref 147) (q := 38) rfl rfl mk_113 rfl rfl ?_
        refine ar_aload_n (j := 0) (q := 39) rfl rfl rfl rfl ?_
        refine ar_getf (v := .int (I 113 41)) (q := 42) rfl rfl mk_113 rfl rfl ?_
        refine ar_iload_n (j := 1) (q := 43) rfl rfl rfl rfl ?_
        obtain ⟨j_4, hx_5, hi_6, h⟩ := h
        obtain ⟨I_7, hI_8⟩ : ∃ z : Nat → Nat → Int32, z = va_up I 147 (upd (I 147) j_4 v) := ⟨_, rfl⟩
        have h := h I_7 hI_8
        refine ar_iast (hp2 := am_mk I_7 L) (q := 44) rfl mk_147 (am_inE hi_6 hx_5 (by decide)) (by rw [am_clT hi_6 hx_5 (by decide), hI_8]; exact mk_s147) rfl ?_
        refine ar_aload_n (j := 0) (q := 45) rfl rfl rfl rfl ?_
        refine ar_st (i := .dup) (n := 1) (st' := [.ref 113, .ref 113]) (q := 46) rfl rfl rfl rfl ?_
        refine ar_getf (v := .int (I_7 113 41)) (q := 49) rfl rfl mk_113 rfl rfl ?_
        refine ar_iconst (v := 1) (q := 50) rfl rfl rfl ?_
        refine ar_ib (i := .iadd) (z := (I_7 113 41) + 1) (q := 51) rfl rfl rfl rfl rfl ?_
        obtain ⟨I_9, hI_10⟩ : ∃ z : Nat → Nat → Int32, z = va_up I_7 113 (upd (I_7 113) 41 ((I_7 113 41) + 1)) := ⟨_, rfl⟩
        have h := h I_9 hI_10
        refine ar_putf (hp2 := am_mk I_9 L) (q := 54) rfl rfl mk_113 rfl (by rw [hI_10]; exact mk_p113_41) rfl ?_
        refine ar_aload_n (j := 0) (q := 55) rfl rfl rfl rfl ?_
        refine ar_getf (v := .int (I_9 113 41)) (q := 58) rfl rfl mk_113 rfl rfl ?_
        exact ar_iret rfl rfl h
      · have c_3 := Classical.not_not.mp c_3
        have h := hA c_3
        clear hA hB
        refine ar_aload_n (j := 0) (q := 28) rfl rfl rfl rfl ?_
        refine ar_bipush (v := (-6 : Int32)) (q := 30) rfl rfl rfl ?_
        refine ar_invv (as := [.int (-6 : Int32)]) (rest := []) (b2 := (0, 0)) (b3 := (0, 0)) (q := 33) rfl rfl rfl rfl mk_113 rfl rfl rfl rfl rfl ?_
        refine ok_no (j := 6) (by omega) (by decide) (by decide) ?_
        show am_Run am_X0 (am_meth d) 224 R 33 [some (.ref 113), some (.int v)] [.int (-6 : Int32)] (am_mk (am_no I 6) L, 0, 0)
        exact ar_iret rfl rfl h
  · have c_1 := Classical.not_not.mp c_1
    have h := hA c_1
    clear hA hB
    refine ar_aload_n (j := 0) (q := 6) rfl rfl rfl rfl ?_
    refine ar_bipush (v := (-4 : Int32)) (q := 8) rfl rfl rfl ?_
    refine ar_invv (as := [.int (-4 : Int32)]) (rest := []) (b2 := (0, 0)) (b3 := (0, 0)) (q := 11) rfl rfl rfl rfl mk_113 rfl rfl rfl rfl rfl ?_
    refine ok_no (j := 4) (by omega) (by decide) (by decide) ?_
    show am_Run am_X0 (am_meth d) 224 R 11 [some (.ref 113), some (.int v)] [.int (-4 : Int32)] (am_mk (am_no I 4) L, 0, 0)
    exact ar_iret rfl rfl h
theorem r_M_wish_0 {d : Nat} (hd : 1 ≤ d) {R : am_R} {I : Nat → Nat → Int32} {L : Nat → Nat → Int64} {k : Int32} {l : Int32} {v : Int32} (h : ((0 ≤ k ∧ k < I 113 4 → (((l < 0 → (R (some (.int (-1 : Int32))) (am_mk (am_no I 1) L, 0, 0))) ∧ (¬ l < 0 → (((l ≤ 4 → (((v < 0 → (R (some (.int (-4 : Int32))) (am_mk (am_no I 4) L, 0, 0))) ∧ (¬ v < 0 → (((v ≤ 99 → (∃ j_6 : Nat, j_6 < 100 ∧ (k * 5) + l = nI j_6 ∧ (∀ I_9 : Nat → Nat → Int32, I_9 = va_up I 121 (upd (I 121) j_6 v) → (R (some (.int (I 121 j_6))) (am_mk I_9 L, 0, 0))))) ∧ (¬ v ≤ 99 → (R (some (.int (-6 : Int32))) (am_mk (am_no I 6) L, 0, 0))))))))) ∧ (¬ l ≤ 4 → (R (some (.int (-1 : Int32))) (am_mk (am_no I 1) L, 0, 0))))))))) ∧ (¬ (0 ≤ k ∧ k < I 113 4) → (R (some (.int (-1 : Int32))) (am_mk (am_no I 1) L, 0, 0))))) : am_Run am_X0 (am_meth d) 213 R 0 [some (.ref 113), some (.int k), some (.int l), some (.int v), none] [] (am_mk I L, 0, 0) := by
  refine ar_aload_n (j := 0) (q := 1) rfl rfl rfl rfl ?_
  refine ar_iload_n (j := 1) (q := 2) rfl rfl rfl rfl ?_
  refine ar_invv (as := [.int k]) (rest := []) (b2 := (0, 0)) (b3 := (0, 0)) (q := 5) rfl rfl rfl rfl mk_113 rfl rfl rfl rfl rfl ?_
  obtain ⟨hA, hB⟩ := h
  refine ok_M_isKeeper (by omega)  (fun c_1 => ?_) (fun c_1 => ?_)
  · have h := hA c_1
    clear hA hB
    show am_Run am_X0 (am_meth d) 213 R 5 [some (.ref 113), some (.int k), some (.int l), some (.int v), none] [.int 1] (am_mk I L, 0, 0)
    refine ar_b0 am_c_eq (t := 17) (q := 8) rfl rfl rfl (fun c9 => absurd c9 (by decide)) (fun _ => ?_)
    refine ar_iload_n (j := 2) (q := 9) rfl rfl rfl rfl ?_
    obtain ⟨hA, hB⟩ := h
    refine ar_b0 am_c_lt (t := 17) (q := 12) rfl rfl rfl (fun c_2 => ?_) (fun c_2 => ?_)
    · have h := hA c_2
      clear hA hB
      refine ar_aload_n (j := 0) (q := 18) rfl rfl rfl rfl ?_
      refine ar_iconst (v := (-1 : Int32)) (q := 19) rfl rfl rfl ?_
      refine ar_invv (as := [.int (-1 : Int32)]) (rest := []) (b2 := (0, 0)) (b3 := (0, 0)) (q := 22) rfl rfl rfl rfl mk_113 rfl rfl rfl rfl rfl ?_
      refine ok_no (j := 1) (by omega) (by decide) (by decide) ?_
      show am_Run am_X0 (am_meth d) 213 R 22 [some (.ref 113), some (.int k), some (.int l), some (.int v), none] [.int (-1 : Int32)] (am_mk (am_no I 1) L, 0, 0)
      exact ar_iret rfl rfl h
    · have h := hB c_2
      clear hA hB
      refine ar_iload_n (j := 2) (q := 13) rfl rfl rfl rfl ?_
      refine ar_iconst (v := 4) (q := 14) rfl rfl rfl ?_
      obtain ⟨hA, hB⟩ := h
      refine ar_br am_c_le (t := 23) (q := 17) rfl rfl rfl (fun c_3 => ?_) (fun c_3 => ?_)
      · have h := hA c_3
        clear hA hB
        refine ar_iload_n (j := 3) (q := 24) rfl rfl rfl rfl ?_
        obtain ⟨hA, hB⟩ := h
        refine ar_b0 am_d_ge (t := 34) (q := 27) rfl rfl rfl (fun c_4 => ?_) (fun c_4 => ?_)
        · have h := hB c_4
          clear hA hB
          refine ar_iload_n (j := 3) (q := 35) rfl rfl rfl rfl ?_
          refine ar_bipush (v := 99) (q := 37) rfl rfl rfl ?_
          obtain ⟨hA, hB⟩ := h
          refine ar_br am_c_le (t := 47) (q := 40) rfl rfl rfl (fun c_5 => ?_) (fun c_5 => ?_)
          · have h := hA c_5
            clear hA hB
            refine ar_aload_n (j := 0) (q := 48) rfl rfl rfl rfl ?_
            refine ar_getf (v := .ref 121) (q := 51) rfl rfl mk_113 rfl rfl ?_
            refine ar_iload_n (j := 1) (q := 52) rfl rfl rfl rfl ?_
            refine ar_iconst (v := 5) (q := 53) rfl rfl rfl ?_
            refine ar_ib (i := .imul) (z := k * 5) (q := 54) rfl rfl rfl rfl rfl ?_
            refine ar_iload_n (j := 2) (q := 55) rfl rfl rfl rfl ?_
            refine ar_ib (i := .iadd) (z := (k * 5) + l) (q := 56) rfl rfl rfl rfl rfl ?_
            obtain ⟨j_6, hx_7, hi_8, h⟩ := h
            refine ar_iald (v := I 121 j_6) (q := 57) rfl mk_121 (am_inE hi_8 hx_7 (by decide)) (am_clE hi_8 hx_7 (by decide)) rfl ?_
            refine ar_istore (ls' := [some (.ref 113), some (.int k), some (.int l), some (.int v), some (.int (I 121 j_6))]) (q := 59) rfl rfl rfl rfl ?_
            refine ar_aload_n (j := 0) (q := 60) rfl rfl rfl rfl ?_
            refine ar_getf (v := .ref 121) (q := 63) rfl rfl mk_113 rfl rfl ?_
            refine ar_iload_n (j := 1) (q := 64) rfl rfl rfl rfl ?_
            refine ar_iconst (v := 5) (q := 65) rfl rfl rfl ?_
            refine ar_ib (i := .imul) (z := k * 5) (q := 66) rfl rfl rfl rfl rfl ?_
            refine ar_iload_n (j := 2) (q := 67) rfl rfl rfl rfl ?_
            refine ar_ib (i := .iadd) (z := (k * 5) + l) (q := 68) rfl rfl rfl rfl rfl ?_
            refine ar_iload_n (j := 3) (q := 69) rfl rfl rfl rfl ?_
            obtain ⟨I_9, hI_10⟩ : ∃ z : Nat → Nat → Int32, z = va_up I 121 (upd (I 121) j_6 v) := ⟨_, rfl⟩
            have h := h I_9 hI_10
            refine ar_iast (hp2 := am_mk I_9 L) (q := 70) rfl mk_121 (am_inE hi_8 hx_7 (by decide)) (by rw [am_clT hi_8 hx_7 (by decide), hI_10]; exact mk_s121) rfl ?_
            refine ar_iload (q := 72) rfl rfl rfl ?_
            exact ar_iret rfl rfl h
          · have h := hB c_5
            clear hA hB
            refine ar_aload_n (j := 0) (q := 41) rfl rfl rfl rfl ?_
            refine ar_bipush (v := (-6 : Int32)) (q := 43) rfl rfl rfl ?_
            refine ar_invv (as := [.int (-6 : Int32)]) (rest := []) (b2 := (0, 0)) (b3 := (0, 0)) (q := 46) rfl rfl rfl rfl mk_113 rfl rfl rfl rfl rfl ?_
            refine ok_no (j := 6) (by omega) (by decide) (by decide) ?_
            show am_Run am_X0 (am_meth d) 213 R 46 [some (.ref 113), some (.int k), some (.int l), some (.int v), none] [.int (-6 : Int32)] (am_mk (am_no I 6) L, 0, 0)
            exact ar_iret rfl rfl h
        · have c_4 := Classical.not_not.mp c_4
          have h := hA c_4
          clear hA hB
          refine ar_aload_n (j := 0) (q := 28) rfl rfl rfl rfl ?_
          refine ar_bipush (v := (-4 : Int32)) (q := 30) rfl rfl rfl ?_
          refine ar_invv (as := [.int (-4 : Int32)]) (rest := []) (b2 := (0, 0)) (b3 := (0, 0)) (q := 33) rfl rfl rfl rfl mk_113 rfl rfl rfl rfl rfl ?_
          refine ok_no (j := 4) (by omega) (by decide) (by decide) ?_
          show am_Run am_X0 (am_meth d) 213 R 33 [some (.ref 113), some (.int k), some (.int l), some (.int v), none] [.int (-4 : Int32)] (am_mk (am_no I 4) L, 0, 0)
          exact ar_iret rfl rfl h
      · have h := hB c_3
        clear hA hB
        refine ar_aload_n (j := 0) (q := 18) rfl rfl rfl rfl ?_
        refine ar_iconst (v := (-1 : Int32)) (q := 19) rfl rfl rfl ?_
        refine ar_invv (as := [.int (-1 : Int32)]) (rest := []) (b2 := (0, 0)) (b3 := (0, 0)) (q := 22) rfl rfl rfl rfl mk_113 rfl rfl rfl rfl rfl ?_
        refine ok_no (j := 1) (by omega) (by decide) (by decide) ?_
        show am_Run am_X0 (am_meth d) 213 R 22 [some (.ref 113), some (.int k), some (.int l), some (.int v), none] [.int (-1 : Int32)] (am_mk (am_no I 1) L, 0, 0)
        exact ar_iret rfl rfl h
  · have h := hB c_1
    clear hA hB
    show am_Run am_X0 (am_meth d) 213 R 5 [some (.ref 113), some (.int k), some (.int l), some (.int v), none] [.int 0] (am_mk I L, 0, 0)
    refine ar_b0 am_c_eq (t := 17) (q := 8) rfl rfl rfl (fun _ => ?_) (fun c9 => absurd (by decide) c9)
    refine ar_aload_n (j := 0) (q := 18) rfl rfl rfl rfl ?_
    refine ar_iconst (v := (-1 : Int32)) (q := 19) rfl rfl rfl ?_
    refine ar_invv (as := [.int (-1 : Int32)]) (rest := []) (b2 := (0, 0)) (b3 := (0, 0)) (q := 22) rfl rfl rfl rfl mk_113 rfl rfl rfl rfl rfl ?_
    refine ok_no (j := 1) (by omega) (by decide) (by decide) ?_
    show am_Run am_X0 (am_meth d) 213 R 22 [some (.ref 113), some (.int k), some (.int l), some (.int v), none] [.int (-1 : Int32)] (am_mk (am_no I 1) L, 0, 0)
    exact ar_iret rfl rfl h
theorem r_M_look_0 {d : Nat} (hd : 1 ≤ d) {R : am_R} {I : Nat → Nat → Int32} {L : Nat → Nat → Int64} {a : Int32} {b : Int32} {v : Int32} (h : ((0 ≤ a ∧ a < I 113 10 → (((b < 0 → (R (some (.int (-4 : Int32))) (am_mk (am_no I 4) L, 0, 0))) ∧ (¬ b < 0 → (((v < 0 → (R (some (.int (-4 : Int32))) (am_mk (am_no I 4) L, 0, 0))) ∧ (¬ v < 0 → (((b ≤ 30 → (((v ≤ 9 → (∃ j_6 : Nat, j_6 < 620 ∧ (a * 31) + b = nI j_6 ∧ (∀ I_9 : Nat → Nat → Int32, I_9 = va_up I 124 (upd (I 124) j_6 v) → (R (some (.int (I 124 j_6))) (am_mk I_9 L, 0, 0))))) ∧ (¬ v ≤ 9 → (R (some (.int (-6 : Int32))) (am_mk (am_no I 6) L, 0, 0)))))) ∧ (¬ b ≤ 30 → (R (some (.int (-6 : Int32))) (am_mk (am_no I 6) L, 0, 0)))))))))))) ∧ (¬ (0 ≤ a ∧ a < I 113 10) → (R (some (.int (-1 : Int32))) (am_mk (am_no I 1) L, 0, 0))))) : am_Run am_X0 (am_meth d) 235 R 0 [some (.ref 113), some (.int a), some (.int b), some (.int v), none] [] (am_mk I L, 0, 0) := by
  refine ar_aload_n (j := 0) (q := 1) rfl rfl rfl rfl ?_
  refine ar_iload_n (j := 1) (q := 2) rfl rfl rfl rfl ?_
  refine ar_invv (as := [.int a]) (rest := []) (b2 := (0, 0)) (b3 := (0, 0)) (q := 5) rfl rfl rfl rfl mk_113 rfl rfl rfl rfl rfl ?_
  obtain ⟨hA, hB⟩ := h
  refine ok_M_isHouse (by omega)  (fun c_1 => ?_) (fun c_1 => ?_)
  · have h := hA c_1
    clear hA hB
    show am_Run am_X0 (am_meth d) 235 R 5 [some (.ref 113), some (.int a), some (.int b), some (.int v), none] [.int 1] (am_mk I L, 0, 0)
    refine ar_b0 am_c_ne (t := 14) (q := 8) rfl rfl rfl (fun _ => ?_) (fun c9 => absurd (by decide) c9)
    refine ar_iload_n (j := 2) (q := 15) rfl rfl rfl rfl ?_
    obtain ⟨hA, hB⟩ := h
    refine ar_b0 am_c_lt (t := 22) (q := 18) rfl rfl rfl (fun c_2 => ?_) (fun c_2 => ?_)
    · have h := hA c_2
      clear hA hB
      refine ar_aload_n (j := 0) (q := 23) rfl rfl rfl rfl ?_
      refine ar_bipush (v := (-4 : Int32)) (q := 25) rfl rfl rfl ?_
      refine ar_invv (as := [.int (-4 : Int32)]) (rest := []) (b2 := (0, 0)) (b3 := (0, 0)) (q := 28) rfl rfl rfl rfl mk_113 rfl rfl rfl rfl rfl ?_
      refine ok_no (j := 4) (by omega) (by decide) (by decide) ?_
      show am_Run am_X0 (am_meth d) 235 R 28 [some (.ref 113), some (.int a), some (.int b), some (.int v), none] [.int (-4 : Int32)] (am_mk (am_no I 4) L, 0, 0)
      exact ar_iret rfl rfl h
    · have h := hB c_2
      clear hA hB
      refine ar_iload_n (j := 3) (q := 19) rfl rfl rfl rfl ?_
      obtain ⟨hA, hB⟩ := h
      refine ar_b0 am_d_ge (t := 29) (q := 22) rfl rfl rfl (fun c_3 => ?_) (fun c_3 => ?_)
      · have h := hB c_3
        clear hA hB
        refine ar_iload_n (j := 2) (q := 30) rfl rfl rfl rfl ?_
        refine ar_bipush (v := 30) (q := 32) rfl rfl rfl ?_
        obtain ⟨hA, hB⟩ := h
        refine ar_br am_d_gt (t := 41) (q := 35) rfl rfl rfl (fun c_4 => ?_) (fun c_4 => ?_)
        · have h := hB c_4
          clear hA hB
          refine ar_aload_n (j := 0) (q := 42) rfl rfl rfl rfl ?_
          refine ar_bipush (v := (-6 : Int32)) (q := 44) rfl rfl rfl ?_
          refine ar_invv (as := [.int (-6 : Int32)]) (rest := []) (b2 := (0, 0)) (b3 := (0, 0)) (q := 47) rfl rfl rfl rfl mk_113 rfl rfl rfl rfl rfl ?_
          refine ok_no (j := 6) (by omega) (by decide) (by decide) ?_
          show am_Run am_X0 (am_meth d) 235 R 47 [some (.ref 113), some (.int a), some (.int b), some (.int v), none] [.int (-6 : Int32)] (am_mk (am_no I 6) L, 0, 0)
          exact ar_iret rfl rfl h
        · have c_4 := Classical.not_not.mp c_4
          have h := hA c_4
          clear hA hB
          refine ar_iload_n (j := 3) (q := 36) rfl rfl rfl rfl ?_
          refine ar_bipush (v := 9) (q := 38) rfl rfl rfl ?_
          obtain ⟨hA, hB⟩ := h
          refine ar_br am_c_le (t := 48) (q := 41) rfl rfl rfl (fun c_5 => ?_) (fun c_5 => ?_)
          · have h := hA c_5
            clear hA hB
            refine ar_aload_n (j := 0) (q := 49) rfl rfl rfl rfl ?_
            refine ar_getf (v := .ref 124) (q := 52) rfl rfl mk_113 rfl rfl ?_
            refine ar_iload_n (j := 1) (q := 53) rfl rfl rfl rfl ?_
            refine ar_bipush (v := 31) (q := 55) rfl rfl rfl ?_
            refine ar_ib (i := .imul) (z := a * 31) (q := 56) rfl rfl rfl rfl rfl ?_
            refine ar_iload_n (j := 2) (q := 57) rfl rfl rfl rfl ?_
            refine ar_ib (i := .iadd) (z := (a * 31) + b) (q := 58) rfl rfl rfl rfl rfl ?_
            obtain ⟨j_6, hx_7, hi_8, h⟩ := h
            refine ar_iald (v := I 124 j_6) (q := 59) rfl mk_124 (am_inE hi_8 hx_7 (by decide)) (am_clE hi_8 hx_7 (by decide)) rfl ?_
            refine ar_istore (ls' := [some (.ref 113), some (.int a), some (.int b), some (.int v), some (.int (I 124 j_6))]) (q := 61) rfl rfl rfl rfl ?_
            refine ar_aload_n (j := 0) (q := 62) rfl rfl rfl rfl ?_
            refine ar_getf (v := .ref 124) (q := 65) rfl rfl mk_113 rfl rfl ?_
            refine ar_iload_n (j := 1) (q := 66) rfl rfl rfl rfl ?_
            refine ar_bipush (v := 31) (q := 68) rfl rfl rfl ?_
            refine ar_ib (i := .imul) (z := a * 31) (q := 69) rfl rfl rfl rfl rfl ?_
            refine ar_iload_n (j := 2) (q := 70) rfl rfl rfl rfl ?_
            refine ar_ib (i := .iadd) (z := (a * 31) + b) (q := 71) rfl rfl rfl rfl rfl ?_
            refine ar_iload_n (j := 3) (q := 72) rfl rfl rfl rfl ?_
            obtain ⟨I_9, hI_10⟩ : ∃ z : Nat → Nat → Int32, z = va_up I 124 (upd (I 124) j_6 v) := ⟨_, rfl⟩
            have h := h I_9 hI_10
            refine ar_iast (hp2 := am_mk I_9 L) (q := 73) rfl mk_124 (am_inE hi_8 hx_7 (by decide)) (by rw [am_clT hi_8 hx_7 (by decide), hI_10]; exact mk_s124) rfl ?_
            refine ar_iload (q := 75) rfl rfl rfl ?_
            exact ar_iret rfl rfl h
          · have h := hB c_5
            clear hA hB
            refine ar_aload_n (j := 0) (q := 42) rfl rfl rfl rfl ?_
            refine ar_bipush (v := (-6 : Int32)) (q := 44) rfl rfl rfl ?_
            refine ar_invv (as := [.int (-6 : Int32)]) (rest := []) (b2 := (0, 0)) (b3 := (0, 0)) (q := 47) rfl rfl rfl rfl mk_113 rfl rfl rfl rfl rfl ?_
            refine ok_no (j := 6) (by omega) (by decide) (by decide) ?_
            show am_Run am_X0 (am_meth d) 235 R 47 [some (.ref 113), some (.int a), some (.int b), some (.int v), none] [.int (-6 : Int32)] (am_mk (am_no I 6) L, 0, 0)
            exact ar_iret rfl rfl h
      · have c_3 := Classical.not_not.mp c_3
        have h := hA c_3
        clear hA hB
        refine ar_aload_n (j := 0) (q := 23) rfl rfl rfl rfl ?_
        refine ar_bipush (v := (-4 : Int32)) (q := 25) rfl rfl rfl ?_
        refine ar_invv (as := [.int (-4 : Int32)]) (rest := []) (b2 := (0, 0)) (b3 := (0, 0)) (q := 28) rfl rfl rfl rfl mk_113 rfl rfl rfl rfl rfl ?_
        refine ok_no (j := 4) (by omega) (by decide) (by decide) ?_
        show am_Run am_X0 (am_meth d) 235 R 28 [some (.ref 113), some (.int a), some (.int b), some (.int v), none] [.int (-4 : Int32)] (am_mk (am_no I 4) L, 0, 0)
        exact ar_iret rfl rfl h
  · have h := hB c_1
    clear hA hB
    show am_Run am_X0 (am_meth d) 235 R 5 [some (.ref 113), some (.int a), some (.int b), some (.int v), none] [.int 0] (am_mk I L, 0, 0)
    refine ar_b0 am_c_ne (t := 14) (q := 8) rfl rfl rfl (fun c9 => absurd (by decide) c9) (fun _ => ?_)
    refine ar_aload_n (j := 0) (q := 9) rfl rfl rfl rfl ?_
    refine ar_iconst (v := (-1 : Int32)) (q := 10) rfl rfl rfl ?_
    refine ar_invv (as := [.int (-1 : Int32)]) (rest := []) (b2 := (0, 0)) (b3 := (0, 0)) (q := 13) rfl rfl rfl rfl mk_113 rfl rfl rfl rfl rfl ?_
    refine ok_no (j := 1) (by omega) (by decide) (by decide) ?_
    show am_Run am_X0 (am_meth d) 235 R 13 [some (.ref 113), some (.int a), some (.int b), some (.int v), none] [.int (-1 : Int32)] (am_mk (am_no I 1) L, 0, 0)
    exact ar_iret rfl rfl h
theorem r_M_gone_0 {d : Nat} (hd : 1 ≤ d) {R : am_R} {I : Nat → Nat → Int32} {L : Nat → Nat → Int64} {s : Int32} (h : ((0 ≤ s ∧ s < I 113 14 → (∃ j_2 : Nat, s = nI j_2 ∧ ((j_2 < 60) ∧ ((((I 132 (2 * j_2) < 0 ∨ I 132 (2 * j_2 + 1) < 0) → (R (some (.int (-9 : Int32))) (am_mk I L, 0, 0))) ∧ (¬ (I 132 (2 * j_2) < 0 ∨ I 132 (2 * j_2 + 1) < 0) → (R (some (.int (I 132 (2 * j_2) &&& (I 132 (2 * j_2 + 1) ^^^ -1)))) (am_mk I L, 0, 0)))))))) ∧ (¬ (0 ≤ s ∧ s < I 113 14) → (R (some (.int (-1 : Int32))) (am_mk (am_no I 1) L, 0, 0))))) : am_Run am_X0 (am_meth d) 236 R 0 [some (.ref 113), some (.int s)] [] (am_mk I L, 0, 0) := by
  refine ar_aload_n (j := 0) (q := 1) rfl rfl rfl rfl ?_
  refine ar_iload_n (j := 1) (q := 2) rfl rfl rfl rfl ?_
  refine ar_invv (as := [.int s]) (rest := []) (b2 := (0, 0)) (b3 := (0, 0)) (q := 5) rfl rfl rfl rfl mk_113 rfl rfl rfl rfl rfl ?_
  obtain ⟨hA, hB⟩ := h
  refine ok_M_isStay (by omega)  (fun c_1 => ?_) (fun c_1 => ?_)
  · have h := hA c_1
    clear hA hB
    show am_Run am_X0 (am_meth d) 236 R 5 [some (.ref 113), some (.int s)] [.int 1] (am_mk I L, 0, 0)
    refine ar_b0 am_c_ne (t := 14) (q := 8) rfl rfl rfl (fun _ => ?_) (fun c9 => absurd (by decide) c9)
    refine ar_aload_n (j := 0) (q := 15) rfl rfl rfl rfl ?_
    refine ar_iload_n (j := 1) (q := 16) rfl rfl rfl rfl ?_
    refine ar_invv (as := [.int s]) (rest := []) (b2 := (0, 0)) (b3 := (0, 0)) (q := 19) rfl rfl rfl rfl mk_113 rfl rfl rfl rfl rfl ?_
    obtain ⟨j_2, hi_3, h⟩ := h
    obtain ⟨hp_4, h⟩ := h
    obtain ⟨hC0, hC1⟩ := h
    refine ok_M_goneOf (by omega) hi_3 hp_4 (fun c_5 => ?_) (fun c_5 => ?_)
    · have h := hC0 c_5
      clear hC0 hC1
      show am_Run am_X0 (am_meth d) 236 R 19 [some (.ref 113), some (.int s)] [.int (-9 : Int32)] (am_mk I L, 0, 0)
      exact ar_iret rfl rfl h
    · have h := hC1 c_5
      clear hC0 hC1
      show am_Run am_X0 (am_meth d) 236 R 19 [some (.ref 113), some (.int s)] [.int (I 132 (2 * j_2) &&& (I 132 (2 * j_2 + 1) ^^^ -1))] (am_mk I L, 0, 0)
      exact ar_iret rfl rfl h
  · have h := hB c_1
    clear hA hB
    show am_Run am_X0 (am_meth d) 236 R 5 [some (.ref 113), some (.int s)] [.int 0] (am_mk I L, 0, 0)
    refine ar_b0 am_c_ne (t := 14) (q := 8) rfl rfl rfl (fun c9 => absurd (by decide) c9) (fun _ => ?_)
    refine ar_aload_n (j := 0) (q := 9) rfl rfl rfl rfl ?_
    refine ar_iconst (v := (-1 : Int32)) (q := 10) rfl rfl rfl ?_
    refine ar_invv (as := [.int (-1 : Int32)]) (rest := []) (b2 := (0, 0)) (b3 := (0, 0)) (q := 13) rfl rfl rfl rfl mk_113 rfl rfl rfl rfl rfl ?_
    refine ok_no (j := 1) (by omega) (by decide) (by decide) ?_
    show am_Run am_X0 (am_meth d) 236 R 13 [some (.ref 113), some (.int s)] [.int (-1 : Int32)] (am_mk (am_no I 1) L, 0, 0)
    exact ar_iret rfl rfl h
theorem r_M_list_0 {d : Nat} (hd : 1 ≤ d) {R : am_R} {I : Nat → Nat → Int32} {L : Nat → Nat → Int64} {s : Int32} {a : Int32} {x : Int32} (h : ((0 ≤ s ∧ s < I 113 14 → (∃ j_2 : Nat, j_2 < 60 ∧ s = nI j_2 ∧ ((((I 128 j_2) = 1 → (((a = 0 → ((((I 113 0) ≤ (I 126 j_2) → (((x < 0 → (R (some (.int (-4 : Int32))) (am_mk (am_no I 4) L, 0, 0))) ∧ (¬ x < 0 → (∃ j_9 : Nat, j_9 < 120 ∧ 2 * s = nI j_9 ∧ ((((I 132 j_9) < 0 → (∀ I_13 : Nat → Nat → Int32, I_13 = va_up I 132 (upd (I 132) j_9 x) → (R (some (.int 1)) (am_mk I_13 L, 0, 0)))) ∧ (¬ (I 132 j_9) < 0 → (∀ I_15 : Nat → Nat → Int32, I_15 = va_up I 132 (upd (I 132) j_9 x) → (R (some (.int 0)) (am_mk I_15 L, 0, 0))))))))))) ∧ (¬ (I 113 0) ≤ (I 126 j_2) → (R (some (.int (-3 : Int32))) (am_mk (am_no I 3) L, 0, 0)))))) ∧ (¬ a = 0 → ((j_2 < 60) ∧ (((I 127 j_2 < I 113 0 → (((x < 0 → (R (some (.int (-4 : Int32))) (am_mk (am_no I 4) L, 0, 0))) ∧ (¬ x < 0 → (∃ j_20 : Nat, j_20 < 120 ∧ (2 * s) + 1 = nI j_20 ∧ ((((I 132 j_20) < 0 → (∀ I_24 : Nat → Nat → Int32, I_24 = va_up I 132 (upd (I 132) j_20 x) → (R (some (.int 1)) (am_mk I_24 L, 0, 0)))) ∧ (¬ (I 132 j_20) < 0 → (∀ I_26 : Nat → Nat → Int32, I_26 = va_up I 132 (upd (I 132) j_20 x) → (R (some (.int 0)) (am_mk I_26 L, 0, 0))))))))))) ∧ (¬ (I 127 j_2 < I 113 0) → (R (some (.int (-3 : Int32))) (am_mk (am_no I 3) L, 0, 0)))))))))) ∧ (¬ (I 128 j_2) = 1 → (R (some (.int (-3 : Int32))) (am_mk (am_no I 3) L, 0, 0))))))) ∧ (¬ (0 ≤ s ∧ s < I 113 14) → (R (some (.int (-1 : Int32))) (am_mk (am_no I 1) L, 0, 0))))) : am_Run am_X0 (am_meth d) 234 R 0 [some (.ref 113), some (.int s), some (.int a), some (.int x), none, none] [] (am_mk I L, 0, 0) := by
  refine ar_aload_n (j := 0) (q := 1) rfl rfl rfl rfl ?_
  refine ar_iload_n (j := 1) (q := 2) rfl rfl rfl rfl ?_
  refine ar_invv (as := [.int s]) (rest := []) (b2 := (0, 0)) (b3 := (0, 0)) (q := 5) rfl rfl rfl rfl mk_113 rfl rfl rfl rfl rfl ?_
  obtain ⟨hA, hB⟩ := h
  refine ok_M_isStay (by omega)  (fun c_1 => ?_) (fun c_1 => ?_)
  · have h := hA c_1
    clear hA hB
    show am_Run am_X0 (am_meth d) 234 R 5 [some (.ref 113), some (.int s), some (.int a), some (.int x), none, none] [.int 1] (am_mk I L, 0, 0)
    refine ar_b0 am_c_ne (t := 14) (q := 8) rfl rfl rfl (fun _ => ?_) (fun c9 => absurd (by decide) c9)
    refine ar_aload_n (j := 0) (q := 15) rfl rfl rfl rfl ?_
    refine ar_getf (v := .ref 128) (q := 18) rfl rfl mk_113 rfl rfl ?_
    refine ar_iload_n (j := 1) (q := 19) rfl rfl rfl rfl ?_
    obtain ⟨j_2, hx_3, hi_4, h⟩ := h
    refine ar_iald (v := I 128 j_2) (q := 20) rfl mk_128 (am_inE hi_4 hx_3 (by decide)) (am_clE hi_4 hx_3 (by decide)) rfl ?_
    refine ar_iconst (v := 1) (q := 21) rfl rfl rfl ?_
    obtain ⟨hA, hB⟩ := h
    refine ar_br am_c_ne (t := 53) (q := 24) rfl rfl rfl (fun c_5 => ?_) (fun c_5 => ?_)
    · have h := hB c_5
      clear hA hB
      refine ar_aload_n (j := 0) (q := 54) rfl rfl rfl rfl ?_
      refine ar_bipush (v := (-3 : Int32)) (q := 56) rfl rfl rfl ?_
      refine ar_invv (as := [.int (-3 : Int32)]) (rest := []) (b2 := (0, 0)) (b3 := (0, 0)) (q := 59) rfl rfl rfl rfl mk_113 rfl rfl rfl rfl rfl ?_
      refine ok_no (j := 3) (by omega) (by decide) (by decide) ?_
      show am_Run am_X0 (am_meth d) 234 R 59 [some (.ref 113), some (.int s), some (.int a), some (.int x), none, none] [.int (-3 : Int32)] (am_mk (am_no I 3) L, 0, 0)
      exact ar_iret rfl rfl h
    · have c_5 := Classical.not_not.mp c_5
      have h := hA c_5
      clear hA hB
      refine ar_iload_n (j := 2) (q := 25) rfl rfl rfl rfl ?_
      obtain ⟨hA, hB⟩ := h
      refine ar_b0 am_c_ne (t := 41) (q := 28) rfl rfl rfl (fun c_6 => ?_) (fun c_6 => ?_)
      · have h := hB c_6
        clear hA hB
        refine ar_iload_n (j := 2) (q := 42) rfl rfl rfl rfl ?_
        refine ar_b0 am_c_eq (t := 60) (q := 45) rfl rfl rfl (fun c9 => absurd c9 c_6) (fun _ => ?_)
        refine ar_aload_n (j := 0) (q := 46) rfl rfl rfl rfl ?_
        refine ar_iload_n (j := 1) (q := 47) rfl rfl rfl rfl ?_
        refine ar_invv (as := [.int s]) (rest := []) (b2 := (0, 0)) (b3 := (0, 0)) (q := 50) rfl rfl rfl rfl mk_113 rfl rfl rfl rfl rfl ?_
        obtain ⟨hp_18, h⟩ := h
        obtain ⟨hA, hB⟩ := h
        refine ok_M_isOver (by omega) hi_4 hp_18 (fun c_17 => ?_) (fun c_17 => ?_)
        · have h := hA c_17
          clear hA hB
          show am_Run am_X0 (am_meth d) 234 R 50 [some (.ref 113), some (.int s), some (.int a), some (.int x), none, none] [.int 1] (am_mk I L, 0, 0)
          refine ar_b0 am_c_ne (t := 60) (q := 53) rfl rfl rfl (fun _ => ?_) (fun c9 => absurd (by decide) c9)
          refine ar_iload_n (j := 3) (q := 61) rfl rfl rfl rfl ?_
          obtain ⟨hA, hB⟩ := h
          refine ar_b0 am_d_ge (t := 71) (q := 64) rfl rfl rfl (fun c_19 => ?_) (fun c_19 => ?_)
          · have h := hB c_19
            clear hA hB
            refine ar_iload_n (j := 2) (q := 72) rfl rfl rfl rfl ?_
            refine ar_b0 am_c_eq (t := 83) (q := 75) rfl rfl rfl (fun c9 => absurd c9 c_6) (fun _ => ?_)
            refine ar_iconst (v := 2) (q := 76) rfl rfl rfl ?_
            refine ar_iload_n (j := 1) (q := 77) rfl rfl rfl rfl ?_
            refine ar_ib (i := .imul) (z := 2 * s) (q := 78) rfl rfl rfl rfl rfl ?_
            refine ar_iconst (v := 1) (q := 79) rfl rfl rfl ?_
            refine ar_ib (i := .iadd) (z := (2 * s) + 1) (q := 80) rfl rfl rfl rfl rfl ?_
            refine ar_goto (t := 86) rfl rfl ?_
            refine ar_istore (ls' := [some (.ref 113), some (.int s), some (.int a), some (.int x), some (.int ((2 * s) + 1)), none]) (q := 88) rfl rfl rfl rfl ?_
            refine ar_aload_n (j := 0) (q := 89) rfl rfl rfl rfl ?_
            refine ar_getf (v := .ref 132) (q := 92) rfl rfl mk_113 rfl rfl ?_
            refine ar_iload (q := 94) rfl rfl rfl ?_
            obtain ⟨j_20, hx_21, hi_22, h⟩ := h
            refine ar_iald (v := I 132 j_20) (q := 95) rfl mk_132 (am_inE hi_22 hx_21 (by decide)) (am_clE hi_22 hx_21 (by decide)) rfl ?_
            obtain ⟨hA, hB⟩ := h
            refine ar_b0 am_c_lt (t := 102) (q := 98) rfl rfl rfl (fun c_23 => ?_) (fun c_23 => ?_)
            · have h := hA c_23
              clear hA hB
              refine ar_iconst (v := 0) (q := 103) rfl rfl rfl ?_
              refine ar_istore (ls' := [some (.ref 113), some (.int s), some (.int a), some (.int x), some (.int ((2 * s) + 1)), some (.int 0)]) (q := 105) rfl rfl rfl rfl ?_
              refine ar_aload_n (j := 0) (q := 106) rfl rfl rfl rfl ?_
              refine ar_getf (v := .ref 132) (q := 109) rfl rfl mk_113 rfl rfl ?_
              refine ar_iload (q := 111) rfl rfl rfl ?_
              refine ar_iload_n (j := 3) (q := 112) rfl rfl rfl rfl ?_
              obtain ⟨I_24, hI_25⟩ : ∃ z : Nat → Nat → Int32, z = va_up I 132 (upd (I 132) j_20 x) := ⟨_, rfl⟩
              have h := h I_24 hI_25
              refine ar_iast (hp2 := am_mk I_24 L) (q := 113) rfl mk_132 (am_inE hi_22 hx_21 (by decide)) (by rw [am_clT hi_22 hx_21 (by decide), hI_25]; exact mk_s132) rfl ?_
              refine ar_iload (q := 115) rfl rfl rfl ?_
              refine ar_b0 am_c_eq (t := 122) (q := 118) rfl rfl rfl (fun _ => ?_) (fun c9 => absurd (by decide) c9)
              refine ar_iconst (v := 1) (q := 123) rfl rfl rfl ?_
              exact ar_iret rfl rfl h
            · have h := hB c_23
              clear hA hB
              refine ar_iconst (v := 1) (q := 99) rfl rfl rfl ?_
              refine ar_goto (t := 103) rfl rfl ?_
              refine ar_istore (ls' := [some (.ref 113), some (.int s), some (.int a), some (.int x), some (.int ((2 * s) + 1)), some (.int 1)]) (q := 105) rfl rfl rfl rfl ?_
              refine ar_aload_n (j := 0) (q := 106) rfl rfl rfl rfl ?_
              refine ar_getf (v := .ref 132) (q := 109) rfl rfl mk_113 rfl rfl ?_
              refine ar_iload (q := 111) rfl rfl rfl ?_
              refine ar_iload_n (j := 3) (q := 112) rfl rfl rfl rfl ?_
              obtain ⟨I_26, hI_27⟩ : ∃ z : Nat → Nat → Int32, z = va_up I 132 (upd (I 132) j_20 x) := ⟨_, rfl⟩
              have h := h I_26 hI_27
              refine ar_iast (hp2 := am_mk I_26 L) (q := 113) rfl mk_132 (am_inE hi_22 hx_21 (by decide)) (by rw [am_clT hi_22 hx_21 (by decide), hI_27]; exact mk_s132) rfl ?_
              refine ar_iload (q := 115) rfl rfl rfl ?_
              refine ar_b0 am_c_eq (t := 122) (q := 118) rfl rfl rfl (fun c9 => absurd c9 (by decide)) (fun _ => ?_)
              refine ar_iconst (v := 0) (q := 119) rfl rfl rfl ?_
              refine ar_goto (t := 123) rfl rfl ?_
              exact ar_iret rfl rfl h
          · have c_19 := Classical.not_not.mp c_19
            have h := hA c_19
            clear hA hB
            refine ar_aload_n (j := 0) (q := 65) rfl rfl rfl rfl ?_
            refine ar_bipush (v := (-4 : Int32)) (q := 67) rfl rfl rfl ?_
            refine ar_invv (as := [.int (-4 : Int32)]) (rest := []) (b2 := (0, 0)) (b3 := (0, 0)) (q := 70) rfl rfl rfl rfl mk_113 rfl rfl rfl rfl rfl ?_
            refine ok_no (j := 4) (by omega) (by decide) (by decide) ?_
            show am_Run am_X0 (am_meth d) 234 R 70 [some (.ref 113), some (.int s), some (.int a), some (.int x), none, none] [.int (-4 : Int32)] (am_mk (am_no I 4) L, 0, 0)
            exact ar_iret rfl rfl h
        · have h := hB c_17
          clear hA hB
          show am_Run am_X0 (am_meth d) 234 R 50 [some (.ref 113), some (.int s), some (.int a), some (.int x), none, none] [.int 0] (am_mk I L, 0, 0)
          refine ar_b0 am_c_ne (t := 60) (q := 53) rfl rfl rfl (fun c9 => absurd (by decide) c9) (fun _ => ?_)
          refine ar_aload_n (j := 0) (q := 54) rfl rfl rfl rfl ?_
          refine ar_bipush (v := (-3 : Int32)) (q := 56) rfl rfl rfl ?_
          refine ar_invv (as := [.int (-3 : Int32)]) (rest := []) (b2 := (0, 0)) (b3 := (0, 0)) (q := 59) rfl rfl rfl rfl mk_113 rfl rfl rfl rfl rfl ?_
          refine ok_no (j := 3) (by omega) (by decide) (by decide) ?_
          show am_Run am_X0 (am_meth d) 234 R 59 [some (.ref 113), some (.int s), some (.int a), some (.int x), none, none] [.int (-3 : Int32)] (am_mk (am_no I 3) L, 0, 0)
          exact ar_iret rfl rfl h
      · have c_6 := Classical.not_not.mp c_6
        have h := hA c_6
        clear hA hB
        refine ar_aload_n (j := 0) (q := 29) rfl rfl rfl rfl ?_
        refine ar_getf (v := .int (I 113 0)) (q := 32) rfl rfl mk_113 rfl rfl ?_
        refine ar_aload_n (j := 0) (q := 33) rfl rfl rfl rfl ?_
        refine ar_getf (v := .ref 126) (q := 36) rfl rfl mk_113 rfl rfl ?_
        refine ar_iload_n (j := 1) (q := 37) rfl rfl rfl rfl ?_
        refine ar_iald (v := I 126 j_2) (q := 38) rfl mk_126 (am_inE hi_4 hx_3 (by decide)) (am_clE hi_4 hx_3 (by decide)) rfl ?_
        obtain ⟨hA, hB⟩ := h
        refine ar_br am_d_gt (t := 53) (q := 41) rfl rfl rfl (fun c_7 => ?_) (fun c_7 => ?_)
        · have h := hB c_7
          clear hA hB
          refine ar_aload_n (j := 0) (q := 54) rfl rfl rfl rfl ?_
          refine ar_bipush (v := (-3 : Int32)) (q := 56) rfl rfl rfl ?_
          refine ar_invv (as := [.int (-3 : Int32)]) (rest := []) (b2 := (0, 0)) (b3 := (0, 0)) (q := 59) rfl rfl rfl rfl mk_113 rfl rfl rfl rfl rfl ?_
          refine ok_no (j := 3) (by omega) (by decide) (by decide) ?_
          show am_Run am_X0 (am_meth d) 234 R 59 [some (.ref 113), some (.int s), some (.int a), some (.int x), none, none] [.int (-3 : Int32)] (am_mk (am_no I 3) L, 0, 0)
          exact ar_iret rfl rfl h
        · have c_7 := Classical.not_not.mp c_7
          have h := hA c_7
          clear hA hB
          refine ar_iload_n (j := 2) (q := 42) rfl rfl rfl rfl ?_
          refine ar_b0 am_c_eq (t := 60) (q := 45) rfl rfl rfl (fun _ => ?_) (fun c9 => absurd c_6 c9)
          refine ar_iload_n (j := 3) (q := 61) rfl rfl rfl rfl ?_
          obtain ⟨hA, hB⟩ := h
          refine ar_b0 am_d_ge (t := 71) (q := 64) rfl rfl rfl (fun c_8 => ?_) (fun c_8 => ?_)
          · have h := hB c_8
            clear hA hB
            refine ar_iload_n (j := 2) (q := 72) rfl rfl rfl rfl ?_
            refine ar_b0 am_c_eq (t := 83) (q := 75) rfl rfl rfl (fun _ => ?_) (fun c9 => absurd c_6 c9)
            refine ar_iconst (v := 2) (q := 84) rfl rfl rfl ?_
            refine ar_iload_n (j := 1) (q := 85) rfl rfl rfl rfl ?_
            refine ar_ib (i := .imul) (z := 2 * s) (q := 86) rfl rfl rfl rfl rfl ?_
            refine ar_istore (ls' := [some (.ref 113), some (.int s), some (.int a), some (.int x), some (.int (2 * s)), none]) (q := 88) rfl rfl rfl rfl ?_
            refine ar_aload_n (j := 0) (q := 89) rfl rfl rfl rfl ?_
            refine ar_getf (v := .ref 132) (q := 92) rfl rfl mk_113 rfl rfl ?_
            refine ar_iload (q := 94) rfl rfl rfl ?_
            obtain ⟨j_9, hx_10, hi_11, h⟩ := h
            refine ar_iald (v := I 132 j_9) (q := 95) rfl mk_132 (am_inE hi_11 hx_10 (by decide)) (am_clE hi_11 hx_10 (by decide)) rfl ?_
            obtain ⟨hA, hB⟩ := h
            refine ar_b0 am_c_lt (t := 102) (q := 98) rfl rfl rfl (fun c_12 => ?_) (fun c_12 => ?_)
            · have h := hA c_12
              clear hA hB
              refine ar_iconst (v := 0) (q := 103) rfl rfl rfl ?_
              refine ar_istore (ls' := [some (.ref 113), some (.int s), some (.int a), some (.int x), some (.int (2 * s)), some (.int 0)]) (q := 105) rfl rfl rfl rfl ?_
              refine ar_aload_n (j := 0) (q := 106) rfl rfl rfl rfl ?_
              refine ar_getf (v := .ref 132) (q := 109) rfl rfl mk_113 rfl rfl ?_
              refine ar_iload (q := 111) rfl rfl rfl ?_
              refine ar_iload_n (j := 3) (q := 112) rfl rfl rfl rfl ?_
              obtain ⟨I_13, hI_14⟩ : ∃ z : Nat → Nat → Int32, z = va_up I 132 (upd (I 132) j_9 x) := ⟨_, rfl⟩
              have h := h I_13 hI_14
              refine ar_iast (hp2 := am_mk I_13 L) (q := 113) rfl mk_132 (am_inE hi_11 hx_10 (by decide)) (by rw [am_clT hi_11 hx_10 (by decide), hI_14]; exact mk_s132) rfl ?_
              refine ar_iload (q := 115) rfl rfl rfl ?_
              refine ar_b0 am_c_eq (t := 122) (q := 118) rfl rfl rfl (fun _ => ?_) (fun c9 => absurd (by decide) c9)
              refine ar_iconst (v := 1) (q := 123) rfl rfl rfl ?_
              exact ar_iret rfl rfl h
            · have h := hB c_12
              clear hA hB
              refine ar_iconst (v := 1) (q := 99) rfl rfl rfl ?_
              refine ar_goto (t := 103) rfl rfl ?_
              refine ar_istore (ls' := [some (.ref 113), some (.int s), some (.int a), some (.int x), some (.int (2 * s)), some (.int 1)]) (q := 105) rfl rfl rfl rfl ?_
              refine ar_aload_n (j := 0) (q := 106) rfl rfl rfl rfl ?_
              refine ar_getf (v := .ref 132) (q := 109) rfl rfl mk_113 rfl rfl ?_
              refine ar_iload (q := 111) rfl rfl rfl ?_
              refine ar_iload_n (j := 3) (q := 112) rfl rfl rfl rfl ?_
              obtain ⟨I_15, hI_16⟩ : ∃ z : Nat → Nat → Int32, z = va_up I 132 (upd (I 132) j_9 x) := ⟨_, rfl⟩
              have h := h I_15 hI_16
              refine ar_iast (hp2 := am_mk I_15 L) (q := 113) rfl mk_132 (am_inE hi_11 hx_10 (by decide)) (by rw [am_clT hi_11 hx_10 (by decide), hI_16]; exact mk_s132) rfl ?_
              refine ar_iload (q := 115) rfl rfl rfl ?_
              refine ar_b0 am_c_eq (t := 122) (q := 118) rfl rfl rfl (fun c9 => absurd c9 (by decide)) (fun _ => ?_)
              refine ar_iconst (v := 0) (q := 119) rfl rfl rfl ?_
              refine ar_goto (t := 123) rfl rfl ?_
              exact ar_iret rfl rfl h
          · have c_8 := Classical.not_not.mp c_8
            have h := hA c_8
            clear hA hB
            refine ar_aload_n (j := 0) (q := 65) rfl rfl rfl rfl ?_
            refine ar_bipush (v := (-4 : Int32)) (q := 67) rfl rfl rfl ?_
            refine ar_invv (as := [.int (-4 : Int32)]) (rest := []) (b2 := (0, 0)) (b3 := (0, 0)) (q := 70) rfl rfl rfl rfl mk_113 rfl rfl rfl rfl rfl ?_
            refine ok_no (j := 4) (by omega) (by decide) (by decide) ?_
            show am_Run am_X0 (am_meth d) 234 R 70 [some (.ref 113), some (.int s), some (.int a), some (.int x), none, none] [.int (-4 : Int32)] (am_mk (am_no I 4) L, 0, 0)
            exact ar_iret rfl rfl h
  · have h := hB c_1
    clear hA hB
    show am_Run am_X0 (am_meth d) 234 R 5 [some (.ref 113), some (.int s), some (.int a), some (.int x), none, none] [.int 0] (am_mk I L, 0, 0)
    refine ar_b0 am_c_ne (t := 14) (q := 8) rfl rfl rfl (fun c9 => absurd (by decide) c9) (fun _ => ?_)
    refine ar_aload_n (j := 0) (q := 9) rfl rfl rfl rfl ?_
    refine ar_iconst (v := (-1 : Int32)) (q := 10) rfl rfl rfl ?_
    refine ar_invv (as := [.int (-1 : Int32)]) (rest := []) (b2 := (0, 0)) (b3 := (0, 0)) (q := 13) rfl rfl rfl rfl mk_113 rfl rfl rfl rfl rfl ?_
    refine ok_no (j := 1) (by omega) (by decide) (by decide) ?_
    show am_Run am_X0 (am_meth d) 234 R 13 [some (.ref 113), some (.int s), some (.int a), some (.int x), none, none] [.int (-1 : Int32)] (am_mk (am_no I 1) L, 0, 0)
    exact ar_iret rfl rfl h
end
section
/-! THE STATE that both stand for: V c j, numbered as the reference's cells are (113 its own numbers). RC: the class's cells show V. RM: the reference's do. Inv: what V may be between two calls.
class: 1 refusals, 3 land, 4 limit, 6+a hours, 16.0 keepers, 17 .. 20 their town, beasts, persons, marks, 22+k wish, 42.0 houses, 43 town, 44 beasts, 46+h look, 66.0 now, 66.1 stays, 67 .. 73 house, from, to, state, keeper, before, after, 74.0 reviews, 74.8 the day of 75 hand, 76 trust, 77 known; 79, 80 stars, 82, 83 told on; 85.0 terms, 86 house, 87 day, 88 size, 89 steps; 91.0, 92 tape; 95.0, 96 row; 97.0, 98 told
reference: 113.0 today, .4 keepers, .10 houses, .14 stays, .24 taped, .25 terms, .39 row, .41 told; 114 landOf, 115 hours, 116 limitOf, 117 .. 120 ke.., 121 wishOf, 122, 123 ho.., 124 lookOf, 125 .. 129 s.., 130 stars, 131 starsDay, 132 items, 133 tape, 134 .. 137 t.., 146 row, 147 told, 156 refusals -/
abbrev am_V : Type := Nat → Nat → Int32
theorem am_vat {α : Type} (f : Nat → α) (k : Nat) (v : α) (j : Nat) : va_up f k v j = if j = k then v else f j := rfl
theorem am_uat (f : Nat → Int32) (k : Nat) (x : Int32) (j : Nat) : upd f k x j = if j = k then x else f j := rfl
/-- a review counts as known on k -/
def s_ct (S D T : Nat → Int32) (s side : Nat) (k : Int32) : Bool := decide ((¬ S (2 * s + side) = 0 ∧ ¬ k < D (2 * s + side)) ∧ ((0 < S (2 * s + (1 - side)) ∧ D (2 * s + (1 - side)) ≤ k) ∨ T s + 14 < k))
def s_n (P : Nat → Bool) : Nat → Int32
  | 0 => 0
  | s + 1 => if P s = true then s_n P s + 1 else s_n P s
def s_s (P : Nat → Bool) (x : Nat → Int32) : Nat → Int32
  | 0 => 0
  | s + 1 => if P s = true then s_s P x s + x s else s_s P x s
/-- HAND of a house as known on k, with n stays -/
def s_hand (H S D T : Nat → Int32) (n : Nat) (h k : Int32) : Int32 := if s_n (fun s => decide (H s = h) && s_ct S D T s 0 k) n = 0 then 300 else 100 * s_s (fun s => decide (H s = h) && s_ct S D T s 0 k) (fun s => S (2 * s)) n / s_n (fun s => decide (H s = h) && s_ct S D T s 0 k) n
def s_kn (W S D T : Nat → Int32) (n : Nat) (w k : Int32) : Int32 := s_n (fun s => decide (W s = w) && s_ct S D T s 0 k) n
/-- TRUST of a keeper as known on k -/
def s_trust (H W S D T : Nat → Int32) (n : Nat) (w k : Int32) : Int32 := s_s (fun s => decide (W s = w) && s_ct S D T s 0 k) (fun s => 100 * S (2 * s) - s_hand H S D T n (H s) k) n / (s_kn W S D T n w k + 1)
def am_r10 (I : am_V) (a : Nat) : Nat → Int32 := [I 6, I 7, I 8, I 9, I 10, I 11, I 12, I 13, I 14, I 15].getD a (fun _ => 0)
def am_r20 (I : am_V) (a : Nat) : Nat → Int32 := [I 22, I 23, I 24, I 25, I 26, I 27, I 28, I 29, I 30, I 31, I 32, I 33, I 34, I 35, I 36, I 37, I 38, I 39, I 40, I 41].getD a (fun _ => 0)
def am_q20 (I : am_V) (a : Nat) : Nat → Int32 := [I 46, I 47, I 48, I 49, I 50, I 51, I 52, I 53, I 54, I 55, I 56, I 57, I 58, I 59, I 60, I 61, I 62, I 63, I 64, I 65].getD a (fun _ => 0)
/-! texts: a fault's place, or where it ends and its steps -/
abbrev p_R : Type := Nat ⊕ (Nat × List Int32)
def p_dig (b : Int32) : Bool := decide (48 ≤ b) && decide (b ≤ 57)
def p_let (b : Int32) : Option Nat := (List.range 10).find? (fun j => decide (am_tx j = b))
def p_num (T : Nat → Int32) : Nat → Nat → Int32 → Nat × Int32
  | 0, i, a => (i, a)
  | f + 1, i, a => if p_dig (T i) = true then p_num T f (i + 1) (a * 10 + T i - 48) else (i, a)
def p_unit (T : Nat → Int32) (br : Nat → p_R) (i : Nat) : p_R :=
  if p_dig (T i) = true then .inr ((p_num T 5 i 0).1, [(p_num T 5 i 0).2]) else if T i = 40 then br i else match p_let (T i) with
  | some j => .inr (i + 1, [100000 + nI j])
  | none => .inl i
def p_pl (T : Nat → Int32) (br : Nat → p_R) : Nat → Nat → List Int32 → p_R
  | 0, i, c => .inr (i, c)
  | f + 1, i, c => if T i = 42 ∨ T i = 47 then (match p_unit T br (i + 1) with
    | .inl x => .inl x
    | .inr q => p_pl T br f q.1 (c ++ q.2 ++ [-(T i)])) else .inr (i, c)
def p_prod (T : Nat → Int32) (br : Nat → p_R) (i : Nat) : p_R := match p_unit T br i with
  | .inl x => .inl x
  | .inr q => p_pl T br 60 q.1 q.2
def p_sl (T : Nat → Int32) (br : Nat → p_R) : Nat → Nat → List Int32 → p_R
  | 0, i, c => .inr (i, c)
  | f + 1, i, c => if T i = 43 ∨ T i = 45 then (match p_prod T br (i + 1) with
    | .inl x => .inl x
    | .inr q => p_sl T br f q.1 (c ++ q.2 ++ [-(T i)])) else .inr (i, c)
def p_sum (T : Nat → Int32) (br : Nat → p_R) (i : Nat) : p_R := match p_prod T br i with
  | .inl x => .inl x
  | .inr q => p_sl T br 60 q.1 q.2
/-- a bracket, from its sign on, with so many more within -/
def p_br (T : Nat → Int32) : Nat → Nat → p_R
  | 0, i => .inl i
  | m + 1, i => match p_sum T (p_br T m) (i + 1) with
    | .inl x => .inl x
    | .inr q => if T q.1 = 60 ∨ T q.1 = 61 ∨ T q.1 = 62 then (match p_sum T (p_br T m) (q.1 + 1) with
      | .inl x => .inl x
      | .inr r => if T r.1 = 41 then .inr (r.1 + 1, q.2 ++ r.2 ++ [-(T q.1)]) else .inl r.1) else if T q.1 = 41 then .inr (q.1 + 1, q.2) else .inl q.1
def p_text (T : Nat → Int32) (n : Nat) : p_R := match p_sum T (p_br T 5) 0 with
  | .inl x => .inl x
  | .inr q => if q.1 < n then .inl q.1 else .inr q
def p_of (f : Nat → Int32) (o n : Nat) : Nat → Int32 := fun i => if i < n then f (o + i) else -1
/-! the class's cells -/
def Cn (I V : am_V) : Prop := I 16 0 = V 113 4 ∧ I 42 0 = V 113 10 ∧ I 66 0 = V 113 0 ∧ I 66 1 = V 113 14 ∧ I 85 0 = V 113 25 ∧ I 91 0 = V 113 24 ∧ I 95 0 = V 113 39 ∧ I 97 0 = V 113 41
def Ce (I V : am_V) : Prop := I 1 = V 156 ∧ I 3 = V 114 ∧ I 4 = V 116 ∧ I 17 = V 117 ∧ I 18 = V 118 ∧ I 19 = V 119 ∧ I 20 = V 120 ∧ I 43 = V 122 ∧ I 44 = V 123 ∧ I 67 = V 125 ∧ I 68 = V 126 ∧ I 69 = V 127 ∧ I 70 = V 128 ∧ I 86 = V 134 ∧ I 87 = V 135 ∧ I 96 = V 146 ∧ I 98 = V 147
/-- two arrays of arrays; keepers of stays; lists -/
def Ca (I V : am_V) : Prop := (∀ a b, a < 10 → b < 10 → am_r10 I a b = V 115 (10 * a + b)) ∧ (∀ k l, k < 20 → l < 5 → am_r20 I k l = V 121 (5 * k + l)) ∧ (∀ h i, h < 20 → i < 31 → am_q20 I h i = V 124 (31 * h + i)) ∧ (∀ s, s < 60 → I 71 s = if s < am_n V 113 14 then V 129 s else -9) ∧ ∀ s, s < 60 → I 72 s = V 132 (2 * s) ∧ I 73 s = V 132 (2 * s + 1)
/-- reviews -/
def Cr (I V : am_V) : Prop := (∀ s, s < 60 → I 79 s = V 130 (2 * s) ∧ I 80 s = V 130 (2 * s + 1) ∧ I 82 s = (if V 130 (2 * s) = 0 then 1501 else V 131 (2 * s)) ∧ I 83 s = (if V 130 (2 * s + 1) = 0 then 1501 else V 131 (2 * s + 1))) ∧ I 74 0 = s_n (fun r => !decide (V 130 r = 0)) (2 * am_n V 113 14)
/-- what is known for a day is right -/
def Cc (I V : am_V) : Prop := I 74 8 = 1501 ∨ ∃ day, day ≤ 1500 ∧ I 74 8 = nI day ∧ (∀ h, h < 20 → I 75 h = s_hand (V 125) (V 130) (V 131) (V 127) (am_n V 113 14) (nI h) (nI day)) ∧ ∀ k, k < 20 → I 76 k = s_trust (V 125) (V 129) (V 130) (V 131) (V 127) (am_n V 113 14) (nI k) (nI day) ∧ I 77 k = s_kn (V 129) (V 130) (V 131) (V 127) (am_n V 113 14) (nI k) (nI day)
/-- the tape; the terms' steps -/
def Cp (I V : am_V) : Prop := (∀ j, j < 60 → ∃ x, x < 256 ∧ I 92 j = nI x ∧ V 133 j = (nI x).toInt8.toInt32) ∧ ∀ t, t < am_n V 113 25 → ∃ code, p_text (p_of (V 137) (60 * t) (am_n V 136 t)) (am_n V 136 t) = .inr (am_n V 136 t, code) ∧ I 88 t = nI code.length ∧ code.length ≤ 60 ∧ ∀ j c, code[j]? = some c → I 89 (60 * t + j) = c
def RC (I V : am_V) : Prop := Cn I V ∧ Ce I V ∧ Ca I V ∧ Cr I V ∧ Cc I V ∧ Cp I V
/-! the reference's -/
def am_pc (c : Nat) : Bool := decide (114 ≤ c ∧ c ≤ 137 ∨ c = 146 ∨ c = 147 ∨ c = 156)
def am_pf (j : Nat) : Bool := decide (j = 0 ∨ j = 4 ∨ j = 10 ∨ j = 14 ∨ j = 24 ∨ j = 25 ∨ j = 39 ∨ j = 41)
def RM (I V : am_V) : Prop := (∀ c, am_pc c = true → I c = V c) ∧ ∀ j, am_pf j = true → I 113 j = V 113 j
/-! what V may be -/
def Nn (V : am_V) : Prop := am_ix V 113 0 1501 ∧ am_ix V 113 4 21 ∧ am_ix V 113 10 21 ∧ am_ix V 113 14 61 ∧ am_ix V 113 24 61 ∧ am_ix V 113 25 31 ∧ am_ix V 113 39 13 ∧ am_ix V 113 41 7
def Nt (V : am_V) : Prop := (∀ t, t < 10 → am_ix V 114 t 5) ∧ (∀ j, j < 100 → am_ix V 115 j 241) ∧ (∀ l, l < 5 → am_ix V 116 l 181)
def Nk (V : am_V) : Prop := ∀ k, k < 20 → am_ix V 117 k 10 ∧ am_ix V 118 k 256 ∧ am_ix V 120 k 100000 ∧ am_ix V 122 k 10 ∧ am_ix V 123 k 256
def Ns (V : am_V) : Prop := (∀ s, s < 60 → am_ix V 125 s 20 ∧ am_ix V 126 s 1501 ∧ am_ix V 127 s 1501 ∧ am_ix V 128 s 3 ∧ (am_n V 113 14 ≤ s → V 128 s = 0)) ∧ ∀ s, s < am_n V 113 14 → (am_n V 126 s ≤ am_n V 127 s ∧ 1 ≤ am_n V 126 s) ∧ (V 129 s = -9 ∨ am_ix V 129 s 20) ∧ (V 128 s = 0 → V 129 s = -9) ∧ (V 128 s = 1 → am_ix V 129 s 20)
/-- stays that one keeper has are apart -/
def Nx (V : am_V) : Prop := ∀ s s', s < am_n V 113 14 → s' < am_n V 113 14 → s ≠ s' → V 128 s = 1 → V 128 s' = 1 → V 129 s = V 129 s' → am_n V 127 s < am_n V 126 s' ∨ am_n V 127 s' < am_n V 126 s
def Nr (V : am_V) : Prop := (∀ r, r < 120 → am_ix V 130 r 6 ∧ (¬ V 130 r = 0 → r / 2 < am_n V 113 14 ∧ V 128 (r / 2) = 1 ∧ am_n V 127 (r / 2) < am_n V 113 0)) ∧ ∀ r, r < 120 → V 132 r = -1 ∨ 0 ≤ V 132 r
def Np (V : am_V) : Prop := (∀ j, j < 12 → V 146 j = -1 ∨ am_ix V 146 j 100) ∧ (∀ j, j < 6 → V 147 j = -1 ∨ am_ix V 147 j 100) ∧ ∀ t, t < am_n V 113 25 → (V 134 t = -1 ∨ am_ix V 134 t 20) ∧ am_ix V 135 t 1501 ∧ am_ix V 136 t 61
def Inv (V : am_V) : Prop := Nn V ∧ Nt V ∧ Nk V ∧ Ns V ∧ Nx V ∧ Nr V ∧ Np V
def RelE (I : am_V) : Prop := ∃ V, RC I V ∧ RM I V ∧ Inv V
/-- a call of both: the answers are the same, and all of it holds again -/
def am_Op (d kx km : Nat) (as : List Value) : Prop := ∀ (I : am_V) (L : Nat → Nat → Int64), RelE I → am_meth d kx (.ref 0 :: as) (am_mk I L, 0, 0) (am_ri (fun z I1 L1 => am_meth d km (.ref 113 :: as) (am_mk I1 L1, 0, 0) (am_ri (fun z2 I2 _ => z2 = z ∧ RelE I2))))
/-- only the class's cells have changed; only the reference's -/
def am_hi (I' I : am_V) : Prop := ∀ c, 113 ≤ c → I' c = I c
def am_lo (I' I : am_V) : Prop := ∀ c, c < 113 → I' c = I c
theorem hi_r {I : am_V} : am_hi I I := fun _ _ => rfl
theorem lo_r {I : am_V} : am_lo I I := fun _ _ => rfl
theorem hi_up {I' I : am_V} {c : Nat} {f : Nat → Int32} (hc : c < 113) (h : am_hi I' I) : am_hi (va_up I' c f) I := fun x hx => by rw [am_vat, if_neg (by omega)]; exact h x hx
theorem lo_up {I' I : am_V} {c : Nat} {f : Nat → Int32} (hc : 113 ≤ c) (h : am_lo I' I) : am_lo (va_up I' c f) I := fun x hx => by rw [am_vat, if_neg (by omega)]; exact h x hx
theorem RM_hi {I' I V : am_V} (h : am_hi I' I) (hr : RM I V) : RM I' V := by
  refine ⟨fun c hc => ?_, fun j hj => ?_⟩
  · rw [h c (by simp only [am_pc, decide_eq_true_eq] at hc; omega)]; exact hr.1 c hc
  · rw [h 113 (by omega)]; exact hr.2 j hj
theorem RM_up {I V : am_V} {c : Nat} {f g : Nat → Int32} (hc : c ≠ 113) (hf : f = g) (hr : RM I V) : RM (va_up I c f) (va_up V c g) := by
  subst hf
  refine ⟨fun x hx => ?_, fun j hj => ?_⟩
  · simp only [am_vat]; split
    · rfl
    · exact hr.1 x hx
  · simp only [am_vat, if_neg (Ne.symm hc)]; exact hr.2 j hj
theorem RM_f {I V : am_V} {j : Nat} {x y : Int32} (hx : x = y) (hr : RM I V) : RM (va_up I 113 (upd (I 113) j x)) (va_up V 113 (upd (V 113) j y)) := by
  subst hx
  refine ⟨fun c hc => ?_, fun i hi => ?_⟩
  · have : c ≠ 113 := by simp only [am_pc, decide_eq_true_eq] at hc; omega
    simp only [am_vat, if_neg this]; exact hr.1 c hc
  · simp only [am_vat, if_true, am_uat]; split
    · rfl
    · exact hr.2 i hi
theorem RM_s {I V : am_V} {c : Nat} {f : Nat → Int32} (hc : am_pc c = false) (h3 : c ≠ 113) (hr : RM I V) : RM (va_up I c f) V := by
  refine ⟨fun x hx => ?_, fun j hj => ?_⟩
  · have : x ≠ c := by intro e; subst e; rw [hc] at hx; exact Bool.noConfusion hx
    simp only [am_vat, if_neg this]; exact hr.1 x hx
  · simp only [am_vat, if_neg (Ne.symm h3)]; exact hr.2 j hj
theorem RM_sf {I V : am_V} {j : Nat} {x : Int32} (hc : am_pf j = false) (hr : RM I V) : RM (va_up I 113 (upd (I 113) j x)) V := by
  refine ⟨fun c hc => ?_, fun i hi => ?_⟩
  · have : c ≠ 113 := by simp only [am_pc, decide_eq_true_eq] at hc; omega
    simp only [am_vat, if_neg this]; exact hr.1 c hc
  · have : i ≠ j := by intro e; subst e; rw [hc] at hi; exact Bool.noConfusion hi
    simp only [am_vat, if_true, am_uat, if_neg this]; exact hr.2 i hi
theorem RC_lo {I' I V : am_V} (h : am_lo I' I) (hr : RC I V) : RC I' V := by
  unfold RC Cn Ce Ca Cr Cc Cp am_r10 am_r20 am_q20 at hr ⊢
  have h2 : ∀ c, c < 113 → I' c = I c := h
  simp (disch := decide) only [h2] at ⊢
  exact hr
/-- a refusal -/
def o_no (V : am_V) (j : Nat) (x : Int32) : Int32 × am_V := (x, va_up V 156 (upd (V 156) j (V 156 j + 1)))
theorem Inv_no {V : am_V} {j : Nat} (h : Inv V) : Inv (va_up V 156 (upd (V 156) j (V 156 j + 1))) := h
theorem RC_no {I V : am_V} {j : Nat} (h : RC I V) : RC (am_rf I j) (va_up V 156 (upd (V 156) j (V 156 j + 1))) := by
  obtain ⟨hn, he, hr⟩ := h
  refine ⟨hn, ⟨?_, he.2⟩, hr⟩
  show upd (I 1) j (I 1 j + 1) = upd (V 156) j (V 156 j + 1)
  rw [he.1]
theorem RM_no {I V : am_V} {j : Nat} (h : RM I V) : RM (am_no I j) (va_up V 156 (upd (V 156) j (V 156 j + 1))) := RM_up (by decide) (by rw [h.1 156 (by decide)]) h
/-- the pattern of a call -/
theorem am_op {d kx km : Nat} {as : List Value} {o : am_V → Int32 × am_V}
    (hC : ∀ (I V : am_V) (L : Nat → Nat → Int64) (R : am_R), RC I V → Inv V → (∀ I' L', RC I' (o V).2 → am_hi I' I → R (some (.int (o V).1)) (am_mk I' L', 0, 0)) → am_meth d kx (.ref 0 :: as) (am_mk I L, 0, 0) R)
    (hM : ∀ (I V : am_V) (L : Nat → Nat → Int64) (R : am_R), RM I V → Inv V → (∀ I' L', RM I' (o V).2 → am_lo I' I → R (some (.int (o V).1)) (am_mk I' L', 0, 0)) → am_meth d km (.ref 113 :: as) (am_mk I L, 0, 0) R)
    (hI : ∀ V, Inv V → Inv (o V).2) : am_Op d kx km as := by
  rintro I L ⟨V, hc, hm, hv⟩
  refine hC I V L _ hc hv (fun I1 L1 hc1 hh => ⟨_, _, _, rfl, rfl, ?_⟩)
  exact hM I1 V L1 _ (RM_hi hh hm) hv (fun I2 L2 hm2 hl => ⟨_, _, _, rfl, rfl, rfl, _, RC_lo hl hc1, hm2, hI V hv⟩)
end
section
/-! the simple calls: what each answers and leaves, of V; both keep to it -/
theorem am_nat {x : Int32} {m : Nat} (h : 0 ≤ x ∧ x < nI m) (hm : m < 2 ^ 31) : ∃ j, j < m ∧ x = nI j := by
  obtain ⟨j, hj, rfl⟩ := nI_of (x := x) (Int32.not_lt.mpr h.1)
  exact ⟨j, (nI_ltI hj hm).mp h.2, rfl⟩
theorem r10_e {I : am_V} {a : Nat} (h : a < 10) : am_r10 I a = I (6 + a) := match a, h with
  | 0, _ => rfl | 1, _ => rfl | 2, _ => rfl | 3, _ => rfl | 4, _ => rfl | 5, _ => rfl | 6, _ => rfl | 7, _ => rfl | 8, _ => rfl | 9, _ => rfl
  | n + 10, h => absurd h (by omega)
theorem r20_e {I : am_V} {a : Nat} (h : a < 20) : am_r20 I a = I (22 + a) := match a, h with
  | 0, _ => rfl | 1, _ => rfl | 2, _ => rfl | 3, _ => rfl | 4, _ => rfl | 5, _ => rfl | 6, _ => rfl | 7, _ => rfl | 8, _ => rfl | 9, _ => rfl
  | 10, _ => rfl | 11, _ => rfl | 12, _ => rfl | 13, _ => rfl | 14, _ => rfl | 15, _ => rfl | 16, _ => rfl | 17, _ => rfl | 18, _ => rfl | 19, _ => rfl
  | n + 20, h => absurd h (by omega)
theorem q20_e {I : am_V} {a : Nat} (h : a < 20) : am_q20 I a = I (46 + a) := match a, h with
  | 0, _ => rfl | 1, _ => rfl | 2, _ => rfl | 3, _ => rfl | 4, _ => rfl | 5, _ => rfl | 6, _ => rfl | 7, _ => rfl | 8, _ => rfl | 9, _ => rfl
  | 10, _ => rfl | 11, _ => rfl | 12, _ => rfl | 13, _ => rfl | 14, _ => rfl | 15, _ => rfl | 16, _ => rfl | 17, _ => rfl | 18, _ => rfl | 19, _ => rfl
  | n + 20, h => absurd h (by omega)
section OP1
variable {d : Nat} {I V : am_V} {L : Nat → Nat → Int64} {R : am_R}
def o_days (V : am_V) (n : Int32) : Int32 × am_V := if n < 1 then o_no V 4 (-4) else if n ≤ 1500 - V 113 0 then (V 113 0 + n, va_up V 113 (upd (V 113) 0 (V 113 0 + n))) else o_no V 6 (-6)
theorem C_days {n : Int32} (hd : 2 ≤ d) (hc : RC I V) (hv : Inv V) (h : ∀ I' L', RC I' (o_days V n).2 → am_hi I' I → R (some (.int (o_days V n).1)) (am_mk I' L', 0, 0)) : am_meth d 1 [.ref 0, .int n] (am_mk I L, 0, 0) R := by
  obtain ⟨d, rfl⟩ : ∃ e, d = e + 1 := ⟨d - 1, by omega⟩
  refine ar_in rfl rfl rfl (r_H_days_0 (by omega) ?_)
  obtain ⟨⟨n1, n2, n3, n4, n5, n6, n7, n8⟩, ⟨e1, e2, e3, e4, e5, e6, e7, e8, e9, e10, e11, e12, e13, e14, e15, e16, e17⟩, -⟩ := id hc
  simp only [n1, n2, n3, n4, n5, n6, n7, n8, e1, e2, e3, e4, e5, e6, e7, e8, e9, e10, e11, e12, e13, e14, e15, e16, e17]
  unfold o_days at h
  refine ⟨fun c => ?_, fun c => ⟨fun c2 => ?_, fun c2 => ?_⟩⟩
  · (rw [if_pos c] at h; exact h _ _ (RC_no hc) (hi_up (by decide) hi_r))
  · rw [if_neg c, if_pos c2] at h
    rintro _ rfl
    exact h _ _ ⟨⟨n1, n2, rfl, n4, n5, n6, n7, n8⟩, hc.2⟩ (hi_up (by decide) hi_r)
  · (rw [if_neg c, if_neg c2] at h; exact h _ _ (RC_no hc) (hi_up (by decide) hi_r))
theorem M_days {n : Int32} (hd : 2 ≤ d) (hm : RM I V) (hv : Inv V) (h : ∀ I' L', RM I' (o_days V n).2 → am_lo I' I → R (some (.int (o_days V n).1)) (am_mk I' L', 0, 0)) : am_meth d 150 [.ref 113, .int n] (am_mk I L, 0, 0) R := by
  obtain ⟨d, rfl⟩ : ∃ e, d = e + 1 := ⟨d - 1, by omega⟩
  refine ar_in rfl rfl rfl (r_M_days_0 (by omega) ?_)
  have mc := hm.1; have mf := hm.2
  simp (disch := decide) only [mc, mf]
  unfold o_days at h
  refine ⟨fun c => ?_, fun c => ⟨fun c2 => ?_, fun c2 => ?_⟩⟩
  · (rw [if_pos c] at h; exact h _ _ (RM_no hm) (lo_up (by decide) lo_r))
  · rw [if_neg c, if_pos c2] at h
    rintro _ rfl
    exact h _ _ (RM_f rfl hm) (lo_up (by decide) lo_r)
  · (rw [if_neg c, if_neg c2] at h; exact h _ _ (RM_no hm) (lo_up (by decide) lo_r))
theorem am_ixn {V : am_V} {c j n x : Nat} (h : V c j = nI x) (hx : x < n) (hn : n < 2 ^ 31) : am_ix V c j n := by
  have : am_n V c j = x := by unfold am_n; rw [h]; exact nI_clamp (by omega)
  unfold am_ix; rw [this]; exact ⟨h, hx⟩
theorem am_add {a b : Nat} {x : Int32} (hx : x = nI b) : nI a + x = nI (a + b) := by rw [hx, nI_add]
theorem I_days {n : Int32} (hv : Inv V) : Inv (o_days V n).2 := by
  unfold o_days
  split
  · exact hv
  · rename_i c1
    split
    · rename_i c2
      obtain ⟨⟨⟨v0, v1⟩, vn⟩, vt, vk, vs, vx, vr, vp⟩ := hv
      obtain ⟨j, hj, rfl⟩ := nI_of (x := n) (fun q => c1 (by (simp (disch := omega) only [Int32.lt_iff_toInt_lt, Int32.le_iff_toInt_le, ← Int32.toInt_inj, Int32.reduceToInt, nI_toInt] at *; omega)))
      have e0 : (1500 : Int32) - nI (am_n V 113 0) = nI (1500 - am_n V 113 0) := by
        rw [show (1500 : Int32) = nI (1500 - am_n V 113 0 + am_n V 113 0) from by rw [show 1500 - am_n V 113 0 + am_n V 113 0 = 1500 from by omega]; rfl, ← nI_add, Int32.add_sub_cancel]
      rw [v0, e0, nI_leI hj (by omega)] at c2
      have e1 : V 113 0 + nI j = nI (am_n V 113 0 + j) := by rw [← nI_add, ← v0]
      have e2 : am_n (va_up V 113 (upd (V 113) 0 (V 113 0 + nI j))) 113 0 = am_n V 113 0 + j := by
        show (V 113 0 + nI j).toNatClampNeg = _
        rw [e1]; exact nI_clamp (by omega)
      refine ⟨⟨⟨?_, ?_⟩, vn⟩, vt, vk, vs, vx, ⟨fun r hr => ⟨(vr.1 r hr).1, fun q => ⟨((vr.1 r hr).2 q).1, ((vr.1 r hr).2 q).2.1, ?_⟩⟩, vr.2⟩, vp⟩
      · rw [e2]; exact e1
      · rw [e2]; omega
      · rw [e2]; exact Nat.lt_of_lt_of_le ((vr.1 r hr).2 q).2.2 (by omega)
    · exact hv
def o_town (V : am_V) (t l : Int32) : Int32 × am_V := if (0 ≤ t ∧ t < 10) ∧ (0 ≤ l ∧ l < 5) then (V 114 t.toNatClampNeg, va_up V 114 (upd (V 114) t.toNatClampNeg l)) else o_no V 1 (-1)
theorem C_town {t l : Int32} (hd : 2 ≤ d) (hc : RC I V) (hv : Inv V) (h : ∀ I' L', RC I' (o_town V t l).2 → am_hi I' I → R (some (.int (o_town V t l).1)) (am_mk I' L', 0, 0)) : am_meth d 3 [.ref 0, .int t, .int l] (am_mk I L, 0, 0) R := by
  obtain ⟨d, rfl⟩ : ∃ e, d = e + 1 := ⟨d - 1, by omega⟩
  refine ar_in rfl rfl rfl (r_H_town_0 (by omega) ?_)
  obtain ⟨⟨n1, n2, n3, n4, n5, n6, n7, n8⟩, ⟨e1, e2, e3, e4, e5, e6, e7, e8, e9, e10, e11, e12, e13, e14, e15, e16, e17⟩, -⟩ := id hc
  simp only [n1, n2, n3, n4, n5, n6, n7, n8, e1, e2, e3, e4, e5, e6, e7, e8, e9, e10, e11, e12, e13, e14, e15, e16, e17]
  unfold o_town at h
  refine ⟨fun c => ⟨fun c2 => ?_, fun c2 => ?_⟩, fun c => ?_⟩
  · rw [if_pos ⟨c, c2⟩] at h
    obtain ⟨j, hj, rfl⟩ := am_nat (m := 10) c (by decide)
    rw [nI_clamp (by omega)] at h
    refine ⟨j, hj, rfl, ?_⟩
    rintro _ rfl
    exact h _ _ ⟨hc.1, ⟨e1, rfl, e3, hc.2.1.2.2.2⟩, hc.2.2⟩ (hi_up (by decide) hi_r)
  · rw [if_neg (fun q => c2 q.2)] at h; (exact h _ _ (RC_no hc) (hi_up (by decide) hi_r))
  · rw [if_neg (fun q => c q.1)] at h; (exact h _ _ (RC_no hc) (hi_up (by decide) hi_r))
theorem M_town {t l : Int32} (hd : 2 ≤ d) (hm : RM I V) (hv : Inv V) (h : ∀ I' L', RM I' (o_town V t l).2 → am_lo I' I → R (some (.int (o_town V t l).1)) (am_mk I' L', 0, 0)) : am_meth d 152 [.ref 113, .int t, .int l] (am_mk I L, 0, 0) R := by
  obtain ⟨d, rfl⟩ : ∃ e, d = e + 1 := ⟨d - 1, by omega⟩
  refine ar_in rfl rfl rfl (r_M_town_0 (by omega) ?_)
  have mc := hm.1; have mf := hm.2
  simp (disch := decide) only [mc, mf]
  unfold o_town at h
  refine ⟨fun c => ⟨fun c2 => ?_, fun c2 => ⟨fun c3 => ?_, fun c3 => ?_⟩⟩, fun c => ?_⟩
  · rw [if_neg (fun q => by (simp (disch := omega) only [Int32.lt_iff_toInt_lt, Int32.le_iff_toInt_le, ← Int32.toInt_inj, Int32.reduceToInt, nI_toInt] at *; omega))] at h; (exact h _ _ (RM_no hm) (lo_up (by decide) lo_r))
  · rw [if_pos ⟨c, by (simp (disch := omega) only [Int32.lt_iff_toInt_lt, Int32.le_iff_toInt_le, ← Int32.toInt_inj, Int32.reduceToInt, nI_toInt] at *; omega)⟩] at h
    obtain ⟨j, hj, rfl⟩ := am_nat (m := 10) c (by decide)
    rw [nI_clamp (by omega)] at h
    refine ⟨j, hj, rfl, ?_⟩
    rintro _ rfl
    exact h _ _ (RM_up (by decide) rfl hm) (lo_up (by decide) lo_r)
  · rw [if_neg (fun q => by (simp (disch := omega) only [Int32.lt_iff_toInt_lt, Int32.le_iff_toInt_le, ← Int32.toInt_inj, Int32.reduceToInt, nI_toInt] at *; omega))] at h; (exact h _ _ (RM_no hm) (lo_up (by decide) lo_r))
  · rw [if_neg (fun q => c q.1)] at h; (exact h _ _ (RM_no hm) (lo_up (by decide) lo_r))
theorem ix_up {V : am_V} {c i n : Nat} {x : Int32} (h : ∀ j, j < n → am_ix V c j i) (hx : 0 ≤ x ∧ x < nI i) (hi : i < 2 ^ 31) (k : Nat) : ∀ j, j < n → am_ix (va_up V c (upd (V c) k x)) c j i := by
  intro j hj
  obtain ⟨y, hy, rfl⟩ := am_nat hx hi
  by_cases e : j = k
  · refine am_ixn (x := y) ?_ hy hi
    rw [am_vat, if_pos rfl, am_uat, if_pos e]
  · have e2 : va_up V c (upd (V c) k (nI y)) c j = V c j := by rw [am_vat, if_pos rfl, am_uat, if_neg e]
    unfold am_ix am_n
    rw [e2]; exact h j hj
theorem I_town {t l : Int32} (hv : Inv V) : Inv (o_town V t l).2 := by
  unfold o_town
  split
  · rename_i c
    obtain ⟨vn, vt, vr⟩ := hv
    exact ⟨vn, ⟨ix_up vt.1 c.2 (by decide) _, vt.2⟩, vr⟩
  · exact hv
def o_limit (V : am_V) (l x : Int32) : Int32 × am_V := if (0 ≤ l ∧ l < 5) then (if x < 0 then o_no V 4 (-4) else if x ≤ 180 then (V 116 l.toNatClampNeg, va_up V 116 (upd (V 116) l.toNatClampNeg x)) else o_no V 6 (-6)) else o_no V 1 (-1)
theorem C_limit {l x : Int32} (hd : 2 ≤ d) (hc : RC I V) (hv : Inv V) (h : ∀ I' L', RC I' (o_limit V l x).2 → am_hi I' I → R (some (.int (o_limit V l x).1)) (am_mk I' L', 0, 0)) : am_meth d 6 [.ref 0, .int l, .int x] (am_mk I L, 0, 0) R := by
  obtain ⟨d, rfl⟩ : ∃ e, d = e + 1 := ⟨d - 1, by omega⟩
  refine ar_in rfl rfl rfl (r_H_limit_0 (by omega) ?_)
  obtain ⟨⟨n1, n2, n3, n4, n5, n6, n7, n8⟩, ⟨e1, e2, e3, e4, e5, e6, e7, e8, e9, e10, e11, e12, e13, e14, e15, e16, e17⟩, -⟩ := id hc
  simp only [n1, n2, n3, n4, n5, n6, n7, n8, e1, e2, e3, e4, e5, e6, e7, e8, e9, e10, e11, e12, e13, e14, e15, e16, e17]
  unfold o_limit at h
  refine ⟨fun c => ⟨fun c2 => ?_, fun c2 => ?_, fun c2 => ?_⟩, fun c => ?_⟩
  · (rw [if_pos c, if_pos c2] at h; exact h _ _ (RC_no hc) (hi_up (by decide) hi_r))
  · rw [if_pos c, if_neg c2.1, if_neg (Int32.not_le.mpr c2.2)] at h; (exact h _ _ (RC_no hc) (hi_up (by decide) hi_r))
  · rw [if_pos c, if_neg c2.1, if_pos (Int32.not_lt.mp c2.2)] at h
    obtain ⟨j, hj, rfl⟩ := am_nat (m := 5) c (by decide)
    rw [nI_clamp (by omega)] at h
    refine ⟨j, hj, rfl, ?_⟩
    rintro _ rfl
    exact h _ _ ⟨hc.1, ⟨e1, e2, rfl, hc.2.1.2.2.2⟩, hc.2.2⟩ (hi_up (by decide) hi_r)
  · (rw [if_neg c] at h; exact h _ _ (RC_no hc) (hi_up (by decide) hi_r))
theorem M_limit {l x : Int32} (hd : 2 ≤ d) (hm : RM I V) (hv : Inv V) (h : ∀ I' L', RM I' (o_limit V l x).2 → am_lo I' I → R (some (.int (o_limit V l x).1)) (am_mk I' L', 0, 0)) : am_meth d 155 [.ref 113, .int l, .int x] (am_mk I L, 0, 0) R := by
  obtain ⟨d, rfl⟩ : ∃ e, d = e + 1 := ⟨d - 1, by omega⟩
  refine ar_in rfl rfl rfl (r_M_limit_0 (by omega) ?_)
  have mc := hm.1; have mf := hm.2
  simp (disch := decide) only [mc, mf]
  unfold o_limit at h
  refine ⟨fun c2 => ?_, fun c2 => ⟨fun c3 => ?_, fun c3 => ?_⟩⟩
  · rw [if_neg (fun q => by (simp (disch := omega) only [Int32.lt_iff_toInt_lt, Int32.le_iff_toInt_le, ← Int32.toInt_inj, Int32.reduceToInt, nI_toInt] at *; omega))] at h; (exact h _ _ (RM_no hm) (lo_up (by decide) lo_r))
  · have c : 0 ≤ l ∧ l < 5 := by (simp (disch := omega) only [Int32.lt_iff_toInt_lt, Int32.le_iff_toInt_le, ← Int32.toInt_inj, Int32.reduceToInt, nI_toInt] at *; omega)
    refine ⟨fun d1 => ?_, fun d1 => ⟨fun d2 => ?_, fun d2 => ?_⟩⟩
    · (rw [if_pos c, if_pos d1] at h; exact h _ _ (RM_no hm) (lo_up (by decide) lo_r))
    · rw [if_pos c, if_neg d1, if_pos d2] at h
      obtain ⟨j, hj, rfl⟩ := am_nat (m := 5) c (by decide)
      rw [nI_clamp (by omega)] at h
      refine ⟨j, hj, rfl, ?_⟩
      rintro _ rfl
      exact h _ _ (RM_up (by decide) rfl hm) (lo_up (by decide) lo_r)
    · (rw [if_pos c, if_neg d1, if_neg d2] at h; exact h _ _ (RM_no hm) (lo_up (by decide) lo_r))
  · rw [if_neg (fun q => by (simp (disch := omega) only [Int32.lt_iff_toInt_lt, Int32.le_iff_toInt_le, ← Int32.toInt_inj, Int32.reduceToInt, nI_toInt] at *; omega))] at h; (exact h _ _ (RM_no hm) (lo_up (by decide) lo_r))
theorem I_limit {l x : Int32} (hv : Inv V) : Inv (o_limit V l x).2 := by
  unfold o_limit
  split
  · split
    · exact hv
    · split
      · rename_i c c2
        obtain ⟨vn, vt, vr⟩ := hv
        refine ⟨vn, ⟨vt.1, vt.2.1, ix_up vt.2.2 ⟨Int32.not_lt.mp c, ?_⟩ (by decide) _⟩, vr⟩
        rw [show nI 181 = (181 : Int32) from rfl]; (simp (disch := omega) only [Int32.lt_iff_toInt_lt, Int32.le_iff_toInt_le, ← Int32.toInt_inj, Int32.reduceToInt, nI_toInt] at *; omega)
      · exact hv
  · exact hv
end OP1
end
section
/-! more calls -/
section OP2
variable {d : Nat} {I V : am_V} {L : Nat → Nat → Int64} {R : am_R}
def o_way (V : am_V) (a b x : Int32) : Int32 × am_V := if ((0 ≤ a ∧ a < 10) ∧ (0 ≤ b ∧ b < 10)) ∧ ¬ a = b then (if x < 1 then o_no V 4 (-4) else if x ≤ 240 then (V 115 (10 * a.toNatClampNeg + b.toNatClampNeg), va_up V 115 (upd (upd (V 115) (10 * a.toNatClampNeg + b.toNatClampNeg) x) (10 * b.toNatClampNeg + a.toNatClampNeg) x)) else o_no V 6 (-6)) else o_no V 1 (-1)
theorem RC_r10 {I' : am_V} {g : Nat → Int32} (hx : ∀ c, c < 6 ∨ 15 < c → I' c = I c) (hn : ∀ a b, a < 10 → b < 10 → am_r10 I' a b = g (10 * a + b)) (hc : RC I V) : RC I' (va_up V 115 g) := by
  obtain ⟨h1, h2, ⟨h3, h4⟩, h5, h6, h7⟩ := hc
  refine ⟨?_, ?_, ⟨hn, ?_⟩, ?_, ?_, ?_⟩
  · unfold Cn at h1 ⊢; simp (disch := decide) only [hx]; exact h1
  · unfold Ce at h2 ⊢; simp (disch := decide) only [hx]; exact h2
  · unfold am_r20 am_q20 at h4 ⊢; simp (disch := decide) only [hx]; exact h4
  · unfold Cr at h5 ⊢; simp (disch := decide) only [hx]; exact h5
  · unfold Cc at h6 ⊢; simp (disch := decide) only [hx]; exact h6
  · unfold Cp at h7 ⊢; simp (disch := decide) only [hx]; exact h7
theorem RC_r20 {I' : am_V} {g : Nat → Int32} (hx : ∀ c, c < 22 ∨ 41 < c → I' c = I c) (hn : ∀ k l, k < 20 → l < 5 → am_r20 I' k l = g (5 * k + l)) (hc : RC I V) : RC I' (va_up V 121 g) := by
  obtain ⟨h1, h2, ⟨h3, h3b, h4⟩, h5, h6, h7⟩ := hc
  refine ⟨?_, ?_, ⟨?_, hn, ?_⟩, ?_, ?_, ?_⟩
  · unfold Cn at h1 ⊢; simp (disch := decide) only [hx]; exact h1
  · unfold Ce at h2 ⊢; simp (disch := decide) only [hx]; exact h2
  · unfold am_r10 at h3 ⊢; simp (disch := decide) only [hx]; exact h3
  · unfold am_q20 at h4 ⊢; simp (disch := decide) only [hx]; exact h4
  · unfold Cr at h5 ⊢; simp (disch := decide) only [hx]; exact h5
  · unfold Cc at h6 ⊢; simp (disch := decide) only [hx]; exact h6
  · unfold Cp at h7 ⊢; simp (disch := decide) only [hx]; exact h7
theorem RC_q20 {I' : am_V} {g : Nat → Int32} (hx : ∀ c, c < 46 ∨ 65 < c → I' c = I c) (hn : ∀ h i, h < 20 → i < 31 → am_q20 I' h i = g (31 * h + i)) (hc : RC I V) : RC I' (va_up V 124 g) := by
  obtain ⟨h1, h2, ⟨h3, h3b, h3c, h4⟩, h5, h6, h7⟩ := hc
  refine ⟨?_, ?_, ⟨?_, ?_, hn, ?_⟩, ?_, ?_, ?_⟩
  · unfold Cn at h1 ⊢; simp (disch := decide) only [hx]; exact h1
  · unfold Ce at h2 ⊢; simp (disch := decide) only [hx]; exact h2
  · unfold am_r10 at h3 ⊢; simp (disch := decide) only [hx]; exact h3
  · unfold am_r20 at h3b ⊢; simp (disch := decide) only [hx]; exact h3b
  · simp (disch := decide) only [hx]; exact h4
  · unfold Cr at h5 ⊢; simp (disch := decide) only [hx]; exact h5
  · unfold Cc at h6 ⊢; simp (disch := decide) only [hx]; exact h6
  · unfold Cp at h7 ⊢; simp (disch := decide) only [hx]; exact h7
theorem C_way {a b x : Int32} (hd : 2 ≤ d) (hc : RC I V) (hv : Inv V) (h : ∀ I' L', RC I' (o_way V a b x).2 → am_hi I' I → R (some (.int (o_way V a b x).1)) (am_mk I' L', 0, 0)) : am_meth d 4 [.ref 0, .int a, .int b, .int x] (am_mk I L, 0, 0) R := by
  obtain ⟨d, rfl⟩ : ∃ e, d = e + 1 := ⟨d - 1, by omega⟩
  refine ar_in rfl rfl rfl (r_H_way_0 (by omega) ?_)
  unfold o_way at h
  refine ⟨fun c => ⟨fun c2 => ⟨fun c3 => ?_, fun c3 => ⟨fun c4 => ?_, fun c4 => ?_, fun c4 => ?_⟩⟩, fun c2 => ?_⟩, fun c => ?_⟩
  · rw [if_neg (fun q => q.2 c3)] at h; (exact h _ _ (RC_no hc) (hi_up (by decide) hi_r))
  · rw [if_pos ⟨⟨c, c2⟩, c3⟩, if_pos c4] at h; (exact h _ _ (RC_no hc) (hi_up (by decide) hi_r))
  · rw [if_pos ⟨⟨c, c2⟩, c3⟩, if_neg c4.1, if_neg (Int32.not_le.mpr c4.2)] at h; (exact h _ _ (RC_no hc) (hi_up (by decide) hi_r))
  · rw [if_pos ⟨⟨c, c2⟩, c3⟩, if_neg c4.1, if_pos (Int32.not_lt.mp c4.2)] at h
    obtain ⟨i, hi, rfl⟩ := am_nat (m := 10) c (by decide)
    obtain ⟨j, hj, rfl⟩ := am_nat (m := 10) c2 (by decide)
    rw [nI_clamp (by omega), nI_clamp (by omega)] at h
    refine ⟨i, hi, rfl, j, hj, rfl, ?_⟩
    rintro _ rfl _ rfl
    have w := hc.2.2.1.1 i j hi hj
    rw [r10_e hi] at w
    rw [w]
    refine h _ _ (RC_r10 (I := I) (fun c hc => ?_) (fun a b ha hb => ?_) hc) (fun c hc => ?_)
    · rw [am_vat, if_neg (by omega), am_vat, if_neg (by omega)]
    · have q := hc.2.2.1.1 a b ha hb
      rw [r10_e ha] at q ⊢
      have ij : i ≠ j := fun e => c3 (by rw [e])
      simp only [am_vat, am_uat, Nat.add_left_cancel_iff]
      by_cases e1 : a = j
      · subst e1
        rw [if_pos rfl, if_neg (Ne.symm ij), am_uat]
        by_cases e2 : b = i
        · subst e2; rw [if_pos rfl, if_pos rfl]
        · rw [if_neg e2, if_neg (by omega), if_neg (by omega)]; exact q
      · rw [if_neg e1]
        by_cases e2 : a = i
        · subst e2
          rw [if_pos rfl, am_uat]
          by_cases e3 : b = j
          · subst e3; rw [if_pos rfl, if_neg (by omega), if_pos rfl]
          · rw [if_neg e3, if_neg (by omega), if_neg (by omega)]; exact q
        · rw [if_neg e2, if_neg (by omega), if_neg (by omega)]; exact q
    · rw [am_vat, if_neg (by omega), am_vat, if_neg (by omega)]
  · rw [if_neg (fun q => c2 q.1.2)] at h; (exact h _ _ (RC_no hc) (hi_up (by decide) hi_r))
  · rw [if_neg (fun q => c q.1.1)] at h; (exact h _ _ (RC_no hc) (hi_up (by decide) hi_r))
theorem M_way {a b x : Int32} (hd : 2 ≤ d) (hm : RM I V) (hv : Inv V) (h : ∀ I' L', RM I' (o_way V a b x).2 → am_lo I' I → R (some (.int (o_way V a b x).1)) (am_mk I' L', 0, 0)) : am_meth d 154 [.ref 113, .int a, .int b, .int x] (am_mk I L, 0, 0) R := by
  obtain ⟨d, rfl⟩ : ∃ e, d = e + 1 := ⟨d - 1, by omega⟩
  refine ar_in rfl rfl rfl (r_M_way_0 (by omega) ?_)
  have mc := hm.1; have mf := hm.2
  simp (disch := decide) only [mc, mf]
  unfold o_way at h
  refine ⟨fun c => ⟨fun c2 => ⟨fun c3 => ?_, fun c3 => ⟨fun c4 => ?_, fun c4 => ⟨fun c5 => ?_, fun c5 => ?_⟩⟩⟩, fun c2 => ?_⟩, fun c => ?_⟩
  · rw [if_neg (fun q => q.2 c3)] at h; (exact h _ _ (RM_no hm) (lo_up (by decide) lo_r))
  · rw [if_pos ⟨⟨c, c2⟩, c3⟩, if_pos c4] at h; (exact h _ _ (RM_no hm) (lo_up (by decide) lo_r))
  · rw [if_pos ⟨⟨c, c2⟩, c3⟩, if_neg c4, if_pos c5] at h
    obtain ⟨i, hi, rfl⟩ := am_nat (m := 10) c (by decide)
    obtain ⟨j, hj, rfl⟩ := am_nat (m := 10) c2 (by decide)
    rw [nI_clamp (by omega), nI_clamp (by omega)] at h
    refine ⟨10 * i + j, by omega, am_10, ?_⟩
    rintro _ rfl
    refine ⟨10 * j + i, by omega, am_10, ?_⟩
    rintro _ rfl
    refine h _ _ ⟨fun c hc => ?_, hm.2⟩ (lo_up (by decide) (lo_up (by decide) lo_r))
    by_cases e : c = 115
    · subst e; rfl
    · simp only [am_vat, if_neg e]; exact mc c hc
  · rw [if_pos ⟨⟨c, c2⟩, c3⟩, if_neg c4, if_neg c5] at h; (exact h _ _ (RM_no hm) (lo_up (by decide) lo_r))
  · rw [if_neg (fun q => c2 q.1.2)] at h; (exact h _ _ (RM_no hm) (lo_up (by decide) lo_r))
  · rw [if_neg (fun q => c q.1.1)] at h; (exact h _ _ (RM_no hm) (lo_up (by decide) lo_r))
theorem ix_u {f : Nat → Int32} {n i k : Nat} {x : Int32} (h : ∀ j, j < n → f j = nI (f j).toNatClampNeg ∧ (f j).toNatClampNeg < i) (hx : 0 ≤ x ∧ x < nI i) (hi : i < 2 ^ 31) : ∀ j, j < n → upd f k x j = nI (upd f k x j).toNatClampNeg ∧ (upd f k x j).toNatClampNeg < i := by
  intro j hj
  rw [am_uat]
  obtain ⟨y, hy, rfl⟩ := am_nat hx hi
  split
  · rw [nI_clamp (by omega)]; exact ⟨rfl, hy⟩
  · exact h j hj
theorem I_way {a b x : Int32} (hv : Inv V) : Inv (o_way V a b x).2 := by
  unfold o_way
  split
  · split
    · exact hv
    · split
      · rename_i c c2
        obtain ⟨vn, vt, vr⟩ := hv
        have hx : 0 ≤ x ∧ x < nI 241 := by rw [show nI 241 = (241 : Int32) from rfl]; (simp (disch := omega) only [Int32.lt_iff_toInt_lt, Int32.le_iff_toInt_le, ← Int32.toInt_inj, Int32.reduceToInt, nI_toInt] at *; omega)
        exact ⟨vn, ⟨vt.1, ix_u (ix_u vt.2.1 hx (by decide)) hx (by decide), vt.2.2⟩, vr⟩
      · exact hv
  · exact hv
/-! wish, look -/
def o_wish (V : am_V) (k l x : Int32) : Int32 × am_V := if (0 ≤ k ∧ k < V 113 4) ∧ (0 ≤ l ∧ l < 5) then (if x < 0 then o_no V 4 (-4) else if x ≤ 99 then (V 121 (5 * k.toNatClampNeg + l.toNatClampNeg), va_up V 121 (upd (V 121) (5 * k.toNatClampNeg + l.toNatClampNeg) x)) else o_no V 6 (-6)) else o_no V 1 (-1)
theorem C_wish {k l x : Int32} (hd : 2 ≤ d) (hc : RC I V) (hv : Inv V) (h : ∀ I' L', RC I' (o_wish V k l x).2 → am_hi I' I → R (some (.int (o_wish V k l x).1)) (am_mk I' L', 0, 0)) : am_meth d 30 [.ref 0, .int k, .int l, .int x] (am_mk I L, 0, 0) R := by
  obtain ⟨d, rfl⟩ : ∃ e, d = e + 1 := ⟨d - 1, by omega⟩
  refine ar_in rfl rfl rfl (r_H_wish_0 (by omega) ?_)
  obtain ⟨⟨n1, n2, n3, n4, n5, n6, n7, n8⟩, ⟨e1, e2, e3, e4, e5, e6, e7, e8, e9, e10, e11, e12, e13, e14, e15, e16, e17⟩, -⟩ := id hc
  simp only [n1, n2, n3, n4, n5, n6, n7, n8, e1, e2, e3, e4, e5, e6, e7, e8, e9, e10, e11, e12, e13, e14, e15, e16, e17]
  unfold o_wish at h
  refine ⟨fun c => ⟨fun c2 => ⟨fun c4 => ?_, fun c4 => ?_, fun c4 => ?_⟩, fun c2 => ?_⟩, fun c => ?_⟩
  · rw [if_pos ⟨c, c2⟩, if_pos c4] at h; (exact h _ _ (RC_no hc) (hi_up (by decide) hi_r))
  · rw [if_pos ⟨c, c2⟩, if_neg c4.1, if_neg (Int32.not_le.mpr c4.2)] at h; (exact h _ _ (RC_no hc) (hi_up (by decide) hi_r))
  · rw [if_pos ⟨c, c2⟩, if_neg c4.1, if_pos (Int32.not_lt.mp c4.2)] at h
    rw [hv.1.2.1.1] at c
    have hk := hv.1.2.1.2
    obtain ⟨i, hi, rfl⟩ := am_nat c (by omega)
    obtain ⟨j, hj, rfl⟩ := am_nat (m := 5) c2 (by decide)
    rw [nI_clamp (by omega), nI_clamp (by omega)] at h
    refine ⟨i, by omega, rfl, j, hj, rfl, ?_⟩
    rintro _ rfl
    have hi2 : i < 20 := by omega
    have w := hc.2.2.1.2.1 i j hi2 hj
    rw [r20_e hi2] at w
    rw [w]
    refine h _ _ (RC_r20 (I := I) (fun c hc => ?_) (fun a b ha hb => ?_) hc) (fun c hc => ?_)
    · rw [am_vat, if_neg (by omega)]
    · have q := hc.2.2.1.2.1 a b ha hb
      rw [r20_e ha] at q ⊢
      simp only [am_vat, am_uat, Nat.add_left_cancel_iff]
      by_cases e1 : a = i
      · subst e1
        rw [if_pos rfl, am_uat]
        by_cases e2 : b = j
        · subst e2; rw [if_pos rfl, if_pos rfl]
        · rw [if_neg e2, if_neg (by omega)]; exact q
      · rw [if_neg e1, if_neg (by omega)]; exact q
    · rw [am_vat, if_neg (by omega)]
  · rw [if_neg (fun q => c2 q.2)] at h; (exact h _ _ (RC_no hc) (hi_up (by decide) hi_r))
  · rw [if_neg (fun q => c q.1)] at h; (exact h _ _ (RC_no hc) (hi_up (by decide) hi_r))
theorem am_5 {a b : Nat} : nI a * 5 + nI b = nI (5 * a + b) := by rw [show (5 : Int32) = nI 5 from rfl, pk_mul, nI_add, Nat.mul_comm]
theorem am_31 {a b : Nat} : nI a * 31 + nI b = nI (31 * a + b) := by rw [show (31 : Int32) = nI 31 from rfl, pk_mul, nI_add, Nat.mul_comm]
theorem M_wish {k l x : Int32} (hd : 2 ≤ d) (hm : RM I V) (hv : Inv V) (h : ∀ I' L', RM I' (o_wish V k l x).2 → am_lo I' I → R (some (.int (o_wish V k l x).1)) (am_mk I' L', 0, 0)) : am_meth d 213 [.ref 113, .int k, .int l, .int x] (am_mk I L, 0, 0) R := by
  obtain ⟨d, rfl⟩ : ∃ e, d = e + 1 := ⟨d - 1, by omega⟩
  refine ar_in rfl rfl rfl (r_M_wish_0 (by omega) ?_)
  have mc := hm.1; have mf := hm.2
  simp (disch := decide) only [mc, mf]
  unfold o_wish at h
  refine ⟨fun c => ⟨fun c2 => ?_, fun c2 => ⟨fun c3 => ⟨fun c4 => ?_, fun c4 => ⟨fun c5 => ?_, fun c5 => ?_⟩⟩, fun c3 => ?_⟩⟩, fun c => ?_⟩
  · rw [if_neg (fun q => by (simp (disch := omega) only [Int32.lt_iff_toInt_lt, Int32.le_iff_toInt_le, ← Int32.toInt_inj, Int32.reduceToInt, nI_toInt] at *; omega))] at h; (exact h _ _ (RM_no hm) (lo_up (by decide) lo_r))
  · rw [if_pos ⟨c, by (simp (disch := omega) only [Int32.lt_iff_toInt_lt, Int32.le_iff_toInt_le, ← Int32.toInt_inj, Int32.reduceToInt, nI_toInt] at *; omega)⟩, if_pos c4] at h; (exact h _ _ (RM_no hm) (lo_up (by decide) lo_r))
  · have c6 : 0 ≤ l ∧ l < 5 := by (simp (disch := omega) only [Int32.lt_iff_toInt_lt, Int32.le_iff_toInt_le, ← Int32.toInt_inj, Int32.reduceToInt, nI_toInt] at *; omega)
    rw [if_pos ⟨c, c6⟩, if_neg c4, if_pos c5] at h
    rw [hv.1.2.1.1] at c
    have hk := hv.1.2.1.2
    obtain ⟨i, hi, rfl⟩ := am_nat c (by omega)
    obtain ⟨j, hj, rfl⟩ := am_nat (m := 5) c6 (by decide)
    rw [nI_clamp (by omega), nI_clamp (by omega)] at h
    refine ⟨5 * i + j, by omega, am_5, ?_⟩
    rintro _ rfl
    exact h _ _ (RM_up (by decide) rfl hm) (lo_up (by decide) lo_r)
  · rw [if_pos ⟨c, by (simp (disch := omega) only [Int32.lt_iff_toInt_lt, Int32.le_iff_toInt_le, ← Int32.toInt_inj, Int32.reduceToInt, nI_toInt] at *; omega)⟩, if_neg c4, if_neg c5] at h; (exact h _ _ (RM_no hm) (lo_up (by decide) lo_r))
  · rw [if_neg (fun q => by (simp (disch := omega) only [Int32.lt_iff_toInt_lt, Int32.le_iff_toInt_le, ← Int32.toInt_inj, Int32.reduceToInt, nI_toInt] at *; omega))] at h; (exact h _ _ (RM_no hm) (lo_up (by decide) lo_r))
  · rw [if_neg (fun q => c q.1)] at h; (exact h _ _ (RM_no hm) (lo_up (by decide) lo_r))
theorem I_wish {k l x : Int32} (hv : Inv V) : Inv (o_wish V k l x).2 := by
  unfold o_wish
  split
  · split
    · exact hv
    · split <;> exact hv
  · exact hv
def o_look (V : am_V) (a b x : Int32) : Int32 × am_V := if 0 ≤ a ∧ a < V 113 10 then (if b < 0 ∨ x < 0 then o_no V 4 (-4) else if b < 31 ∧ x ≤ 9 then (V 124 (31 * a.toNatClampNeg + b.toNatClampNeg), va_up V 124 (upd (V 124) (31 * a.toNatClampNeg + b.toNatClampNeg) x)) else o_no V 6 (-6)) else o_no V 1 (-1)
theorem C_look {a b x : Int32} (hd : 2 ≤ d) (hc : RC I V) (hv : Inv V) (h : ∀ I' L', RC I' (o_look V a b x).2 → am_hi I' I → R (some (.int (o_look V a b x).1)) (am_mk I' L', 0, 0)) : am_meth d 39 [.ref 0, .int a, .int b, .int x] (am_mk I L, 0, 0) R := by
  obtain ⟨d, rfl⟩ : ∃ e, d = e + 1 := ⟨d - 1, by omega⟩
  refine ar_in rfl rfl rfl (r_H_look_0 (by omega) ?_)
  obtain ⟨⟨n1, n2, n3, n4, n5, n6, n7, n8⟩, ⟨e1, e2, e3, e4, e5, e6, e7, e8, e9, e10, e11, e12, e13, e14, e15, e16, e17⟩, -⟩ := id hc
  simp only [n1, n2, n3, n4, n5, n6, n7, n8, e1, e2, e3, e4, e5, e6, e7, e8, e9, e10, e11, e12, e13, e14, e15, e16, e17]
  unfold o_look at h
  refine ⟨fun c => ⟨fun c2 => ?_, fun c2 => ⟨fun c3 => ?_, fun c3 => ⟨fun c4 => ⟨fun c5 => ?_, fun c5 => ?_⟩, fun c4 => ?_⟩⟩⟩, fun c => ?_⟩
  · rw [if_pos c, if_pos (Or.inl c2)] at h; (exact h _ _ (RC_no hc) (hi_up (by decide) hi_r))
  · rw [if_pos c, if_pos (Or.inr c3)] at h; (exact h _ _ (RC_no hc) (hi_up (by decide) hi_r))
  · rw [if_pos c, if_neg (fun q => q.elim c2 c3), if_pos ⟨c4, c5⟩] at h
    rw [hv.1.2.2.1.1] at c
    have hk := hv.1.2.2.1.2
    obtain ⟨i, hi, rfl⟩ := am_nat c (by omega)
    obtain ⟨j, hj, rfl⟩ := am_nat (m := 31) ⟨Int32.not_lt.mp c2, c4⟩ (by decide)
    rw [nI_clamp (by omega), nI_clamp (by omega)] at h
    refine ⟨i, by omega, rfl, j, hj, rfl, ?_⟩
    rintro _ rfl
    have hi2 : i < 20 := by omega
    have w := hc.2.2.1.2.2.1 i j hi2 hj
    rw [q20_e hi2] at w
    rw [w]
    refine h _ _ (RC_q20 (I := I) (fun c hc => ?_) (fun a b ha hb => ?_) hc) (fun c hc => ?_)
    · rw [am_vat, if_neg (by omega)]
    · have q := hc.2.2.1.2.2.1 a b ha hb
      rw [q20_e ha] at q ⊢
      simp only [am_vat, am_uat, Nat.add_left_cancel_iff]
      by_cases e1 : a = i
      · subst e1
        rw [if_pos rfl, am_uat]
        by_cases e2 : b = j
        · subst e2; rw [if_pos rfl, if_pos rfl]
        · rw [if_neg e2, if_neg (by omega)]; exact q
      · rw [if_neg e1, if_neg (by omega)]; exact q
    · rw [am_vat, if_neg (by omega)]
  · rw [if_pos c, if_neg (fun q => q.elim c2 c3), if_neg (fun q => c5 q.2)] at h; (exact h _ _ (RC_no hc) (hi_up (by decide) hi_r))
  · rw [if_pos c, if_neg (fun q => q.elim c2 c3), if_neg (fun q => c4 q.1)] at h; (exact h _ _ (RC_no hc) (hi_up (by decide) hi_r))
  · (rw [if_neg c] at h; exact h _ _ (RC_no hc) (hi_up (by decide) hi_r))
theorem M_look {a b x : Int32} (hd : 2 ≤ d) (hm : RM I V) (hv : Inv V) (h : ∀ I' L', RM I' (o_look V a b x).2 → am_lo I' I → R (some (.int (o_look V a b x).1)) (am_mk I' L', 0, 0)) : am_meth d 235 [.ref 113, .int a, .int b, .int x] (am_mk I L, 0, 0) R := by
  obtain ⟨d, rfl⟩ : ∃ e, d = e + 1 := ⟨d - 1, by omega⟩
  refine ar_in rfl rfl rfl (r_M_look_0 (by omega) ?_)
  have mc := hm.1; have mf := hm.2
  simp (disch := decide) only [mc, mf]
  unfold o_look at h
  refine ⟨fun c => ⟨fun c2 => ?_, fun c2 => ⟨fun c3 => ?_, fun c3 => ⟨fun c4 => ⟨fun c5 => ?_, fun c5 => ?_⟩, fun c4 => ?_⟩⟩⟩, fun c => ?_⟩
  · rw [if_pos c, if_pos (Or.inl c2)] at h; (exact h _ _ (RM_no hm) (lo_up (by decide) lo_r))
  · rw [if_pos c, if_pos (Or.inr c3)] at h; (exact h _ _ (RM_no hm) (lo_up (by decide) lo_r))
  · have c6 : b < 31 := by (simp (disch := omega) only [Int32.lt_iff_toInt_lt, Int32.le_iff_toInt_le, ← Int32.toInt_inj, Int32.reduceToInt, nI_toInt] at *; omega)
    rw [if_pos c, if_neg (fun q => q.elim c2 c3), if_pos ⟨c6, c5⟩] at h
    rw [hv.1.2.2.1.1] at c
    have hk := hv.1.2.2.1.2
    obtain ⟨i, hi, rfl⟩ := am_nat c (by omega)
    obtain ⟨j, hj, rfl⟩ := am_nat (m := 31) ⟨Int32.not_lt.mp c2, c6⟩ (by decide)
    rw [nI_clamp (by omega), nI_clamp (by omega)] at h
    refine ⟨31 * i + j, by omega, am_31, ?_⟩
    rintro _ rfl
    exact h _ _ (RM_up (by decide) rfl hm) (lo_up (by decide) lo_r)
  · rw [if_pos c, if_neg (fun q => q.elim c2 c3), if_neg (fun q => c5 q.2)] at h; (exact h _ _ (RM_no hm) (lo_up (by decide) lo_r))
  · rw [if_pos c, if_neg (fun q => q.elim c2 c3), if_neg (fun q => c4 (by have := q.1; (simp (disch := omega) only [Int32.lt_iff_toInt_lt, Int32.le_iff_toInt_le, ← Int32.toInt_inj, Int32.reduceToInt, nI_toInt] at *; omega)))] at h; (exact h _ _ (RM_no hm) (lo_up (by decide) lo_r))
  · (rw [if_neg c] at h; exact h _ _ (RM_no hm) (lo_up (by decide) lo_r))
theorem I_look {k l x : Int32} (hv : Inv V) : Inv (o_look V k l x).2 := by
  unfold o_look
  split
  · split
    · exact hv
    · split <;> exact hv
  · exact hv
end OP2
end
section
/-! more calls -/
section OP3
variable {d : Nat} {I V : am_V} {L : Nat → Nat → Int64} {R : am_R}
def o_keeper (V : am_V) (t b p m : Int32) : Int32 × am_V := if 0 ≤ t ∧ t < 10 then (if b < 0 ∨ p < 1 ∨ m < 0 then o_no V 4 (-4) else if (b ≤ 255 ∧ p ≤ 2 ∧ m ≤ 99999) ∧ ¬ V 113 4 = 20 then (V 113 4, va_up (va_up (va_up (va_up (va_up V 117 (upd (V 117) (am_n V 113 4) t)) 118 (upd (V 118) (am_n V 113 4) b)) 119 (upd (V 119) (am_n V 113 4) p)) 120 (upd (V 120) (am_n V 113 4) m)) 113 (upd (V 113) 4 (V 113 4 + 1))) else o_no V 6 (-6)) else o_no V 1 (-1)
theorem lt_nI {V : am_V} {j n : Nat} (h : am_ix V 113 j (n + 1)) (hn : n < 2 ^ 30) (hx : ¬ V 113 j = nI n) : am_n V 113 j < n := by
  have h2 := h.2
  rcases Nat.lt_or_ge (am_n V 113 j) n with q | q
  · exact q
  · exfalso; apply hx; rw [h.1, show am_n V 113 j = n from by omega]
theorem C_keeper {t b p m : Int32} (hd : 2 ≤ d) (hc : RC I V) (hv : Inv V) (h : ∀ I' L', RC I' (o_keeper V t b p m).2 → am_hi I' I → R (some (.int (o_keeper V t b p m).1)) (am_mk I' L', 0, 0)) : am_meth d 7 [.ref 0, .int t, .int b, .int p, .int m] (am_mk I L, 0, 0) R := by
  obtain ⟨d, rfl⟩ : ∃ e, d = e + 1 := ⟨d - 1, by omega⟩
  refine ar_in rfl rfl rfl (r_H_keeper_0 (by omega) ?_)
  obtain ⟨⟨n1, n2, n3, n4, n5, n6, n7, n8⟩, ⟨e1, e2, e3, e4, e5, e6, e7, e8, e9, e10, e11, e12, e13, e14, e15, e16, e17⟩, -⟩ := id hc
  unfold o_keeper at h
  have hk := hv.1.2.1
  have c0 : ∀ {P : Prop}, I 16 0 < 20 → (¬ V 113 4 = 20 → P) → P := fun q f => f (fun e => by rw [n1, e] at q; exact absurd q (by decide))
  refine ⟨fun c => ⟨fun c1 => ?_, fun c1 => ⟨fun c2 => ?_, fun c2 => ⟨fun c3 => ?_, fun c3 => ⟨fun c4 => ⟨fun c5 => ⟨fun c6 => ⟨fun c7 => ?_, fun c7 => ?_⟩, fun c6 => ?_⟩, fun c5 => ?_⟩, fun c4 => ?_⟩⟩⟩⟩, fun c => ?_⟩
  · rw [if_pos c, if_pos (Or.inl c1)] at h; (exact h _ _ (RC_no hc) (hi_up (by decide) hi_r))
  · rw [if_pos c, if_pos (Or.inr (Or.inl c2))] at h; (exact h _ _ (RC_no hc) (hi_up (by decide) hi_r))
  · rw [if_pos c, if_pos (Or.inr (Or.inr c3))] at h; (exact h _ _ (RC_no hc) (hi_up (by decide) hi_r))
  · have c8 : ¬ V 113 4 = 20 := fun e => by rw [n1, e] at c7; exact absurd c7 (by decide)
    rw [if_pos c, if_neg (fun q => q.elim c1 (fun q => q.elim c2 c3)), if_pos ⟨⟨c4, c5, c6⟩, c8⟩] at h
    have e0 : am_n I 16 0 = am_n V 113 4 := by unfold am_n; rw [n1]
    have hx := lt_nI hk (by decide) c8
    refine ⟨⟨by rw [e0, n1]; exact hk.1, by rw [e0]; exact hx⟩, ?_⟩
    rw [n1]
    unfold am_ka
    rw [e0, n1, e4, e5, e6, e7]
    exact h _ _ ⟨⟨rfl, n2, n3, n4, n5, n6, n7, n8⟩, ⟨e1, e2, e3, rfl, rfl, rfl, rfl, hc.2.1.2.2.2.2.2.2.2⟩, hc.2.2⟩ (hi_up (by decide) (hi_up (by decide) (hi_up (by decide) (hi_up (by decide) (hi_up (by decide) hi_r)))))
  · have c8 : V 113 4 = 20 := by
      apply Decidable.byContradiction; intro e
      have hx := lt_nI hk (by decide) e
      rw [n1, hk.1] at c7; exact c7 (nI_lt (b := 20) hx (by decide))
    rw [if_pos c, if_neg (fun q => q.elim c1 (fun q => q.elim c2 c3)), if_neg (fun q => q.2 c8)] at h; (exact h _ _ (RC_no hc) (hi_up (by decide) hi_r))
  · rw [if_pos c, if_neg (fun q => q.elim c1 (fun q => q.elim c2 c3)), if_neg (fun q => c6 q.1.2.2)] at h; (exact h _ _ (RC_no hc) (hi_up (by decide) hi_r))
  · rw [if_pos c, if_neg (fun q => q.elim c1 (fun q => q.elim c2 c3)), if_neg (fun q => c5 q.1.2.1)] at h; (exact h _ _ (RC_no hc) (hi_up (by decide) hi_r))
  · rw [if_pos c, if_neg (fun q => q.elim c1 (fun q => q.elim c2 c3)), if_neg (fun q => c4 q.1.1)] at h; (exact h _ _ (RC_no hc) (hi_up (by decide) hi_r))
  · (rw [if_neg c] at h; exact h _ _ (RC_no hc) (hi_up (by decide) hi_r))
theorem M_keeper {t b p m : Int32} (hd : 2 ≤ d) (hm : RM I V) (hv : Inv V) (h : ∀ I' L', RM I' (o_keeper V t b p m).2 → am_lo I' I → R (some (.int (o_keeper V t b p m).1)) (am_mk I' L', 0, 0)) : am_meth d 156 [.ref 113, .int t, .int b, .int p, .int m] (am_mk I L, 0, 0) R := by
  obtain ⟨d, rfl⟩ : ∃ e, d = e + 1 := ⟨d - 1, by omega⟩
  refine ar_in rfl rfl rfl (r_M_keeper_0 (by omega) ?_)
  have mc := hm.1; have mf := hm.2
  unfold o_keeper at h
  have hk := hv.1.2.1
  have e4 : I 113 4 = V 113 4 := mf 4 rfl
  refine ⟨fun c => ⟨fun c1 => ?_, fun c1 => ⟨fun c2 => ?_, fun c2 => ⟨fun c3 => ?_, fun c3 => ⟨fun c4 => ⟨fun c5 => ⟨fun c6 => ⟨fun c7 => ?_, fun c7 => ?_⟩, fun c6 => ?_⟩, fun c5 => ?_⟩, fun c4 => ?_⟩⟩⟩⟩, fun c => ?_⟩
  · rw [if_pos c, if_pos (Or.inl c1)] at h; (exact h _ _ (RM_no hm) (lo_up (by decide) lo_r))
  · rw [if_pos c, if_pos (Or.inr (Or.inl c2))] at h; (exact h _ _ (RM_no hm) (lo_up (by decide) lo_r))
  · rw [if_pos c, if_pos (Or.inr (Or.inr c3))] at h; (exact h _ _ (RM_no hm) (lo_up (by decide) lo_r))
  · rw [e4] at c7
    rw [if_pos c, if_neg (fun q => q.elim c1 (fun q => q.elim c2 c3)), if_neg (fun q => q.2 c7)] at h; (exact h _ _ (RM_no hm) (lo_up (by decide) lo_r))
  · rw [e4] at c7
    rw [if_pos c, if_neg (fun q => q.elim c1 (fun q => q.elim c2 c3)), if_pos ⟨⟨c4, c5, c6⟩, c7⟩] at h
    have hx := lt_nI hk (by decide) c7
    have e5 : I 113 4 = nI (am_n V 113 4) := by rw [e4]; exact hk.1
    refine ⟨_, hx, e5, ?_⟩
    rintro _ rfl
    refine ⟨_, hx, e5, ?_⟩
    rintro _ rfl
    refine ⟨_, hx, e5, ?_⟩
    rintro _ rfl
    refine ⟨_, hx, e5, ?_⟩
    rintro _ rfl _ rfl
    show R (some (.int (I 113 4 + 1 - 1))) _
    rw [Int32.add_sub_cancel, e4]
    refine h _ _ ?_ (lo_up (by decide) (lo_up (by decide) (lo_up (by decide) (lo_up (by decide) (lo_up (by decide) lo_r)))))
    exact RM_f (V := va_up (va_up (va_up (va_up V 117 _) 118 _) 119 _) 120 _) (by rw [← e4]; rfl) (RM_up (by decide) (by rw [← mc 120 rfl]; rfl) (RM_up (by decide) (by rw [← mc 119 rfl]; rfl) (RM_up (by decide) (by rw [← mc 118 rfl]; rfl) (RM_up (by decide) (by rw [mc 117 rfl]) hm))))
  · rw [if_pos c, if_neg (fun q => q.elim c1 (fun q => q.elim c2 c3)), if_neg (fun q => c6 q.1.2.2)] at h; (exact h _ _ (RM_no hm) (lo_up (by decide) lo_r))
  · rw [if_pos c, if_neg (fun q => q.elim c1 (fun q => q.elim c2 c3)), if_neg (fun q => c5 q.1.2.1)] at h; (exact h _ _ (RM_no hm) (lo_up (by decide) lo_r))
  · rw [if_pos c, if_neg (fun q => q.elim c1 (fun q => q.elim c2 c3)), if_neg (fun q => c4 q.1.1)] at h; (exact h _ _ (RM_no hm) (lo_up (by decide) lo_r))
  · (rw [if_neg c] at h; exact h _ _ (RM_no hm) (lo_up (by decide) lo_r))
theorem ix_inc {f : Nat → Int32} {j n : Nat} (h : f j = nI (f j).toNatClampNeg) (hx : (f j).toNatClampNeg < n) (hn : n < 2 ^ 30) : upd f j (f j + 1) j = nI (upd f j (f j + 1) j).toNatClampNeg ∧ (upd f j (f j + 1) j).toNatClampNeg < n + 1 := by
  rw [am_uat, if_pos rfl, h, nI_1, nI_clamp (by omega)]
  exact ⟨rfl, by omega⟩
theorem I_keeper {t b p m : Int32} (hv : Inv V) : Inv (o_keeper V t b p m).2 := by
  unfold o_keeper
  split
  · rename_i c
    split
    · exact hv
    · split
      · rename_i c1 c2
        have hk := hv.1.2.1
        have hx := lt_nI hk (by decide) c2.2
        obtain ⟨vn, vt, vk, vs, vx, vr, vp⟩ := hv
        have b1 : 0 ≤ b ∧ b < nI 256 := by rw [show nI 256 = (256 : Int32) from rfl]; (simp (disch := omega) only [Int32.lt_iff_toInt_lt, Int32.le_iff_toInt_le, ← Int32.toInt_inj, Int32.reduceToInt, nI_toInt] at *; omega)
        have m1 : 0 ≤ m ∧ m < nI 100000 := by rw [show nI 100000 = (100000 : Int32) from rfl]; (simp (disch := omega) only [Int32.lt_iff_toInt_lt, Int32.le_iff_toInt_le, ← Int32.toInt_inj, Int32.reduceToInt, nI_toInt] at *; omega)
        refine ⟨⟨vn.1, ix_inc hk.1 hx (by decide), vn.2.2⟩, vt, fun k hk => ⟨?_, ?_, ?_, (vk k hk).2.2.2.1, (vk k hk).2.2.2.2⟩, vs, vx, vr, vp⟩
        · exact ix_u (n := 20) (fun j hj => (vk j hj).1) c (by decide) k hk
        · exact ix_u (n := 20) (fun j hj => (vk j hj).2.1) b1 (by decide) k hk
        · exact ix_u (n := 20) (fun j hj => (vk j hj).2.2.1) m1 (by decide) k hk
      · exact hv
  · exact hv
def o_house (V : am_V) (t b : Int32) : Int32 × am_V := if 0 ≤ t ∧ t < 10 then (if b < 0 then o_no V 4 (-4) else if b ≤ 255 ∧ ¬ V 113 10 = 20 then (V 113 10, va_up (va_up (va_up V 122 (upd (V 122) (am_n V 113 10) t)) 123 (upd (V 123) (am_n V 113 10) b)) 113 (upd (V 113) 10 (V 113 10 + 1))) else o_no V 6 (-6)) else o_no V 1 (-1)
theorem C_house {t b : Int32} (hd : 2 ≤ d) (hc : RC I V) (hv : Inv V) (h : ∀ I' L', RC I' (o_house V t b).2 → am_hi I' I → R (some (.int (o_house V t b).1)) (am_mk I' L', 0, 0)) : am_meth d 8 [.ref 0, .int t, .int b] (am_mk I L, 0, 0) R := by
  obtain ⟨d, rfl⟩ : ∃ e, d = e + 1 := ⟨d - 1, by omega⟩
  refine ar_in rfl rfl rfl (r_H_house_0 (by omega) ?_)
  obtain ⟨⟨n1, n2, n3, n4, n5, n6, n7, n8⟩, ⟨e1, e2, e3, e4, e5, e6, e7, e8, e9, e10, e11, e12, e13, e14, e15, e16, e17⟩, -⟩ := id hc
  unfold o_house at h
  have hk := hv.1.2.2.1
  refine ⟨fun c => ⟨fun c1 => ?_, fun c1 => ?_, fun c1 => ⟨fun c7 => ?_, fun c7 => ?_⟩⟩, fun c => ?_⟩
  · (rw [if_pos c, if_pos c1] at h; exact h _ _ (RC_no hc) (hi_up (by decide) hi_r))
  · rw [if_pos c, if_neg c1.1, if_neg (fun q => Int32.not_le.mpr c1.2 q.1)] at h; (exact h _ _ (RC_no hc) (hi_up (by decide) hi_r))
  · have c8 : ¬ V 113 10 = 20 := fun e => by rw [n2, e] at c7; exact absurd c7 (by decide)
    rw [if_pos c, if_neg c1.1, if_pos ⟨Int32.not_lt.mp c1.2, c8⟩] at h
    have e0 : am_n I 42 0 = am_n V 113 10 := by unfold am_n; rw [n2]
    have hx := lt_nI hk (by decide) c8
    refine ⟨⟨by rw [e0, n2]; exact hk.1, by rw [e0]; exact hx⟩, ?_⟩
    rw [n2]
    unfold am_ha
    rw [e0, n2, e8, e9]
    exact h _ _ ⟨⟨n1, rfl, n3, n4, n5, n6, n7, n8⟩, ⟨e1, e2, e3, e4, e5, e6, e7, rfl, rfl, hc.2.1.2.2.2.2.2.2.2.2.2⟩, hc.2.2⟩ (hi_up (by decide) (hi_up (by decide) (hi_up (by decide) hi_r)))
  · have c8 : V 113 10 = 20 := by
      apply Decidable.byContradiction; intro e
      have hx := lt_nI hk (by decide) e
      rw [n2, hk.1] at c7; exact c7 (nI_lt (b := 20) hx (by decide))
    rw [if_pos c, if_neg c1.1, if_neg (fun q => q.2 c8)] at h; (exact h _ _ (RC_no hc) (hi_up (by decide) hi_r))
  · (rw [if_neg c] at h; exact h _ _ (RC_no hc) (hi_up (by decide) hi_r))
theorem M_house {t b : Int32} (hd : 2 ≤ d) (hm : RM I V) (hv : Inv V) (h : ∀ I' L', RM I' (o_house V t b).2 → am_lo I' I → R (some (.int (o_house V t b).1)) (am_mk I' L', 0, 0)) : am_meth d 157 [.ref 113, .int t, .int b] (am_mk I L, 0, 0) R := by
  obtain ⟨d, rfl⟩ : ∃ e, d = e + 1 := ⟨d - 1, by omega⟩
  refine ar_in rfl rfl rfl (r_M_house_0 (by omega) ?_)
  have mc := hm.1; have mf := hm.2
  unfold o_house at h
  have hk := hv.1.2.2.1
  have e4 : I 113 10 = V 113 10 := mf 10 rfl
  refine ⟨fun c => ⟨fun c1 => ?_, fun c1 => ⟨fun c4 => ⟨fun c7 => ?_, fun c7 => ?_⟩, fun c4 => ?_⟩⟩, fun c => ?_⟩
  · (rw [if_pos c, if_pos c1] at h; exact h _ _ (RM_no hm) (lo_up (by decide) lo_r))
  · rw [e4] at c7
    rw [if_pos c, if_neg c1, if_neg (fun q => q.2 c7)] at h; (exact h _ _ (RM_no hm) (lo_up (by decide) lo_r))
  · rw [e4] at c7
    rw [if_pos c, if_neg c1, if_pos ⟨c4, c7⟩] at h
    have hx := lt_nI hk (by decide) c7
    have e5 : I 113 10 = nI (am_n V 113 10) := by rw [e4]; exact hk.1
    refine ⟨_, hx, e5, ?_⟩
    rintro _ rfl
    refine ⟨_, hx, e5, ?_⟩
    rintro _ rfl _ rfl
    show R (some (.int (I 113 10 + 1 - 1))) _
    rw [Int32.add_sub_cancel, e4]
    refine h _ _ ?_ (lo_up (by decide) (lo_up (by decide) (lo_up (by decide) lo_r)))
    exact RM_f (V := va_up (va_up V 122 _) 123 _) (by rw [← e4]; rfl) (RM_up (by decide) (by rw [← mc 123 rfl]; rfl) (RM_up (by decide) (by rw [mc 122 rfl]) hm))
  · rw [if_pos c, if_neg c1, if_neg (fun q => c4 q.1)] at h; (exact h _ _ (RM_no hm) (lo_up (by decide) lo_r))
  · (rw [if_neg c] at h; exact h _ _ (RM_no hm) (lo_up (by decide) lo_r))
theorem I_house {t b : Int32} (hv : Inv V) : Inv (o_house V t b).2 := by
  unfold o_house
  split
  · rename_i c
    split
    · exact hv
    · split
      · rename_i c1 c2
        have hk := hv.1.2.2.1
        have hx := lt_nI hk (by decide) c2.2
        obtain ⟨vn, vt, vk, vs, vx, vr, vp⟩ := hv
        have b1 : 0 ≤ b ∧ b < nI 256 := by rw [show nI 256 = (256 : Int32) from rfl]; (simp (disch := omega) only [Int32.lt_iff_toInt_lt, Int32.le_iff_toInt_le, ← Int32.toInt_inj, Int32.reduceToInt, nI_toInt] at *; omega)
        refine ⟨⟨vn.1, vn.2.1, ix_inc hk.1 hx (by decide), vn.2.2.2⟩, vt, fun k hk => ⟨(vk k hk).1, (vk k hk).2.1, (vk k hk).2.2.1, ?_, ?_⟩, vs, vx, vr, vp⟩
        · exact ix_u (n := 20) (fun j hj => (vk j hj).2.2.2.1) c (by decide) k hk
        · exact ix_u (n := 20) (fun j hj => (vk j hj).2.2.2.2) b1 (by decide) k hk
      · exact hv
  · exact hv
end OP3
end
section
/-! more calls -/
theorem am_ixz {V : am_V} {c j n : Nat} (h : V c j = 0) : am_ix V c j (n + 1) := by
  have e : am_n V c j = 0 := by unfold am_n; rw [h]; rfl
  unfold am_ix; rw [e, h]; exact ⟨rfl, by omega⟩
section OP4
variable {d : Nat} {I V : am_V} {L : Nat → Nat → Int64} {R : am_R}
def o_stayOf (V : am_V) (s w : Int32) : Int32 × am_V := if 0 ≤ s ∧ s < V 113 14 then (if w = 0 then (V 125 s.toNatClampNeg, V) else if w = 1 then (V 126 s.toNatClampNeg, V) else if w = 2 then (V 127 s.toNatClampNeg, V) else if w = 3 then (V 128 s.toNatClampNeg, V) else if w = 4 then (V 129 s.toNatClampNeg, V) else if w = 5 then (if V 127 s.toNatClampNeg < V 113 0 then 1 else 0, V) else o_no V 2 (-2)) else o_no V 1 (-1)
theorem toInt_e {w : Int32} {n : Nat} (h : w.toInt = n) (hn : n < 2 ^ 31) : w = nI n := Int32.toInt_inj.mp (by rw [nI_toInt hn]; exact h)
theorem C_stayOf {s w : Int32} (hd : 2 ≤ d) (hc : RC I V) (hv : Inv V) (h : ∀ I' L', RC I' (o_stayOf V s w).2 → am_hi I' I → R (some (.int (o_stayOf V s w).1)) (am_mk I' L', 0, 0)) : am_meth d 10 [.ref 0, .int s, .int w] (am_mk I L, 0, 0) R := by
  obtain ⟨d, rfl⟩ : ∃ e, d = e + 1 := ⟨d - 1, by omega⟩
  refine ar_in rfl rfl rfl (r_H_stayOf_0 (by omega) ?_)
  obtain ⟨⟨n1, n2, n3, n4, n5, n6, n7, n8⟩, ⟨e1, e2, e3, e4, e5, e6, e7, e8, e9, e10, e11, e12, e13, e14, e15, e16, e17⟩, -⟩ := id hc
  simp only [n1, n2, n3, n4, n5, n6, n7, n8, e1, e2, e3, e4, e5, e6, e7, e8, e9, e10, e11, e12, e13, e14, e15, e16, e17]
  unfold o_stayOf at h
  refine ⟨fun c => ?_, fun c => ?_⟩
  · rw [if_pos c] at h
    have hk := hv.1.2.2.2.1
    have hk2 := hk.2
    rw [hk.1] at c
    obtain ⟨i, hi, rfl⟩ := am_nat c (by omega)
    rw [nI_clamp (by omega)] at h
    have hi2 : i < 60 := by omega
    refine ⟨fun q => ?_, fun q => ?_, fun q => ?_, fun q => ?_, fun q => ?_, fun q => ?_, fun q => ?_⟩
    · have e := toInt_e (n := 0) q (by decide); subst e
      rw [if_pos (by decide)] at h
      exact ⟨i, hi2, rfl, h _ _ hc hi_r⟩
    · have e := toInt_e (n := 1) q (by decide); subst e
      rw [if_neg (by decide), if_pos (by decide)] at h
      exact ⟨i, hi2, rfl, h _ _ hc hi_r⟩
    · have e := toInt_e (n := 2) q (by decide); subst e
      rw [if_neg (by decide), if_neg (by decide), if_pos (by decide)] at h
      exact ⟨i, hi2, rfl, h _ _ hc hi_r⟩
    · have e := toInt_e (n := 3) q (by decide); subst e
      rw [if_neg (by decide), if_neg (by decide), if_neg (by decide), if_pos (by decide)] at h
      exact ⟨i, hi2, rfl, h _ _ hc hi_r⟩
    · have e := toInt_e (n := 4) q (by decide); subst e
      rw [if_neg (by decide), if_neg (by decide), if_neg (by decide), if_neg (by decide), if_pos (by decide)] at h
      refine ⟨i, hi2, rfl, ?_⟩
      rw [hc.2.2.1.2.2.2.1 i hi2, if_pos hi]
      exact h _ _ hc hi_r
    · have e := toInt_e (n := 5) q (by decide); subst e
      rw [if_neg (by decide), if_neg (by decide), if_neg (by decide), if_neg (by decide), if_neg (by decide), if_pos (by decide)] at h
      refine ⟨i, rfl, hi2, fun c2 => ?_, fun c2 => ?_⟩
      · rw [if_pos c2] at h
        exact h _ _ hc hi_r
      · rw [if_neg c2] at h
        exact h _ _ hc hi_r
    · rw [if_neg (fun e => by subst e; revert q; decide), if_neg (fun e => by subst e; revert q; decide), if_neg (fun e => by subst e; revert q; decide), if_neg (fun e => by subst e; revert q; decide), if_neg (fun e => by subst e; revert q; decide), if_neg (fun e => by subst e; revert q; decide)] at h
      (exact h _ _ (RC_no hc) (hi_up (by decide) hi_r))
  · (rw [if_neg c] at h; exact h _ _ (RC_no hc) (hi_up (by decide) hi_r))
theorem M_stayOf {s w : Int32} (hd : 2 ≤ d) (hm : RM I V) (hv : Inv V) (h : ∀ I' L', RM I' (o_stayOf V s w).2 → am_lo I' I → R (some (.int (o_stayOf V s w).1)) (am_mk I' L', 0, 0)) : am_meth d 160 [.ref 113, .int s, .int w] (am_mk I L, 0, 0) R := by
  obtain ⟨d, rfl⟩ : ∃ e, d = e + 1 := ⟨d - 1, by omega⟩
  refine ar_in rfl rfl rfl (r_M_stayOf_0 (by omega) ?_)
  have mc := hm.1; have mf := hm.2
  simp (disch := decide) only [mc, mf]
  unfold o_stayOf at h
  refine ⟨fun c => ?_, fun c => ?_⟩
  · rw [if_pos c] at h
    have hk := hv.1.2.2.2.1
    have hk2 := hk.2
    rw [hk.1] at c
    obtain ⟨i, hi, rfl⟩ := am_nat c (by omega)
    rw [nI_clamp (by omega)] at h
    have hi2 : i < 60 := by omega
    refine ⟨fun q => ?_, fun q => ⟨fun q2 => ⟨fun c0 => ?_, fun c0 => ⟨fun c1 => ?_, fun c1 => ⟨fun c2 => ?_, fun c2 => ⟨fun c3 => ?_, fun c3 => ⟨fun c4 => ?_, fun c4 => ?_⟩⟩⟩⟩⟩, fun q2 => ?_⟩⟩
    · rw [if_neg (fun e => by subst e; revert q; decide), if_neg (fun e => by subst e; revert q; decide), if_neg (fun e => by subst e; revert q; decide), if_neg (fun e => by subst e; revert q; decide), if_neg (fun e => by subst e; revert q; decide), if_neg (fun e => by subst e; revert q; decide)] at h
      (exact h _ _ (RM_no hm) (lo_up (by decide) lo_r))
    · rw [if_pos c0] at h
      exact ⟨i, hi2, rfl, h _ _ hm lo_r⟩
    · rw [if_neg c0, if_pos c1] at h
      exact ⟨i, hi2, rfl, h _ _ hm lo_r⟩
    · rw [if_neg c0, if_neg c1, if_pos c2] at h
      exact ⟨i, hi2, rfl, h _ _ hm lo_r⟩
    · rw [if_neg c0, if_neg c1, if_neg c2, if_pos c3] at h
      exact ⟨i, hi2, rfl, h _ _ hm lo_r⟩
    · rw [if_neg c0, if_neg c1, if_neg c2, if_neg c3, if_pos c4] at h
      exact ⟨i, hi2, rfl, h _ _ hm lo_r⟩
    · have c5 : w = 5 := by (simp (disch := omega) only [Int32.lt_iff_toInt_lt, Int32.le_iff_toInt_le, ← Int32.toInt_inj, Int32.reduceToInt, nI_toInt] at *; omega)
      rw [if_neg c0, if_neg c1, if_neg c2, if_neg c3, if_neg c4, if_pos c5] at h
      refine ⟨i, rfl, hi2, fun c2 => ?_, fun c2 => ?_⟩
      · rw [if_pos c2] at h
        exact h _ _ hm lo_r
      · rw [if_neg c2] at h
        exact h _ _ hm lo_r
    · rw [if_neg (fun e => by subst e; revert q2; decide), if_neg (fun e => by subst e; revert q2; decide), if_neg (fun e => by subst e; revert q2; decide), if_neg (fun e => by subst e; revert q2; decide), if_neg (fun e => by subst e; revert q2; decide), if_neg (fun e => by subst e; revert q2; decide)] at h
      (exact h _ _ (RM_no hm) (lo_up (by decide) lo_r))
  · (rw [if_neg c] at h; exact h _ _ (RM_no hm) (lo_up (by decide) lo_r))
theorem I_stayOf {s w : Int32} (hv : Inv V) : Inv (o_stayOf V s w).2 := by
  unfold o_stayOf
  repeat' split
  all_goals exact hv
def o_cancel (V : am_V) (s : Int32) : Int32 × am_V := if 0 ≤ s ∧ s < V 113 14 then (if V 127 s.toNatClampNeg < V 113 0 ∨ V 128 s.toNatClampNeg = 2 then o_no V 3 (-3) else (V 129 s.toNatClampNeg, va_up V 128 (upd (V 128) s.toNatClampNeg 2))) else o_no V 1 (-1)
theorem C_cancel {s : Int32} (hd : 2 ≤ d) (hc : RC I V) (hv : Inv V) (h : ∀ I' L', RC I' (o_cancel V s).2 → am_hi I' I → R (some (.int (o_cancel V s).1)) (am_mk I' L', 0, 0)) : am_meth d 13 [.ref 0, .int s] (am_mk I L, 0, 0) R := by
  obtain ⟨d, rfl⟩ : ∃ e, d = e + 1 := ⟨d - 1, by omega⟩
  refine ar_in rfl rfl rfl (r_H_cancel_0 (by omega) ?_)
  obtain ⟨⟨n1, n2, n3, n4, n5, n6, n7, n8⟩, ⟨e1, e2, e3, e4, e5, e6, e7, e8, e9, e10, e11, e12, e13, e14, e15, e16, e17⟩, -⟩ := id hc
  simp only [n1, n2, n3, n4, n5, n6, n7, n8, e1, e2, e3, e4, e5, e6, e7, e8, e9, e10, e11, e12, e13, e14, e15, e16, e17]
  unfold o_cancel at h
  refine ⟨fun c => ?_, fun c => ?_⟩
  · rw [if_pos c] at h
    have hk := hv.1.2.2.2.1
    have hk2 := hk.2
    rw [hk.1] at c
    obtain ⟨i, hi, rfl⟩ := am_nat c (by omega)
    rw [nI_clamp (by omega)] at h
    have hi2 : i < 60 := by omega
    refine ⟨i, rfl, hi2, fun c2 => ?_, fun c2 => ⟨i, hi2, rfl, fun c3 => ?_, fun c3 => ?_⟩⟩
    · rw [if_pos (Or.inl c2)] at h; (exact h _ _ (RC_no hc) (hi_up (by decide) hi_r))
    · rw [if_pos (Or.inr c3)] at h; (exact h _ _ (RC_no hc) (hi_up (by decide) hi_r))
    · rw [if_neg (fun q => q.elim c2 c3)] at h
      rintro _ rfl
      show R (some (.int (I 71 i))) _
      rw [hc.2.2.1.2.2.2.1 i hi2, if_pos hi]
      exact h _ _ ⟨hc.1, ⟨e1, e2, e3, e4, e5, e6, e7, e8, e9, e10, e11, e12, rfl, hc.2.1.2.2.2.2.2.2.2.2.2.2.2.2.2⟩, hc.2.2⟩ (hi_up (by decide) hi_r)
  · (rw [if_neg c] at h; exact h _ _ (RC_no hc) (hi_up (by decide) hi_r))
theorem M_cancel {s : Int32} (hd : 2 ≤ d) (hm : RM I V) (hv : Inv V) (h : ∀ I' L', RM I' (o_cancel V s).2 → am_lo I' I → R (some (.int (o_cancel V s).1)) (am_mk I' L', 0, 0)) : am_meth d 192 [.ref 113, .int s] (am_mk I L, 0, 0) R := by
  obtain ⟨d, rfl⟩ : ∃ e, d = e + 1 := ⟨d - 1, by omega⟩
  refine ar_in rfl rfl rfl (r_M_cancel_0 (by omega) ?_)
  have mc := hm.1; have mf := hm.2
  simp (disch := decide) only [mc, mf]
  unfold o_cancel at h
  refine ⟨fun c => ?_, fun c => ?_⟩
  · rw [if_pos c] at h
    have hk := hv.1.2.2.2.1
    have hk2 := hk.2
    rw [hk.1] at c
    obtain ⟨i, hi, rfl⟩ := am_nat c (by omega)
    rw [nI_clamp (by omega)] at h
    have hi2 : i < 60 := by omega
    refine ⟨i, rfl, hi2, fun c2 => ?_, fun c2 => ⟨i, hi2, rfl, fun c3 => ?_, fun c3 => ?_⟩⟩
    · rw [if_pos (Or.inl c2)] at h; (exact h _ _ (RM_no hm) (lo_up (by decide) lo_r))
    · rw [if_pos (Or.inr c3)] at h; (exact h _ _ (RM_no hm) (lo_up (by decide) lo_r))
    · rw [if_neg (fun q => q.elim c2 c3)] at h
      rintro _ rfl
      show R (some (.int (I 129 i))) _
      rw [mc 129 rfl]
      exact h _ _ (RM_up (by decide) rfl hm) (lo_up (by decide) lo_r)
  · (rw [if_neg c] at h; exact h _ _ (RM_no hm) (lo_up (by decide) lo_r))
theorem I_cancel {s : Int32} (hv : Inv V) : Inv (o_cancel V s).2 := by
  unfold o_cancel
  split
  · rename_i c
    split
    · exact hv
    · rename_i c2
      have hk := hv.1.2.2.2.1
      have hk2 := hk.2
      rw [hk.1] at c
      obtain ⟨i, hi, rfl⟩ := am_nat c (by omega)
      rw [nI_clamp (by omega)] at c2 ⊢
      have c3 : ¬ V 127 i < V 113 0 := fun q => c2 (Or.inl q)
      obtain ⟨vn, vt, vk, vs, vx, vr, vp⟩ := hv
      have u2 : ∀ j, upd (V 128) i 2 j = 1 → V 128 j = 1 := fun j q => by
        rw [am_uat] at q; split at q
        · exact absurd q (by decide)
        · exact q
      have u0 : ∀ j, upd (V 128) i 2 j = 0 → V 128 j = 0 := fun j q => by
        rw [am_uat] at q; split at q
        · exact absurd q (by decide)
        · exact q
      refine ⟨vn, vt, vk, ⟨fun s hs => ⟨(vs.1 s hs).1, (vs.1 s hs).2.1, (vs.1 s hs).2.2.1, ?_, fun q => ?_⟩, fun s hs => ⟨(vs.2 s hs).1, (vs.2 s hs).2.1, fun q => (vs.2 s hs).2.2.1 (u0 s q), fun q => (vs.2 s hs).2.2.2 (u2 s q)⟩⟩, fun s s' hs hs' ne q q' => vx s s' hs hs' ne (u2 s q) (u2 s' q'), ⟨fun r hr => ⟨(vr.1 r hr).1, fun q => ⟨((vr.1 r hr).2 q).1, ?_, ((vr.1 r hr).2 q).2.2⟩⟩, vr.2⟩, vp⟩
      · exact ix_u (n := 60) (fun j hj => (vs.1 j hj).2.2.2.1) (by decide) (by decide) s hs
      · have q2 : am_n V 113 14 ≤ s := q
        show upd (V 128) i 2 s = 0
        rw [am_uat, if_neg (by omega)]; exact (vs.1 s hs).2.2.2.2 q
      · show upd (V 128) i 2 (r / 2) = 1
        rw [am_uat, if_neg ?_]; exact ((vr.1 r hr).2 q).2.1
        intro e
        have w := ((vr.1 r hr).2 q).2.2
        rw [e] at w
        apply c3
        rw [(vs.1 i (by omega)).2.2.1.1, vn.1.1]
        exact nI_lt w (by have := vn.1.2; omega)
  · exact hv
def o_unput (V : am_V) : Int32 × am_V := (V 113 39, va_up V 113 (upd (V 113) 39 0))
theorem C_unput (hd : 2 ≤ d) (hc : RC I V) (hv : Inv V) (h : ∀ I' L', RC I' (o_unput V).2 → am_hi I' I → R (some (.int (o_unput V).1)) (am_mk I' L', 0, 0)) : am_meth d 26 [.ref 0] (am_mk I L, 0, 0) R := by
  obtain ⟨d, rfl⟩ : ∃ e, d = e + 1 := ⟨d - 1, by omega⟩
  refine ar_in rfl rfl rfl (r_H_unput_0 (by omega) ?_)
  obtain ⟨⟨n1, n2, n3, n4, n5, n6, n7, n8⟩, ⟨e1, e2, e3, e4, e5, e6, e7, e8, e9, e10, e11, e12, e13, e14, e15, e16, e17⟩, -⟩ := id hc
  rw [n7]
  exact h _ _ ⟨⟨n1, n2, n3, n4, n5, n6, rfl, n8⟩, hc.2⟩ (hi_up (by decide) hi_r)
theorem M_unput (hd : 2 ≤ d) (hm : RM I V) (hv : Inv V) (h : ∀ I' L', RM I' (o_unput V).2 → am_lo I' I → R (some (.int (o_unput V).1)) (am_mk I' L', 0, 0)) : am_meth d 206 [.ref 113] (am_mk I L, 0, 0) R := by
  obtain ⟨d, rfl⟩ : ∃ e, d = e + 1 := ⟨d - 1, by omega⟩
  refine ar_in rfl rfl rfl (r_M_unput_0 ?_)
  rintro _ rfl
  rw [hm.2 39 rfl]
  exact h _ _ (RM_f rfl hm) (lo_up (by decide) lo_r)
theorem ix_z39 {V : am_V} {j n : Nat} : am_ix (va_up V 113 (upd (V 113) j 0)) 113 j (n + 1) := am_ixz (by rw [am_vat, if_pos rfl, am_uat, if_pos rfl])
theorem I_unput (hv : Inv V) : Inv (o_unput V).2 := by
  obtain ⟨vn, vr⟩ := hv
  exact ⟨⟨vn.1, vn.2.1, vn.2.2.1, vn.2.2.2.1, vn.2.2.2.2.1, vn.2.2.2.2.2.1, ix_z39, vn.2.2.2.2.2.2.2⟩, vr⟩
/-- a number more in the row (39, 146, 12) or among those told (41, 147, 6) -/
def o_put (V : am_V) (j c n : Nat) (x : Int32) : Int32 × am_V := if x < -1 then o_no V 4 (-4) else if x ≤ 99 ∧ ¬ V 113 j = nI n then (V 113 j + 1, va_up (va_up V c (upd (V c) (am_n V 113 j) x)) 113 (upd (V 113) j (V 113 j + 1))) else o_no V 6 (-6)
theorem sub_lt {V : am_V} {j n : Nat} (h : am_ix V 113 j (n + 1)) (hn : n < 2 ^ 30) : 1 ≤ nI n - V 113 j ↔ ¬ V 113 j = nI n := by
  have h1 := h.1
  have h2 := h.2
  have e : nI n - V 113 j = nI (n - am_n V 113 j) := by
    rw [h1, show nI n = nI (n - am_n V 113 j + am_n V 113 j) from by rw [show n - am_n V 113 j + am_n V 113 j = n from by omega], ← nI_add, Int32.add_sub_cancel]
  rw [e, show (1 : Int32) = nI 1 from rfl, nI_leI (by decide) (by omega)]
  constructor
  · intro q e2; rw [h1, nI_eq (by omega) (by omega)] at e2; omega
  · intro q; have := lt_nI h hn q; omega
theorem C_put {v : Int32} (hd : 3 ≤ d) (hc : RC I V) (hv : Inv V) (h : ∀ I' L', RC I' (o_put V 39 146 12 v).2 → am_hi I' I → R (some (.int (o_put V 39 146 12 v).1)) (am_mk I' L', 0, 0)) : am_meth d 24 [.ref 0, .int v] (am_mk I L, 0, 0) R := by
  obtain ⟨d, rfl⟩ : ∃ e, d = e + 1 := ⟨d - 1, by omega⟩
  refine ar_in rfl rfl rfl (r_H_put_0 ?_)
  obtain ⟨d, rfl⟩ : ∃ e, d = e + 1 := ⟨d - 1, by omega⟩
  refine ar_in rfl rfl rfl (r_H_putInto_row_0 (by omega) ?_)
  obtain ⟨⟨n1, n2, n3, n4, n5, n6, n7, n8⟩, ⟨e1, e2, e3, e4, e5, e6, e7, e8, e9, e10, e11, e12, e13, e14, e15, e16, e17⟩, -⟩ := id hc
  unfold o_put at h
  have hk := hv.1.2.2.2.2.2.2.1
  have hs := sub_lt hk (by decide)
  refine ⟨fun c => ?_, fun c => ?_, fun c => ⟨fun c2 => ?_, fun c2 => ?_⟩⟩
  · refine ⟨_, _, _, rfl, rfl, ?_⟩
    (rw [if_pos c] at h; exact h _ _ (RC_no hc) (hi_up (by decide) hi_r))
  · refine ⟨_, _, _, rfl, rfl, ?_⟩
    rw [if_neg c.1, if_neg (fun q => Int32.not_le.mpr c.2 q.1)] at h; (exact h _ _ (RC_no hc) (hi_up (by decide) hi_r))
  · rw [n7] at c2
    have c3 := hs.mp c2
    have hx := lt_nI hk (by decide) c3
    have e0 : am_n I 95 0 = am_n V 113 39 := by unfold am_n; rw [n7]
    refine ⟨⟨by rw [e0, n7]; exact hk.1, by rw [e0]; exact hx⟩, _, _, _, rfl, rfl, ?_⟩
    rw [if_neg c.1, if_pos ⟨Int32.not_lt.mp c.2, c3⟩] at h
    unfold am_ad
    show R (some (.int (I 95 0 + 1))) _
    rw [e0, n7, e16]
    exact h _ _ ⟨⟨n1, n2, n3, n4, n5, n6, rfl, n8⟩, ⟨e1, e2, e3, e4, e5, e6, e7, e8, e9, e10, e11, e12, e13, e14, e15, rfl, e17⟩, hc.2.2⟩ (hi_up (by decide) (hi_up (by decide) hi_r))
  · refine ⟨_, _, _, rfl, rfl, ?_⟩
    rw [n7] at c2
    rw [if_neg c.1, if_neg (fun q => c2 (hs.mpr q.2))] at h; (exact h _ _ (RC_no hc) (hi_up (by decide) hi_r))
theorem C_tell {v : Int32} (hd : 3 ≤ d) (hc : RC I V) (hv : Inv V) (h : ∀ I' L', RC I' (o_put V 41 147 6 v).2 → am_hi I' I → R (some (.int (o_put V 41 147 6 v).1)) (am_mk I' L', 0, 0)) : am_meth d 33 [.ref 0, .int v] (am_mk I L, 0, 0) R := by
  obtain ⟨d, rfl⟩ : ∃ e, d = e + 1 := ⟨d - 1, by omega⟩
  refine ar_in rfl rfl rfl (r_H_tell_0 ?_)
  obtain ⟨d, rfl⟩ : ∃ e, d = e + 1 := ⟨d - 1, by omega⟩
  refine ar_in rfl rfl rfl (r_H_putInto_told_0 (by omega) ?_)
  obtain ⟨⟨n1, n2, n3, n4, n5, n6, n7, n8⟩, ⟨e1, e2, e3, e4, e5, e6, e7, e8, e9, e10, e11, e12, e13, e14, e15, e16, e17⟩, -⟩ := id hc
  unfold o_put at h
  have hk := hv.1.2.2.2.2.2.2.2
  have hs := sub_lt hk (by decide)
  refine ⟨fun c => ?_, fun c => ?_, fun c => ⟨fun c2 => ?_, fun c2 => ?_⟩⟩
  · refine ⟨_, _, _, rfl, rfl, ?_⟩
    (rw [if_pos c] at h; exact h _ _ (RC_no hc) (hi_up (by decide) hi_r))
  · refine ⟨_, _, _, rfl, rfl, ?_⟩
    rw [if_neg c.1, if_neg (fun q => Int32.not_le.mpr c.2 q.1)] at h; (exact h _ _ (RC_no hc) (hi_up (by decide) hi_r))
  · rw [n8] at c2
    have c3 := hs.mp c2
    have hx := lt_nI hk (by decide) c3
    have e0 : am_n I 97 0 = am_n V 113 41 := by unfold am_n; rw [n8]
    refine ⟨⟨by rw [e0, n8]; exact hk.1, by rw [e0]; exact hx⟩, _, _, _, rfl, rfl, ?_⟩
    rw [if_neg c.1, if_pos ⟨Int32.not_lt.mp c.2, c3⟩] at h
    unfold am_ad
    show R (some (.int (I 97 0 + 1))) _
    rw [e0, n8, e17]
    exact h _ _ ⟨⟨n1, n2, n3, n4, n5, n6, n7, rfl⟩, ⟨e1, e2, e3, e4, e5, e6, e7, e8, e9, e10, e11, e12, e13, e14, e15, e16, rfl⟩, hc.2.2⟩ (hi_up (by decide) (hi_up (by decide) hi_r))
  · refine ⟨_, _, _, rfl, rfl, ?_⟩
    rw [n8] at c2
    rw [if_neg c.1, if_neg (fun q => c2 (hs.mpr q.2))] at h; (exact h _ _ (RC_no hc) (hi_up (by decide) hi_r))
theorem M_put {v : Int32} (hd : 2 ≤ d) (hm : RM I V) (hv : Inv V) (h : ∀ I' L', RM I' (o_put V 39 146 12 v).2 → am_lo I' I → R (some (.int (o_put V 39 146 12 v).1)) (am_mk I' L', 0, 0)) : am_meth d 205 [.ref 113, .int v] (am_mk I L, 0, 0) R := by
  obtain ⟨d, rfl⟩ : ∃ e, d = e + 1 := ⟨d - 1, by omega⟩
  refine ar_in rfl rfl rfl (r_M_put_0 (by omega) ?_)
  have mc := hm.1; have mf := hm.2
  unfold o_put at h
  have hk := hv.1.2.2.2.2.2.2.1
  have e4 : I 113 39 = V 113 39 := mf 39 rfl
  refine ⟨fun c => ?_, fun c => ⟨fun c2 => ⟨fun c3 => ?_, fun c3 => ?_⟩, fun c2 => ?_⟩⟩
  · (rw [if_pos c] at h; exact h _ _ (RM_no hm) (lo_up (by decide) lo_r))
  · rw [e4] at c3
    rw [if_neg c, if_neg (fun q => q.2 c3)] at h; (exact h _ _ (RM_no hm) (lo_up (by decide) lo_r))
  · rw [e4] at c3
    rw [if_neg c, if_pos ⟨c2, c3⟩] at h
    have hx := lt_nI hk (by decide) c3
    refine ⟨_, hx, by rw [e4]; exact hk.1, ?_⟩
    rintro _ rfl _ rfl
    show R (some (.int (I 113 39 + 1))) _
    rw [e4]
    exact h _ _ (RM_f (V := va_up V 146 _) (by rw [← e4]; rfl) (RM_up (by decide) (by rw [mc 146 rfl]) hm)) (lo_up (by decide) (lo_up (by decide) lo_r))
  · rw [if_neg c, if_neg (fun q => c2 q.1)] at h; (exact h _ _ (RM_no hm) (lo_up (by decide) lo_r))
theorem M_tell {v : Int32} (hd : 2 ≤ d) (hm : RM I V) (hv : Inv V) (h : ∀ I' L', RM I' (o_put V 41 147 6 v).2 → am_lo I' I → R (some (.int (o_put V 41 147 6 v).1)) (am_mk I' L', 0, 0)) : am_meth d 224 [.ref 113, .int v] (am_mk I L, 0, 0) R := by
  obtain ⟨d, rfl⟩ : ∃ e, d = e + 1 := ⟨d - 1, by omega⟩
  refine ar_in rfl rfl rfl (r_M_tell_0 (by omega) ?_)
  have mc := hm.1; have mf := hm.2
  unfold o_put at h
  have hk := hv.1.2.2.2.2.2.2.2
  have e4 : I 113 41 = V 113 41 := mf 41 rfl
  refine ⟨fun c => ?_, fun c => ⟨fun c2 => ⟨fun c3 => ?_, fun c3 => ?_⟩, fun c2 => ?_⟩⟩
  · (rw [if_pos c] at h; exact h _ _ (RM_no hm) (lo_up (by decide) lo_r))
  · rw [e4] at c3
    rw [if_neg c, if_neg (fun q => q.2 c3)] at h; (exact h _ _ (RM_no hm) (lo_up (by decide) lo_r))
  · rw [e4] at c3
    rw [if_neg c, if_pos ⟨c2, c3⟩] at h
    have hx := lt_nI hk (by decide) c3
    refine ⟨_, hx, by rw [e4]; exact hk.1, ?_⟩
    rintro _ rfl _ rfl
    show R (some (.int (I 113 41 + 1))) _
    rw [e4]
    exact h _ _ (RM_f (V := va_up V 147 _) (by rw [← e4]; rfl) (RM_up (by decide) (by rw [mc 147 rfl]) hm)) (lo_up (by decide) (lo_up (by decide) lo_r))
  · rw [if_neg c, if_neg (fun q => c2 q.1)] at h; (exact h _ _ (RM_no hm) (lo_up (by decide) lo_r))
theorem row_u {f : Nat → Int32} {n k : Nat} {x : Int32} (h : ∀ j, j < n → f j = -1 ∨ f j = nI (f j).toNatClampNeg ∧ (f j).toNatClampNeg < 100) (h1 : ¬ x < -1) (h2 : x ≤ 99) : ∀ j, j < n → upd f k x j = -1 ∨ upd f k x j = nI (upd f k x j).toNatClampNeg ∧ (upd f k x j).toNatClampNeg < 100 := by
  intro j hj
  rw [am_uat]
  split
  · by_cases e : x = -1
    · exact Or.inl e
    · obtain ⟨y, hy, rfl⟩ := nI_of (x := x) (fun q => by
        apply e
        have a1 := Int32.toInt_inj (x := x) (y := -1)
        have a2 : (-1 : Int32).toInt = -1 := rfl
        rw [Int32.lt_iff_toInt_lt] at q h1
        have a3 : (0 : Int32).toInt = 0 := rfl
        exact a1.mp (by omega))
      rw [nI_clamp hy]
      refine Or.inr ⟨rfl, ?_⟩
      have := (nI_leI (b := 99) hy (by decide)).mp h2
      omega
  · exact h j hj
theorem I_put {v : Int32} (hv : Inv V) : Inv (o_put V 39 146 12 v).2 := by
  unfold o_put
  split
  · exact hv
  · split
    · rename_i c1 c2
      obtain ⟨vn, vt, vk, vs, vx, vr, vp⟩ := hv
      have hk := vn.2.2.2.2.2.2.1
      have hx := lt_nI hk (by decide) c2.2
      exact ⟨⟨vn.1, vn.2.1, vn.2.2.1, vn.2.2.2.1, vn.2.2.2.2.1, vn.2.2.2.2.2.1, ix_inc hk.1 hx (by decide), vn.2.2.2.2.2.2.2⟩, vt, vk, vs, vx, vr, ⟨row_u vp.1 c1 c2.1, vp.2⟩⟩
    · exact hv
theorem I_tell {v : Int32} (hv : Inv V) : Inv (o_put V 41 147 6 v).2 := by
  unfold o_put
  split
  · exact hv
  · split
    · rename_i c1 c2
      obtain ⟨vn, vt, vk, vs, vx, vr, vp⟩ := hv
      have hk := vn.2.2.2.2.2.2.2
      have hx := lt_nI hk (by decide) c2.2
      exact ⟨⟨vn.1, vn.2.1, vn.2.2.1, vn.2.2.2.1, vn.2.2.2.2.1, vn.2.2.2.2.2.1, vn.2.2.2.2.2.2.1, ix_inc hk.1 hx (by decide)⟩, vt, vk, vs, vx, vr, ⟨vp.1, row_u vp.2.1 c1 c2.1, vp.2.2⟩⟩
    · exact hv
def s_gone (V : am_V) (s : Nat) : Int32 := if V 132 (2 * s) < 0 ∨ V 132 (2 * s + 1) < 0 then -9 else V 132 (2 * s) &&& (V 132 (2 * s + 1) ^^^ -1)
def o_gone (V : am_V) (s : Int32) : Int32 × am_V := if 0 ≤ s ∧ s < V 113 14 then (s_gone V s.toNatClampNeg, V) else o_no V 1 (-1)
theorem it_lt {V : am_V} {r : Nat} (hv : Inv V) (hr : r < 120) : V 132 r < 0 ↔ V 132 r = -1 := by
  rcases hv.2.2.2.2.2.1.2 r hr with q | q
  · rw [q]; decide
  · constructor
    · intro c; exact absurd q (Int32.not_le.mpr c)
    · intro c; rw [c] at q; exact absurd q (by decide)
theorem C_gone {s : Int32} (hd : 2 ≤ d) (hc : RC I V) (hv : Inv V) (h : ∀ I' L', RC I' (o_gone V s).2 → am_hi I' I → R (some (.int (o_gone V s).1)) (am_mk I' L', 0, 0)) : am_meth d 40 [.ref 0, .int s] (am_mk I L, 0, 0) R := by
  obtain ⟨d, rfl⟩ : ∃ e, d = e + 1 := ⟨d - 1, by omega⟩
  refine ar_in rfl rfl rfl (r_H_gone_0 (by omega) ?_)
  obtain ⟨⟨n1, n2, n3, n4, n5, n6, n7, n8⟩, ⟨e1, e2, e3, e4, e5, e6, e7, e8, e9, e10, e11, e12, e13, e14, e15, e16, e17⟩, -⟩ := id hc
  simp only [n1, n2, n3, n4, n5, n6, n7, n8, e1, e2, e3, e4, e5, e6, e7, e8, e9, e10, e11, e12, e13, e14, e15, e16, e17]
  unfold o_gone at h
  refine ⟨fun c => ?_, fun c => ?_⟩
  · rw [if_pos c] at h
    have hk := hv.1.2.2.2.1
    have hk2 := hk.2
    rw [hk.1] at c
    obtain ⟨i, hi, rfl⟩ := am_nat c (by omega)
    rw [nI_clamp (by omega)] at h
    have hi2 : i < 60 := by omega
    have t1 := it_lt hv (r := 2 * i) (by omega)
    have t2 := it_lt hv (r := 2 * i + 1) (by omega)
    unfold s_gone at h
    simp only [t1, t2] at h
    refine ⟨i, rfl, hi2, ?_⟩
    rw [(hc.2.2.1.2.2.2.2 i hi2).1, (hc.2.2.1.2.2.2.2 i hi2).2]
    refine ⟨fun c2 => ⟨i, rfl, hi2, ?_⟩, fun c2 => ?_⟩
    · rw [(hc.2.2.1.2.2.2.2 i hi2).1, (hc.2.2.1.2.2.2.2 i hi2).2]
      rw [if_neg (fun q => q.elim c2.1 c2.2)] at h
      exact h _ _ hc hi_r
    · rw [if_pos (by by_cases q : V 132 (2 * i) = -1; exact Or.inl q; exact Or.inr (Decidable.byContradiction (fun w => c2 ⟨q, w⟩)))] at h
      exact h _ _ hc hi_r
  · (rw [if_neg c] at h; exact h _ _ (RC_no hc) (hi_up (by decide) hi_r))
theorem M_gone {s : Int32} (hd : 2 ≤ d) (hm : RM I V) (hv : Inv V) (h : ∀ I' L', RM I' (o_gone V s).2 → am_lo I' I → R (some (.int (o_gone V s).1)) (am_mk I' L', 0, 0)) : am_meth d 236 [.ref 113, .int s] (am_mk I L, 0, 0) R := by
  obtain ⟨d, rfl⟩ : ∃ e, d = e + 1 := ⟨d - 1, by omega⟩
  refine ar_in rfl rfl rfl (r_M_gone_0 (by omega) ?_)
  have mc := hm.1; have mf := hm.2
  simp (disch := decide) only [mc, mf]
  unfold o_gone at h
  refine ⟨fun c => ?_, fun c => ?_⟩
  · rw [if_pos c] at h
    have hk := hv.1.2.2.2.1
    have hk2 := hk.2
    rw [hk.1] at c
    obtain ⟨i, hi, rfl⟩ := am_nat c (by omega)
    rw [nI_clamp (by omega)] at h
    unfold s_gone at h
    refine ⟨i, rfl, by omega, fun c2 => ?_, fun c2 => ?_⟩
    · (rw [if_pos c2] at h; exact h _ _ hm lo_r)
    · (rw [if_neg c2] at h; exact h _ _ hm lo_r)
  · (rw [if_neg c] at h; exact h _ _ (RM_no hm) (lo_up (by decide) lo_r))
theorem I_gone {s : Int32} (hv : Inv V) : Inv (o_gone V s).2 := by
  unfold o_gone
  split <;> exact hv
end OP4
end
