section
-- ===== PART A: goes FIRST, ahead of the names: the tables' words, and 'selects' of the private methods out of them =====
/-- a private method of a class that the tables say can be made, by its rows of tables_1 -/
def lw_okq (q : MethodName × Nat) : Prop := (q.1.cls ≠ "java/lang/invoke/MethodHandle" ∧ q.1.cls ≠ "java/lang/invoke/VarHandle") ∧ Cond.instantiable q.1.cls q.2 ∈ tables_1 ∧ Cond.privateMethod q.1 ∈ tables_1 ∧ Cond.instanceMethod q.1 ∈ tables_1
theorem lw_p0 : lw_okq (⟨"SwornPounds", "holdMarket", "()I"⟩, 9) := ⟨⟨by decide +kernel, by decide +kernel⟩, List.mem_of_getElem? (i := 15) (by decide +kernel), List.mem_of_getElem? (i := 404) (by decide +kernel), List.mem_of_getElem? (i := 405) (by decide +kernel)⟩
theorem lw_p1 : lw_okq (⟨"SwornPounds$Market", "beginAct", "()V"⟩, 13) := ⟨⟨by decide +kernel, by decide +kernel⟩, List.mem_of_getElem? (i := 109) (by decide +kernel), List.mem_of_getElem? (i := 419) (by decide +kernel), List.mem_of_getElem? (i := 420) (by decide +kernel)⟩
theorem lw_p2 : lw_okq (⟨"SwornPounds$Market", "read", "(I)V"⟩, 13) := ⟨⟨by decide +kernel, by decide +kernel⟩, List.mem_of_getElem? (i := 109) (by decide +kernel), List.mem_of_getElem? (i := 423) (by decide +kernel), List.mem_of_getElem? (i := 424) (by decide +kernel)⟩
theorem lw_p3 : lw_okq (⟨"SwornPounds$Market", "readPerson", "(I)V"⟩, 13) := ⟨⟨by decide +kernel, by decide +kernel⟩, List.mem_of_getElem? (i := 109) (by decide +kernel), List.mem_of_getElem? (i := 428) (by decide +kernel), List.mem_of_getElem? (i := 429) (by decide +kernel)⟩
theorem lw_p4 : lw_okq (⟨"SwornPounds$Market", "sit", "(I)V"⟩, 13) := ⟨⟨by decide +kernel, by decide +kernel⟩, List.mem_of_getElem? (i := 109) (by decide +kernel), List.mem_of_getElem? (i := 432) (by decide +kernel), List.mem_of_getElem? (i := 433) (by decide +kernel)⟩
theorem lw_p5 : lw_okq (⟨"SwornPounds$Market", "endAct", "()V"⟩, 13) := ⟨⟨by decide +kernel, by decide +kernel⟩, List.mem_of_getElem? (i := 109) (by decide +kernel), List.mem_of_getElem? (i := 444) (by decide +kernel), List.mem_of_getElem? (i := 445) (by decide +kernel)⟩
theorem lw_p6 : lw_okq (⟨"SwornPounds$Market", "breakOff", "(I)V"⟩, 13) := ⟨⟨by decide +kernel, by decide +kernel⟩, List.mem_of_getElem? (i := 109) (by decide +kernel), List.mem_of_getElem? (i := 448) (by decide +kernel), List.mem_of_getElem? (i := 449) (by decide +kernel)⟩
theorem lw_p7 : lw_okq (⟨"SwornPounds$Market", "sell", "()V"⟩, 13) := ⟨⟨by decide +kernel, by decide +kernel⟩, List.mem_of_getElem? (i := 109) (by decide +kernel), List.mem_of_getElem? (i := 470) (by decide +kernel), List.mem_of_getElem? (i := 471) (by decide +kernel)⟩
theorem lw_p8 : lw_okq (⟨"SwornPounds$Market", "reasonAgainst", "(I)I"⟩, 13) := ⟨⟨by decide +kernel, by decide +kernel⟩, List.mem_of_getElem? (i := 109) (by decide +kernel), List.mem_of_getElem? (i := 479) (by decide +kernel), List.mem_of_getElem? (i := 480) (by decide +kernel)⟩
theorem lw_p9 : lw_okq (⟨"SwornPounds$Pans", "fillRows", "(LSwornPounds$Town;)V"⟩, 10) := ⟨⟨by decide +kernel, by decide +kernel⟩, List.mem_of_getElem? (i := 160) (by decide +kernel), List.mem_of_getElem? (i := 553) (by decide +kernel), List.mem_of_getElem? (i := 554) (by decide +kernel)⟩
theorem lw_p10 : lw_okq (⟨"SwornPounds$Pans", "mayIt", "(I)Z"⟩, 10) := ⟨⟨by decide +kernel, by decide +kernel⟩, List.mem_of_getElem? (i := 160) (by decide +kernel), List.mem_of_getElem? (i := 570) (by decide +kernel), List.mem_of_getElem? (i := 571) (by decide +kernel)⟩
theorem lw_p11 : lw_okq (⟨"SwornPounds$Pans", "seatSecond", "([IIII)V"⟩, 10) := ⟨⟨by decide +kernel, by decide +kernel⟩, List.mem_of_getElem? (i := 160) (by decide +kernel), List.mem_of_getElem? (i := 574) (by decide +kernel), List.mem_of_getElem? (i := 575) (by decide +kernel)⟩
theorem lw_p12 : lw_okq (⟨"SwornPounds$Pans", "note", "(IIII)V"⟩, 10) := ⟨⟨by decide +kernel, by decide +kernel⟩, List.mem_of_getElem? (i := 160) (by decide +kernel), List.mem_of_getElem? (i := 578) (by decide +kernel), List.mem_of_getElem? (i := 579) (by decide +kernel)⟩
theorem lw_p13 : lw_okq (⟨"SwornPounds$Pans", "keepFewest", "(II)V"⟩, 10) := ⟨⟨by decide +kernel, by decide +kernel⟩, List.mem_of_getElem? (i := 160) (by decide +kernel), List.mem_of_getElem? (i := 584) (by decide +kernel), List.mem_of_getElem? (i := 585) (by decide +kernel)⟩
theorem lw_p14 : lw_okq (⟨"SwornPounds$Town", "howManyAhead", "(I)I"⟩, 12) := ⟨⟨by decide +kernel, by decide +kernel⟩, List.mem_of_getElem? (i := 23) (by decide +kernel), List.mem_of_getElem? (i := 612) (by decide +kernel), List.mem_of_getElem? (i := 613) (by decide +kernel)⟩
theorem lw_p15 : lw_okq (⟨"SwornPounds$Town", "howManyLike", "(I)I"⟩, 12) := ⟨⟨by decide +kernel, by decide +kernel⟩, List.mem_of_getElem? (i := 23) (by decide +kernel), List.mem_of_getElem? (i := 625) (by decide +kernel), List.mem_of_getElem? (i := 626) (by decide +kernel)⟩
def lw_privs_1 : List (MethodName × Nat) := [(⟨"SwornPounds", "holdMarket", "()I"⟩, 9), (⟨"SwornPounds$Market", "beginAct", "()V"⟩, 13), (⟨"SwornPounds$Market", "read", "(I)V"⟩, 13), (⟨"SwornPounds$Market", "readPerson", "(I)V"⟩, 13), (⟨"SwornPounds$Market", "sit", "(I)V"⟩, 13), (⟨"SwornPounds$Market", "endAct", "()V"⟩, 13), (⟨"SwornPounds$Market", "breakOff", "(I)V"⟩, 13), (⟨"SwornPounds$Market", "sell", "()V"⟩, 13), (⟨"SwornPounds$Market", "reasonAgainst", "(I)I"⟩, 13), (⟨"SwornPounds$Pans", "fillRows", "(LSwornPounds$Town;)V"⟩, 10), (⟨"SwornPounds$Pans", "mayIt", "(I)Z"⟩, 10), (⟨"SwornPounds$Pans", "seatSecond", "([IIII)V"⟩, 10), (⟨"SwornPounds$Pans", "note", "(IIII)V"⟩, 10), (⟨"SwornPounds$Pans", "keepFewest", "(II)V"⟩, 10), (⟨"SwornPounds$Town", "howManyAhead", "(I)I"⟩, 12), (⟨"SwornPounds$Town", "howManyLike", "(I)I"⟩, 12)]
theorem lw_r1 : ∀ q ∈ lw_privs_1, lw_okq q := List.forall_mem_cons.mpr ⟨lw_p0, List.forall_mem_cons.mpr ⟨lw_p1, List.forall_mem_cons.mpr ⟨lw_p2, List.forall_mem_cons.mpr ⟨lw_p3, List.forall_mem_cons.mpr ⟨lw_p4, List.forall_mem_cons.mpr ⟨lw_p5, List.forall_mem_cons.mpr ⟨lw_p6, List.forall_mem_cons.mpr ⟨lw_p7, List.forall_mem_cons.mpr ⟨lw_p8, List.forall_mem_cons.mpr ⟨lw_p9, List.forall_mem_cons.mpr ⟨lw_p10, List.forall_mem_cons.mpr ⟨lw_p11, List.forall_mem_cons.mpr ⟨lw_p12, List.forall_mem_cons.mpr ⟨lw_p13, List.forall_mem_cons.mpr ⟨lw_p14, List.forall_mem_cons.mpr ⟨lw_p15, fun _ h => absurd h List.not_mem_nil⟩⟩⟩⟩⟩⟩⟩⟩⟩⟩⟩⟩⟩⟩⟩⟩
theorem lw_p16 : lw_okq (⟨"SwornPounds$Worlds", "fillLeads", "(LSwornPounds$Town;)V"⟩, 7) := ⟨⟨by decide +kernel, by decide +kernel⟩, List.mem_of_getElem? (i := 204) (by decide +kernel), List.mem_of_getElem? (i := 664) (by decide +kernel), List.mem_of_getElem? (i := 665) (by decide +kernel)⟩
theorem lw_p17 : lw_okq (⟨"SwornPounds$Worlds", "addIfSeen", "(LSwornPounds$Town;II)V"⟩, 7) := ⟨⟨by decide +kernel, by decide +kernel⟩, List.mem_of_getElem? (i := 204) (by decide +kernel), List.mem_of_getElem? (i := 669) (by decide +kernel), List.mem_of_getElem? (i := 670) (by decide +kernel)⟩
theorem lw_p18 : lw_okq (⟨"SwornPounds$Worlds", "isAsSeen", "(LSwornPounds$Town;II)Z"⟩, 7) := ⟨⟨by decide +kernel, by decide +kernel⟩, List.mem_of_getElem? (i := 204) (by decide +kernel), List.mem_of_getElem? (i := 673) (by decide +kernel), List.mem_of_getElem? (i := 674) (by decide +kernel)⟩
theorem lw_p19 : lw_okq (⟨"SwornPounds$Worlds", "findOf", "(LSwornPounds$Town;I)V"⟩, 7) := ⟨⟨by decide +kernel, by decide +kernel⟩, List.mem_of_getElem? (i := 204) (by decide +kernel), List.mem_of_getElem? (i := 682) (by decide +kernel), List.mem_of_getElem? (i := 683) (by decide +kernel)⟩
theorem lw_p20 : lw_okq (⟨"SwornPounds$Worlds", "tryPair", "(LSwornPounds$Town;II)V"⟩, 7) := ⟨⟨by decide +kernel, by decide +kernel⟩, List.mem_of_getElem? (i := 204) (by decide +kernel), List.mem_of_getElem? (i := 707) (by decide +kernel), List.mem_of_getElem? (i := 708) (by decide +kernel)⟩
theorem lw_p21 : lw_okq (⟨"SwornPounds$Fraction", "put", "(JJ)V"⟩, 2) := ⟨⟨by decide +kernel, by decide +kernel⟩, List.mem_of_getElem? (i := 235) (by decide +kernel), List.mem_of_getElem? (i := 730) (by decide +kernel), List.mem_of_getElem? (i := 731) (by decide +kernel)⟩
theorem lw_p22 : lw_okq (⟨"SwornPounds$Year", "sell", "(I)V"⟩, 4) := ⟨⟨by decide +kernel, by decide +kernel⟩, List.mem_of_getElem? (i := 250) (by decide +kernel), List.mem_of_getElem? (i := 757) (by decide +kernel), List.mem_of_getElem? (i := 758) (by decide +kernel)⟩
theorem lw_p23 : lw_okq (⟨"SwornPounds", "tellPerson", "(II)I"⟩, 9) := ⟨⟨by decide +kernel, by decide +kernel⟩, List.mem_of_getElem? (i := 15) (by decide +kernel), List.mem_of_getElem? (i := 777) (by decide +kernel), List.mem_of_getElem? (i := 778) (by decide +kernel)⟩
theorem lw_p24 : lw_okq (⟨"SwornPoundsModel", "isPerson", "(I)Z"⟩, 41) := ⟨⟨by decide +kernel, by decide +kernel⟩, List.mem_of_getElem? (i := 781) (by decide +kernel), List.mem_of_getElem? (i := 930) (by decide +kernel), List.mem_of_getElem? (i := 931) (by decide +kernel)⟩
theorem lw_p25 : lw_okq (⟨"SwornPoundsModel", "part", "(I)V"⟩, 41) := ⟨⟨by decide +kernel, by decide +kernel⟩, List.mem_of_getElem? (i := 781) (by decide +kernel), List.mem_of_getElem? (i := 934) (by decide +kernel), List.mem_of_getElem? (i := 935) (by decide +kernel)⟩
theorem lw_p26 : lw_okq (⟨"SwornPoundsModel", "areTwo", "(II)Z"⟩, 41) := ⟨⟨by decide +kernel, by decide +kernel⟩, List.mem_of_getElem? (i := 781) (by decide +kernel), List.mem_of_getElem? (i := 942) (by decide +kernel), List.mem_of_getElem? (i := 943) (by decide +kernel)⟩
theorem lw_p27 : lw_okq (⟨"SwornPoundsModel", "marriages", "()I"⟩, 41) := ⟨⟨by decide +kernel, by decide +kernel⟩, List.mem_of_getElem? (i := 781) (by decide +kernel), List.mem_of_getElem? (i := 946) (by decide +kernel), List.mem_of_getElem? (i := 947) (by decide +kernel)⟩
theorem lw_p28 : lw_okq (⟨"SwornPoundsModel", "beginAct", "(I)I"⟩, 41) := ⟨⟨by decide +kernel, by decide +kernel⟩, List.mem_of_getElem? (i := 781) (by decide +kernel), List.mem_of_getElem? (i := 969) (by decide +kernel), List.mem_of_getElem? (i := 970) (by decide +kernel)⟩
theorem lw_p29 : lw_okq (⟨"SwornPoundsModel", "readNear", "(I)I"⟩, 41) := ⟨⟨by decide +kernel, by decide +kernel⟩, List.mem_of_getElem? (i := 781) (by decide +kernel), List.mem_of_getElem? (i := 973) (by decide +kernel), List.mem_of_getElem? (i := 974) (by decide +kernel)⟩
theorem lw_p30 : lw_okq (⟨"SwornPoundsModel", "sit", "(I)V"⟩, 41) := ⟨⟨by decide +kernel, by decide +kernel⟩, List.mem_of_getElem? (i := 781) (by decide +kernel), List.mem_of_getElem? (i := 982) (by decide +kernel), List.mem_of_getElem? (i := 983) (by decide +kernel)⟩
theorem lw_p31 : lw_okq (⟨"SwornPoundsModel", "readCold", "(I)I"⟩, 41) := ⟨⟨by decide +kernel, by decide +kernel⟩, List.mem_of_getElem? (i := 781) (by decide +kernel), List.mem_of_getElem? (i := 986) (by decide +kernel), List.mem_of_getElem? (i := 987) (by decide +kernel)⟩
def lw_privs_2 : List (MethodName × Nat) := [(⟨"SwornPounds$Worlds", "fillLeads", "(LSwornPounds$Town;)V"⟩, 7), (⟨"SwornPounds$Worlds", "addIfSeen", "(LSwornPounds$Town;II)V"⟩, 7), (⟨"SwornPounds$Worlds", "isAsSeen", "(LSwornPounds$Town;II)Z"⟩, 7), (⟨"SwornPounds$Worlds", "findOf", "(LSwornPounds$Town;I)V"⟩, 7), (⟨"SwornPounds$Worlds", "tryPair", "(LSwornPounds$Town;II)V"⟩, 7), (⟨"SwornPounds$Fraction", "put", "(JJ)V"⟩, 2), (⟨"SwornPounds$Year", "sell", "(I)V"⟩, 4), (⟨"SwornPounds", "tellPerson", "(II)I"⟩, 9), (⟨"SwornPoundsModel", "isPerson", "(I)Z"⟩, 41), (⟨"SwornPoundsModel", "part", "(I)V"⟩, 41), (⟨"SwornPoundsModel", "areTwo", "(II)Z"⟩, 41), (⟨"SwornPoundsModel", "marriages", "()I"⟩, 41), (⟨"SwornPoundsModel", "beginAct", "(I)I"⟩, 41), (⟨"SwornPoundsModel", "readNear", "(I)I"⟩, 41), (⟨"SwornPoundsModel", "sit", "(I)V"⟩, 41), (⟨"SwornPoundsModel", "readCold", "(I)I"⟩, 41)]
theorem lw_r2 : ∀ q ∈ lw_privs_2, lw_okq q := List.forall_mem_cons.mpr ⟨lw_p16, List.forall_mem_cons.mpr ⟨lw_p17, List.forall_mem_cons.mpr ⟨lw_p18, List.forall_mem_cons.mpr ⟨lw_p19, List.forall_mem_cons.mpr ⟨lw_p20, List.forall_mem_cons.mpr ⟨lw_p21, List.forall_mem_cons.mpr ⟨lw_p22, List.forall_mem_cons.mpr ⟨lw_p23, List.forall_mem_cons.mpr ⟨lw_p24, List.forall_mem_cons.mpr ⟨lw_p25, List.forall_mem_cons.mpr ⟨lw_p26, List.forall_mem_cons.mpr ⟨lw_p27, List.forall_mem_cons.mpr ⟨lw_p28, List.forall_mem_cons.mpr ⟨lw_p29, List.forall_mem_cons.mpr ⟨lw_p30, List.forall_mem_cons.mpr ⟨lw_p31, fun _ h => absurd h List.not_mem_nil⟩⟩⟩⟩⟩⟩⟩⟩⟩⟩⟩⟩⟩⟩⟩⟩
theorem lw_p32 : lw_okq (⟨"SwornPoundsModel", "readAcross", "(II)I"⟩, 41) := ⟨⟨by decide +kernel, by decide +kernel⟩, List.mem_of_getElem? (i := 781) (by decide +kernel), List.mem_of_getElem? (i := 990) (by decide +kernel), List.mem_of_getElem? (i := 991) (by decide +kernel)⟩
theorem lw_p33 : lw_okq (⟨"SwornPoundsModel", "refusal", "()I"⟩, 41) := ⟨⟨by decide +kernel, by decide +kernel⟩, List.mem_of_getElem? (i := 781) (by decide +kernel), List.mem_of_getElem? (i := 999) (by decide +kernel), List.mem_of_getElem? (i := 1000) (by decide +kernel)⟩
theorem lw_p34 : lw_okq (⟨"SwornPoundsModel", "keepNow", "()V"⟩, 41) := ⟨⟨by decide +kernel, by decide +kernel⟩, List.mem_of_getElem? (i := 781) (by decide +kernel), List.mem_of_getElem? (i := 1004) (by decide +kernel), List.mem_of_getElem? (i := 1005) (by decide +kernel)⟩
theorem lw_p35 : lw_okq (⟨"SwornPoundsModel", "goMarket", "()V"⟩, 41) := ⟨⟨by decide +kernel, by decide +kernel⟩, List.mem_of_getElem? (i := 781) (by decide +kernel), List.mem_of_getElem? (i := 1008) (by decide +kernel), List.mem_of_getElem? (i := 1009) (by decide +kernel)⟩
theorem lw_p36 : lw_okq (⟨"SwornPoundsModel", "whyNot", "(I)I"⟩, 41) := ⟨⟨by decide +kernel, by decide +kernel⟩, List.mem_of_getElem? (i := 781) (by decide +kernel), List.mem_of_getElem? (i := 1012) (by decide +kernel), List.mem_of_getElem? (i := 1013) (by decide +kernel)⟩
theorem lw_p37 : lw_okq (⟨"SwornPoundsModel", "areTogether", "(I)Z"⟩, 41) := ⟨⟨by decide +kernel, by decide +kernel⟩, List.mem_of_getElem? (i := 781) (by decide +kernel), List.mem_of_getElem? (i := 1016) (by decide +kernel), List.mem_of_getElem? (i := 1017) (by decide +kernel)⟩
theorem lw_p38 : lw_okq (⟨"SwornPoundsModel", "swornOf", "(I)I"⟩, 41) := ⟨⟨by decide +kernel, by decide +kernel⟩, List.mem_of_getElem? (i := 781) (by decide +kernel), List.mem_of_getElem? (i := 1020) (by decide +kernel), List.mem_of_getElem? (i := 1021) (by decide +kernel)⟩
theorem lw_p39 : lw_okq (⟨"SwornPoundsModel", "happen", "(I)V"⟩, 41) := ⟨⟨by decide +kernel, by decide +kernel⟩, List.mem_of_getElem? (i := 781) (by decide +kernel), List.mem_of_getElem? (i := 1024) (by decide +kernel), List.mem_of_getElem? (i := 1025) (by decide +kernel)⟩
theorem lw_p40 : lw_okq (⟨"SwornPoundsModel", "sell", "(I)V"⟩, 41) := ⟨⟨by decide +kernel, by decide +kernel⟩, List.mem_of_getElem? (i := 781) (by decide +kernel), List.mem_of_getElem? (i := 1028) (by decide +kernel), List.mem_of_getElem? (i := 1029) (by decide +kernel)⟩
theorem lw_p41 : lw_okq (⟨"SwornPoundsModel", "poundsOf", "(I)I"⟩, 41) := ⟨⟨by decide +kernel, by decide +kernel⟩, List.mem_of_getElem? (i := 781) (by decide +kernel), List.mem_of_getElem? (i := 1032) (by decide +kernel), List.mem_of_getElem? (i := 1033) (by decide +kernel)⟩
theorem lw_p42 : lw_okq (⟨"SwornPoundsModel", "pounds", "(I)I"⟩, 41) := ⟨⟨by decide +kernel, by decide +kernel⟩, List.mem_of_getElem? (i := 781) (by decide +kernel), List.mem_of_getElem? (i := 1036) (by decide +kernel), List.mem_of_getElem? (i := 1037) (by decide +kernel)⟩
theorem lw_p43 : lw_okq (⟨"SwornPoundsModel", "passDay", "()V"⟩, 41) := ⟨⟨by decide +kernel, by decide +kernel⟩, List.mem_of_getElem? (i := 781) (by decide +kernel), List.mem_of_getElem? (i := 1043) (by decide +kernel), List.mem_of_getElem? (i := 1044) (by decide +kernel)⟩
theorem lw_p44 : lw_okq (⟨"SwornPoundsModel", "feast", "()V"⟩, 41) := ⟨⟨by decide +kernel, by decide +kernel⟩, List.mem_of_getElem? (i := 781) (by decide +kernel), List.mem_of_getElem? (i := 1050) (by decide +kernel), List.mem_of_getElem? (i := 1051) (by decide +kernel)⟩
theorem lw_p45 : lw_okq (⟨"SwornPoundsModel", "putBack", "()V"⟩, 41) := ⟨⟨by decide +kernel, by decide +kernel⟩, List.mem_of_getElem? (i := 781) (by decide +kernel), List.mem_of_getElem? (i := 1054) (by decide +kernel), List.mem_of_getElem? (i := 1055) (by decide +kernel)⟩
theorem lw_p46 : lw_okq (⟨"SwornPoundsModel", "seat", "(I)Z"⟩, 41) := ⟨⟨by decide +kernel, by decide +kernel⟩, List.mem_of_getElem? (i := 781) (by decide +kernel), List.mem_of_getElem? (i := 1088) (by decide +kernel), List.mem_of_getElem? (i := 1089) (by decide +kernel)⟩
theorem lw_p47 : lw_okq (⟨"SwornPoundsModel", "difference", "(Z)I"⟩, 41) := ⟨⟨by decide +kernel, by decide +kernel⟩, List.mem_of_getElem? (i := 781) (by decide +kernel), List.mem_of_getElem? (i := 1092) (by decide +kernel), List.mem_of_getElem? (i := 1093) (by decide +kernel)⟩
def lw_privs_3 : List (MethodName × Nat) := [(⟨"SwornPoundsModel", "readAcross", "(II)I"⟩, 41), (⟨"SwornPoundsModel", "refusal", "()I"⟩, 41), (⟨"SwornPoundsModel", "keepNow", "()V"⟩, 41), (⟨"SwornPoundsModel", "goMarket", "()V"⟩, 41), (⟨"SwornPoundsModel", "whyNot", "(I)I"⟩, 41), (⟨"SwornPoundsModel", "areTogether", "(I)Z"⟩, 41), (⟨"SwornPoundsModel", "swornOf", "(I)I"⟩, 41), (⟨"SwornPoundsModel", "happen", "(I)V"⟩, 41), (⟨"SwornPoundsModel", "sell", "(I)V"⟩, 41), (⟨"SwornPoundsModel", "poundsOf", "(I)I"⟩, 41), (⟨"SwornPoundsModel", "pounds", "(I)I"⟩, 41), (⟨"SwornPoundsModel", "passDay", "()V"⟩, 41), (⟨"SwornPoundsModel", "feast", "()V"⟩, 41), (⟨"SwornPoundsModel", "putBack", "()V"⟩, 41), (⟨"SwornPoundsModel", "seat", "(I)Z"⟩, 41), (⟨"SwornPoundsModel", "difference", "(Z)I"⟩, 41)]
theorem lw_r3 : ∀ q ∈ lw_privs_3, lw_okq q := List.forall_mem_cons.mpr ⟨lw_p32, List.forall_mem_cons.mpr ⟨lw_p33, List.forall_mem_cons.mpr ⟨lw_p34, List.forall_mem_cons.mpr ⟨lw_p35, List.forall_mem_cons.mpr ⟨lw_p36, List.forall_mem_cons.mpr ⟨lw_p37, List.forall_mem_cons.mpr ⟨lw_p38, List.forall_mem_cons.mpr ⟨lw_p39, List.forall_mem_cons.mpr ⟨lw_p40, List.forall_mem_cons.mpr ⟨lw_p41, List.forall_mem_cons.mpr ⟨lw_p42, List.forall_mem_cons.mpr ⟨lw_p43, List.forall_mem_cons.mpr ⟨lw_p44, List.forall_mem_cons.mpr ⟨lw_p45, List.forall_mem_cons.mpr ⟨lw_p46, List.forall_mem_cons.mpr ⟨lw_p47, fun _ h => absurd h List.not_mem_nil⟩⟩⟩⟩⟩⟩⟩⟩⟩⟩⟩⟩⟩⟩⟩⟩
theorem lw_p48 : lw_okq (⟨"SwornPoundsModel", "areSides", "(II)Z"⟩, 41) := ⟨⟨by decide +kernel, by decide +kernel⟩, List.mem_of_getElem? (i := 781) (by decide +kernel), List.mem_of_getElem? (i := 1121) (by decide +kernel), List.mem_of_getElem? (i := 1122) (by decide +kernel)⟩
theorem lw_p49 : lw_okq (⟨"SwornPoundsModel", "findWorlds", "()V"⟩, 41) := ⟨⟨by decide +kernel, by decide +kernel⟩, List.mem_of_getElem? (i := 781) (by decide +kernel), List.mem_of_getElem? (i := 1133) (by decide +kernel), List.mem_of_getElem? (i := 1134) (by decide +kernel)⟩
theorem lw_p50 : lw_okq (⟨"SwornPoundsModel", "isWorld", "(II)Z"⟩, 41) := ⟨⟨by decide +kernel, by decide +kernel⟩, List.mem_of_getElem? (i := 781) (by decide +kernel), List.mem_of_getElem? (i := 1137) (by decide +kernel), List.mem_of_getElem? (i := 1138) (by decide +kernel)⟩
theorem lw_p51 : lw_okq (⟨"SwornPoundsModel", "howAcross", "(IIII)I"⟩, 41) := ⟨⟨by decide +kernel, by decide +kernel⟩, List.mem_of_getElem? (i := 781) (by decide +kernel), List.mem_of_getElem? (i := 1141) (by decide +kernel), List.mem_of_getElem? (i := 1142) (by decide +kernel)⟩
theorem lw_p52 : lw_okq (⟨"SwornPoundsModel", "airyOf", "(III)I"⟩, 41) := ⟨⟨by decide +kernel, by decide +kernel⟩, List.mem_of_getElem? (i := 781) (by decide +kernel), List.mem_of_getElem? (i := 1145) (by decide +kernel), List.mem_of_getElem? (i := 1146) (by decide +kernel)⟩
theorem lw_p53 : lw_okq (⟨"SwornPoundsModel", "addWorld", "(II)V"⟩, 41) := ⟨⟨by decide +kernel, by decide +kernel⟩, List.mem_of_getElem? (i := 781) (by decide +kernel), List.mem_of_getElem? (i := 1149) (by decide +kernel), List.mem_of_getElem? (i := 1150) (by decide +kernel)⟩
theorem lw_p54 : lw_okq (⟨"SwornPoundsModel", "mostLeft", "(II)I"⟩, 41) := ⟨⟨by decide +kernel, by decide +kernel⟩, List.mem_of_getElem? (i := 781) (by decide +kernel), List.mem_of_getElem? (i := 1161) (by decide +kernel), List.mem_of_getElem? (i := 1162) (by decide +kernel)⟩
theorem lw_p55 : lw_okq (⟨"SwornPoundsModel", "passAll", "()V"⟩, 41) := ⟨⟨by decide +kernel, by decide +kernel⟩, List.mem_of_getElem? (i := 781) (by decide +kernel), List.mem_of_getElem? (i := 1188) (by decide +kernel), List.mem_of_getElem? (i := 1189) (by decide +kernel)⟩
theorem lw_p56 : lw_okq (⟨"SwornPoundsModel", "pass", "(I)I"⟩, 41) := ⟨⟨by decide +kernel, by decide +kernel⟩, List.mem_of_getElem? (i := 781) (by decide +kernel), List.mem_of_getElem? (i := 1192) (by decide +kernel), List.mem_of_getElem? (i := 1193) (by decide +kernel)⟩
theorem lw_p57 : lw_okq (⟨"SwornPoundsModel", "toldOf", "(II)I"⟩, 41) := ⟨⟨by decide +kernel, by decide +kernel⟩, List.mem_of_getElem? (i := 781) (by decide +kernel), List.mem_of_getElem? (i := 1205) (by decide +kernel), List.mem_of_getElem? (i := 1206) (by decide +kernel)⟩
def lw_privs_4 : List (MethodName × Nat) := [(⟨"SwornPoundsModel", "areSides", "(II)Z"⟩, 41), (⟨"SwornPoundsModel", "findWorlds", "()V"⟩, 41), (⟨"SwornPoundsModel", "isWorld", "(II)Z"⟩, 41), (⟨"SwornPoundsModel", "howAcross", "(IIII)I"⟩, 41), (⟨"SwornPoundsModel", "airyOf", "(III)I"⟩, 41), (⟨"SwornPoundsModel", "addWorld", "(II)V"⟩, 41), (⟨"SwornPoundsModel", "mostLeft", "(II)I"⟩, 41), (⟨"SwornPoundsModel", "passAll", "()V"⟩, 41), (⟨"SwornPoundsModel", "pass", "(I)I"⟩, 41), (⟨"SwornPoundsModel", "toldOf", "(II)I"⟩, 41)]
theorem lw_r4 : ∀ q ∈ lw_privs_4, lw_okq q := List.forall_mem_cons.mpr ⟨lw_p48, List.forall_mem_cons.mpr ⟨lw_p49, List.forall_mem_cons.mpr ⟨lw_p50, List.forall_mem_cons.mpr ⟨lw_p51, List.forall_mem_cons.mpr ⟨lw_p52, List.forall_mem_cons.mpr ⟨lw_p53, List.forall_mem_cons.mpr ⟨lw_p54, List.forall_mem_cons.mpr ⟨lw_p55, List.forall_mem_cons.mpr ⟨lw_p56, List.forall_mem_cons.mpr ⟨lw_p57, fun _ h => absurd h List.not_mem_nil⟩⟩⟩⟩⟩⟩⟩⟩⟩⟩
def lw_privs : List (MethodName × Nat) := lw_privs_1 ++ (lw_privs_2 ++ (lw_privs_3 ++ (lw_privs_4)))
def lw_tbl : List Cond := k2_sels lw_privs ++ tables_1
theorem lw_privs_ok : ∀ q ∈ lw_privs, lw_okq q := by
  show ∀ q ∈ lw_privs_1 ++ (lw_privs_2 ++ (lw_privs_3 ++ (lw_privs_4))), lw_okq q
  exact List.forall_mem_append.mpr ⟨lw_r1, List.forall_mem_append.mpr ⟨lw_r2, List.forall_mem_append.mpr ⟨lw_r3, lw_r4⟩⟩⟩
-- ===== end of PART A; then your names; then what follows =====
end
section
/-! ===== BEGIN words of one list among another's, by their places ===== -/
theorem goodIn_r {big : List Cond} (ws : List Cond) (ps : List Nat) (hp : ws = ps.filterMap (fun i => big[i]?)) (h : ws.all goodWord = true) : GoodIn big ws := by
  intro w hw
  have h1 := List.all_eq_true.mp h w hw
  rw [hp] at hw
  obtain ⟨i, -, hi⟩ := List.mem_filterMap.mp hw
  have hm : w ∈ big := by first | exact List.mem_of_getElem? hi | exact List.getElem?_mem hi
  exact ⟨hm, good_of_word h1⟩
theorem goodIn_app {big a b : List Cond} (ha : GoodIn big a) (hb : GoodIn big b) : GoodIn big (a ++ b) := fun w h => (List.mem_append.mp h).elim (ha w) (hb w)
theorem goodIn_ca {big a b : List Cond} {c : Cond} (ha : GoodIn big (c :: a)) (hb : GoodIn big b) : GoodIn big (c :: (a ++ b)) := fun w h => (List.mem_cons.mp h).elim (fun e => ha w (List.mem_cons.mpr (Or.inl e))) (fun h => (List.mem_append.mp h).elim (fun h => ha w (List.mem_cons.mpr (Or.inr h))) (hb w))
theorem goodIn_sub {big ws : List Cond} (hm : ∀ w ∈ ws, w ∈ big) (h : ws.all goodWord = true) : GoodIn big ws := fun w hw => ⟨hm w hw, good_of_word (List.all_eq_true.mp h w hw)⟩
/-! ===== END ===== -/
def RX0 : String := "SwornPounds$Fraction"
def TX0 : u_T := fun k => match k with
  | 0 => ("SwornPounds$Fraction", "upper", "J", false)
  | _ => ("SwornPounds$Fraction", "lower", "J", false)
def tyX0 : Nat → FieldType := fun k => match k with
  | 0 => .long
  | _ => .long
abbrev wsX00 : List Cond := u_ws RX0 TX0 2
theorem nmX0 : ∀ a, a < 2 → ∀ b, b < 2 → a ≠ b → (TX0 a).2.1 ≠ (TX0 b).2.1 := by decide +kernel
theorem tyX0_ok : ∀ k, k < 2 → parseFieldDescriptor (TX0 k).2.2.1 = some (tyX0 k) := by decide +kernel
abbrev cX0_init : ByteArray := prog_2_method_1_code
def yX0_init : MethodName := ⟨RX0, "<init>", "()V"⟩
abbrev cX0_setHeavier : ByteArray := prog_2_method_2_code
def yX0_setHeavier : MethodName := ⟨RX0, "setHeavier", "(LSwornPounds$Town;IIII)V"⟩
abbrev cX0_setMean : ByteArray := prog_2_method_3_code
def yX0_setMean : MethodName := ⟨RX0, "setMean", "(LSwornPounds$Town;IIII)V"⟩
abbrev cX0_put : ByteArray := prog_2_method_4_code
def yX0_put : MethodName := ⟨RX0, "put", "(JJ)V"⟩
abbrev cX0_sharedDivisor : ByteArray := prog_2_method_5_code
def yX0_sharedDivisor : MethodName := ⟨RX0, "sharedDivisor", "(JJ)J"⟩
abbrev cX0_power : ByteArray := prog_2_method_6_code
def yX0_power : MethodName := ⟨RX0, "power", "(II)J"⟩
def RX1 : String := "SwornPounds$Market"
def TX1 : u_T := fun k => match k with
  | 0 => ("SwornPounds$Market", "after", "LSwornPounds$Town;", true)
  | 1 => ("SwornPounds$Market", "acts", "I", false)
  | 2 => ("SwornPounds$Market", "badAct", "I", false)
  | 3 => ("SwornPounds$Market", "why", "I", false)
  | 4 => ("SwornPounds$Market", "sales", "I", false)
  | 5 => ("SwornPounds$Market", "sold", "I", false)
  | 6 => ("SwornPounds$Market", "pounds", "I", false)
  | 7 => ("SwornPounds$Market", "offAct", "I", false)
  | 8 => ("SwornPounds$Market", "by", "I", false)
  | 9 => ("SwornPounds$Market", "across", "I", false)
  | 10 => ("SwornPounds$Market", "twice", "Z", false)
  | 11 => ("SwornPounds$Market", "barred", "Z", false)
  | _ => ("SwornPounds$Market", "cold", "Z", false)
def tyX1 : Nat → FieldType := fun k => match k with
  | 0 => .object "SwornPounds$Town"
  | 1 => .int
  | 2 => .int
  | 3 => .int
  | 4 => .int
  | 5 => .int
  | 6 => .int
  | 7 => .int
  | 8 => .int
  | 9 => .int
  | 10 => .boolean
  | 11 => .boolean
  | _ => .boolean
abbrev wsX10 : List Cond := u_ws RX1 TX1 13
theorem nmX1 : ∀ a, a < 13 → ∀ b, b < 13 → a ≠ b → (TX1 a).2.1 ≠ (TX1 b).2.1 := by decide +kernel
theorem tyX1_ok : ∀ k, k < 13 → parseFieldDescriptor (TX1 k).2.2.1 = some (tyX1 k) := by decide +kernel
abbrev cX1_init : ByteArray := prog_3_method_1_code
def yX1_init : MethodName := ⟨RX1, "<init>", "()V"⟩
abbrev cX1_hold : ByteArray := prog_3_method_2_code
def yX1_hold : MethodName := ⟨RX1, "hold", "(LSwornPounds$Pad;LSwornPounds$Town;)V"⟩
abbrev cX1_answer : ByteArray := prog_3_method_3_code
def yX1_answer : MethodName := ⟨RX1, "answer", "(I)I"⟩
abbrev cX1_beginAct : ByteArray := prog_3_method_4_code
def yX1_beginAct : MethodName := ⟨RX1, "beginAct", "()V"⟩
abbrev cX1_endAct : ByteArray := prog_3_method_5_code
def yX1_endAct : MethodName := ⟨RX1, "endAct", "()V"⟩
abbrev cX1_read : ByteArray := prog_3_method_6_code
def yX1_read : MethodName := ⟨RX1, "read", "(I)V"⟩
abbrev cX1_readPerson : ByteArray := prog_3_method_7_code
def yX1_readPerson : MethodName := ⟨RX1, "readPerson", "(I)V"⟩
abbrev cX1_sit : ByteArray := prog_3_method_8_code
def yX1_sit : MethodName := ⟨RX1, "sit", "(I)V"⟩
abbrev cX1_breakOff : ByteArray := prog_3_method_9_code
def yX1_breakOff : MethodName := ⟨RX1, "breakOff", "(I)V"⟩
abbrev cX1_sell : ByteArray := prog_3_method_10_code
def yX1_sell : MethodName := ⟨RX1, "sell", "()V"⟩
abbrev cX1_reasonAgainst : ByteArray := prog_3_method_11_code
def yX1_reasonAgainst : MethodName := ⟨RX1, "reasonAgainst", "(I)I"⟩
def RX2 : String := "SwornPounds$Pad"
def TX2 : u_T := fun k => match k with
  | 0 => ("SwornPounds$Pad", "signs", "[I", true)
  | _ => ("SwornPounds$Pad", "count", "I", false)
def tyX2 : Nat → FieldType := fun k => match k with
  | 0 => .array .int
  | _ => .int
abbrev wsX20 : List Cond := u_ws RX2 TX2 2
theorem nmX2 : ∀ a, a < 2 → ∀ b, b < 2 → a ≠ b → (TX2 a).2.1 ≠ (TX2 b).2.1 := by decide +kernel
theorem tyX2_ok : ∀ k, k < 2 → parseFieldDescriptor (TX2 k).2.2.1 = some (tyX2 k) := by decide +kernel
abbrev cX2_init : ByteArray := prog_4_method_1_code
def yX2_init : MethodName := ⟨RX2, "<init>", "()V"⟩
abbrev cX2_add : ByteArray := prog_4_method_2_code
def yX2_add : MethodName := ⟨RX2, "add", "(I)Z"⟩
abbrev cX2_firstFault : ByteArray := prog_4_method_3_code
def yX2_firstFault : MethodName := ⟨RX2, "firstFault", "()I"⟩
abbrev cX2_after : ByteArray := prog_4_method_4_code
def yX2_after : MethodName := ⟨RX2, "after", "(II)I"⟩
abbrev cX2_afterNothing : ByteArray := prog_4_method_5_code
def yX2_afterNothing : MethodName := ⟨RX2, "afterNothing", "(I)I"⟩
abbrev cX2_isLetter : ByteArray := prog_4_method_6_code
def yX2_isLetter : MethodName := ⟨RX2, "isLetter", "(I)Z"⟩
def RX3 : String := "SwornPounds$Pans"
def TX3 : u_T := fun k => match k with
  | 0 => ("SwornPounds$Pans", "pounds", "[I", true)
  | 1 => ("SwornPounds$Pans", "sworn", "[I", true)
  | 2 => ("SwornPounds$Pans", "partners", "[I", true)
  | 3 => ("SwornPounds$Pans", "made", "[B", true)
  | 4 => ("SwornPounds$Pans", "fewest", "I", false)
  | 5 => ("SwornPounds$Pans", "bestFirst", "I", false)
  | 6 => ("SwornPounds$Pans", "bestSecond", "I", false)
  | 7 => ("SwornPounds$Pans", "nearest", "I", false)
  | 8 => ("SwornPounds$Pans", "dearest", "I", false)
  | _ => ("SwornPounds$Pans", "dearestAcross", "I", false)
def tyX3 : Nat → FieldType := fun k => match k with
  | 0 => .array .int
  | 1 => .array .int
  | 2 => .array .int
  | 3 => .array .byte
  | 4 => .int
  | 5 => .int
  | 6 => .int
  | 7 => .int
  | 8 => .int
  | _ => .int
abbrev wsX30 : List Cond := u_ws RX3 TX3 10
theorem nmX3 : ∀ a, a < 10 → ∀ b, b < 10 → a ≠ b → (TX3 a).2.1 ≠ (TX3 b).2.1 := by decide +kernel
theorem tyX3_ok : ∀ k, k < 10 → parseFieldDescriptor (TX3 k).2.2.1 = some (tyX3 k) := by decide +kernel
abbrev cX3_init : ByteArray := prog_5_method_1_code
def yX3_init : MethodName := ⟨RX3, "<init>", "()V"⟩
abbrev cX3_fillRows : ByteArray := prog_5_method_2_code
def yX3_fillRows : MethodName := ⟨RX3, "fillRows", "(LSwornPounds$Town;)V"⟩
abbrev cX3_mayIt : ByteArray := prog_5_method_3_code
def yX3_mayIt : MethodName := ⟨RX3, "mayIt", "(I)Z"⟩
abbrev cX3_seatAll : ByteArray := prog_5_method_4_code
def yX3_seatAll : MethodName := ⟨RX3, "seatAll", "(LSwornPounds$Town;ZI)V"⟩
abbrev cX3_seatSecond : ByteArray := prog_5_method_5_code
def yX3_seatSecond : MethodName := ⟨RX3, "seatSecond", "([IIII)V"⟩
abbrev cX3_note : ByteArray := prog_5_method_6_code
def yX3_note : MethodName := ⟨RX3, "note", "(IIII)V"⟩
abbrev cX3_keepFewest : ByteArray := prog_5_method_7_code
def yX3_keepFewest : MethodName := ⟨RX3, "keepFewest", "(II)V"⟩
abbrev cX3_leastUnmade : ByteArray := prog_5_method_8_code
def yX3_leastUnmade : MethodName := ⟨RX3, "leastUnmade", "()I"⟩
abbrev cX3_sellDearest : ByteArray := prog_5_method_9_code
def yX3_sellDearest : MethodName := ⟨RX3, "sellDearest", "(LSwornPounds$Town;II)V"⟩
def RX4 : String := "SwornPounds$Town"
def TX4 : u_T := fun k => match k with
  | 0 => ("SwornPounds$Town", "sworn", "[I", true)
  | 1 => ("SwornPounds$Town", "weight", "[I", true)
  | 2 => ("SwornPounds$Town", "drift", "[I", true)
  | 3 => ("SwornPounds$Town", "spouse", "[I", true)
  | 4 => ("SwornPounds$Town", "sightFirst", "[I", true)
  | 5 => ("SwornPounds$Town", "sightSecond", "[I", true)
  | 6 => ("SwornPounds$Town", "sightHow", "[I", true)
  | 7 => ("SwornPounds$Town", "there", "I", false)
  | 8 => ("SwornPounds$Town", "colds", "I", false)
  | 9 => ("SwornPounds$Town", "limit", "I", false)
  | 10 => ("SwornPounds$Town", "day", "I", false)
  | _ => ("SwornPounds$Town", "sights", "I", false)
def tyX4 : Nat → FieldType := fun k => match k with
  | 0 => .array .int
  | 1 => .array .int
  | 2 => .array .int
  | 3 => .array .int
  | 4 => .array .int
  | 5 => .array .int
  | 6 => .array .int
  | 7 => .int
  | 8 => .int
  | 9 => .int
  | 10 => .int
  | _ => .int
abbrev wsX40 : List Cond := u_ws RX4 TX4 12
theorem nmX4 : ∀ a, a < 12 → ∀ b, b < 12 → a ≠ b → (TX4 a).2.1 ≠ (TX4 b).2.1 := by decide +kernel
theorem tyX4_ok : ∀ k, k < 12 → parseFieldDescriptor (TX4 k).2.2.1 = some (tyX4 k) := by decide +kernel
abbrev cX4_init : ByteArray := prog_6_method_1_code
def yX4_init : MethodName := ⟨RX4, "<init>", "()V"⟩
abbrev cX4_copyFrom : ByteArray := prog_6_method_2_code
def yX4_copyFrom : MethodName := ⟨RX4, "copyFrom", "(LSwornPounds$Town;)V"⟩
abbrev cX4_has : ByteArray := prog_6_method_3_code
def yX4_has : MethodName := ⟨RX4, "has", "(I)Z"⟩
abbrev cX4_hasTwo : ByteArray := prog_6_method_4_code
def yX4_hasTwo : MethodName := ⟨RX4, "hasTwo", "(II)Z"⟩
abbrev cX4_hasAll : ByteArray := prog_6_method_5_code
def yX4_hasAll : MethodName := ⟨RX4, "hasAll", "(I)Z"⟩
abbrev cX4_headcount : ByteArray := prog_6_method_6_code
def yX4_headcount : MethodName := ⟨RX4, "headcount", "()I"⟩
abbrev cX4_settle : ByteArray := prog_6_method_7_code
def yX4_settle : MethodName := ⟨RX4, "settle", "(IIII)V"⟩
abbrev cX4_remove : ByteArray := prog_6_method_8_code
def yX4_remove : MethodName := ⟨RX4, "remove", "(I)V"⟩
abbrev cX4_areMarried : ByteArray := prog_6_method_9_code
def yX4_areMarried : MethodName := ⟨RX4, "areMarried", "(II)Z"⟩
abbrev cX4_mayMarry : ByteArray := prog_6_method_10_code
def yX4_mayMarry : MethodName := ⟨RX4, "mayMarry", "(II)Z"⟩
abbrev cX4_join : ByteArray := prog_6_method_11_code
def yX4_join : MethodName := ⟨RX4, "join", "(II)V"⟩
abbrev cX4_part : ByteArray := prog_6_method_12_code
def yX4_part : MethodName := ⟨RX4, "part", "(I)V"⟩
abbrev cX4_marriages : ByteArray := prog_6_method_13_code
def yX4_marriages : MethodName := ⟨RX4, "marriages", "()I"⟩
abbrev cX4_partner : ByteArray := prog_6_method_14_code
def yX4_partner : MethodName := ⟨RX4, "partner", "(I)I"⟩
abbrev cX4_together : ByteArray := prog_6_method_15_code
def yX4_together : MethodName := ⟨RX4, "together", "(I)Z"⟩
abbrev cX4_poundsOf : ByteArray := prog_6_method_16_code
def yX4_poundsOf : MethodName := ⟨RX4, "poundsOf", "(I)I"⟩
abbrev cX4_withCold : ByteArray := prog_6_method_17_code
def yX4_withCold : MethodName := ⟨RX4, "withCold", "(II)I"⟩
abbrev cX4_poundsOfAll : ByteArray := prog_6_method_18_code
def yX4_poundsOfAll : MethodName := ⟨RX4, "poundsOfAll", "(I)I"⟩
abbrev cX4_sumOver : ByteArray := prog_6_method_19_code
def yX4_sumOver : MethodName := ⟨RX4, "sumOver", "(I[I)I"⟩
abbrev cX4_drifted : ByteArray := prog_6_method_20_code
def yX4_drifted : MethodName := ⟨RX4, "drifted", "(II)I"⟩
abbrev cX4_passDay : ByteArray := prog_6_method_21_code
def yX4_passDay : MethodName := ⟨RX4, "passDay", "()V"⟩
abbrev cX4_feast : ByteArray := prog_6_method_22_code
def yX4_feast : MethodName := ⟨RX4, "feast", "()V"⟩
abbrev cX4_turnCold : ByteArray := prog_6_method_23_code
def yX4_turnCold : MethodName := ⟨RX4, "turnCold", "(I)V"⟩
abbrev cX4_firstDayOff : ByteArray := prog_6_method_24_code
def yX4_firstDayOff : MethodName := ⟨RX4, "firstDayOff", "(I)I"⟩
abbrev cX4_firstDayAlike : ByteArray := prog_6_method_25_code
def yX4_firstDayAlike : MethodName := ⟨RX4, "firstDayAlike", "(II)I"⟩
abbrev cX4_ranked : ByteArray := prog_6_method_26_code
def yX4_ranked : MethodName := ⟨RX4, "ranked", "(I)I"⟩
abbrev cX4_howManyAhead : ByteArray := prog_6_method_27_code
def yX4_howManyAhead : MethodName := ⟨RX4, "howManyAhead", "(I)I"⟩
abbrev cX4_mostAlike : ByteArray := prog_6_method_28_code
def yX4_mostAlike : MethodName := ⟨RX4, "mostAlike", "()I"⟩
abbrev cX4_howManyLike : ByteArray := prog_6_method_29_code
def yX4_howManyLike : MethodName := ⟨RX4, "howManyLike", "(I)I"⟩
abbrev cX4_mayBeWeighed : ByteArray := prog_6_method_30_code
def yX4_mayBeWeighed : MethodName := ⟨RX4, "mayBeWeighed", "(II)Z"⟩
abbrev cX4_addSight : ByteArray := prog_6_method_31_code
def yX4_addSight : MethodName := ⟨RX4, "addSight", "(III)Z"⟩
def RX5 : String := "SwornPounds$Worlds"
def TX5 : u_T := fun k => match k with
  | 0 => ("SwornPounds$Worlds", "who", "[I", true)
  | 1 => ("SwornPounds$Worlds", "more", "[I", true)
  | 2 => ("SwornPounds$Worlds", "leads", "[I", true)
  | 3 => ("SwornPounds$Worlds", "left", "[I", true)
  | 4 => ("SwornPounds$Worlds", "count", "I", false)
  | 5 => ("SwornPounds$Worlds", "bestPair", "I", false)
  | _ => ("SwornPounds$Worlds", "bestLeft", "I", false)
def tyX5 : Nat → FieldType := fun k => match k with
  | 0 => .array .int
  | 1 => .array .int
  | 2 => .array .int
  | 3 => .array .int
  | 4 => .int
  | 5 => .int
  | _ => .int
abbrev wsX50 : List Cond := u_ws RX5 TX5 7
theorem nmX5 : ∀ a, a < 7 → ∀ b, b < 7 → a ≠ b → (TX5 a).2.1 ≠ (TX5 b).2.1 := by decide +kernel
theorem tyX5_ok : ∀ k, k < 7 → parseFieldDescriptor (TX5 k).2.2.1 = some (tyX5 k) := by decide +kernel
abbrev cX5_init : ByteArray := prog_7_method_1_code
def yX5_init : MethodName := ⟨RX5, "<init>", "()V"⟩
abbrev cX5_find : ByteArray := prog_7_method_2_code
def yX5_find : MethodName := ⟨RX5, "find", "(LSwornPounds$Town;)V"⟩
abbrev cX5_findOf : ByteArray := prog_7_method_3_code
def yX5_findOf : MethodName := ⟨RX5, "findOf", "(LSwornPounds$Town;I)V"⟩
abbrev cX5_addIfSeen : ByteArray := prog_7_method_4_code
def yX5_addIfSeen : MethodName := ⟨RX5, "addIfSeen", "(LSwornPounds$Town;II)V"⟩
abbrev cX5_fillLeads : ByteArray := prog_7_method_5_code
def yX5_fillLeads : MethodName := ⟨RX5, "fillLeads", "(LSwornPounds$Town;)V"⟩
abbrev cX5_isAsSeen : ByteArray := prog_7_method_6_code
def yX5_isAsSeen : MethodName := ⟨RX5, "isAsSeen", "(LSwornPounds$Town;II)Z"⟩
abbrev cX5_suspects : ByteArray := prog_7_method_7_code
def yX5_suspects : MethodName := ⟨RX5, "suspects", "()I"⟩
abbrev cX5_leastMore : ByteArray := prog_7_method_8_code
def yX5_leastMore : MethodName := ⟨RX5, "leastMore", "(I)I"⟩
abbrev cX5_choosePair : ByteArray := prog_7_method_9_code
def yX5_choosePair : MethodName := ⟨RX5, "choosePair", "(LSwornPounds$Town;)V"⟩
abbrev cX5_tryPair : ByteArray := prog_7_method_10_code
def yX5_tryPair : MethodName := ⟨RX5, "tryPair", "(LSwornPounds$Town;II)V"⟩
def RX6 : String := "SwornPounds$Year"
def TX6 : u_T := fun k => match k with
  | 0 => ("SwornPounds$Year", "then", "LSwornPounds$Town;", true)
  | 1 => ("SwornPounds$Year", "sold", "I", false)
  | 2 => ("SwornPounds$Year", "pounds", "I", false)
  | _ => ("SwornPounds$Year", "salesOff", "I", false)
def tyX6 : Nat → FieldType := fun k => match k with
  | 0 => .object "SwornPounds$Town"
  | 1 => .int
  | 2 => .int
  | _ => .int
abbrev wsX60 : List Cond := u_ws RX6 TX6 4
theorem nmX6 : ∀ a, a < 4 → ∀ b, b < 4 → a ≠ b → (TX6 a).2.1 ≠ (TX6 b).2.1 := by decide +kernel
theorem tyX6_ok : ∀ k, k < 4 → parseFieldDescriptor (TX6 k).2.2.1 = some (tyX6 k) := by decide +kernel
abbrev cX6_init : ByteArray := prog_8_method_1_code
def yX6_init : MethodName := ⟨RX6, "<init>", "()V"⟩
abbrev cX6_pass : ByteArray := prog_8_method_2_code
def yX6_pass : MethodName := ⟨RX6, "pass", "(LSwornPounds$Town;II)V"⟩
abbrev cX6_sell : ByteArray := prog_8_method_3_code
def yX6_sell : MethodName := ⟨RX6, "sell", "(I)V"⟩
def RX7 : String := "SwornPounds"
def TX7 : u_T := fun k => match k with
  | 0 => ("SwornPounds", "town", "LSwornPounds$Town;", true)
  | 1 => ("SwornPounds", "images", "[LSwornPounds$Town;", true)
  | 2 => ("SwornPounds", "kept", "[Z", true)
  | 3 => ("SwornPounds", "pad", "LSwornPounds$Pad;", true)
  | 4 => ("SwornPounds", "market", "LSwornPounds$Market;", true)
  | 5 => ("SwornPounds", "pans", "LSwornPounds$Pans;", true)
  | 6 => ("SwornPounds", "worlds", "LSwornPounds$Worlds;", true)
  | 7 => ("SwornPounds", "fraction", "LSwornPounds$Fraction;", true)
  | _ => ("SwornPounds", "years", "LSwornPounds$Year;", true)
def tyX7 : Nat → FieldType := fun k => match k with
  | 0 => .object "SwornPounds$Town"
  | 1 => .array (.object "SwornPounds$Town")
  | 2 => .array .boolean
  | 3 => .object "SwornPounds$Pad"
  | 4 => .object "SwornPounds$Market"
  | 5 => .object "SwornPounds$Pans"
  | 6 => .object "SwornPounds$Worlds"
  | 7 => .object "SwornPounds$Fraction"
  | _ => .object "SwornPounds$Year"
abbrev wsX70 : List Cond := u_ws RX7 TX7 9
theorem nmX7 : ∀ a, a < 9 → ∀ b, b < 9 → a ≠ b → (TX7 a).2.1 ≠ (TX7 b).2.1 := by decide +kernel
theorem tyX7_ok : ∀ k, k < 9 → parseFieldDescriptor (TX7 k).2.2.1 = some (tyX7 k) := by decide +kernel
abbrev cX7_init : ByteArray := prog_1_method_1_code
def yX7_init : MethodName := ⟨RX7, "<init>", "()V"⟩
abbrev cX7_person : ByteArray := prog_1_method_2_code
def yX7_person : MethodName := ⟨RX7, "person", "(IIII)I"⟩
abbrev cX7_leave : ByteArray := prog_1_method_3_code
def yX7_leave : MethodName := ⟨RX7, "leave", "(I)I"⟩
abbrev cX7_marry : ByteArray := prog_1_method_4_code
def yX7_marry : MethodName := ⟨RX7, "marry", "(IIZ)I"⟩
abbrev cX7_limit : ByteArray := prog_1_method_5_code
def yX7_limit : MethodName := ⟨RX7, "limit", "(I)I"⟩
abbrev cX7_say : ByteArray := prog_1_method_6_code
def yX7_say : MethodName := ⟨RX7, "say", "(I)I"⟩
abbrev cX7_wipe : ByteArray := prog_1_method_7_code
def yX7_wipe : MethodName := ⟨RX7, "wipe", "()I"⟩
abbrev cX7_fault : ByteArray := prog_1_method_8_code
def yX7_fault : MethodName := ⟨RX7, "fault", "()I"⟩
abbrev cX7_judge : ByteArray := prog_1_method_9_code
def yX7_judge : MethodName := ⟨RX7, "judge", "(I)I"⟩
abbrev cX7_behind : ByteArray := prog_1_method_10_code
def yX7_behind : MethodName := ⟨RX7, "behind", "(II)I"⟩
abbrev cX7_done : ByteArray := prog_1_method_11_code
def yX7_done : MethodName := ⟨RX7, "done", "()I"⟩
abbrev cX7_weighs : ByteArray := prog_1_method_12_code
def yX7_weighs : MethodName := ⟨RX7, "weighs", "(I)I"⟩
abbrev cX7_off : ByteArray := prog_1_method_13_code
def yX7_off : MethodName := ⟨RX7, "off", "(I)I"⟩
abbrev cX7_out : ByteArray := prog_1_method_14_code
def yX7_out : MethodName := ⟨RX7, "out", "(I)I"⟩
abbrev cX7_even : ByteArray := prog_1_method_15_code
def yX7_even : MethodName := ⟨RX7, "even", "(II)I"⟩
abbrev cX7_make : ByteArray := prog_1_method_16_code
def yX7_make : MethodName := ⟨RX7, "make", "(IZI)I"⟩
abbrev cX7_near : ByteArray := prog_1_method_17_code
def yX7_near : MethodName := ⟨RX7, "near", "(IZ)I"⟩
abbrev cX7_gap : ByteArray := prog_1_method_18_code
def yX7_gap : MethodName := ⟨RX7, "gap", "(Z)I"⟩
abbrev cX7_assize : ByteArray := prog_1_method_19_code
def yX7_assize : MethodName := ⟨RX7, "assize", "(I)I"⟩
abbrev cX7_just : ByteArray := prog_1_method_20_code
def yX7_just : MethodName := ⟨RX7, "just", "()I"⟩
abbrev cX7_price : ByteArray := prog_1_method_21_code
def yX7_price : MethodName := ⟨RX7, "price", "(III)I"⟩
abbrev cX7_seen : ByteArray := prog_1_method_22_code
def yX7_seen : MethodName := ⟨RX7, "seen", "(III)I"⟩
abbrev cX7_forget : ByteArray := prog_1_method_23_code
def yX7_forget : MethodName := ⟨RX7, "forget", "()I"⟩
abbrev cX7_airs : ByteArray := prog_1_method_24_code
def yX7_airs : MethodName := ⟨RX7, "airs", "(I)I"⟩
abbrev cX7_air : ByteArray := prog_1_method_25_code
def yX7_air : MethodName := ⟨RX7, "air", "(I)I"⟩
abbrev cX7_cross : ByteArray := prog_1_method_26_code
def yX7_cross : MethodName := ⟨RX7, "cross", "(I)I"⟩
abbrev cX7_chance : ByteArray := prog_1_method_27_code
def yX7_chance : MethodName := ⟨RX7, "chance", "(IIIIII)J"⟩
abbrev cX7_year : ByteArray := prog_1_method_28_code
def yX7_year : MethodName := ⟨RX7, "year", "(III)I"⟩
abbrev cX7_image : ByteArray := prog_1_method_29_code
def yX7_image : MethodName := ⟨RX7, "image", "(I)I"⟩
abbrev cX7_restore : ByteArray := prog_1_method_30_code
def yX7_restore : MethodName := ⟨RX7, "restore", "(I)I"⟩
abbrev cX7_told : ByteArray := prog_1_method_31_code
def yX7_told : MethodName := ⟨RX7, "told", "(I)I"⟩
abbrev cX7_tellPerson : ByteArray := prog_1_method_32_code
def yX7_tellPerson : MethodName := ⟨RX7, "tellPerson", "(II)I"⟩
abbrev cX7_holdMarket : ByteArray := prog_1_method_33_code
def yX7_holdMarket : MethodName := ⟨RX7, "holdMarket", "()I"⟩
abbrev cX7_within : ByteArray := prog_1_method_34_code
def yX7_within : MethodName := ⟨RX7, "within", "(III)Z"⟩
abbrev cX7_holds : ByteArray := prog_1_method_35_code
def yX7_holds : MethodName := ⟨RX7, "holds", "(II)Z"⟩
abbrev cX7_nextSubset : ByteArray := prog_1_method_36_code
def yX7_nextSubset : MethodName := ⟨RX7, "nextSubset", "(II)I"⟩
abbrev cX7_subsetsOf : ByteArray := prog_1_method_37_code
def yX7_subsetsOf : MethodName := ⟨RX7, "subsetsOf", "(I)I"⟩
abbrev cX7_balance : ByteArray := prog_1_method_38_code
def yX7_balance : MethodName := ⟨RX7, "balance", "(II)I"⟩
def RX8 : String := "SwornPoundsModel"
def TX8 : u_T := fun k => match k with
  | 0 => ("SwornPoundsModel", "persons", "I", false)
  | 1 => ("SwornPoundsModel", "colds", "I", false)
  | 2 => ("SwornPoundsModel", "limit", "I", false)
  | 3 => ("SwornPoundsModel", "today", "I", false)
  | 4 => ("SwornPoundsModel", "sworn", "[I", true)
  | 5 => ("SwornPoundsModel", "weight", "[I", true)
  | 6 => ("SwornPoundsModel", "drift", "[I", true)
  | 7 => ("SwornPoundsModel", "mate", "[I", true)
  | 8 => ("SwornPoundsModel", "sightFirst", "[I", true)
  | 9 => ("SwornPoundsModel", "sightSecond", "[I", true)
  | 10 => ("SwornPoundsModel", "sightHow", "[I", true)
  | 11 => ("SwornPoundsModel", "sights", "I", false)
  | 12 => ("SwornPoundsModel", "pad", "[I", true)
  | 13 => ("SwornPoundsModel", "padMany", "I", false)
  | 14 => ("SwornPoundsModel", "act", "[I", true)
  | 15 => ("SwornPoundsModel", "near", "[I", true)
  | 16 => ("SwornPoundsModel", "across", "[I", true)
  | 17 => ("SwornPoundsModel", "twice", "[I", true)
  | 18 => ("SwornPoundsModel", "acts", "I", false)
  | 19 => ("SwornPoundsModel", "sales", "I", false)
  | 20 => ("SwornPoundsModel", "sold", "I", false)
  | 21 => ("SwornPoundsModel", "were", "I", false)
  | 22 => ("SwornPoundsModel", "firstOff", "I", false)
  | 23 => ("SwornPoundsModel", "hadWeight", "[I", true)
  | 24 => ("SwornPoundsModel", "hadColds", "I", false)
  | 25 => ("SwornPoundsModel", "hadToday", "I", false)
  | 26 => ("SwornPoundsModel", "badAct", "I", false)
  | 27 => ("SwornPoundsModel", "badWhy", "I", false)
  | 28 => ("SwornPoundsModel", "leavesPounds", "[I", true)
  | 29 => ("SwornPoundsModel", "leavesWeight", "[I", true)
  | 30 => ("SwornPoundsModel", "leavesDay", "I", false)
  | 31 => ("SwornPoundsModel", "onFirst", "I", false)
  | 32 => ("SwornPoundsModel", "onSecond", "I", false)
  | 33 => ("SwornPoundsModel", "made", "[Z", true)
  | 34 => ("SwornPoundsModel", "worldWho", "[I", true)
  | 35 => ("SwornPoundsModel", "worldBy", "[I", true)
  | 36 => ("SwornPoundsModel", "worlds", "I", false)
  | 37 => ("SwornPoundsModel", "kept", "[I", true)
  | 38 => ("SwornPoundsModel", "isKept", "[Z", true)
  | 39 => ("SwornPoundsModel", "keptAt", "I", false)
  | _ => ("SwornPoundsModel", "isWriting", "Z", false)
def tyX8 : Nat → FieldType := fun k => match k with
  | 0 => .int
  | 1 => .int
  | 2 => .int
  | 3 => .int
  | 4 => .array .int
  | 5 => .array .int
  | 6 => .array .int
  | 7 => .array .int
  | 8 => .array .int
  | 9 => .array .int
  | 10 => .array .int
  | 11 => .int
  | 12 => .array .int
  | 13 => .int
  | 14 => .array .int
  | 15 => .array .int
  | 16 => .array .int
  | 17 => .array .int
  | 18 => .int
  | 19 => .int
  | 20 => .int
  | 21 => .int
  | 22 => .int
  | 23 => .array .int
  | 24 => .int
  | 25 => .int
  | 26 => .int
  | 27 => .int
  | 28 => .array .int
  | 29 => .array .int
  | 30 => .int
  | 31 => .int
  | 32 => .int
  | 33 => .array .boolean
  | 34 => .array .int
  | 35 => .array .int
  | 36 => .int
  | 37 => .array .int
  | 38 => .array .boolean
  | 39 => .int
  | _ => .boolean
abbrev wsX80 : List Cond := u_ws RX8 TX8 41
theorem nmX8 : ∀ a, a < 41 → ∀ b, b < 41 → a ≠ b → (TX8 a).2.1 ≠ (TX8 b).2.1 := by decide +kernel
theorem tyX8_ok : ∀ k, k < 41 → parseFieldDescriptor (TX8 k).2.2.1 = some (tyX8 k) := by decide +kernel
abbrev cX8_init : ByteArray := prog_10_method_1_code
def yX8_init : MethodName := ⟨RX8, "<init>", "()V"⟩
abbrev cX8_in : ByteArray := prog_10_method_3_code
def yX8_in : MethodName := ⟨RX8, "in", "(JJJ)Z"⟩
abbrev cX8_ones : ByteArray := prog_10_method_4_code
def yX8_ones : MethodName := ⟨RX8, "ones", "(I)I"⟩
abbrev cX8_size : ByteArray := prog_10_method_5_code
def yX8_size : MethodName := ⟨RX8, "size", "(I)I"⟩
abbrev cX8_isPerson : ByteArray := prog_10_method_6_code
def yX8_isPerson : MethodName := ⟨RX8, "isPerson", "(I)Z"⟩
abbrev cX8_areTwo : ByteArray := prog_10_method_7_code
def yX8_areTwo : MethodName := ⟨RX8, "areTwo", "(II)Z"⟩
abbrev cX8_pounds : ByteArray := prog_10_method_8_code
def yX8_pounds : MethodName := ⟨RX8, "pounds", "(I)I"⟩
abbrev cX8_person : ByteArray := prog_10_method_9_code
def yX8_person : MethodName := ⟨RX8, "person", "(IIII)I"⟩
abbrev cX8_part : ByteArray := prog_10_method_10_code
def yX8_part : MethodName := ⟨RX8, "part", "(I)V"⟩
abbrev cX8_leave : ByteArray := prog_10_method_11_code
def yX8_leave : MethodName := ⟨RX8, "leave", "(I)I"⟩
abbrev cX8_marriages : ByteArray := prog_10_method_12_code
def yX8_marriages : MethodName := ⟨RX8, "marriages", "()I"⟩
abbrev cX8_marry : ByteArray := prog_10_method_13_code
def yX8_marry : MethodName := ⟨RX8, "marry", "(IIZ)I"⟩
abbrev cX8_limit : ByteArray := prog_10_method_14_code
def yX8_limit : MethodName := ⟨RX8, "limit", "(I)I"⟩
abbrev cX8_say : ByteArray := prog_10_method_15_code
def yX8_say : MethodName := ⟨RX8, "say", "(I)I"⟩
abbrev cX8_wipe : ByteArray := prog_10_method_16_code
def yX8_wipe : MethodName := ⟨RX8, "wipe", "()I"⟩
abbrev cX8_beginAct : ByteArray := prog_10_method_17_code
def yX8_beginAct : MethodName := ⟨RX8, "beginAct", "(I)I"⟩
abbrev cX8_isLetter : ByteArray := prog_10_method_18_code
def yX8_isLetter : MethodName := ⟨RX8, "isLetter", "(I)Z"⟩
abbrev cX8_sit : ByteArray := prog_10_method_19_code
def yX8_sit : MethodName := ⟨RX8, "sit", "(I)V"⟩
abbrev cX8_readNear : ByteArray := prog_10_method_20_code
def yX8_readNear : MethodName := ⟨RX8, "readNear", "(I)I"⟩
abbrev cX8_readAcross : ByteArray := prog_10_method_21_code
def yX8_readAcross : MethodName := ⟨RX8, "readAcross", "(II)I"⟩
abbrev cX8_readCold : ByteArray := prog_10_method_22_code
def yX8_readCold : MethodName := ⟨RX8, "readCold", "(I)I"⟩
abbrev cX8_fault : ByteArray := prog_10_method_23_code
def yX8_fault : MethodName := ⟨RX8, "fault", "()I"⟩
abbrev cX8_areTogether : ByteArray := prog_10_method_24_code
def yX8_areTogether : MethodName := ⟨RX8, "areTogether", "(I)Z"⟩
abbrev cX8_swornOf : ByteArray := prog_10_method_25_code
def yX8_swornOf : MethodName := ⟨RX8, "swornOf", "(I)I"⟩
abbrev cX8_poundsOf : ByteArray := prog_10_method_26_code
def yX8_poundsOf : MethodName := ⟨RX8, "poundsOf", "(I)I"⟩
abbrev cX8_whyNot : ByteArray := prog_10_method_27_code
def yX8_whyNot : MethodName := ⟨RX8, "whyNot", "(I)I"⟩
abbrev cX8_bounded : ByteArray := prog_10_method_28_code
def yX8_bounded : MethodName := ⟨RX8, "bounded", "(I)I"⟩
abbrev cX8_passDay : ByteArray := prog_10_method_29_code
def yX8_passDay : MethodName := ⟨RX8, "passDay", "()V"⟩
abbrev cX8_feast : ByteArray := prog_10_method_30_code
def yX8_feast : MethodName := ⟨RX8, "feast", "()V"⟩
abbrev cX8_sell : ByteArray := prog_10_method_31_code
def yX8_sell : MethodName := ⟨RX8, "sell", "(I)V"⟩
abbrev cX8_happen : ByteArray := prog_10_method_32_code
def yX8_happen : MethodName := ⟨RX8, "happen", "(I)V"⟩
abbrev cX8_keepNow : ByteArray := prog_10_method_33_code
def yX8_keepNow : MethodName := ⟨RX8, "keepNow", "()V"⟩
abbrev cX8_putBack : ByteArray := prog_10_method_34_code
def yX8_putBack : MethodName := ⟨RX8, "putBack", "()V"⟩
abbrev cX8_goMarket : ByteArray := prog_10_method_35_code
def yX8_goMarket : MethodName := ⟨RX8, "goMarket", "()V"⟩
abbrev cX8_refusal : ByteArray := prog_10_method_36_code
def yX8_refusal : MethodName := ⟨RX8, "refusal", "()I"⟩
abbrev cX8_judge : ByteArray := prog_10_method_37_code
def yX8_judge : MethodName := ⟨RX8, "judge", "(I)I"⟩
abbrev cX8_behind : ByteArray := prog_10_method_38_code
def yX8_behind : MethodName := ⟨RX8, "behind", "(II)I"⟩
abbrev cX8_done : ByteArray := prog_10_method_39_code
def yX8_done : MethodName := ⟨RX8, "done", "()I"⟩
abbrev cX8_weighs : ByteArray := prog_10_method_40_code
def yX8_weighs : MethodName := ⟨RX8, "weighs", "(I)I"⟩
abbrev cX8_off : ByteArray := prog_10_method_41_code
def yX8_off : MethodName := ⟨RX8, "off", "(I)I"⟩
abbrev cX8_out : ByteArray := prog_10_method_42_code
def yX8_out : MethodName := ⟨RX8, "out", "(I)I"⟩
abbrev cX8_even : ByteArray := prog_10_method_43_code
def yX8_even : MethodName := ⟨RX8, "even", "(II)I"⟩
abbrev cX8_seat : ByteArray := prog_10_method_44_code
def yX8_seat : MethodName := ⟨RX8, "seat", "(I)Z"⟩
abbrev cX8_difference : ByteArray := prog_10_method_45_code
def yX8_difference : MethodName := ⟨RX8, "difference", "(Z)I"⟩
abbrev cX8_make : ByteArray := prog_10_method_46_code
def yX8_make : MethodName := ⟨RX8, "make", "(IZI)I"⟩
abbrev cX8_near : ByteArray := prog_10_method_47_code
def yX8_near : MethodName := ⟨RX8, "near", "(IZ)I"⟩
abbrev cX8_gap : ByteArray := prog_10_method_48_code
def yX8_gap : MethodName := ⟨RX8, "gap", "(Z)I"⟩
abbrev cX8_assize : ByteArray := prog_10_method_49_code
def yX8_assize : MethodName := ⟨RX8, "assize", "(I)I"⟩
abbrev cX8_just : ByteArray := prog_10_method_50_code
def yX8_just : MethodName := ⟨RX8, "just", "()I"⟩
abbrev cX8_price : ByteArray := prog_10_method_51_code
def yX8_price : MethodName := ⟨RX8, "price", "(III)I"⟩
abbrev cX8_areSides : ByteArray := prog_10_method_52_code
def yX8_areSides : MethodName := ⟨RX8, "areSides", "(II)Z"⟩
abbrev cX8_seen : ByteArray := prog_10_method_53_code
def yX8_seen : MethodName := ⟨RX8, "seen", "(III)I"⟩
abbrev cX8_forget : ByteArray := prog_10_method_54_code
def yX8_forget : MethodName := ⟨RX8, "forget", "()I"⟩
abbrev cX8_airyOf : ByteArray := prog_10_method_55_code
def yX8_airyOf : MethodName := ⟨RX8, "airyOf", "(III)I"⟩
abbrev cX8_howAcross : ByteArray := prog_10_method_56_code
def yX8_howAcross : MethodName := ⟨RX8, "howAcross", "(IIII)I"⟩
abbrev cX8_isWorld : ByteArray := prog_10_method_57_code
def yX8_isWorld : MethodName := ⟨RX8, "isWorld", "(II)Z"⟩
abbrev cX8_addWorld : ByteArray := prog_10_method_58_code
def yX8_addWorld : MethodName := ⟨RX8, "addWorld", "(II)V"⟩
abbrev cX8_findWorlds : ByteArray := prog_10_method_59_code
def yX8_findWorlds : MethodName := ⟨RX8, "findWorlds", "()V"⟩
abbrev cX8_airs : ByteArray := prog_10_method_60_code
def yX8_airs : MethodName := ⟨RX8, "airs", "(I)I"⟩
abbrev cX8_air : ByteArray := prog_10_method_61_code
def yX8_air : MethodName := ⟨RX8, "air", "(I)I"⟩
abbrev cX8_mostLeft : ByteArray := prog_10_method_62_code
def yX8_mostLeft : MethodName := ⟨RX8, "mostLeft", "(II)I"⟩
abbrev cX8_cross : ByteArray := prog_10_method_63_code
def yX8_cross : MethodName := ⟨RX8, "cross", "(I)I"⟩
abbrev cX8_lowest : ByteArray := prog_10_method_64_code
def yX8_lowest : MethodName := ⟨RX8, "lowest", "(JJI)J"⟩
abbrev cX8_chance : ByteArray := prog_10_method_65_code
def yX8_chance : MethodName := ⟨RX8, "chance", "(IIIIII)J"⟩
abbrev cX8_year : ByteArray := prog_10_method_66_code
def yX8_year : MethodName := ⟨RX8, "year", "(III)I"⟩
abbrev cX8_pass : ByteArray := prog_10_method_67_code
def yX8_pass : MethodName := ⟨RX8, "pass", "(I)I"⟩
abbrev cX8_passAll : ByteArray := prog_10_method_68_code
def yX8_passAll : MethodName := ⟨RX8, "passAll", "()V"⟩
abbrev cX8_image : ByteArray := prog_10_method_69_code
def yX8_image : MethodName := ⟨RX8, "image", "(I)I"⟩
abbrev cX8_restore : ByteArray := prog_10_method_70_code
def yX8_restore : MethodName := ⟨RX8, "restore", "(I)I"⟩
abbrev cX8_toldOf : ByteArray := prog_10_method_71_code
def yX8_toldOf : MethodName := ⟨RX8, "toldOf", "(II)I"⟩
abbrev cX8_told : ByteArray := prog_10_method_72_code
def yX8_told : MethodName := ⟨RX8, "told", "(I)I"⟩
def RJ6 : String := "java/lang/Integer"
def TJ6 : u_T := fun k => match k with
  | _ => ("", "", "", false)
def tyJ6 : Nat → FieldType := fun k => match k with
  | _ => .int
abbrev wsJ60 : List Cond := u_ws RJ6 TJ6 0
theorem nmJ6 : ∀ a, a < 0 → ∀ b, b < 0 → a ≠ b → (TJ6 a).2.1 ≠ (TJ6 b).2.1 := by decide +kernel
theorem tyJ6_ok : ∀ k, k < 0 → parseFieldDescriptor (TJ6 k).2.2.1 = some (tyJ6 k) := by decide +kernel
abbrev cJ6_bitCount_0f7a4 : ByteArray := prog_11_method_49_code
def yJ6_bitCount_0f7a4 : MethodName := ⟨RJ6, "bitCount", "(I)I"⟩
def RJ9 : String := "java/lang/Math"
def TJ9 : u_T := fun k => match k with
  | _ => ("", "", "", false)
def tyJ9 : Nat → FieldType := fun k => match k with
  | _ => .int
abbrev wsJ90 : List Cond := u_ws RJ9 TJ9 0
theorem nmJ9 : ∀ a, a < 0 → ∀ b, b < 0 → a ≠ b → (TJ9 a).2.1 ≠ (TJ9 b).2.1 := by decide +kernel
theorem tyJ9_ok : ∀ k, k < 0 → parseFieldDescriptor (TJ9 k).2.2.1 = some (tyJ9 k) := by decide +kernel
abbrev cJ9_abs_0f7a4 : ByteArray := prog_12_method_59_code
def yJ9_abs_0f7a4 : MethodName := ⟨RJ9, "abs", "(I)I"⟩
abbrev cJ9_abs_067f4 : ByteArray := prog_12_method_61_code
def yJ9_abs_067f4 : MethodName := ⟨RJ9, "abs", "(J)J"⟩
abbrev cJ9_max_7cf53 : ByteArray := prog_12_method_65_code
def yJ9_max_7cf53 : MethodName := ⟨RJ9, "max", "(II)I"⟩
abbrev cJ9_min_7cf53 : ByteArray := prog_12_method_69_code
def yJ9_min_7cf53 : MethodName := ⟨RJ9, "min", "(II)I"⟩
def RJ10 : String := "java/lang/System"
def TJ10 : u_T := fun k => match k with
  | _ => ("", "", "", false)
def tyJ10 : Nat → FieldType := fun k => match k with
  | _ => .int
abbrev wsJ100 : List Cond := u_ws RJ10 TJ10 0
theorem nmJ10 : ∀ a, a < 0 → ∀ b, b < 0 → a ≠ b → (TJ10 a).2.1 ≠ (TJ10 b).2.1 := by decide +kernel
theorem tyJ10_ok : ∀ k, k < 0 → parseFieldDescriptor (TJ10 k).2.2.1 = some (tyJ10 k) := by decide +kernel
def RJ7 : String := "java/util/Arrays"
def TJ7 : u_T := fun k => match k with
  | _ => ("", "", "", false)
def tyJ7 : Nat → FieldType := fun k => match k with
  | _ => .int
abbrev wsJ70 : List Cond := u_ws RJ7 TJ7 0
theorem nmJ7 : ∀ a, a < 0 → ∀ b, b < 0 → a ≠ b → (TJ7 a).2.1 ≠ (TJ7 b).2.1 := by decide +kernel
theorem tyJ7_ok : ∀ k, k < 0 → parseFieldDescriptor (TJ7 k).2.2.1 = some (tyJ7 k) := by decide +kernel
abbrev cJ7_fill_53178 : ByteArray := prog_14_method_103_code
def yJ7_fill_53178 : MethodName := ⟨RJ7, "fill", "([II)V"⟩
abbrev cJ7_fill_031fb : ByteArray := prog_14_method_109_code
def yJ7_fill_031fb : MethodName := ⟨RJ7, "fill", "([BB)V"⟩
def RL : String := "SwornPoundsLaw"
abbrev cL_law : ByteArray := code
def yL_law : MethodName := ⟨RL, "law", "([I)Z"⟩
abbrev vwCl : List vw_C := [(RX0, TX0, 2), (RX1, TX1, 13), (RX2, TX2, 2), (RX3, TX3, 10), (RX4, TX4, 12), (RX5, TX5, 7), (RX6, TX6, 4), (RX7, TX7, 9), (RX8, TX8, 41)]
/-! the words that the contracts rest on: the good ones of the tables; each used one by its place -/
def wL : List Cond := lw_tbl.filter goodWord
theorem wL_good : GoodIn wL wL := fun _ h => ⟨h, good_of_word (List.mem_filter.mp h).2⟩
theorem wL_tbl : ∀ w ∈ wL, w ∈ lw_tbl := fun _ h => (List.mem_filter.mp h).1
theorem wL_t1 : ∀ w ∈ tables_1_1, w ∈ lw_tbl := fun _ h => List.mem_append_right _ (List.mem_append_left _ h)
theorem wL_t2 : ∀ w ∈ tables_1_2, w ∈ lw_tbl := fun _ h => List.mem_append_right _ (List.mem_append_right _ (List.mem_append_left _ h))
theorem wL_t3 : ∀ w ∈ tables_1_3, w ∈ lw_tbl := fun _ h => List.mem_append_right _ (List.mem_append_right _ (List.mem_append_right _ (List.mem_append_left _ h)))
theorem wL_t4 : ∀ w ∈ tables_1_4, w ∈ lw_tbl := fun _ h => List.mem_append_right _ (List.mem_append_right _ (List.mem_append_right _ (List.mem_append_right _ (List.mem_append_left _ h))))
theorem wL_t5 : ∀ w ∈ tables_1_5, w ∈ lw_tbl := fun _ h => List.mem_append_right _ (List.mem_append_right _ (List.mem_append_right _ (List.mem_append_right _ (List.mem_append_right _ (List.mem_append_left _ h)))))
theorem wL_t6 : ∀ w ∈ tables_1_6, w ∈ lw_tbl := fun _ h => List.mem_append_right _ (List.mem_append_right _ (List.mem_append_right _ (List.mem_append_right _ (List.mem_append_right _ (List.mem_append_right _ h)))))
theorem wL_p1 : ∀ q ∈ lw_privs_1, Cond.selects q.1.cls q.1 q.1 ∈ lw_tbl := fun q h => List.mem_append_left _ (List.mem_map_of_mem (f := fun q : MethodName × Nat => Cond.selects q.1.cls q.1 q.1) (show q ∈ lw_privs from (List.mem_append_left _ h)))
theorem wL_p2 : ∀ q ∈ lw_privs_2, Cond.selects q.1.cls q.1 q.1 ∈ lw_tbl := fun q h => List.mem_append_left _ (List.mem_map_of_mem (f := fun q : MethodName × Nat => Cond.selects q.1.cls q.1 q.1) (show q ∈ lw_privs from (List.mem_append_right _ (List.mem_append_left _ h))))
theorem wL_p3 : ∀ q ∈ lw_privs_3, Cond.selects q.1.cls q.1 q.1 ∈ lw_tbl := fun q h => List.mem_append_left _ (List.mem_map_of_mem (f := fun q : MethodName × Nat => Cond.selects q.1.cls q.1 q.1) (show q ∈ lw_privs from (List.mem_append_right _ (List.mem_append_right _ (List.mem_append_left _ h)))))
theorem wL_p4 : ∀ q ∈ lw_privs_4, Cond.selects q.1.cls q.1 q.1 ∈ lw_tbl := fun q h => List.mem_append_left _ (List.mem_map_of_mem (f := fun q : MethodName × Nat => Cond.selects q.1.cls q.1 q.1) (show q ∈ lw_privs from (List.mem_append_right _ (List.mem_append_right _ (List.mem_append_right _ h)))))
theorem wm_kl_L_7 : Cond.classLink RL 7 RX7 ∈ wL := List.mem_filter.mpr ⟨wL_t1 _ (List.mem_of_getElem? (i := 14) rfl), rfl⟩
theorem wm_it_X7 : Cond.instantiable RX7 9 ∈ wL := List.mem_filter.mpr ⟨wL_t1 _ (List.mem_of_getElem? (i := 15) rfl), rfl⟩
theorem wm_ini_X7 : Cond.initialized RX7 ∈ wL := List.mem_filter.mpr ⟨wL_t1 _ (List.mem_of_getElem? (i := 1) rfl), rfl⟩
theorem wm_kl_L_10 : Cond.classLink RL 10 RX8 ∈ wL := List.mem_filter.mpr ⟨wL_t4 _ (List.mem_of_getElem? (i := 60) rfl), rfl⟩
theorem wm_it_X8 : Cond.instantiable RX8 41 ∈ wL := List.mem_filter.mpr ⟨wL_t4 _ (List.mem_of_getElem? (i := 61) rfl), rfl⟩
theorem wm_ini_X8 : Cond.initialized RX8 ∈ wL := List.mem_filter.mpr ⟨wL_t1 _ (List.mem_of_getElem? (i := 10) rfl), rfl⟩
theorem wm_ml_L_9 : Cond.methodLink RL 9 yX7_init ∈ wL := List.mem_filter.mpr ⟨wL_t1 _ (List.mem_of_getElem? (i := 16) rfl), rfl⟩
theorem wm_im_X7_init : Cond.instanceMethod yX7_init ∈ wL := List.mem_filter.mpr ⟨wL_t1 _ (List.mem_of_getElem? (i := 17) rfl), rfl⟩
theorem wm_cd_X7_init : Cond.code yX7_init cX7_init 2 none ∈ wL := List.mem_filter.mpr ⟨wL_t1 _ (List.mem_of_getElem? (i := 18) rfl), rfl⟩
theorem wm_ml_X7_1 : Cond.methodLink RX7 1 objectInit ∈ wL := List.mem_filter.mpr ⟨wL_t1 _ (List.mem_of_getElem? (i := 19) rfl), rfl⟩
theorem wm_im_objectInit : Cond.instanceMethod objectInit ∈ wL := List.mem_filter.mpr ⟨wL_t1 _ (List.mem_of_getElem? (i := 20) rfl), rfl⟩
theorem wm_cd_objectInit : Cond.code objectInit ⟨#[0xb1]⟩ 1 none ∈ wL := List.mem_filter.mpr ⟨wL_t1 _ (List.mem_of_getElem? (i := 21) rfl), rfl⟩
theorem wm_kl_X7_7 : Cond.classLink RX7 7 RX4 ∈ wL := List.mem_filter.mpr ⟨wL_t1 _ (List.mem_of_getElem? (i := 22) rfl), rfl⟩
theorem wm_it_X4 : Cond.instantiable RX4 12 ∈ wL := List.mem_filter.mpr ⟨wL_t1 _ (List.mem_of_getElem? (i := 23) rfl), rfl⟩
theorem wm_ini_X4 : Cond.initialized RX4 ∈ wL := List.mem_filter.mpr ⟨wL_t1 _ (List.mem_of_getElem? (i := 2) rfl), rfl⟩
theorem wm_fl_X7_10 : Cond.fieldLink RX7 10 "SwornPounds" "town" "LSwornPounds$Town;" ∈ wL := List.mem_filter.mpr ⟨wL_t2 _ (List.mem_of_getElem? (i := 33) rfl), rfl⟩
theorem wm_fl_X7_16 : Cond.fieldLink RX7 16 "SwornPounds" "images" "[LSwornPounds$Town;" ∈ wL := List.mem_filter.mpr ⟨wL_t2 _ (List.mem_of_getElem? (i := 34) rfl), rfl⟩
theorem wm_ac_boolean : Cond.arrayClass .boolean ∈ wL := List.mem_filter.mpr ⟨wL_t1 _ (List.mem_of_getElem? (i := 107) rfl), rfl⟩
theorem wm_fl_X7_20 : Cond.fieldLink RX7 20 "SwornPounds" "kept" "[Z" ∈ wL := List.mem_filter.mpr ⟨wL_t2 _ (List.mem_of_getElem? (i := 35) rfl), rfl⟩
theorem wm_kl_X7_24 : Cond.classLink RX7 24 RX2 ∈ wL := List.mem_filter.mpr ⟨wL_t1 _ (List.mem_of_getElem? (i := 91) rfl), rfl⟩
theorem wm_it_X2 : Cond.instantiable RX2 2 ∈ wL := List.mem_filter.mpr ⟨wL_t1 _ (List.mem_of_getElem? (i := 92) rfl), rfl⟩
theorem wm_ini_X2 : Cond.initialized RX2 ∈ wL := List.mem_filter.mpr ⟨wL_t1 _ (List.mem_of_getElem? (i := 4) rfl), rfl⟩
theorem wm_fl_X7_27 : Cond.fieldLink RX7 27 "SwornPounds" "pad" "LSwornPounds$Pad;" ∈ wL := List.mem_filter.mpr ⟨wL_t2 _ (List.mem_of_getElem? (i := 36) rfl), rfl⟩
theorem wm_kl_X7_31 : Cond.classLink RX7 31 RX1 ∈ wL := List.mem_filter.mpr ⟨wL_t1 _ (List.mem_of_getElem? (i := 108) rfl), rfl⟩
theorem wm_it_X1 : Cond.instantiable RX1 13 ∈ wL := List.mem_filter.mpr ⟨wL_t1 _ (List.mem_of_getElem? (i := 109) rfl), rfl⟩
theorem wm_ini_X1 : Cond.initialized RX1 ∈ wL := List.mem_filter.mpr ⟨wL_t1 _ (List.mem_of_getElem? (i := 5) rfl), rfl⟩
theorem wm_fl_X7_34 : Cond.fieldLink RX7 34 "SwornPounds" "market" "LSwornPounds$Market;" ∈ wL := List.mem_filter.mpr ⟨wL_t2 _ (List.mem_of_getElem? (i := 37) rfl), rfl⟩
theorem wm_kl_X7_38 : Cond.classLink RX7 38 RX3 ∈ wL := List.mem_filter.mpr ⟨wL_t1 _ (List.mem_of_getElem? (i := 159) rfl), rfl⟩
theorem wm_it_X3 : Cond.instantiable RX3 10 ∈ wL := List.mem_filter.mpr ⟨wL_t1 _ (List.mem_of_getElem? (i := 160) rfl), rfl⟩
theorem wm_ini_X3 : Cond.initialized RX3 ∈ wL := List.mem_filter.mpr ⟨wL_t1 _ (List.mem_of_getElem? (i := 6) rfl), rfl⟩
theorem wm_fl_X7_41 : Cond.fieldLink RX7 41 "SwornPounds" "pans" "LSwornPounds$Pans;" ∈ wL := List.mem_filter.mpr ⟨wL_t2 _ (List.mem_of_getElem? (i := 38) rfl), rfl⟩
theorem wm_kl_X7_45 : Cond.classLink RX7 45 RX5 ∈ wL := List.mem_filter.mpr ⟨wL_t1 _ (List.mem_of_getElem? (i := 203) rfl), rfl⟩
theorem wm_it_X5 : Cond.instantiable RX5 7 ∈ wL := List.mem_filter.mpr ⟨wL_t1 _ (List.mem_of_getElem? (i := 204) rfl), rfl⟩
theorem wm_ini_X5 : Cond.initialized RX5 ∈ wL := List.mem_filter.mpr ⟨wL_t1 _ (List.mem_of_getElem? (i := 7) rfl), rfl⟩
theorem wm_fl_X7_48 : Cond.fieldLink RX7 48 "SwornPounds" "worlds" "LSwornPounds$Worlds;" ∈ wL := List.mem_filter.mpr ⟨wL_t2 _ (List.mem_of_getElem? (i := 39) rfl), rfl⟩
theorem wm_kl_X7_52 : Cond.classLink RX7 52 RX0 ∈ wL := List.mem_filter.mpr ⟨wL_t1 _ (List.mem_of_getElem? (i := 234) rfl), rfl⟩
theorem wm_it_X0 : Cond.instantiable RX0 2 ∈ wL := List.mem_filter.mpr ⟨wL_t1 _ (List.mem_of_getElem? (i := 235) rfl), rfl⟩
theorem wm_ini_X0 : Cond.initialized RX0 ∈ wL := List.mem_filter.mpr ⟨wL_t1 _ (List.mem_of_getElem? (i := 8) rfl), rfl⟩
theorem wm_fl_X7_55 : Cond.fieldLink RX7 55 "SwornPounds" "fraction" "LSwornPounds$Fraction;" ∈ wL := List.mem_filter.mpr ⟨wL_t2 _ (List.mem_of_getElem? (i := 40) rfl), rfl⟩
theorem wm_kl_X7_59 : Cond.classLink RX7 59 RX6 ∈ wL := List.mem_filter.mpr ⟨wL_t2 _ (List.mem_of_getElem? (i := 9) rfl), rfl⟩
theorem wm_it_X6 : Cond.instantiable RX6 4 ∈ wL := List.mem_filter.mpr ⟨wL_t2 _ (List.mem_of_getElem? (i := 10) rfl), rfl⟩
theorem wm_ini_X6 : Cond.initialized RX6 ∈ wL := List.mem_filter.mpr ⟨wL_t1 _ (List.mem_of_getElem? (i := 9) rfl), rfl⟩
theorem wm_fl_X7_62 : Cond.fieldLink RX7 62 "SwornPounds" "years" "LSwornPounds$Year;" ∈ wL := List.mem_filter.mpr ⟨wL_t2 _ (List.mem_of_getElem? (i := 41) rfl), rfl⟩
theorem wm_ml_X7_9 : Cond.methodLink RX7 9 yX4_init ∈ wL := List.mem_filter.mpr ⟨wL_t1 _ (List.mem_of_getElem? (i := 24) rfl), rfl⟩
theorem wm_im_X4_init : Cond.instanceMethod yX4_init ∈ wL := List.mem_filter.mpr ⟨wL_t1 _ (List.mem_of_getElem? (i := 25) rfl), rfl⟩
theorem wm_cd_X4_init : Cond.code yX4_init cX4_init 1 none ∈ wL := List.mem_filter.mpr ⟨wL_t1 _ (List.mem_of_getElem? (i := 26) rfl), rfl⟩
theorem wm_ml_X4_3 : Cond.methodLink RX4 3 objectInit ∈ wL := List.mem_filter.mpr ⟨wL_t1 _ (List.mem_of_getElem? (i := 27) rfl), rfl⟩
theorem wm_ac_int : Cond.arrayClass .int ∈ wL := List.mem_filter.mpr ⟨wL_t1 _ (List.mem_of_getElem? (i := 89) rfl), rfl⟩
theorem wm_fl_X4_9 : Cond.fieldLink RX4 9 "SwornPounds$Town" "sworn" "[I" ∈ wL := List.mem_filter.mpr ⟨wL_t1 _ (List.mem_of_getElem? (i := 31) rfl), rfl⟩
theorem wm_fl_X4_15 : Cond.fieldLink RX4 15 "SwornPounds$Town" "weight" "[I" ∈ wL := List.mem_filter.mpr ⟨wL_t1 _ (List.mem_of_getElem? (i := 37) rfl), rfl⟩
theorem wm_fl_X4_18 : Cond.fieldLink RX4 18 "SwornPounds$Town" "drift" "[I" ∈ wL := List.mem_filter.mpr ⟨wL_t1 _ (List.mem_of_getElem? (i := 40) rfl), rfl⟩
theorem wm_fl_X4_21 : Cond.fieldLink RX4 21 "SwornPounds$Town" "spouse" "[I" ∈ wL := List.mem_filter.mpr ⟨wL_t1 _ (List.mem_of_getElem? (i := 42) rfl), rfl⟩
theorem wm_fl_X4_24 : Cond.fieldLink RX4 24 "SwornPounds$Town" "sightFirst" "[I" ∈ wL := List.mem_filter.mpr ⟨wL_t1 _ (List.mem_of_getElem? (i := 44) rfl), rfl⟩
theorem wm_fl_X4_27 : Cond.fieldLink RX4 27 "SwornPounds$Town" "sightSecond" "[I" ∈ wL := List.mem_filter.mpr ⟨wL_t1 _ (List.mem_of_getElem? (i := 46) rfl), rfl⟩
theorem wm_fl_X4_30 : Cond.fieldLink RX4 30 "SwornPounds$Town" "sightHow" "[I" ∈ wL := List.mem_filter.mpr ⟨wL_t1 _ (List.mem_of_getElem? (i := 48) rfl), rfl⟩
theorem wm_fl_X4_33 : Cond.fieldLink RX4 33 "SwornPounds$Town" "limit" "I" ∈ wL := List.mem_filter.mpr ⟨wL_t1 _ (List.mem_of_getElem? (i := 55) rfl), rfl⟩
theorem wm_ml_X4_37 : Cond.methodLink RX4 37 yJ7_fill_53178 ∈ wL := List.mem_filter.mpr ⟨wL_t1 _ (List.mem_of_getElem? (i := 28) rfl), rfl⟩
theorem wm_st_J7_fill_53178 : Cond.static yJ7_fill_53178 ∈ wL := List.mem_filter.mpr ⟨wL_t1 _ (List.mem_of_getElem? (i := 29) rfl), rfl⟩
theorem wm_ini_J7 : Cond.initialized RJ7 ∈ wL := List.mem_filter.mpr ⟨wL_t1 _ (List.mem_of_getElem? (i := 3) rfl), rfl⟩
theorem wm_cd_J7_fill_53178 : Cond.code yJ7_fill_53178 cJ7_fill_53178 4 none ∈ wL := List.mem_filter.mpr ⟨wL_t1 _ (List.mem_of_getElem? (i := 30) rfl), rfl⟩
theorem wm_im_X2_init : Cond.instanceMethod yX2_init ∈ wL := List.mem_filter.mpr ⟨wL_t1 _ (List.mem_of_getElem? (i := 94) rfl), rfl⟩
theorem wm_cd_X2_init : Cond.code yX2_init cX2_init 1 none ∈ wL := List.mem_filter.mpr ⟨wL_t1 _ (List.mem_of_getElem? (i := 95) rfl), rfl⟩
theorem wm_ml_X2_3 : Cond.methodLink RX2 3 objectInit ∈ wL := List.mem_filter.mpr ⟨wL_t1 _ (List.mem_of_getElem? (i := 96) rfl), rfl⟩
theorem wm_fl_X2_9 : Cond.fieldLink RX2 9 "SwornPounds$Pad" "signs" "[I" ∈ wL := List.mem_filter.mpr ⟨wL_t1 _ (List.mem_of_getElem? (i := 97) rfl), rfl⟩
theorem wm_im_X1_init : Cond.instanceMethod yX1_init ∈ wL := List.mem_filter.mpr ⟨wL_t1 _ (List.mem_of_getElem? (i := 111) rfl), rfl⟩
theorem wm_cd_X1_init : Cond.code yX1_init cX1_init 1 none ∈ wL := List.mem_filter.mpr ⟨wL_t1 _ (List.mem_of_getElem? (i := 112) rfl), rfl⟩
theorem wm_ml_X1_3 : Cond.methodLink RX1 3 objectInit ∈ wL := List.mem_filter.mpr ⟨wL_t1 _ (List.mem_of_getElem? (i := 113) rfl), rfl⟩
theorem wm_kl_X1_9 : Cond.classLink RX1 9 RX4 ∈ wL := List.mem_filter.mpr ⟨wL_t1 _ (List.mem_of_getElem? (i := 114) rfl), rfl⟩
theorem wm_fl_X1_12 : Cond.fieldLink RX1 12 "SwornPounds$Market" "after" "LSwornPounds$Town;" ∈ wL := List.mem_filter.mpr ⟨wL_t1 _ (List.mem_of_getElem? (i := 116) rfl), rfl⟩
theorem wm_ml_X1_11 : Cond.methodLink RX1 11 yX4_init ∈ wL := List.mem_filter.mpr ⟨wL_t1 _ (List.mem_of_getElem? (i := 115) rfl), rfl⟩
theorem wm_im_X3_init : Cond.instanceMethod yX3_init ∈ wL := List.mem_filter.mpr ⟨wL_t1 _ (List.mem_of_getElem? (i := 162) rfl), rfl⟩
theorem wm_cd_X3_init : Cond.code yX3_init cX3_init 1 none ∈ wL := List.mem_filter.mpr ⟨wL_t1 _ (List.mem_of_getElem? (i := 163) rfl), rfl⟩
theorem wm_ml_X3_3 : Cond.methodLink RX3 3 objectInit ∈ wL := List.mem_filter.mpr ⟨wL_t1 _ (List.mem_of_getElem? (i := 164) rfl), rfl⟩
theorem wm_fl_X3_9 : Cond.fieldLink RX3 9 "SwornPounds$Pans" "pounds" "[I" ∈ wL := List.mem_filter.mpr ⟨wL_t1 _ (List.mem_of_getElem? (i := 165) rfl), rfl⟩
theorem wm_fl_X3_15 : Cond.fieldLink RX3 15 "SwornPounds$Pans" "sworn" "[I" ∈ wL := List.mem_filter.mpr ⟨wL_t1 _ (List.mem_of_getElem? (i := 166) rfl), rfl⟩
theorem wm_fl_X3_18 : Cond.fieldLink RX3 18 "SwornPounds$Pans" "partners" "[I" ∈ wL := List.mem_filter.mpr ⟨wL_t1 _ (List.mem_of_getElem? (i := 167) rfl), rfl⟩
theorem wm_ac_byte : Cond.arrayClass .byte ∈ wL := List.mem_filter.mpr ⟨wL_t1 _ (List.mem_of_getElem? (i := 202) rfl), rfl⟩
theorem wm_fl_X3_21 : Cond.fieldLink RX3 21 "SwornPounds$Pans" "made" "[B" ∈ wL := List.mem_filter.mpr ⟨wL_t1 _ (List.mem_of_getElem? (i := 168) rfl), rfl⟩
theorem wm_im_X5_init : Cond.instanceMethod yX5_init ∈ wL := List.mem_filter.mpr ⟨wL_t1 _ (List.mem_of_getElem? (i := 206) rfl), rfl⟩
theorem wm_cd_X5_init : Cond.code yX5_init cX5_init 1 none ∈ wL := List.mem_filter.mpr ⟨wL_t1 _ (List.mem_of_getElem? (i := 207) rfl), rfl⟩
theorem wm_ml_X5_5 : Cond.methodLink RX5 5 objectInit ∈ wL := List.mem_filter.mpr ⟨wL_t1 _ (List.mem_of_getElem? (i := 208) rfl), rfl⟩
theorem wm_fl_X5_11 : Cond.fieldLink RX5 11 "SwornPounds$Worlds" "who" "[I" ∈ wL := List.mem_filter.mpr ⟨wL_t1 _ (List.mem_of_getElem? (i := 209) rfl), rfl⟩
theorem wm_fl_X5_15 : Cond.fieldLink RX5 15 "SwornPounds$Worlds" "more" "[I" ∈ wL := List.mem_filter.mpr ⟨wL_t1 _ (List.mem_of_getElem? (i := 210) rfl), rfl⟩
theorem wm_fl_X5_18 : Cond.fieldLink RX5 18 "SwornPounds$Worlds" "leads" "[I" ∈ wL := List.mem_filter.mpr ⟨wL_t1 _ (List.mem_of_getElem? (i := 211) rfl), rfl⟩
theorem wm_fl_X5_21 : Cond.fieldLink RX5 21 "SwornPounds$Worlds" "left" "[I" ∈ wL := List.mem_filter.mpr ⟨wL_t1 _ (List.mem_of_getElem? (i := 212) rfl), rfl⟩
theorem wm_im_X0_init : Cond.instanceMethod yX0_init ∈ wL := List.mem_filter.mpr ⟨wL_t1 _ (List.mem_of_getElem? (i := 237) rfl), rfl⟩
theorem wm_cd_X0_init : Cond.code yX0_init cX0_init 1 none ∈ wL := List.mem_filter.mpr ⟨wL_t1 _ (List.mem_of_getElem? (i := 238) rfl), rfl⟩
theorem wm_ml_X0_1 : Cond.methodLink RX0 1 objectInit ∈ wL := List.mem_filter.mpr ⟨wL_t1 _ (List.mem_of_getElem? (i := 239) rfl), rfl⟩
theorem wm_im_X6_init : Cond.instanceMethod yX6_init ∈ wL := List.mem_filter.mpr ⟨wL_t2 _ (List.mem_of_getElem? (i := 12) rfl), rfl⟩
theorem wm_cd_X6_init : Cond.code yX6_init cX6_init 1 none ∈ wL := List.mem_filter.mpr ⟨wL_t2 _ (List.mem_of_getElem? (i := 13) rfl), rfl⟩
theorem wm_ml_X6_1 : Cond.methodLink RX6 1 objectInit ∈ wL := List.mem_filter.mpr ⟨wL_t2 _ (List.mem_of_getElem? (i := 14) rfl), rfl⟩
theorem wm_kl_X6_7 : Cond.classLink RX6 7 RX4 ∈ wL := List.mem_filter.mpr ⟨wL_t2 _ (List.mem_of_getElem? (i := 15) rfl), rfl⟩
theorem wm_fl_X6_10 : Cond.fieldLink RX6 10 "SwornPounds$Year" "then" "LSwornPounds$Town;" ∈ wL := List.mem_filter.mpr ⟨wL_t2 _ (List.mem_of_getElem? (i := 17) rfl), rfl⟩
theorem wm_ml_X6_9 : Cond.methodLink RX6 9 yX4_init ∈ wL := List.mem_filter.mpr ⟨wL_t2 _ (List.mem_of_getElem? (i := 16) rfl), rfl⟩
theorem wm_ml_L_12 : Cond.methodLink RL 12 yX8_init ∈ wL := List.mem_filter.mpr ⟨wL_t4 _ (List.mem_of_getElem? (i := 62) rfl), rfl⟩
theorem wm_im_X8_init : Cond.instanceMethod yX8_init ∈ wL := List.mem_filter.mpr ⟨wL_t4 _ (List.mem_of_getElem? (i := 63) rfl), rfl⟩
theorem wm_cd_X8_init : Cond.code yX8_init cX8_init 2 none ∈ wL := List.mem_filter.mpr ⟨wL_t4 _ (List.mem_of_getElem? (i := 64) rfl), rfl⟩
theorem wm_ml_X8_1 : Cond.methodLink RX8 1 objectInit ∈ wL := List.mem_filter.mpr ⟨wL_t4 _ (List.mem_of_getElem? (i := 65) rfl), rfl⟩
theorem wm_fl_X8_7 : Cond.fieldLink RX8 7 "SwornPoundsModel" "sworn" "[I" ∈ wL := List.mem_filter.mpr ⟨wL_t4 _ (List.mem_of_getElem? (i := 70) rfl), rfl⟩
theorem wm_fl_X8_13 : Cond.fieldLink RX8 13 "SwornPoundsModel" "weight" "[I" ∈ wL := List.mem_filter.mpr ⟨wL_t4 _ (List.mem_of_getElem? (i := 71) rfl), rfl⟩
theorem wm_fl_X8_16 : Cond.fieldLink RX8 16 "SwornPoundsModel" "drift" "[I" ∈ wL := List.mem_filter.mpr ⟨wL_t4 _ (List.mem_of_getElem? (i := 72) rfl), rfl⟩
theorem wm_fl_X8_19 : Cond.fieldLink RX8 19 "SwornPoundsModel" "mate" "[I" ∈ wL := List.mem_filter.mpr ⟨wL_t4 _ (List.mem_of_getElem? (i := 73) rfl), rfl⟩
theorem wm_fl_X8_22 : Cond.fieldLink RX8 22 "SwornPoundsModel" "sightFirst" "[I" ∈ wL := List.mem_filter.mpr ⟨wL_t4 _ (List.mem_of_getElem? (i := 74) rfl), rfl⟩
theorem wm_fl_X8_25 : Cond.fieldLink RX8 25 "SwornPoundsModel" "sightSecond" "[I" ∈ wL := List.mem_filter.mpr ⟨wL_t4 _ (List.mem_of_getElem? (i := 75) rfl), rfl⟩
theorem wm_fl_X8_28 : Cond.fieldLink RX8 28 "SwornPoundsModel" "sightHow" "[I" ∈ wL := List.mem_filter.mpr ⟨wL_t4 _ (List.mem_of_getElem? (i := 76) rfl), rfl⟩
theorem wm_fl_X8_31 : Cond.fieldLink RX8 31 "SwornPoundsModel" "pad" "[I" ∈ wL := List.mem_filter.mpr ⟨wL_t4 _ (List.mem_of_getElem? (i := 78) rfl), rfl⟩
theorem wm_fl_X8_34 : Cond.fieldLink RX8 34 "SwornPoundsModel" "act" "[I" ∈ wL := List.mem_filter.mpr ⟨wL_t4 _ (List.mem_of_getElem? (i := 80) rfl), rfl⟩
theorem wm_fl_X8_37 : Cond.fieldLink RX8 37 "SwornPoundsModel" "near" "[I" ∈ wL := List.mem_filter.mpr ⟨wL_t4 _ (List.mem_of_getElem? (i := 81) rfl), rfl⟩
theorem wm_fl_X8_40 : Cond.fieldLink RX8 40 "SwornPoundsModel" "across" "[I" ∈ wL := List.mem_filter.mpr ⟨wL_t4 _ (List.mem_of_getElem? (i := 82) rfl), rfl⟩
theorem wm_fl_X8_43 : Cond.fieldLink RX8 43 "SwornPoundsModel" "twice" "[I" ∈ wL := List.mem_filter.mpr ⟨wL_t4 _ (List.mem_of_getElem? (i := 83) rfl), rfl⟩
theorem wm_fl_X8_46 : Cond.fieldLink RX8 46 "SwornPoundsModel" "hadWeight" "[I" ∈ wL := List.mem_filter.mpr ⟨wL_t4 _ (List.mem_of_getElem? (i := 89) rfl), rfl⟩
theorem wm_fl_X8_49 : Cond.fieldLink RX8 49 "SwornPoundsModel" "leavesPounds" "[I" ∈ wL := List.mem_filter.mpr ⟨wL_t4 _ (List.mem_of_getElem? (i := 94) rfl), rfl⟩
theorem wm_fl_X8_52 : Cond.fieldLink RX8 52 "SwornPoundsModel" "leavesWeight" "[I" ∈ wL := List.mem_filter.mpr ⟨wL_t4 _ (List.mem_of_getElem? (i := 95) rfl), rfl⟩
theorem wm_fl_X8_55 : Cond.fieldLink RX8 55 "SwornPoundsModel" "made" "[Z" ∈ wL := List.mem_filter.mpr ⟨wL_t4 _ (List.mem_of_getElem? (i := 99) rfl), rfl⟩
theorem wm_fl_X8_59 : Cond.fieldLink RX8 59 "SwornPoundsModel" "worldWho" "[I" ∈ wL := List.mem_filter.mpr ⟨wL_t4 _ (List.mem_of_getElem? (i := 100) rfl), rfl⟩
theorem wm_fl_X8_62 : Cond.fieldLink RX8 62 "SwornPoundsModel" "worldBy" "[I" ∈ wL := List.mem_filter.mpr ⟨wL_t4 _ (List.mem_of_getElem? (i := 101) rfl), rfl⟩
theorem wm_fl_X8_65 : Cond.fieldLink RX8 65 "SwornPoundsModel" "kept" "[I" ∈ wL := List.mem_filter.mpr ⟨wL_t4 _ (List.mem_of_getElem? (i := 103) rfl), rfl⟩
theorem wm_fl_X8_68 : Cond.fieldLink RX8 68 "SwornPoundsModel" "isKept" "[Z" ∈ wL := List.mem_filter.mpr ⟨wL_t4 _ (List.mem_of_getElem? (i := 104) rfl), rfl⟩
theorem wm_fl_X8_71 : Cond.fieldLink RX8 71 "SwornPoundsModel" "limit" "I" ∈ wL := List.mem_filter.mpr ⟨wL_t4 _ (List.mem_of_getElem? (i := 68) rfl), rfl⟩
theorem wm_ml_L_13 : Cond.methodLink RL 13 yX7_person ∈ wL := List.mem_filter.mpr ⟨wL_t2 _ (List.mem_of_getElem? (i := 61) rfl), rfl⟩
theorem wm_im_X7_person : Cond.instanceMethod yX7_person ∈ wL := List.mem_filter.mpr ⟨wL_t2 _ (List.mem_of_getElem? (i := 62) rfl), rfl⟩
theorem wm_se_X7_person : Cond.selects RX7 yX7_person yX7_person ∈ wL := List.mem_filter.mpr ⟨wL_t2 _ (List.mem_of_getElem? (i := 63) rfl), rfl⟩
theorem wm_cd_X7_person : Cond.code yX7_person cX7_person 5 (some .int) ∈ wL := List.mem_filter.mpr ⟨wL_t2 _ (List.mem_of_getElem? (i := 64) rfl), rfl⟩
theorem wm_ml_X7_66 : Cond.methodLink RX7 66 yX7_within ∈ wL := List.mem_filter.mpr ⟨wL_t2 _ (List.mem_of_getElem? (i := 65) rfl), rfl⟩
theorem wm_st_X7_within : Cond.static yX7_within ∈ wL := List.mem_filter.mpr ⟨wL_t2 _ (List.mem_of_getElem? (i := 66) rfl), rfl⟩
theorem wm_cd_X7_within : Cond.code yX7_within cX7_within 3 (some .boolean) ∈ wL := List.mem_filter.mpr ⟨wL_t2 _ (List.mem_of_getElem? (i := 67) rfl), rfl⟩
theorem wm_ml_X7_70 : Cond.methodLink RX7 70 yX4_settle ∈ wL := List.mem_filter.mpr ⟨wL_t2 _ (List.mem_of_getElem? (i := 68) rfl), rfl⟩
theorem wm_im_X4_settle : Cond.instanceMethod yX4_settle ∈ wL := List.mem_filter.mpr ⟨wL_t2 _ (List.mem_of_getElem? (i := 69) rfl), rfl⟩
theorem wm_se_X4_settle : Cond.selects RX4 yX4_settle yX4_settle ∈ wL := List.mem_filter.mpr ⟨wL_t2 _ (List.mem_of_getElem? (i := 70) rfl), rfl⟩
theorem wm_cd_X4_settle : Cond.code yX4_settle cX4_settle 5 none ∈ wL := List.mem_filter.mpr ⟨wL_t2 _ (List.mem_of_getElem? (i := 71) rfl), rfl⟩
theorem wm_fl_X4_49 : Cond.fieldLink RX4 49 "SwornPounds$Town" "there" "I" ∈ wL := List.mem_filter.mpr ⟨wL_t1 _ (List.mem_of_getElem? (i := 50) rfl), rfl⟩
theorem wm_fl_X4_52 : Cond.fieldLink RX4 52 "SwornPounds$Town" "colds" "I" ∈ wL := List.mem_filter.mpr ⟨wL_t1 _ (List.mem_of_getElem? (i := 53) rfl), rfl⟩
theorem wm_ml_X7_74 : Cond.methodLink RX7 74 yX4_headcount ∈ wL := List.mem_filter.mpr ⟨wL_t2 _ (List.mem_of_getElem? (i := 72) rfl), rfl⟩
theorem wm_im_X4_headcount : Cond.instanceMethod yX4_headcount ∈ wL := List.mem_filter.mpr ⟨wL_t2 _ (List.mem_of_getElem? (i := 73) rfl), rfl⟩
theorem wm_se_X4_headcount : Cond.selects RX4 yX4_headcount yX4_headcount ∈ wL := List.mem_filter.mpr ⟨wL_t2 _ (List.mem_of_getElem? (i := 74) rfl), rfl⟩
theorem wm_cd_X4_headcount : Cond.code yX4_headcount cX4_headcount 1 (some .int) ∈ wL := List.mem_filter.mpr ⟨wL_t2 _ (List.mem_of_getElem? (i := 75) rfl), rfl⟩
theorem wm_ml_X4_65 : Cond.methodLink RX4 65 yJ6_bitCount_0f7a4 ∈ wL := List.mem_filter.mpr ⟨wL_t2 _ (List.mem_of_getElem? (i := 76) rfl), rfl⟩
theorem wm_st_J6_bitCount_0f7a4 : Cond.static yJ6_bitCount_0f7a4 ∈ wL := List.mem_filter.mpr ⟨wL_t2 _ (List.mem_of_getElem? (i := 77) rfl), rfl⟩
theorem wm_ini_J6 : Cond.initialized RJ6 ∈ wL := List.mem_filter.mpr ⟨wL_t1 _ (List.mem_of_getElem? (i := 11) rfl), rfl⟩
theorem wm_cd_J6_bitCount_0f7a4 : Cond.code yJ6_bitCount_0f7a4 cJ6_bitCount_0f7a4 1 (some .int) ∈ wL := List.mem_filter.mpr ⟨wL_t2 _ (List.mem_of_getElem? (i := 78) rfl), rfl⟩
theorem wm_ck_J6_265 : Cond.constant RJ6 265 (1431655765) ∈ wL := List.mem_filter.mpr ⟨wL_t2 _ (List.mem_of_getElem? (i := 79) rfl), rfl⟩
theorem wm_ck_J6_266 : Cond.constant RJ6 266 (858993459) ∈ wL := List.mem_filter.mpr ⟨wL_t2 _ (List.mem_of_getElem? (i := 80) rfl), rfl⟩
theorem wm_ck_J6_267 : Cond.constant RJ6 267 (252645135) ∈ wL := List.mem_filter.mpr ⟨wL_t2 _ (List.mem_of_getElem? (i := 81) rfl), rfl⟩
theorem wm_ml_L_17 : Cond.methodLink RL 17 yX8_person ∈ wL := List.mem_filter.mpr ⟨wL_t4 _ (List.mem_of_getElem? (i := 190) rfl), rfl⟩
theorem wm_im_X8_person : Cond.instanceMethod yX8_person ∈ wL := List.mem_filter.mpr ⟨wL_t4 _ (List.mem_of_getElem? (i := 191) rfl), rfl⟩
theorem wm_se_X8_person : Cond.selects RX8 yX8_person yX8_person ∈ wL := List.mem_filter.mpr ⟨wL_t4 _ (List.mem_of_getElem? (i := 192) rfl), rfl⟩
theorem wm_cd_X8_person : Cond.code yX8_person cX8_person 5 (some .int) ∈ wL := List.mem_filter.mpr ⟨wL_t4 _ (List.mem_of_getElem? (i := 193) rfl), rfl⟩
theorem wm_cl_X8_75 : Cond.constantLong RX8 75 (7) ∈ wL := List.mem_filter.mpr ⟨wL_t4 _ (List.mem_of_getElem? (i := 194) rfl), rfl⟩
theorem wm_cl_X8_91 : Cond.constantLong RX8 91 (200) ∈ wL := List.mem_filter.mpr ⟨wL_t4 _ (List.mem_of_getElem? (i := 198) rfl), rfl⟩
theorem wm_cl_X8_93 : Cond.constantLong RX8 93 (400) ∈ wL := List.mem_filter.mpr ⟨wL_t4 _ (List.mem_of_getElem? (i := 199) rfl), rfl⟩
theorem wm_cl_X8_95 : Cond.constantLong RX8 95 (-9) ∈ wL := List.mem_filter.mpr ⟨wL_t4 _ (List.mem_of_getElem? (i := 200) rfl), rfl⟩
theorem wm_cl_X8_97 : Cond.constantLong RX8 97 (9) ∈ wL := List.mem_filter.mpr ⟨wL_t4 _ (List.mem_of_getElem? (i := 201) rfl), rfl⟩
theorem wm_fl_X8_81 : Cond.fieldLink RX8 81 "SwornPoundsModel" "persons" "I" ∈ wL := List.mem_filter.mpr ⟨wL_t4 _ (List.mem_of_getElem? (i := 66) rfl), rfl⟩
theorem wm_fl_X8_88 : Cond.fieldLink RX8 88 "SwornPoundsModel" "colds" "I" ∈ wL := List.mem_filter.mpr ⟨wL_t4 _ (List.mem_of_getElem? (i := 67) rfl), rfl⟩
theorem wm_ml_X8_77 : Cond.methodLink RX8 77 yX8_in ∈ wL := List.mem_filter.mpr ⟨wL_t4 _ (List.mem_of_getElem? (i := 195) rfl), rfl⟩
theorem wm_st_X8_in : Cond.static yX8_in ∈ wL := List.mem_filter.mpr ⟨wL_t4 _ (List.mem_of_getElem? (i := 196) rfl), rfl⟩
theorem wm_cd_X8_in : Cond.code yX8_in cX8_in 6 (some .boolean) ∈ wL := List.mem_filter.mpr ⟨wL_t4 _ (List.mem_of_getElem? (i := 197) rfl), rfl⟩
theorem wm_ml_X8_99 : Cond.methodLink RX8 99 yX8_ones ∈ wL := List.mem_filter.mpr ⟨wL_t4 _ (List.mem_of_getElem? (i := 202) rfl), rfl⟩
theorem wm_st_X8_ones : Cond.static yX8_ones ∈ wL := List.mem_filter.mpr ⟨wL_t4 _ (List.mem_of_getElem? (i := 203) rfl), rfl⟩
theorem wm_cd_X8_ones : Cond.code yX8_ones cX8_ones 3 (some .int) ∈ wL := List.mem_filter.mpr ⟨wL_t4 _ (List.mem_of_getElem? (i := 204) rfl), rfl⟩
theorem wm_ml_L_18 : Cond.methodLink RL 18 yX7_leave ∈ wL := List.mem_filter.mpr ⟨wL_t2 _ (List.mem_of_getElem? (i := 82) rfl), rfl⟩
theorem wm_im_X7_leave : Cond.instanceMethod yX7_leave ∈ wL := List.mem_filter.mpr ⟨wL_t2 _ (List.mem_of_getElem? (i := 83) rfl), rfl⟩
theorem wm_se_X7_leave : Cond.selects RX7 yX7_leave yX7_leave ∈ wL := List.mem_filter.mpr ⟨wL_t2 _ (List.mem_of_getElem? (i := 84) rfl), rfl⟩
theorem wm_cd_X7_leave : Cond.code yX7_leave cX7_leave 2 (some .int) ∈ wL := List.mem_filter.mpr ⟨wL_t2 _ (List.mem_of_getElem? (i := 85) rfl), rfl⟩
theorem wm_ml_X7_78 : Cond.methodLink RX7 78 yX4_has ∈ wL := List.mem_filter.mpr ⟨wL_t2 _ (List.mem_of_getElem? (i := 86) rfl), rfl⟩
theorem wm_im_X4_has : Cond.instanceMethod yX4_has ∈ wL := List.mem_filter.mpr ⟨wL_t2 _ (List.mem_of_getElem? (i := 87) rfl), rfl⟩
theorem wm_se_X4_has : Cond.selects RX4 yX4_has yX4_has ∈ wL := List.mem_filter.mpr ⟨wL_t2 _ (List.mem_of_getElem? (i := 88) rfl), rfl⟩
theorem wm_cd_X4_has : Cond.code yX4_has cX4_has 2 (some .boolean) ∈ wL := List.mem_filter.mpr ⟨wL_t2 _ (List.mem_of_getElem? (i := 89) rfl), rfl⟩
theorem wm_ml_X7_82 : Cond.methodLink RX7 82 yX4_remove ∈ wL := List.mem_filter.mpr ⟨wL_t2 _ (List.mem_of_getElem? (i := 90) rfl), rfl⟩
theorem wm_im_X4_remove : Cond.instanceMethod yX4_remove ∈ wL := List.mem_filter.mpr ⟨wL_t2 _ (List.mem_of_getElem? (i := 91) rfl), rfl⟩
theorem wm_se_X4_remove : Cond.selects RX4 yX4_remove yX4_remove ∈ wL := List.mem_filter.mpr ⟨wL_t2 _ (List.mem_of_getElem? (i := 92) rfl), rfl⟩
theorem wm_cd_X4_remove : Cond.code yX4_remove cX4_remove 2 none ∈ wL := List.mem_filter.mpr ⟨wL_t2 _ (List.mem_of_getElem? (i := 93) rfl), rfl⟩
theorem wm_ml_X4_71 : Cond.methodLink RX4 71 yX4_part ∈ wL := List.mem_filter.mpr ⟨wL_t2 _ (List.mem_of_getElem? (i := 94) rfl), rfl⟩
theorem wm_im_X4_part : Cond.instanceMethod yX4_part ∈ wL := List.mem_filter.mpr ⟨wL_t2 _ (List.mem_of_getElem? (i := 95) rfl), rfl⟩
theorem wm_se_X4_part : Cond.selects RX4 yX4_part yX4_part ∈ wL := List.mem_filter.mpr ⟨wL_t2 _ (List.mem_of_getElem? (i := 96) rfl), rfl⟩
theorem wm_cd_X4_part : Cond.code yX4_part cX4_part 3 none ∈ wL := List.mem_filter.mpr ⟨wL_t2 _ (List.mem_of_getElem? (i := 97) rfl), rfl⟩
theorem wm_ml_X4_61 : Cond.methodLink RX4 61 yX4_has ∈ wL := List.mem_filter.mpr ⟨wL_t2 _ (List.mem_of_getElem? (i := 98) rfl), rfl⟩
theorem wm_ml_L_22 : Cond.methodLink RL 22 yX8_leave ∈ wL := List.mem_filter.mpr ⟨wL_t4 _ (List.mem_of_getElem? (i := 205) rfl), rfl⟩
theorem wm_im_X8_leave : Cond.instanceMethod yX8_leave ∈ wL := List.mem_filter.mpr ⟨wL_t4 _ (List.mem_of_getElem? (i := 206) rfl), rfl⟩
theorem wm_se_X8_leave : Cond.selects RX8 yX8_leave yX8_leave ∈ wL := List.mem_filter.mpr ⟨wL_t4 _ (List.mem_of_getElem? (i := 207) rfl), rfl⟩
theorem wm_cd_X8_leave : Cond.code yX8_leave cX8_leave 2 (some .int) ∈ wL := List.mem_filter.mpr ⟨wL_t4 _ (List.mem_of_getElem? (i := 208) rfl), rfl⟩
theorem wm_ml_X8_84 : Cond.methodLink RX8 84 yX8_isPerson ∈ wL := List.mem_filter.mpr ⟨wL_t4 _ (List.mem_of_getElem? (i := 209) rfl), rfl⟩
theorem wm_im_X8_isPerson : Cond.instanceMethod yX8_isPerson ∈ wL := List.mem_filter.mpr ⟨wL_t4 _ (List.mem_of_getElem? (i := 211) rfl), rfl⟩
theorem wm_se_X8_isPerson : Cond.selects RX8 yX8_isPerson yX8_isPerson ∈ wL := List.mem_filter.mpr ⟨wL_p2 (⟨"SwornPoundsModel", "isPerson", "(I)Z"⟩, _) (List.mem_of_getElem? (i := 8) rfl), rfl⟩
theorem wm_cd_X8_isPerson : Cond.code yX8_isPerson cX8_isPerson 2 (some .boolean) ∈ wL := List.mem_filter.mpr ⟨wL_t4 _ (List.mem_of_getElem? (i := 212) rfl), rfl⟩
theorem wm_ml_X8_103 : Cond.methodLink RX8 103 yX8_part ∈ wL := List.mem_filter.mpr ⟨wL_t4 _ (List.mem_of_getElem? (i := 213) rfl), rfl⟩
theorem wm_im_X8_part : Cond.instanceMethod yX8_part ∈ wL := List.mem_filter.mpr ⟨wL_t4 _ (List.mem_of_getElem? (i := 215) rfl), rfl⟩
theorem wm_se_X8_part : Cond.selects RX8 yX8_part yX8_part ∈ wL := List.mem_filter.mpr ⟨wL_p2 (⟨"SwornPoundsModel", "part", "(I)V"⟩, _) (List.mem_of_getElem? (i := 9) rfl), rfl⟩
theorem wm_cd_X8_part : Cond.code yX8_part cX8_part 2 none ∈ wL := List.mem_filter.mpr ⟨wL_t4 _ (List.mem_of_getElem? (i := 216) rfl), rfl⟩
theorem wm_ml_L_23 : Cond.methodLink RL 23 yX7_marry ∈ wL := List.mem_filter.mpr ⟨wL_t2 _ (List.mem_of_getElem? (i := 99) rfl), rfl⟩
theorem wm_im_X7_marry : Cond.instanceMethod yX7_marry ∈ wL := List.mem_filter.mpr ⟨wL_t2 _ (List.mem_of_getElem? (i := 100) rfl), rfl⟩
theorem wm_se_X7_marry : Cond.selects RX7 yX7_marry yX7_marry ∈ wL := List.mem_filter.mpr ⟨wL_t2 _ (List.mem_of_getElem? (i := 101) rfl), rfl⟩
theorem wm_cd_X7_marry : Cond.code yX7_marry cX7_marry 4 (some .int) ∈ wL := List.mem_filter.mpr ⟨wL_t2 _ (List.mem_of_getElem? (i := 102) rfl), rfl⟩
theorem wm_ml_X7_86 : Cond.methodLink RX7 86 yX4_hasTwo ∈ wL := List.mem_filter.mpr ⟨wL_t2 _ (List.mem_of_getElem? (i := 103) rfl), rfl⟩
theorem wm_im_X4_hasTwo : Cond.instanceMethod yX4_hasTwo ∈ wL := List.mem_filter.mpr ⟨wL_t2 _ (List.mem_of_getElem? (i := 104) rfl), rfl⟩
theorem wm_se_X4_hasTwo : Cond.selects RX4 yX4_hasTwo yX4_hasTwo ∈ wL := List.mem_filter.mpr ⟨wL_t2 _ (List.mem_of_getElem? (i := 105) rfl), rfl⟩
theorem wm_cd_X4_hasTwo : Cond.code yX4_hasTwo cX4_hasTwo 3 (some .boolean) ∈ wL := List.mem_filter.mpr ⟨wL_t2 _ (List.mem_of_getElem? (i := 106) rfl), rfl⟩
theorem wm_ml_X7_90 : Cond.methodLink RX7 90 yX4_mayMarry ∈ wL := List.mem_filter.mpr ⟨wL_t2 _ (List.mem_of_getElem? (i := 107) rfl), rfl⟩
theorem wm_im_X4_mayMarry : Cond.instanceMethod yX4_mayMarry ∈ wL := List.mem_filter.mpr ⟨wL_t2 _ (List.mem_of_getElem? (i := 108) rfl), rfl⟩
theorem wm_se_X4_mayMarry : Cond.selects RX4 yX4_mayMarry yX4_mayMarry ∈ wL := List.mem_filter.mpr ⟨wL_t2 _ (List.mem_of_getElem? (i := 109) rfl), rfl⟩
theorem wm_cd_X4_mayMarry : Cond.code yX4_mayMarry cX4_mayMarry 3 (some .boolean) ∈ wL := List.mem_filter.mpr ⟨wL_t2 _ (List.mem_of_getElem? (i := 110) rfl), rfl⟩
theorem wm_ml_X4_75 : Cond.methodLink RX4 75 yX4_areMarried ∈ wL := List.mem_filter.mpr ⟨wL_t2 _ (List.mem_of_getElem? (i := 111) rfl), rfl⟩
theorem wm_im_X4_areMarried : Cond.instanceMethod yX4_areMarried ∈ wL := List.mem_filter.mpr ⟨wL_t2 _ (List.mem_of_getElem? (i := 112) rfl), rfl⟩
theorem wm_se_X4_areMarried : Cond.selects RX4 yX4_areMarried yX4_areMarried ∈ wL := List.mem_filter.mpr ⟨wL_t2 _ (List.mem_of_getElem? (i := 113) rfl), rfl⟩
theorem wm_cd_X4_areMarried : Cond.code yX4_areMarried cX4_areMarried 3 (some .boolean) ∈ wL := List.mem_filter.mpr ⟨wL_t2 _ (List.mem_of_getElem? (i := 114) rfl), rfl⟩
theorem wm_ml_X7_93 : Cond.methodLink RX7 93 yX4_areMarried ∈ wL := List.mem_filter.mpr ⟨wL_t2 _ (List.mem_of_getElem? (i := 115) rfl), rfl⟩
theorem wm_ml_X7_96 : Cond.methodLink RX7 96 yX4_join ∈ wL := List.mem_filter.mpr ⟨wL_t2 _ (List.mem_of_getElem? (i := 116) rfl), rfl⟩
theorem wm_im_X4_join : Cond.instanceMethod yX4_join ∈ wL := List.mem_filter.mpr ⟨wL_t2 _ (List.mem_of_getElem? (i := 117) rfl), rfl⟩
theorem wm_se_X4_join : Cond.selects RX4 yX4_join yX4_join ∈ wL := List.mem_filter.mpr ⟨wL_t2 _ (List.mem_of_getElem? (i := 118) rfl), rfl⟩
theorem wm_cd_X4_join : Cond.code yX4_join cX4_join 3 none ∈ wL := List.mem_filter.mpr ⟨wL_t2 _ (List.mem_of_getElem? (i := 119) rfl), rfl⟩
theorem wm_ml_X7_100 : Cond.methodLink RX7 100 yX4_part ∈ wL := List.mem_filter.mpr ⟨wL_t2 _ (List.mem_of_getElem? (i := 120) rfl), rfl⟩
theorem wm_ml_X7_103 : Cond.methodLink RX7 103 yX4_marriages ∈ wL := List.mem_filter.mpr ⟨wL_t2 _ (List.mem_of_getElem? (i := 121) rfl), rfl⟩
theorem wm_im_X4_marriages : Cond.instanceMethod yX4_marriages ∈ wL := List.mem_filter.mpr ⟨wL_t2 _ (List.mem_of_getElem? (i := 122) rfl), rfl⟩
theorem wm_se_X4_marriages : Cond.selects RX4 yX4_marriages yX4_marriages ∈ wL := List.mem_filter.mpr ⟨wL_t2 _ (List.mem_of_getElem? (i := 123) rfl), rfl⟩
theorem wm_cd_X4_marriages : Cond.code yX4_marriages cX4_marriages 3 (some .int) ∈ wL := List.mem_filter.mpr ⟨wL_t2 _ (List.mem_of_getElem? (i := 124) rfl), rfl⟩
theorem wm_ml_L_27 : Cond.methodLink RL 27 yX8_marry ∈ wL := List.mem_filter.mpr ⟨wL_t4 _ (List.mem_of_getElem? (i := 217) rfl), rfl⟩
theorem wm_im_X8_marry : Cond.instanceMethod yX8_marry ∈ wL := List.mem_filter.mpr ⟨wL_t4 _ (List.mem_of_getElem? (i := 218) rfl), rfl⟩
theorem wm_se_X8_marry : Cond.selects RX8 yX8_marry yX8_marry ∈ wL := List.mem_filter.mpr ⟨wL_t4 _ (List.mem_of_getElem? (i := 219) rfl), rfl⟩
theorem wm_cd_X8_marry : Cond.code yX8_marry cX8_marry 6 (some .int) ∈ wL := List.mem_filter.mpr ⟨wL_t4 _ (List.mem_of_getElem? (i := 220) rfl), rfl⟩
theorem wm_ml_X8_107 : Cond.methodLink RX8 107 yX8_areTwo ∈ wL := List.mem_filter.mpr ⟨wL_t4 _ (List.mem_of_getElem? (i := 221) rfl), rfl⟩
theorem wm_im_X8_areTwo : Cond.instanceMethod yX8_areTwo ∈ wL := List.mem_filter.mpr ⟨wL_t4 _ (List.mem_of_getElem? (i := 223) rfl), rfl⟩
theorem wm_se_X8_areTwo : Cond.selects RX8 yX8_areTwo yX8_areTwo ∈ wL := List.mem_filter.mpr ⟨wL_p2 (⟨"SwornPoundsModel", "areTwo", "(II)Z"⟩, _) (List.mem_of_getElem? (i := 10) rfl), rfl⟩
theorem wm_cd_X8_areTwo : Cond.code yX8_areTwo cX8_areTwo 3 (some .boolean) ∈ wL := List.mem_filter.mpr ⟨wL_t4 _ (List.mem_of_getElem? (i := 224) rfl), rfl⟩
theorem wm_ml_X8_111 : Cond.methodLink RX8 111 yX8_marriages ∈ wL := List.mem_filter.mpr ⟨wL_t4 _ (List.mem_of_getElem? (i := 225) rfl), rfl⟩
theorem wm_im_X8_marriages : Cond.instanceMethod yX8_marriages ∈ wL := List.mem_filter.mpr ⟨wL_t4 _ (List.mem_of_getElem? (i := 227) rfl), rfl⟩
theorem wm_se_X8_marriages : Cond.selects RX8 yX8_marriages yX8_marriages ∈ wL := List.mem_filter.mpr ⟨wL_p2 (⟨"SwornPoundsModel", "marriages", "()I"⟩, _) (List.mem_of_getElem? (i := 11) rfl), rfl⟩
theorem wm_cd_X8_marriages : Cond.code yX8_marriages cX8_marriages 3 (some .int) ∈ wL := List.mem_filter.mpr ⟨wL_t4 _ (List.mem_of_getElem? (i := 228) rfl), rfl⟩
theorem wm_ml_L_28 : Cond.methodLink RL 28 yX7_limit ∈ wL := List.mem_filter.mpr ⟨wL_t2 _ (List.mem_of_getElem? (i := 125) rfl), rfl⟩
theorem wm_im_X7_limit : Cond.instanceMethod yX7_limit ∈ wL := List.mem_filter.mpr ⟨wL_t2 _ (List.mem_of_getElem? (i := 126) rfl), rfl⟩
theorem wm_se_X7_limit : Cond.selects RX7 yX7_limit yX7_limit ∈ wL := List.mem_filter.mpr ⟨wL_t2 _ (List.mem_of_getElem? (i := 127) rfl), rfl⟩
theorem wm_cd_X7_limit : Cond.code yX7_limit cX7_limit 3 (some .int) ∈ wL := List.mem_filter.mpr ⟨wL_t2 _ (List.mem_of_getElem? (i := 128) rfl), rfl⟩
theorem wm_fl_X7_106 : Cond.fieldLink RX7 106 "SwornPounds$Town" "limit" "I" ∈ wL := List.mem_filter.mpr ⟨wL_t1 _ (List.mem_of_getElem? (i := 57) rfl), rfl⟩
theorem wm_ml_L_31 : Cond.methodLink RL 31 yX8_limit ∈ wL := List.mem_filter.mpr ⟨wL_t4 _ (List.mem_of_getElem? (i := 229) rfl), rfl⟩
theorem wm_im_X8_limit : Cond.instanceMethod yX8_limit ∈ wL := List.mem_filter.mpr ⟨wL_t4 _ (List.mem_of_getElem? (i := 230) rfl), rfl⟩
theorem wm_se_X8_limit : Cond.selects RX8 yX8_limit yX8_limit ∈ wL := List.mem_filter.mpr ⟨wL_t4 _ (List.mem_of_getElem? (i := 231) rfl), rfl⟩
theorem wm_cd_X8_limit : Cond.code yX8_limit cX8_limit 3 (some .int) ∈ wL := List.mem_filter.mpr ⟨wL_t4 _ (List.mem_of_getElem? (i := 232) rfl), rfl⟩
theorem wm_cl_X8_115 : Cond.constantLong RX8 115 (99) ∈ wL := List.mem_filter.mpr ⟨wL_t4 _ (List.mem_of_getElem? (i := 233) rfl), rfl⟩
theorem wm_ml_L_32 : Cond.methodLink RL 32 yX7_say ∈ wL := List.mem_filter.mpr ⟨wL_t2 _ (List.mem_of_getElem? (i := 129) rfl), rfl⟩
theorem wm_im_X7_say : Cond.instanceMethod yX7_say ∈ wL := List.mem_filter.mpr ⟨wL_t2 _ (List.mem_of_getElem? (i := 130) rfl), rfl⟩
theorem wm_se_X7_say : Cond.selects RX7 yX7_say yX7_say ∈ wL := List.mem_filter.mpr ⟨wL_t2 _ (List.mem_of_getElem? (i := 131) rfl), rfl⟩
theorem wm_cd_X7_say : Cond.code yX7_say cX7_say 2 (some .int) ∈ wL := List.mem_filter.mpr ⟨wL_t2 _ (List.mem_of_getElem? (i := 132) rfl), rfl⟩
theorem wm_fl_X7_113 : Cond.fieldLink RX7 113 "SwornPounds$Pad" "count" "I" ∈ wL := List.mem_filter.mpr ⟨wL_t1 _ (List.mem_of_getElem? (i := 101) rfl), rfl⟩
theorem wm_ml_X7_110 : Cond.methodLink RX7 110 yX2_add ∈ wL := List.mem_filter.mpr ⟨wL_t2 _ (List.mem_of_getElem? (i := 133) rfl), rfl⟩
theorem wm_im_X2_add : Cond.instanceMethod yX2_add ∈ wL := List.mem_filter.mpr ⟨wL_t2 _ (List.mem_of_getElem? (i := 134) rfl), rfl⟩
theorem wm_se_X2_add : Cond.selects RX2 yX2_add yX2_add ∈ wL := List.mem_filter.mpr ⟨wL_t2 _ (List.mem_of_getElem? (i := 135) rfl), rfl⟩
theorem wm_cd_X2_add : Cond.code yX2_add cX2_add 2 (some .boolean) ∈ wL := List.mem_filter.mpr ⟨wL_t2 _ (List.mem_of_getElem? (i := 136) rfl), rfl⟩
theorem wm_fl_X2_15 : Cond.fieldLink RX2 15 "SwornPounds$Pad" "count" "I" ∈ wL := List.mem_filter.mpr ⟨wL_t1 _ (List.mem_of_getElem? (i := 99) rfl), rfl⟩
theorem wm_ml_L_35 : Cond.methodLink RL 35 yX8_say ∈ wL := List.mem_filter.mpr ⟨wL_t4 _ (List.mem_of_getElem? (i := 234) rfl), rfl⟩
theorem wm_im_X8_say : Cond.instanceMethod yX8_say ∈ wL := List.mem_filter.mpr ⟨wL_t4 _ (List.mem_of_getElem? (i := 235) rfl), rfl⟩
theorem wm_se_X8_say : Cond.selects RX8 yX8_say yX8_say ∈ wL := List.mem_filter.mpr ⟨wL_t4 _ (List.mem_of_getElem? (i := 236) rfl), rfl⟩
theorem wm_cd_X8_say : Cond.code yX8_say cX8_say 2 (some .int) ∈ wL := List.mem_filter.mpr ⟨wL_t4 _ (List.mem_of_getElem? (i := 237) rfl), rfl⟩
theorem wm_cl_X8_117 : Cond.constantLong RX8 117 (33) ∈ wL := List.mem_filter.mpr ⟨wL_t4 _ (List.mem_of_getElem? (i := 238) rfl), rfl⟩
theorem wm_cl_X8_119 : Cond.constantLong RX8 119 (126) ∈ wL := List.mem_filter.mpr ⟨wL_t4 _ (List.mem_of_getElem? (i := 239) rfl), rfl⟩
theorem wm_fl_X8_121 : Cond.fieldLink RX8 121 "SwornPoundsModel" "padMany" "I" ∈ wL := List.mem_filter.mpr ⟨wL_t4 _ (List.mem_of_getElem? (i := 79) rfl), rfl⟩
theorem wm_ml_L_36 : Cond.methodLink RL 36 yX7_wipe ∈ wL := List.mem_filter.mpr ⟨wL_t2 _ (List.mem_of_getElem? (i := 137) rfl), rfl⟩
theorem wm_im_X7_wipe : Cond.instanceMethod yX7_wipe ∈ wL := List.mem_filter.mpr ⟨wL_t2 _ (List.mem_of_getElem? (i := 138) rfl), rfl⟩
theorem wm_se_X7_wipe : Cond.selects RX7 yX7_wipe yX7_wipe ∈ wL := List.mem_filter.mpr ⟨wL_t2 _ (List.mem_of_getElem? (i := 139) rfl), rfl⟩
theorem wm_cd_X7_wipe : Cond.code yX7_wipe cX7_wipe 2 (some .int) ∈ wL := List.mem_filter.mpr ⟨wL_t2 _ (List.mem_of_getElem? (i := 140) rfl), rfl⟩
theorem wm_ml_L_40 : Cond.methodLink RL 40 yX8_wipe ∈ wL := List.mem_filter.mpr ⟨wL_t5 _ (List.mem_of_getElem? (i := 0) rfl), rfl⟩
theorem wm_im_X8_wipe : Cond.instanceMethod yX8_wipe ∈ wL := List.mem_filter.mpr ⟨wL_t5 _ (List.mem_of_getElem? (i := 1) rfl), rfl⟩
theorem wm_se_X8_wipe : Cond.selects RX8 yX8_wipe yX8_wipe ∈ wL := List.mem_filter.mpr ⟨wL_t5 _ (List.mem_of_getElem? (i := 2) rfl), rfl⟩
theorem wm_cd_X8_wipe : Cond.code yX8_wipe cX8_wipe 2 (some .int) ∈ wL := List.mem_filter.mpr ⟨wL_t5 _ (List.mem_of_getElem? (i := 3) rfl), rfl⟩
theorem wm_ml_L_41 : Cond.methodLink RL 41 yX7_fault ∈ wL := List.mem_filter.mpr ⟨wL_t2 _ (List.mem_of_getElem? (i := 141) rfl), rfl⟩
theorem wm_im_X7_fault : Cond.instanceMethod yX7_fault ∈ wL := List.mem_filter.mpr ⟨wL_t2 _ (List.mem_of_getElem? (i := 142) rfl), rfl⟩
theorem wm_se_X7_fault : Cond.selects RX7 yX7_fault yX7_fault ∈ wL := List.mem_filter.mpr ⟨wL_t2 _ (List.mem_of_getElem? (i := 143) rfl), rfl⟩
theorem wm_cd_X7_fault : Cond.code yX7_fault cX7_fault 1 (some .int) ∈ wL := List.mem_filter.mpr ⟨wL_t2 _ (List.mem_of_getElem? (i := 144) rfl), rfl⟩
theorem wm_ml_X7_116 : Cond.methodLink RX7 116 yX2_firstFault ∈ wL := List.mem_filter.mpr ⟨wL_t2 _ (List.mem_of_getElem? (i := 145) rfl), rfl⟩
theorem wm_im_X2_firstFault : Cond.instanceMethod yX2_firstFault ∈ wL := List.mem_filter.mpr ⟨wL_t2 _ (List.mem_of_getElem? (i := 146) rfl), rfl⟩
theorem wm_se_X2_firstFault : Cond.selects RX2 yX2_firstFault yX2_firstFault ∈ wL := List.mem_filter.mpr ⟨wL_t2 _ (List.mem_of_getElem? (i := 147) rfl), rfl⟩
theorem wm_cd_X2_firstFault : Cond.code yX2_firstFault cX2_firstFault 3 (some .int) ∈ wL := List.mem_filter.mpr ⟨wL_t2 _ (List.mem_of_getElem? (i := 148) rfl), rfl⟩
theorem wm_ml_X2_19 : Cond.methodLink RX2 19 yX2_after ∈ wL := List.mem_filter.mpr ⟨wL_t2 _ (List.mem_of_getElem? (i := 149) rfl), rfl⟩
theorem wm_st_X2_after : Cond.static yX2_after ∈ wL := List.mem_filter.mpr ⟨wL_t2 _ (List.mem_of_getElem? (i := 150) rfl), rfl⟩
theorem wm_cd_X2_after : Cond.code yX2_after cX2_after 2 (some .int) ∈ wL := List.mem_filter.mpr ⟨wL_t2 _ (List.mem_of_getElem? (i := 151) rfl), rfl⟩
theorem wm_ml_X2_23 : Cond.methodLink RX2 23 yX2_afterNothing ∈ wL := List.mem_filter.mpr ⟨wL_t2 _ (List.mem_of_getElem? (i := 152) rfl), rfl⟩
theorem wm_st_X2_afterNothing : Cond.static yX2_afterNothing ∈ wL := List.mem_filter.mpr ⟨wL_t2 _ (List.mem_of_getElem? (i := 153) rfl), rfl⟩
theorem wm_cd_X2_afterNothing : Cond.code yX2_afterNothing cX2_afterNothing 1 (some .int) ∈ wL := List.mem_filter.mpr ⟨wL_t2 _ (List.mem_of_getElem? (i := 154) rfl), rfl⟩
theorem wm_ml_X2_27 : Cond.methodLink RX2 27 yX2_isLetter ∈ wL := List.mem_filter.mpr ⟨wL_t2 _ (List.mem_of_getElem? (i := 155) rfl), rfl⟩
theorem wm_st_X2_isLetter : Cond.static yX2_isLetter ∈ wL := List.mem_filter.mpr ⟨wL_t2 _ (List.mem_of_getElem? (i := 156) rfl), rfl⟩
theorem wm_cd_X2_isLetter : Cond.code yX2_isLetter cX2_isLetter 1 (some .boolean) ∈ wL := List.mem_filter.mpr ⟨wL_t2 _ (List.mem_of_getElem? (i := 157) rfl), rfl⟩
theorem wm_ml_L_44 : Cond.methodLink RL 44 yX8_fault ∈ wL := List.mem_filter.mpr ⟨wL_t5 _ (List.mem_of_getElem? (i := 4) rfl), rfl⟩
theorem wm_im_X8_fault : Cond.instanceMethod yX8_fault ∈ wL := List.mem_filter.mpr ⟨wL_t5 _ (List.mem_of_getElem? (i := 5) rfl), rfl⟩
theorem wm_se_X8_fault : Cond.selects RX8 yX8_fault yX8_fault ∈ wL := List.mem_filter.mpr ⟨wL_t5 _ (List.mem_of_getElem? (i := 6) rfl), rfl⟩
theorem wm_cd_X8_fault : Cond.code yX8_fault cX8_fault 4 (some .int) ∈ wL := List.mem_filter.mpr ⟨wL_t5 _ (List.mem_of_getElem? (i := 7) rfl), rfl⟩
theorem wm_fl_X8_124 : Cond.fieldLink RX8 124 "SwornPoundsModel" "acts" "I" ∈ wL := List.mem_filter.mpr ⟨wL_t4 _ (List.mem_of_getElem? (i := 84) rfl), rfl⟩
theorem wm_ml_X8_140 : Cond.methodLink RX8 140 yX8_beginAct ∈ wL := List.mem_filter.mpr ⟨wL_t5 _ (List.mem_of_getElem? (i := 8) rfl), rfl⟩
theorem wm_im_X8_beginAct : Cond.instanceMethod yX8_beginAct ∈ wL := List.mem_filter.mpr ⟨wL_t5 _ (List.mem_of_getElem? (i := 10) rfl), rfl⟩
theorem wm_se_X8_beginAct : Cond.selects RX8 yX8_beginAct yX8_beginAct ∈ wL := List.mem_filter.mpr ⟨wL_p2 (⟨"SwornPoundsModel", "beginAct", "(I)I"⟩, _) (List.mem_of_getElem? (i := 12) rfl), rfl⟩
theorem wm_cd_X8_beginAct : Cond.code yX8_beginAct cX8_beginAct 2 (some .int) ∈ wL := List.mem_filter.mpr ⟨wL_t5 _ (List.mem_of_getElem? (i := 11) rfl), rfl⟩
theorem wm_ml_X8_127 : Cond.methodLink RX8 127 yX8_readNear ∈ wL := List.mem_filter.mpr ⟨wL_t5 _ (List.mem_of_getElem? (i := 12) rfl), rfl⟩
theorem wm_im_X8_readNear : Cond.instanceMethod yX8_readNear ∈ wL := List.mem_filter.mpr ⟨wL_t5 _ (List.mem_of_getElem? (i := 14) rfl), rfl⟩
theorem wm_se_X8_readNear : Cond.selects RX8 yX8_readNear yX8_readNear ∈ wL := List.mem_filter.mpr ⟨wL_p2 (⟨"SwornPoundsModel", "readNear", "(I)I"⟩, _) (List.mem_of_getElem? (i := 13) rfl), rfl⟩
theorem wm_cd_X8_readNear : Cond.code yX8_readNear cX8_readNear 2 (some .int) ∈ wL := List.mem_filter.mpr ⟨wL_t5 _ (List.mem_of_getElem? (i := 15) rfl), rfl⟩
theorem wm_ml_X8_134 : Cond.methodLink RX8 134 yX8_isLetter ∈ wL := List.mem_filter.mpr ⟨wL_t5 _ (List.mem_of_getElem? (i := 16) rfl), rfl⟩
theorem wm_st_X8_isLetter : Cond.static yX8_isLetter ∈ wL := List.mem_filter.mpr ⟨wL_t5 _ (List.mem_of_getElem? (i := 17) rfl), rfl⟩
theorem wm_cd_X8_isLetter : Cond.code yX8_isLetter cX8_isLetter 1 (some .boolean) ∈ wL := List.mem_filter.mpr ⟨wL_t5 _ (List.mem_of_getElem? (i := 18) rfl), rfl⟩
theorem wm_cl_X8_130 : Cond.constantLong RX8 130 (65) ∈ wL := List.mem_filter.mpr ⟨wL_t5 _ (List.mem_of_getElem? (i := 19) rfl), rfl⟩
theorem wm_cl_X8_132 : Cond.constantLong RX8 132 (72) ∈ wL := List.mem_filter.mpr ⟨wL_t5 _ (List.mem_of_getElem? (i := 20) rfl), rfl⟩
theorem wm_ml_X8_137 : Cond.methodLink RX8 137 yX8_sit ∈ wL := List.mem_filter.mpr ⟨wL_t5 _ (List.mem_of_getElem? (i := 21) rfl), rfl⟩
theorem wm_im_X8_sit : Cond.instanceMethod yX8_sit ∈ wL := List.mem_filter.mpr ⟨wL_t5 _ (List.mem_of_getElem? (i := 23) rfl), rfl⟩
theorem wm_se_X8_sit : Cond.selects RX8 yX8_sit yX8_sit ∈ wL := List.mem_filter.mpr ⟨wL_p2 (⟨"SwornPoundsModel", "sit", "(I)V"⟩, _) (List.mem_of_getElem? (i := 14) rfl), rfl⟩
theorem wm_cd_X8_sit : Cond.code yX8_sit cX8_sit 3 none ∈ wL := List.mem_filter.mpr ⟨wL_t5 _ (List.mem_of_getElem? (i := 24) rfl), rfl⟩
theorem wm_ml_X8_143 : Cond.methodLink RX8 143 yX8_readCold ∈ wL := List.mem_filter.mpr ⟨wL_t5 _ (List.mem_of_getElem? (i := 25) rfl), rfl⟩
theorem wm_im_X8_readCold : Cond.instanceMethod yX8_readCold ∈ wL := List.mem_filter.mpr ⟨wL_t5 _ (List.mem_of_getElem? (i := 27) rfl), rfl⟩
theorem wm_se_X8_readCold : Cond.selects RX8 yX8_readCold yX8_readCold ∈ wL := List.mem_filter.mpr ⟨wL_p2 (⟨"SwornPoundsModel", "readCold", "(I)I"⟩, _) (List.mem_of_getElem? (i := 15) rfl), rfl⟩
theorem wm_cd_X8_readCold : Cond.code yX8_readCold cX8_readCold 2 (some .int) ∈ wL := List.mem_filter.mpr ⟨wL_t5 _ (List.mem_of_getElem? (i := 28) rfl), rfl⟩
theorem wm_ml_X8_146 : Cond.methodLink RX8 146 yX8_readAcross ∈ wL := List.mem_filter.mpr ⟨wL_t5 _ (List.mem_of_getElem? (i := 29) rfl), rfl⟩
theorem wm_im_X8_readAcross : Cond.instanceMethod yX8_readAcross ∈ wL := List.mem_filter.mpr ⟨wL_t5 _ (List.mem_of_getElem? (i := 31) rfl), rfl⟩
theorem wm_se_X8_readAcross : Cond.selects RX8 yX8_readAcross yX8_readAcross ∈ wL := List.mem_filter.mpr ⟨wL_p3 (⟨"SwornPoundsModel", "readAcross", "(II)I"⟩, _) (List.mem_of_getElem? (i := 0) rfl), rfl⟩
theorem wm_cd_X8_readAcross : Cond.code yX8_readAcross cX8_readAcross 3 (some .int) ∈ wL := List.mem_filter.mpr ⟨wL_t5 _ (List.mem_of_getElem? (i := 32) rfl), rfl⟩
theorem wm_ml_L_45 : Cond.methodLink RL 45 yX7_judge ∈ wL := List.mem_filter.mpr ⟨wL_t2 _ (List.mem_of_getElem? (i := 159) rfl), rfl⟩
theorem wm_im_X7_judge : Cond.instanceMethod yX7_judge ∈ wL := List.mem_filter.mpr ⟨wL_t2 _ (List.mem_of_getElem? (i := 160) rfl), rfl⟩
theorem wm_se_X7_judge : Cond.selects RX7 yX7_judge yX7_judge ∈ wL := List.mem_filter.mpr ⟨wL_t2 _ (List.mem_of_getElem? (i := 161) rfl), rfl⟩
theorem wm_cd_X7_judge : Cond.code yX7_judge cX7_judge 3 (some .int) ∈ wL := List.mem_filter.mpr ⟨wL_t2 _ (List.mem_of_getElem? (i := 162) rfl), rfl⟩
theorem wm_ml_X7_119 : Cond.methodLink RX7 119 yX7_holdMarket ∈ wL := List.mem_filter.mpr ⟨wL_t2 _ (List.mem_of_getElem? (i := 163) rfl), rfl⟩
theorem wm_im_X7_holdMarket : Cond.instanceMethod yX7_holdMarket ∈ wL := List.mem_filter.mpr ⟨wL_t2 _ (List.mem_of_getElem? (i := 165) rfl), rfl⟩
theorem wm_se_X7_holdMarket : Cond.selects RX7 yX7_holdMarket yX7_holdMarket ∈ wL := List.mem_filter.mpr ⟨wL_p1 (⟨"SwornPounds", "holdMarket", "()I"⟩, _) (List.mem_of_getElem? (i := 0) rfl), rfl⟩
theorem wm_cd_X7_holdMarket : Cond.code yX7_holdMarket cX7_holdMarket 1 (some .int) ∈ wL := List.mem_filter.mpr ⟨wL_t2 _ (List.mem_of_getElem? (i := 166) rfl), rfl⟩
theorem wm_fl_X7_274 : Cond.fieldLink RX7 274 "SwornPounds$Market" "badAct" "I" ∈ wL := List.mem_filter.mpr ⟨wL_t1 _ (List.mem_of_getElem? (i := 121) rfl), rfl⟩
theorem wm_ml_X7_270 : Cond.methodLink RX7 270 yX1_hold ∈ wL := List.mem_filter.mpr ⟨wL_t2 _ (List.mem_of_getElem? (i := 167) rfl), rfl⟩
theorem wm_im_X1_hold : Cond.instanceMethod yX1_hold ∈ wL := List.mem_filter.mpr ⟨wL_t2 _ (List.mem_of_getElem? (i := 168) rfl), rfl⟩
theorem wm_se_X1_hold : Cond.selects RX1 yX1_hold yX1_hold ∈ wL := List.mem_filter.mpr ⟨wL_t2 _ (List.mem_of_getElem? (i := 169) rfl), rfl⟩
theorem wm_cd_X1_hold : Cond.code yX1_hold cX1_hold 4 none ∈ wL := List.mem_filter.mpr ⟨wL_t2 _ (List.mem_of_getElem? (i := 170) rfl), rfl⟩
theorem wm_fl_X1_22 : Cond.fieldLink RX1 22 "SwornPounds$Market" "acts" "I" ∈ wL := List.mem_filter.mpr ⟨wL_t1 _ (List.mem_of_getElem? (i := 118) rfl), rfl⟩
theorem wm_fl_X1_26 : Cond.fieldLink RX1 26 "SwornPounds$Market" "badAct" "I" ∈ wL := List.mem_filter.mpr ⟨wL_t1 _ (List.mem_of_getElem? (i := 120) rfl), rfl⟩
theorem wm_fl_X1_29 : Cond.fieldLink RX1 29 "SwornPounds$Market" "why" "I" ∈ wL := List.mem_filter.mpr ⟨wL_t1 _ (List.mem_of_getElem? (i := 122) rfl), rfl⟩
theorem wm_fl_X1_32 : Cond.fieldLink RX1 32 "SwornPounds$Market" "sales" "I" ∈ wL := List.mem_filter.mpr ⟨wL_t1 _ (List.mem_of_getElem? (i := 123) rfl), rfl⟩
theorem wm_fl_X1_35 : Cond.fieldLink RX1 35 "SwornPounds$Market" "sold" "I" ∈ wL := List.mem_filter.mpr ⟨wL_t1 _ (List.mem_of_getElem? (i := 124) rfl), rfl⟩
theorem wm_fl_X1_38 : Cond.fieldLink RX1 38 "SwornPounds$Market" "pounds" "I" ∈ wL := List.mem_filter.mpr ⟨wL_t1 _ (List.mem_of_getElem? (i := 125) rfl), rfl⟩
theorem wm_fl_X1_41 : Cond.fieldLink RX1 41 "SwornPounds$Market" "offAct" "I" ∈ wL := List.mem_filter.mpr ⟨wL_t1 _ (List.mem_of_getElem? (i := 126) rfl), rfl⟩
theorem wm_fl_X1_47 : Cond.fieldLink RX1 47 "SwornPounds$Pad" "count" "I" ∈ wL := List.mem_filter.mpr ⟨wL_t1 _ (List.mem_of_getElem? (i := 100) rfl), rfl⟩
theorem wm_fl_X1_52 : Cond.fieldLink RX1 52 "SwornPounds$Pad" "signs" "[I" ∈ wL := List.mem_filter.mpr ⟨wL_t1 _ (List.mem_of_getElem? (i := 98) rfl), rfl⟩
theorem wm_ml_X1_18 : Cond.methodLink RX1 18 yX4_copyFrom ∈ wL := List.mem_filter.mpr ⟨wL_t2 _ (List.mem_of_getElem? (i := 171) rfl), rfl⟩
theorem wm_im_X4_copyFrom : Cond.instanceMethod yX4_copyFrom ∈ wL := List.mem_filter.mpr ⟨wL_t2 _ (List.mem_of_getElem? (i := 172) rfl), rfl⟩
theorem wm_se_X4_copyFrom : Cond.selects RX4 yX4_copyFrom yX4_copyFrom ∈ wL := List.mem_filter.mpr ⟨wL_t2 _ (List.mem_of_getElem? (i := 173) rfl), rfl⟩
theorem wm_cd_X4_copyFrom : Cond.code yX4_copyFrom cX4_copyFrom 2 none ∈ wL := List.mem_filter.mpr ⟨wL_t2 _ (List.mem_of_getElem? (i := 174) rfl), rfl⟩
theorem wm_ml_X4_43 : Cond.methodLink RX4 43 arraycopyName ∈ wL := List.mem_filter.mpr ⟨wL_t2 _ (List.mem_of_getElem? (i := 175) rfl), rfl⟩
theorem wm_nat_arraycopyName : Cond.native arraycopyName ∈ wL := List.mem_filter.mpr ⟨wL_t2 _ (List.mem_of_getElem? (i := 177) rfl), rfl⟩
theorem wm_st_arraycopyName : Cond.static arraycopyName ∈ wL := List.mem_filter.mpr ⟨wL_t2 _ (List.mem_of_getElem? (i := 176) rfl), rfl⟩
theorem wm_ini_System : Cond.initialized "java/lang/System" ∈ wL := List.mem_filter.mpr ⟨wL_t1 _ (List.mem_of_getElem? (i := 12) rfl), rfl⟩
theorem wm_fl_X4_55 : Cond.fieldLink RX4 55 "SwornPounds$Town" "day" "I" ∈ wL := List.mem_filter.mpr ⟨wL_t1 _ (List.mem_of_getElem? (i := 59) rfl), rfl⟩
theorem wm_fl_X4_58 : Cond.fieldLink RX4 58 "SwornPounds$Town" "sights" "I" ∈ wL := List.mem_filter.mpr ⟨wL_t1 _ (List.mem_of_getElem? (i := 61) rfl), rfl⟩
theorem wm_ml_X1_44 : Cond.methodLink RX1 44 yX1_beginAct ∈ wL := List.mem_filter.mpr ⟨wL_t2 _ (List.mem_of_getElem? (i := 178) rfl), rfl⟩
theorem wm_im_X1_beginAct : Cond.instanceMethod yX1_beginAct ∈ wL := List.mem_filter.mpr ⟨wL_t2 _ (List.mem_of_getElem? (i := 180) rfl), rfl⟩
theorem wm_se_X1_beginAct : Cond.selects RX1 yX1_beginAct yX1_beginAct ∈ wL := List.mem_filter.mpr ⟨wL_p1 (⟨"SwornPounds$Market", "beginAct", "()V"⟩, _) (List.mem_of_getElem? (i := 1) rfl), rfl⟩
theorem wm_cd_X1_beginAct : Cond.code yX1_beginAct cX1_beginAct 1 none ∈ wL := List.mem_filter.mpr ⟨wL_t2 _ (List.mem_of_getElem? (i := 181) rfl), rfl⟩
theorem wm_fl_X1_60 : Cond.fieldLink RX1 60 "SwornPounds$Market" "by" "I" ∈ wL := List.mem_filter.mpr ⟨wL_t1 _ (List.mem_of_getElem? (i := 127) rfl), rfl⟩
theorem wm_fl_X1_63 : Cond.fieldLink RX1 63 "SwornPounds$Market" "across" "I" ∈ wL := List.mem_filter.mpr ⟨wL_t1 _ (List.mem_of_getElem? (i := 128) rfl), rfl⟩
theorem wm_fl_X1_66 : Cond.fieldLink RX1 66 "SwornPounds$Market" "twice" "Z" ∈ wL := List.mem_filter.mpr ⟨wL_t1 _ (List.mem_of_getElem? (i := 129) rfl), rfl⟩
theorem wm_fl_X1_70 : Cond.fieldLink RX1 70 "SwornPounds$Market" "barred" "Z" ∈ wL := List.mem_filter.mpr ⟨wL_t1 _ (List.mem_of_getElem? (i := 130) rfl), rfl⟩
theorem wm_fl_X1_73 : Cond.fieldLink RX1 73 "SwornPounds$Market" "cold" "Z" ∈ wL := List.mem_filter.mpr ⟨wL_t1 _ (List.mem_of_getElem? (i := 131) rfl), rfl⟩
theorem wm_ml_X1_56 : Cond.methodLink RX1 56 yX1_read ∈ wL := List.mem_filter.mpr ⟨wL_t2 _ (List.mem_of_getElem? (i := 182) rfl), rfl⟩
theorem wm_im_X1_read : Cond.instanceMethod yX1_read ∈ wL := List.mem_filter.mpr ⟨wL_t2 _ (List.mem_of_getElem? (i := 184) rfl), rfl⟩
theorem wm_se_X1_read : Cond.selects RX1 yX1_read yX1_read ∈ wL := List.mem_filter.mpr ⟨wL_p1 (⟨"SwornPounds$Market", "read", "(I)V"⟩, _) (List.mem_of_getElem? (i := 2) rfl), rfl⟩
theorem wm_cd_X1_read : Cond.code yX1_read cX1_read 2 none ∈ wL := List.mem_filter.mpr ⟨wL_t2 _ (List.mem_of_getElem? (i := 185) rfl), rfl⟩
theorem wm_ml_X1_76 : Cond.methodLink RX1 76 yX2_isLetter ∈ wL := List.mem_filter.mpr ⟨wL_t2 _ (List.mem_of_getElem? (i := 186) rfl), rfl⟩
theorem wm_ml_X1_80 : Cond.methodLink RX1 80 yX1_readPerson ∈ wL := List.mem_filter.mpr ⟨wL_t2 _ (List.mem_of_getElem? (i := 187) rfl), rfl⟩
theorem wm_im_X1_readPerson : Cond.instanceMethod yX1_readPerson ∈ wL := List.mem_filter.mpr ⟨wL_t2 _ (List.mem_of_getElem? (i := 189) rfl), rfl⟩
theorem wm_se_X1_readPerson : Cond.selects RX1 yX1_readPerson yX1_readPerson ∈ wL := List.mem_filter.mpr ⟨wL_p1 (⟨"SwornPounds$Market", "readPerson", "(I)V"⟩, _) (List.mem_of_getElem? (i := 3) rfl), rfl⟩
theorem wm_cd_X1_readPerson : Cond.code yX1_readPerson cX1_readPerson 2 none ∈ wL := List.mem_filter.mpr ⟨wL_t2 _ (List.mem_of_getElem? (i := 190) rfl), rfl⟩
theorem wm_ml_X1_95 : Cond.methodLink RX1 95 yX1_sit ∈ wL := List.mem_filter.mpr ⟨wL_t2 _ (List.mem_of_getElem? (i := 191) rfl), rfl⟩
theorem wm_im_X1_sit : Cond.instanceMethod yX1_sit ∈ wL := List.mem_filter.mpr ⟨wL_t2 _ (List.mem_of_getElem? (i := 193) rfl), rfl⟩
theorem wm_se_X1_sit : Cond.selects RX1 yX1_sit yX1_sit ∈ wL := List.mem_filter.mpr ⟨wL_p1 (⟨"SwornPounds$Market", "sit", "(I)V"⟩, _) (List.mem_of_getElem? (i := 4) rfl), rfl⟩
theorem wm_cd_X1_sit : Cond.code yX1_sit cX1_sit 2 none ∈ wL := List.mem_filter.mpr ⟨wL_t2 _ (List.mem_of_getElem? (i := 194) rfl), rfl⟩
theorem wm_st_X7_holds : Cond.static yX7_holds ∈ wL := List.mem_filter.mpr ⟨wL_t2 _ (List.mem_of_getElem? (i := 196) rfl), rfl⟩
theorem wm_cd_X7_holds : Cond.code yX7_holds cX7_holds 2 (some .boolean) ∈ wL := List.mem_filter.mpr ⟨wL_t2 _ (List.mem_of_getElem? (i := 197) rfl), rfl⟩
theorem wm_ml_X1_98 : Cond.methodLink RX1 98 yX4_has ∈ wL := List.mem_filter.mpr ⟨wL_t2 _ (List.mem_of_getElem? (i := 198) rfl), rfl⟩
theorem wm_ml_X1_101 : Cond.methodLink RX1 101 yX4_turnCold ∈ wL := List.mem_filter.mpr ⟨wL_t2 _ (List.mem_of_getElem? (i := 199) rfl), rfl⟩
theorem wm_im_X4_turnCold : Cond.instanceMethod yX4_turnCold ∈ wL := List.mem_filter.mpr ⟨wL_t2 _ (List.mem_of_getElem? (i := 200) rfl), rfl⟩
theorem wm_se_X4_turnCold : Cond.selects RX4 yX4_turnCold yX4_turnCold ∈ wL := List.mem_filter.mpr ⟨wL_t2 _ (List.mem_of_getElem? (i := 201) rfl), rfl⟩
theorem wm_cd_X4_turnCold : Cond.code yX4_turnCold cX4_turnCold 2 none ∈ wL := List.mem_filter.mpr ⟨wL_t2 _ (List.mem_of_getElem? (i := 202) rfl), rfl⟩
theorem wm_ml_X1_86 : Cond.methodLink RX1 86 yX1_endAct ∈ wL := List.mem_filter.mpr ⟨wL_t2 _ (List.mem_of_getElem? (i := 203) rfl), rfl⟩
theorem wm_im_X1_endAct : Cond.instanceMethod yX1_endAct ∈ wL := List.mem_filter.mpr ⟨wL_t2 _ (List.mem_of_getElem? (i := 205) rfl), rfl⟩
theorem wm_se_X1_endAct : Cond.selects RX1 yX1_endAct yX1_endAct ∈ wL := List.mem_filter.mpr ⟨wL_p1 (⟨"SwornPounds$Market", "endAct", "()V"⟩, _) (List.mem_of_getElem? (i := 5) rfl), rfl⟩
theorem wm_cd_X1_endAct : Cond.code yX1_endAct cX1_endAct 1 none ∈ wL := List.mem_filter.mpr ⟨wL_t2 _ (List.mem_of_getElem? (i := 206) rfl), rfl⟩
theorem wm_ml_X1_104 : Cond.methodLink RX1 104 yX1_breakOff ∈ wL := List.mem_filter.mpr ⟨wL_t2 _ (List.mem_of_getElem? (i := 207) rfl), rfl⟩
theorem wm_im_X1_breakOff : Cond.instanceMethod yX1_breakOff ∈ wL := List.mem_filter.mpr ⟨wL_t2 _ (List.mem_of_getElem? (i := 209) rfl), rfl⟩
theorem wm_se_X1_breakOff : Cond.selects RX1 yX1_breakOff yX1_breakOff ∈ wL := List.mem_filter.mpr ⟨wL_p1 (⟨"SwornPounds$Market", "breakOff", "(I)V"⟩, _) (List.mem_of_getElem? (i := 6) rfl), rfl⟩
theorem wm_cd_X1_breakOff : Cond.code yX1_breakOff cX1_breakOff 2 none ∈ wL := List.mem_filter.mpr ⟨wL_t2 _ (List.mem_of_getElem? (i := 210) rfl), rfl⟩
theorem wm_ml_X1_83 : Cond.methodLink RX1 83 yX4_passDay ∈ wL := List.mem_filter.mpr ⟨wL_t2 _ (List.mem_of_getElem? (i := 211) rfl), rfl⟩
theorem wm_im_X4_passDay : Cond.instanceMethod yX4_passDay ∈ wL := List.mem_filter.mpr ⟨wL_t2 _ (List.mem_of_getElem? (i := 212) rfl), rfl⟩
theorem wm_se_X4_passDay : Cond.selects RX4 yX4_passDay yX4_passDay ∈ wL := List.mem_filter.mpr ⟨wL_t2 _ (List.mem_of_getElem? (i := 213) rfl), rfl⟩
theorem wm_cd_X4_passDay : Cond.code yX4_passDay cX4_passDay 2 none ∈ wL := List.mem_filter.mpr ⟨wL_t2 _ (List.mem_of_getElem? (i := 214) rfl), rfl⟩
theorem wm_ml_X4_94 : Cond.methodLink RX4 94 yX4_drifted ∈ wL := List.mem_filter.mpr ⟨wL_t2 _ (List.mem_of_getElem? (i := 215) rfl), rfl⟩
theorem wm_im_X4_drifted : Cond.instanceMethod yX4_drifted ∈ wL := List.mem_filter.mpr ⟨wL_t2 _ (List.mem_of_getElem? (i := 216) rfl), rfl⟩
theorem wm_se_X4_drifted : Cond.selects RX4 yX4_drifted yX4_drifted ∈ wL := List.mem_filter.mpr ⟨wL_t2 _ (List.mem_of_getElem? (i := 217) rfl), rfl⟩
theorem wm_cd_X4_drifted : Cond.code yX4_drifted cX4_drifted 3 (some .int) ∈ wL := List.mem_filter.mpr ⟨wL_t2 _ (List.mem_of_getElem? (i := 218) rfl), rfl⟩
theorem wm_ml_X4_86 : Cond.methodLink RX4 86 Lib.Math.min.name ∈ wL := List.mem_filter.mpr ⟨wL_t2 _ (List.mem_of_getElem? (i := 219) rfl), rfl⟩
theorem wm_st_min : Cond.static Lib.Math.min.name ∈ wL := List.mem_filter.mpr ⟨wL_t2 _ (List.mem_of_getElem? (i := 220) rfl), rfl⟩
theorem wm_ini_Math : Cond.initialized "java/lang/Math" ∈ wL := List.mem_filter.mpr ⟨wL_t1 _ (List.mem_of_getElem? (i := 13) rfl), rfl⟩
theorem wm_cd_min : Cond.code Lib.Math.min.name Lib.Math.min.code 2 (some .int) ∈ wL := List.mem_filter.mpr ⟨wL_t2 _ (List.mem_of_getElem? (i := 221) rfl), rfl⟩
theorem wm_ml_X4_91 : Cond.methodLink RX4 91 Lib.Math.max.name ∈ wL := List.mem_filter.mpr ⟨wL_t2 _ (List.mem_of_getElem? (i := 222) rfl), rfl⟩
theorem wm_st_max : Cond.static Lib.Math.max.name ∈ wL := List.mem_filter.mpr ⟨wL_t2 _ (List.mem_of_getElem? (i := 223) rfl), rfl⟩
theorem wm_cd_max : Cond.code Lib.Math.max.name Lib.Math.max.code 2 (some .int) ∈ wL := List.mem_filter.mpr ⟨wL_t2 _ (List.mem_of_getElem? (i := 224) rfl), rfl⟩
theorem wm_ml_X1_89 : Cond.methodLink RX1 89 yX4_feast ∈ wL := List.mem_filter.mpr ⟨wL_t2 _ (List.mem_of_getElem? (i := 225) rfl), rfl⟩
theorem wm_im_X4_feast : Cond.instanceMethod yX4_feast ∈ wL := List.mem_filter.mpr ⟨wL_t2 _ (List.mem_of_getElem? (i := 226) rfl), rfl⟩
theorem wm_se_X4_feast : Cond.selects RX4 yX4_feast yX4_feast ∈ wL := List.mem_filter.mpr ⟨wL_t2 _ (List.mem_of_getElem? (i := 227) rfl), rfl⟩
theorem wm_cd_X4_feast : Cond.code yX4_feast cX4_feast 2 none ∈ wL := List.mem_filter.mpr ⟨wL_t2 _ (List.mem_of_getElem? (i := 228) rfl), rfl⟩
theorem wm_ml_X1_92 : Cond.methodLink RX1 92 yX1_sell ∈ wL := List.mem_filter.mpr ⟨wL_t2 _ (List.mem_of_getElem? (i := 229) rfl), rfl⟩
theorem wm_im_X1_sell : Cond.instanceMethod yX1_sell ∈ wL := List.mem_filter.mpr ⟨wL_t2 _ (List.mem_of_getElem? (i := 231) rfl), rfl⟩
theorem wm_se_X1_sell : Cond.selects RX1 yX1_sell yX1_sell ∈ wL := List.mem_filter.mpr ⟨wL_p1 (⟨"SwornPounds$Market", "sell", "()V"⟩, _) (List.mem_of_getElem? (i := 7) rfl), rfl⟩
theorem wm_cd_X1_sell : Cond.code yX1_sell cX1_sell 4 none ∈ wL := List.mem_filter.mpr ⟨wL_t2 _ (List.mem_of_getElem? (i := 232) rfl), rfl⟩
theorem wm_fl_X1_111 : Cond.fieldLink RX1 111 "SwornPounds$Town" "sworn" "[I" ∈ wL := List.mem_filter.mpr ⟨wL_t1 _ (List.mem_of_getElem? (i := 35) rfl), rfl⟩
theorem wm_ml_X1_125 : Cond.methodLink RX1 125 Lib.Math.max.name ∈ wL := List.mem_filter.mpr ⟨wL_t3 _ (List.mem_of_getElem? (i := 18) rfl), rfl⟩
theorem wm_ml_X1_131 : Cond.methodLink RX1 131 Lib.Math.abs.name ∈ wL := List.mem_filter.mpr ⟨wL_t3 _ (List.mem_of_getElem? (i := 19) rfl), rfl⟩
theorem wm_st_abs : Cond.static Lib.Math.abs.name ∈ wL := List.mem_filter.mpr ⟨wL_t3 _ (List.mem_of_getElem? (i := 20) rfl), rfl⟩
theorem wm_cd_abs : Cond.code Lib.Math.abs.name Lib.Math.abs.code 1 (some .int) ∈ wL := List.mem_filter.mpr ⟨wL_t3 _ (List.mem_of_getElem? (i := 21) rfl), rfl⟩
theorem wm_fl_X1_134 : Cond.fieldLink RX1 134 "SwornPounds$Town" "limit" "I" ∈ wL := List.mem_filter.mpr ⟨wL_t1 _ (List.mem_of_getElem? (i := 58) rfl), rfl⟩
theorem wm_ml_X1_114 : Cond.methodLink RX1 114 yX4_sumOver ∈ wL := List.mem_filter.mpr ⟨wL_t2 _ (List.mem_of_getElem? (i := 233) rfl), rfl⟩
theorem wm_im_X4_sumOver : Cond.instanceMethod yX4_sumOver ∈ wL := List.mem_filter.mpr ⟨wL_t2 _ (List.mem_of_getElem? (i := 234) rfl), rfl⟩
theorem wm_se_X4_sumOver : Cond.selects RX4 yX4_sumOver yX4_sumOver ∈ wL := List.mem_filter.mpr ⟨wL_t2 _ (List.mem_of_getElem? (i := 235) rfl), rfl⟩
theorem wm_cd_X4_sumOver : Cond.code yX4_sumOver cX4_sumOver 5 (some .int) ∈ wL := List.mem_filter.mpr ⟨wL_t2 _ (List.mem_of_getElem? (i := 236) rfl), rfl⟩
theorem wm_ml_X1_118 : Cond.methodLink RX1 118 yX1_reasonAgainst ∈ wL := List.mem_filter.mpr ⟨wL_t2 _ (List.mem_of_getElem? (i := 238) rfl), rfl⟩
theorem wm_im_X1_reasonAgainst : Cond.instanceMethod yX1_reasonAgainst ∈ wL := List.mem_filter.mpr ⟨wL_t3 _ (List.mem_of_getElem? (i := 0) rfl), rfl⟩
theorem wm_se_X1_reasonAgainst : Cond.selects RX1 yX1_reasonAgainst yX1_reasonAgainst ∈ wL := List.mem_filter.mpr ⟨wL_p1 (⟨"SwornPounds$Market", "reasonAgainst", "(I)I"⟩, _) (List.mem_of_getElem? (i := 8) rfl), rfl⟩
theorem wm_cd_X1_reasonAgainst : Cond.code yX1_reasonAgainst cX1_reasonAgainst 2 (some .int) ∈ wL := List.mem_filter.mpr ⟨wL_t3 _ (List.mem_of_getElem? (i := 1) rfl), rfl⟩
theorem wm_ml_X1_137 : Cond.methodLink RX1 137 yX4_hasAll ∈ wL := List.mem_filter.mpr ⟨wL_t3 _ (List.mem_of_getElem? (i := 2) rfl), rfl⟩
theorem wm_im_X4_hasAll : Cond.instanceMethod yX4_hasAll ∈ wL := List.mem_filter.mpr ⟨wL_t3 _ (List.mem_of_getElem? (i := 3) rfl), rfl⟩
theorem wm_se_X4_hasAll : Cond.selects RX4 yX4_hasAll yX4_hasAll ∈ wL := List.mem_filter.mpr ⟨wL_t3 _ (List.mem_of_getElem? (i := 4) rfl), rfl⟩
theorem wm_cd_X4_hasAll : Cond.code yX4_hasAll cX4_hasAll 2 (some .boolean) ∈ wL := List.mem_filter.mpr ⟨wL_t3 _ (List.mem_of_getElem? (i := 5) rfl), rfl⟩
theorem wm_ml_X1_140 : Cond.methodLink RX1 140 yX4_together ∈ wL := List.mem_filter.mpr ⟨wL_t3 _ (List.mem_of_getElem? (i := 6) rfl), rfl⟩
theorem wm_im_X4_together : Cond.instanceMethod yX4_together ∈ wL := List.mem_filter.mpr ⟨wL_t3 _ (List.mem_of_getElem? (i := 7) rfl), rfl⟩
theorem wm_se_X4_together : Cond.selects RX4 yX4_together yX4_together ∈ wL := List.mem_filter.mpr ⟨wL_t3 _ (List.mem_of_getElem? (i := 8) rfl), rfl⟩
theorem wm_cd_X4_together : Cond.code yX4_together cX4_together 3 (some .boolean) ∈ wL := List.mem_filter.mpr ⟨wL_t3 _ (List.mem_of_getElem? (i := 9) rfl), rfl⟩
theorem wm_ml_X1_122 : Cond.methodLink RX1 122 yX4_poundsOfAll ∈ wL := List.mem_filter.mpr ⟨wL_t3 _ (List.mem_of_getElem? (i := 10) rfl), rfl⟩
theorem wm_im_X4_poundsOfAll : Cond.instanceMethod yX4_poundsOfAll ∈ wL := List.mem_filter.mpr ⟨wL_t3 _ (List.mem_of_getElem? (i := 11) rfl), rfl⟩
theorem wm_se_X4_poundsOfAll : Cond.selects RX4 yX4_poundsOfAll yX4_poundsOfAll ∈ wL := List.mem_filter.mpr ⟨wL_t3 _ (List.mem_of_getElem? (i := 12) rfl), rfl⟩
theorem wm_cd_X4_poundsOfAll : Cond.code yX4_poundsOfAll cX4_poundsOfAll 4 (some .int) ∈ wL := List.mem_filter.mpr ⟨wL_t3 _ (List.mem_of_getElem? (i := 13) rfl), rfl⟩
theorem wm_ml_X4_79 : Cond.methodLink RX4 79 yX4_withCold ∈ wL := List.mem_filter.mpr ⟨wL_t3 _ (List.mem_of_getElem? (i := 14) rfl), rfl⟩
theorem wm_im_X4_withCold : Cond.instanceMethod yX4_withCold ∈ wL := List.mem_filter.mpr ⟨wL_t3 _ (List.mem_of_getElem? (i := 15) rfl), rfl⟩
theorem wm_se_X4_withCold : Cond.selects RX4 yX4_withCold yX4_withCold ∈ wL := List.mem_filter.mpr ⟨wL_t3 _ (List.mem_of_getElem? (i := 16) rfl), rfl⟩
theorem wm_cd_X4_withCold : Cond.code yX4_withCold cX4_withCold 3 (some .int) ∈ wL := List.mem_filter.mpr ⟨wL_t3 _ (List.mem_of_getElem? (i := 17) rfl), rfl⟩
theorem wm_ml_X7_122 : Cond.methodLink RX7 122 yX1_answer ∈ wL := List.mem_filter.mpr ⟨wL_t3 _ (List.mem_of_getElem? (i := 22) rfl), rfl⟩
theorem wm_im_X1_answer : Cond.instanceMethod yX1_answer ∈ wL := List.mem_filter.mpr ⟨wL_t3 _ (List.mem_of_getElem? (i := 23) rfl), rfl⟩
theorem wm_se_X1_answer : Cond.selects RX1 yX1_answer yX1_answer ∈ wL := List.mem_filter.mpr ⟨wL_t3 _ (List.mem_of_getElem? (i := 24) rfl), rfl⟩
theorem wm_cd_X1_answer : Cond.code yX1_answer cX1_answer 2 (some .int) ∈ wL := List.mem_filter.mpr ⟨wL_t3 _ (List.mem_of_getElem? (i := 25) rfl), rfl⟩
theorem wm_ml_L_48 : Cond.methodLink RL 48 yX8_judge ∈ wL := List.mem_filter.mpr ⟨wL_t5 _ (List.mem_of_getElem? (i := 33) rfl), rfl⟩
theorem wm_im_X8_judge : Cond.instanceMethod yX8_judge ∈ wL := List.mem_filter.mpr ⟨wL_t5 _ (List.mem_of_getElem? (i := 34) rfl), rfl⟩
theorem wm_se_X8_judge : Cond.selects RX8 yX8_judge yX8_judge ∈ wL := List.mem_filter.mpr ⟨wL_t5 _ (List.mem_of_getElem? (i := 35) rfl), rfl⟩
theorem wm_cd_X8_judge : Cond.code yX8_judge cX8_judge 3 (some .int) ∈ wL := List.mem_filter.mpr ⟨wL_t5 _ (List.mem_of_getElem? (i := 36) rfl), rfl⟩
theorem wm_cl_X8_225 : Cond.constantLong RX8 225 (5) ∈ wL := List.mem_filter.mpr ⟨wL_t5 _ (List.mem_of_getElem? (i := 37) rfl), rfl⟩
theorem wm_fl_X8_198 : Cond.fieldLink RX8 198 "SwornPoundsModel" "badAct" "I" ∈ wL := List.mem_filter.mpr ⟨wL_t4 _ (List.mem_of_getElem? (i := 92) rfl), rfl⟩
theorem wm_fl_X8_201 : Cond.fieldLink RX8 201 "SwornPoundsModel" "badWhy" "I" ∈ wL := List.mem_filter.mpr ⟨wL_t4 _ (List.mem_of_getElem? (i := 93) rfl), rfl⟩
theorem wm_fl_X8_168 : Cond.fieldLink RX8 168 "SwornPoundsModel" "sales" "I" ∈ wL := List.mem_filter.mpr ⟨wL_t4 _ (List.mem_of_getElem? (i := 85) rfl), rfl⟩
theorem wm_fl_X8_171 : Cond.fieldLink RX8 171 "SwornPoundsModel" "sold" "I" ∈ wL := List.mem_filter.mpr ⟨wL_t4 _ (List.mem_of_getElem? (i := 86) rfl), rfl⟩
theorem wm_fl_X8_174 : Cond.fieldLink RX8 174 "SwornPoundsModel" "were" "I" ∈ wL := List.mem_filter.mpr ⟨wL_t4 _ (List.mem_of_getElem? (i := 87) rfl), rfl⟩
theorem wm_fl_X8_177 : Cond.fieldLink RX8 177 "SwornPoundsModel" "firstOff" "I" ∈ wL := List.mem_filter.mpr ⟨wL_t4 _ (List.mem_of_getElem? (i := 88) rfl), rfl⟩
theorem wm_ml_X8_227 : Cond.methodLink RX8 227 yX8_refusal ∈ wL := List.mem_filter.mpr ⟨wL_t5 _ (List.mem_of_getElem? (i := 38) rfl), rfl⟩
theorem wm_im_X8_refusal : Cond.instanceMethod yX8_refusal ∈ wL := List.mem_filter.mpr ⟨wL_t5 _ (List.mem_of_getElem? (i := 40) rfl), rfl⟩
theorem wm_se_X8_refusal : Cond.selects RX8 yX8_refusal yX8_refusal ∈ wL := List.mem_filter.mpr ⟨wL_p3 (⟨"SwornPoundsModel", "refusal", "()I"⟩, _) (List.mem_of_getElem? (i := 1) rfl), rfl⟩
theorem wm_cd_X8_refusal : Cond.code yX8_refusal cX8_refusal 2 (some .int) ∈ wL := List.mem_filter.mpr ⟨wL_t5 _ (List.mem_of_getElem? (i := 41) rfl), rfl⟩
theorem wm_fl_X8_162 : Cond.fieldLink RX8 162 "SwornPoundsModel" "today" "I" ∈ wL := List.mem_filter.mpr ⟨wL_t4 _ (List.mem_of_getElem? (i := 69) rfl), rfl⟩
theorem wm_fl_X8_219 : Cond.fieldLink RX8 219 "SwornPoundsModel" "leavesDay" "I" ∈ wL := List.mem_filter.mpr ⟨wL_t4 _ (List.mem_of_getElem? (i := 96) rfl), rfl⟩
theorem wm_ml_X8_210 : Cond.methodLink RX8 210 yX8_fault ∈ wL := List.mem_filter.mpr ⟨wL_t5 _ (List.mem_of_getElem? (i := 42) rfl), rfl⟩
theorem wm_ml_X8_213 : Cond.methodLink RX8 213 yX8_keepNow ∈ wL := List.mem_filter.mpr ⟨wL_t5 _ (List.mem_of_getElem? (i := 43) rfl), rfl⟩
theorem wm_im_X8_keepNow : Cond.instanceMethod yX8_keepNow ∈ wL := List.mem_filter.mpr ⟨wL_t5 _ (List.mem_of_getElem? (i := 45) rfl), rfl⟩
theorem wm_se_X8_keepNow : Cond.selects RX8 yX8_keepNow yX8_keepNow ∈ wL := List.mem_filter.mpr ⟨wL_p3 (⟨"SwornPoundsModel", "keepNow", "()V"⟩, _) (List.mem_of_getElem? (i := 2) rfl), rfl⟩
theorem wm_cd_X8_keepNow : Cond.code yX8_keepNow cX8_keepNow 2 none ∈ wL := List.mem_filter.mpr ⟨wL_t5 _ (List.mem_of_getElem? (i := 46) rfl), rfl⟩
theorem wm_fl_X8_192 : Cond.fieldLink RX8 192 "SwornPoundsModel" "hadColds" "I" ∈ wL := List.mem_filter.mpr ⟨wL_t4 _ (List.mem_of_getElem? (i := 90) rfl), rfl⟩
theorem wm_fl_X8_195 : Cond.fieldLink RX8 195 "SwornPoundsModel" "hadToday" "I" ∈ wL := List.mem_filter.mpr ⟨wL_t4 _ (List.mem_of_getElem? (i := 91) rfl), rfl⟩
theorem wm_ml_X8_216 : Cond.methodLink RX8 216 yX8_goMarket ∈ wL := List.mem_filter.mpr ⟨wL_t5 _ (List.mem_of_getElem? (i := 47) rfl), rfl⟩
theorem wm_im_X8_goMarket : Cond.instanceMethod yX8_goMarket ∈ wL := List.mem_filter.mpr ⟨wL_t5 _ (List.mem_of_getElem? (i := 49) rfl), rfl⟩
theorem wm_se_X8_goMarket : Cond.selects RX8 yX8_goMarket yX8_goMarket ∈ wL := List.mem_filter.mpr ⟨wL_p3 (⟨"SwornPoundsModel", "goMarket", "()V"⟩, _) (List.mem_of_getElem? (i := 3) rfl), rfl⟩
theorem wm_cd_X8_goMarket : Cond.code yX8_goMarket cX8_goMarket 3 none ∈ wL := List.mem_filter.mpr ⟨wL_t5 _ (List.mem_of_getElem? (i := 50) rfl), rfl⟩
theorem wm_ml_X8_204 : Cond.methodLink RX8 204 yX8_whyNot ∈ wL := List.mem_filter.mpr ⟨wL_t5 _ (List.mem_of_getElem? (i := 51) rfl), rfl⟩
theorem wm_im_X8_whyNot : Cond.instanceMethod yX8_whyNot ∈ wL := List.mem_filter.mpr ⟨wL_t5 _ (List.mem_of_getElem? (i := 53) rfl), rfl⟩
theorem wm_se_X8_whyNot : Cond.selects RX8 yX8_whyNot yX8_whyNot ∈ wL := List.mem_filter.mpr ⟨wL_p3 (⟨"SwornPoundsModel", "whyNot", "(I)I"⟩, _) (List.mem_of_getElem? (i := 4) rfl), rfl⟩
theorem wm_cd_X8_whyNot : Cond.code yX8_whyNot cX8_whyNot 2 (some .int) ∈ wL := List.mem_filter.mpr ⟨wL_t5 _ (List.mem_of_getElem? (i := 54) rfl), rfl⟩
theorem wm_ml_X8_153 : Cond.methodLink RX8 153 yX8_areTogether ∈ wL := List.mem_filter.mpr ⟨wL_t5 _ (List.mem_of_getElem? (i := 55) rfl), rfl⟩
theorem wm_im_X8_areTogether : Cond.instanceMethod yX8_areTogether ∈ wL := List.mem_filter.mpr ⟨wL_t5 _ (List.mem_of_getElem? (i := 57) rfl), rfl⟩
theorem wm_se_X8_areTogether : Cond.selects RX8 yX8_areTogether yX8_areTogether ∈ wL := List.mem_filter.mpr ⟨wL_p3 (⟨"SwornPoundsModel", "areTogether", "(I)Z"⟩, _) (List.mem_of_getElem? (i := 5) rfl), rfl⟩
theorem wm_cd_X8_areTogether : Cond.code yX8_areTogether cX8_areTogether 4 (some .boolean) ∈ wL := List.mem_filter.mpr ⟨wL_t5 _ (List.mem_of_getElem? (i := 58) rfl), rfl⟩
theorem wm_ml_X8_156 : Cond.methodLink RX8 156 yX8_swornOf ∈ wL := List.mem_filter.mpr ⟨wL_t5 _ (List.mem_of_getElem? (i := 59) rfl), rfl⟩
theorem wm_im_X8_swornOf : Cond.instanceMethod yX8_swornOf ∈ wL := List.mem_filter.mpr ⟨wL_t5 _ (List.mem_of_getElem? (i := 61) rfl), rfl⟩
theorem wm_se_X8_swornOf : Cond.selects RX8 yX8_swornOf yX8_swornOf ∈ wL := List.mem_filter.mpr ⟨wL_p3 (⟨"SwornPoundsModel", "swornOf", "(I)I"⟩, _) (List.mem_of_getElem? (i := 6) rfl), rfl⟩
theorem wm_cd_X8_swornOf : Cond.code yX8_swornOf cX8_swornOf 4 (some .int) ∈ wL := List.mem_filter.mpr ⟨wL_t5 _ (List.mem_of_getElem? (i := 62) rfl), rfl⟩
theorem wm_ml_X8_207 : Cond.methodLink RX8 207 yX8_happen ∈ wL := List.mem_filter.mpr ⟨wL_t5 _ (List.mem_of_getElem? (i := 63) rfl), rfl⟩
theorem wm_im_X8_happen : Cond.instanceMethod yX8_happen ∈ wL := List.mem_filter.mpr ⟨wL_t5 _ (List.mem_of_getElem? (i := 65) rfl), rfl⟩
theorem wm_se_X8_happen : Cond.selects RX8 yX8_happen yX8_happen ∈ wL := List.mem_filter.mpr ⟨wL_p3 (⟨"SwornPoundsModel", "happen", "(I)V"⟩, _) (List.mem_of_getElem? (i := 7) rfl), rfl⟩
theorem wm_cd_X8_happen : Cond.code yX8_happen cX8_happen 2 none ∈ wL := List.mem_filter.mpr ⟨wL_t5 _ (List.mem_of_getElem? (i := 66) rfl), rfl⟩
theorem wm_ml_X8_183 : Cond.methodLink RX8 183 yX8_sell ∈ wL := List.mem_filter.mpr ⟨wL_t5 _ (List.mem_of_getElem? (i := 67) rfl), rfl⟩
theorem wm_im_X8_sell : Cond.instanceMethod yX8_sell ∈ wL := List.mem_filter.mpr ⟨wL_t5 _ (List.mem_of_getElem? (i := 69) rfl), rfl⟩
theorem wm_se_X8_sell : Cond.selects RX8 yX8_sell yX8_sell ∈ wL := List.mem_filter.mpr ⟨wL_p3 (⟨"SwornPoundsModel", "sell", "(I)V"⟩, _) (List.mem_of_getElem? (i := 8) rfl), rfl⟩
theorem wm_cd_X8_sell : Cond.code yX8_sell cX8_sell 4 none ∈ wL := List.mem_filter.mpr ⟨wL_t5 _ (List.mem_of_getElem? (i := 70) rfl), rfl⟩
theorem wm_ml_X8_165 : Cond.methodLink RX8 165 yX8_poundsOf ∈ wL := List.mem_filter.mpr ⟨wL_t5 _ (List.mem_of_getElem? (i := 71) rfl), rfl⟩
theorem wm_im_X8_poundsOf : Cond.instanceMethod yX8_poundsOf ∈ wL := List.mem_filter.mpr ⟨wL_t5 _ (List.mem_of_getElem? (i := 73) rfl), rfl⟩
theorem wm_se_X8_poundsOf : Cond.selects RX8 yX8_poundsOf yX8_poundsOf ∈ wL := List.mem_filter.mpr ⟨wL_p3 (⟨"SwornPoundsModel", "poundsOf", "(I)I"⟩, _) (List.mem_of_getElem? (i := 9) rfl), rfl⟩
theorem wm_cd_X8_poundsOf : Cond.code yX8_poundsOf cX8_poundsOf 4 (some .int) ∈ wL := List.mem_filter.mpr ⟨wL_t5 _ (List.mem_of_getElem? (i := 74) rfl), rfl⟩
theorem wm_ml_X8_150 : Cond.methodLink RX8 150 yX8_pounds ∈ wL := List.mem_filter.mpr ⟨wL_t5 _ (List.mem_of_getElem? (i := 75) rfl), rfl⟩
theorem wm_im_X8_pounds : Cond.instanceMethod yX8_pounds ∈ wL := List.mem_filter.mpr ⟨wL_t5 _ (List.mem_of_getElem? (i := 77) rfl), rfl⟩
theorem wm_se_X8_pounds : Cond.selects RX8 yX8_pounds yX8_pounds ∈ wL := List.mem_filter.mpr ⟨wL_p3 (⟨"SwornPoundsModel", "pounds", "(I)I"⟩, _) (List.mem_of_getElem? (i := 10) rfl), rfl⟩
theorem wm_cd_X8_pounds : Cond.code yX8_pounds cX8_pounds 2 (some .int) ∈ wL := List.mem_filter.mpr ⟨wL_t5 _ (List.mem_of_getElem? (i := 78) rfl), rfl⟩
theorem wm_ml_X8_180 : Cond.methodLink RX8 180 yX8_size ∈ wL := List.mem_filter.mpr ⟨wL_t5 _ (List.mem_of_getElem? (i := 79) rfl), rfl⟩
theorem wm_st_X8_size : Cond.static yX8_size ∈ wL := List.mem_filter.mpr ⟨wL_t5 _ (List.mem_of_getElem? (i := 80) rfl), rfl⟩
theorem wm_cd_X8_size : Cond.code yX8_size cX8_size 1 (some .int) ∈ wL := List.mem_filter.mpr ⟨wL_t5 _ (List.mem_of_getElem? (i := 81) rfl), rfl⟩
theorem wm_ml_X8_186 : Cond.methodLink RX8 186 yX8_passDay ∈ wL := List.mem_filter.mpr ⟨wL_t5 _ (List.mem_of_getElem? (i := 82) rfl), rfl⟩
theorem wm_im_X8_passDay : Cond.instanceMethod yX8_passDay ∈ wL := List.mem_filter.mpr ⟨wL_t5 _ (List.mem_of_getElem? (i := 84) rfl), rfl⟩
theorem wm_se_X8_passDay : Cond.selects RX8 yX8_passDay yX8_passDay ∈ wL := List.mem_filter.mpr ⟨wL_p3 (⟨"SwornPoundsModel", "passDay", "()V"⟩, _) (List.mem_of_getElem? (i := 11) rfl), rfl⟩
theorem wm_cd_X8_passDay : Cond.code yX8_passDay cX8_passDay 2 none ∈ wL := List.mem_filter.mpr ⟨wL_t5 _ (List.mem_of_getElem? (i := 85) rfl), rfl⟩
theorem wm_ml_X8_159 : Cond.methodLink RX8 159 yX8_bounded ∈ wL := List.mem_filter.mpr ⟨wL_t5 _ (List.mem_of_getElem? (i := 86) rfl), rfl⟩
theorem wm_st_X8_bounded : Cond.static yX8_bounded ∈ wL := List.mem_filter.mpr ⟨wL_t5 _ (List.mem_of_getElem? (i := 87) rfl), rfl⟩
theorem wm_cd_X8_bounded : Cond.code yX8_bounded cX8_bounded 1 (some .int) ∈ wL := List.mem_filter.mpr ⟨wL_t5 _ (List.mem_of_getElem? (i := 88) rfl), rfl⟩
theorem wm_ml_X8_189 : Cond.methodLink RX8 189 yX8_feast ∈ wL := List.mem_filter.mpr ⟨wL_t5 _ (List.mem_of_getElem? (i := 89) rfl), rfl⟩
theorem wm_im_X8_feast : Cond.instanceMethod yX8_feast ∈ wL := List.mem_filter.mpr ⟨wL_t5 _ (List.mem_of_getElem? (i := 91) rfl), rfl⟩
theorem wm_se_X8_feast : Cond.selects RX8 yX8_feast yX8_feast ∈ wL := List.mem_filter.mpr ⟨wL_p3 (⟨"SwornPoundsModel", "feast", "()V"⟩, _) (List.mem_of_getElem? (i := 12) rfl), rfl⟩
theorem wm_cd_X8_feast : Cond.code yX8_feast cX8_feast 2 none ∈ wL := List.mem_filter.mpr ⟨wL_t5 _ (List.mem_of_getElem? (i := 92) rfl), rfl⟩
theorem wm_ml_X8_222 : Cond.methodLink RX8 222 yX8_putBack ∈ wL := List.mem_filter.mpr ⟨wL_t5 _ (List.mem_of_getElem? (i := 93) rfl), rfl⟩
theorem wm_im_X8_putBack : Cond.instanceMethod yX8_putBack ∈ wL := List.mem_filter.mpr ⟨wL_t5 _ (List.mem_of_getElem? (i := 95) rfl), rfl⟩
theorem wm_se_X8_putBack : Cond.selects RX8 yX8_putBack yX8_putBack ∈ wL := List.mem_filter.mpr ⟨wL_p3 (⟨"SwornPoundsModel", "putBack", "()V"⟩, _) (List.mem_of_getElem? (i := 13) rfl), rfl⟩
theorem wm_cd_X8_putBack : Cond.code yX8_putBack cX8_putBack 2 none ∈ wL := List.mem_filter.mpr ⟨wL_t5 _ (List.mem_of_getElem? (i := 96) rfl), rfl⟩
theorem wm_ml_L_49 : Cond.methodLink RL 49 yX7_behind ∈ wL := List.mem_filter.mpr ⟨wL_t3 _ (List.mem_of_getElem? (i := 26) rfl), rfl⟩
theorem wm_im_X7_behind : Cond.instanceMethod yX7_behind ∈ wL := List.mem_filter.mpr ⟨wL_t3 _ (List.mem_of_getElem? (i := 27) rfl), rfl⟩
theorem wm_se_X7_behind : Cond.selects RX7 yX7_behind yX7_behind ∈ wL := List.mem_filter.mpr ⟨wL_t3 _ (List.mem_of_getElem? (i := 28) rfl), rfl⟩
theorem wm_cd_X7_behind : Cond.code yX7_behind cX7_behind 5 (some .int) ∈ wL := List.mem_filter.mpr ⟨wL_t3 _ (List.mem_of_getElem? (i := 29) rfl), rfl⟩
theorem wm_fl_X7_126 : Cond.fieldLink RX7 126 "SwornPounds$Market" "after" "LSwornPounds$Town;" ∈ wL := List.mem_filter.mpr ⟨wL_t1 _ (List.mem_of_getElem? (i := 117) rfl), rfl⟩
theorem wm_fl_X7_132 : Cond.fieldLink RX7 132 "SwornPounds$Town" "weight" "[I" ∈ wL := List.mem_filter.mpr ⟨wL_t1 _ (List.mem_of_getElem? (i := 39) rfl), rfl⟩
theorem wm_fl_X7_136 : Cond.fieldLink RX7 136 "SwornPounds$Town" "day" "I" ∈ wL := List.mem_filter.mpr ⟨wL_t1 _ (List.mem_of_getElem? (i := 60) rfl), rfl⟩
theorem wm_ml_X7_129 : Cond.methodLink RX7 129 yX4_poundsOf ∈ wL := List.mem_filter.mpr ⟨wL_t3 _ (List.mem_of_getElem? (i := 30) rfl), rfl⟩
theorem wm_im_X4_poundsOf : Cond.instanceMethod yX4_poundsOf ∈ wL := List.mem_filter.mpr ⟨wL_t3 _ (List.mem_of_getElem? (i := 31) rfl), rfl⟩
theorem wm_se_X4_poundsOf : Cond.selects RX4 yX4_poundsOf yX4_poundsOf ∈ wL := List.mem_filter.mpr ⟨wL_t3 _ (List.mem_of_getElem? (i := 32) rfl), rfl⟩
theorem wm_cd_X4_poundsOf : Cond.code yX4_poundsOf cX4_poundsOf 2 (some .int) ∈ wL := List.mem_filter.mpr ⟨wL_t3 _ (List.mem_of_getElem? (i := 33) rfl), rfl⟩
theorem wm_ml_L_53 : Cond.methodLink RL 53 yX8_behind ∈ wL := List.mem_filter.mpr ⟨wL_t5 _ (List.mem_of_getElem? (i := 97) rfl), rfl⟩
theorem wm_im_X8_behind : Cond.instanceMethod yX8_behind ∈ wL := List.mem_filter.mpr ⟨wL_t5 _ (List.mem_of_getElem? (i := 98) rfl), rfl⟩
theorem wm_se_X8_behind : Cond.selects RX8 yX8_behind yX8_behind ∈ wL := List.mem_filter.mpr ⟨wL_t5 _ (List.mem_of_getElem? (i := 99) rfl), rfl⟩
theorem wm_cd_X8_behind : Cond.code yX8_behind cX8_behind 4 (some .int) ∈ wL := List.mem_filter.mpr ⟨wL_t5 _ (List.mem_of_getElem? (i := 100) rfl), rfl⟩
theorem wm_cl_X8_230 : Cond.constantLong RX8 230 (2) ∈ wL := List.mem_filter.mpr ⟨wL_t5 _ (List.mem_of_getElem? (i := 101) rfl), rfl⟩
theorem wm_ml_L_54 : Cond.methodLink RL 54 yX7_done ∈ wL := List.mem_filter.mpr ⟨wL_t3 _ (List.mem_of_getElem? (i := 34) rfl), rfl⟩
theorem wm_im_X7_done : Cond.instanceMethod yX7_done ∈ wL := List.mem_filter.mpr ⟨wL_t3 _ (List.mem_of_getElem? (i := 35) rfl), rfl⟩
theorem wm_se_X7_done : Cond.selects RX7 yX7_done yX7_done ∈ wL := List.mem_filter.mpr ⟨wL_t3 _ (List.mem_of_getElem? (i := 36) rfl), rfl⟩
theorem wm_cd_X7_done : Cond.code yX7_done cX7_done 2 (some .int) ∈ wL := List.mem_filter.mpr ⟨wL_t3 _ (List.mem_of_getElem? (i := 37) rfl), rfl⟩
theorem wm_fl_X7_143 : Cond.fieldLink RX7 143 "SwornPounds$Market" "acts" "I" ∈ wL := List.mem_filter.mpr ⟨wL_t1 _ (List.mem_of_getElem? (i := 119) rfl), rfl⟩
theorem wm_ml_X7_139 : Cond.methodLink RX7 139 yX4_copyFrom ∈ wL := List.mem_filter.mpr ⟨wL_t3 _ (List.mem_of_getElem? (i := 38) rfl), rfl⟩
theorem wm_ml_L_57 : Cond.methodLink RL 57 yX8_done ∈ wL := List.mem_filter.mpr ⟨wL_t5 _ (List.mem_of_getElem? (i := 102) rfl), rfl⟩
theorem wm_im_X8_done : Cond.instanceMethod yX8_done ∈ wL := List.mem_filter.mpr ⟨wL_t5 _ (List.mem_of_getElem? (i := 103) rfl), rfl⟩
theorem wm_se_X8_done : Cond.selects RX8 yX8_done yX8_done ∈ wL := List.mem_filter.mpr ⟨wL_t5 _ (List.mem_of_getElem? (i := 104) rfl), rfl⟩
theorem wm_cd_X8_done : Cond.code yX8_done cX8_done 2 (some .int) ∈ wL := List.mem_filter.mpr ⟨wL_t5 _ (List.mem_of_getElem? (i := 105) rfl), rfl⟩
theorem wm_ml_L_58 : Cond.methodLink RL 58 yX7_weighs ∈ wL := List.mem_filter.mpr ⟨wL_t3 _ (List.mem_of_getElem? (i := 39) rfl), rfl⟩
theorem wm_im_X7_weighs : Cond.instanceMethod yX7_weighs ∈ wL := List.mem_filter.mpr ⟨wL_t3 _ (List.mem_of_getElem? (i := 40) rfl), rfl⟩
theorem wm_se_X7_weighs : Cond.selects RX7 yX7_weighs yX7_weighs ∈ wL := List.mem_filter.mpr ⟨wL_t3 _ (List.mem_of_getElem? (i := 41) rfl), rfl⟩
theorem wm_cd_X7_weighs : Cond.code yX7_weighs cX7_weighs 2 (some .int) ∈ wL := List.mem_filter.mpr ⟨wL_t3 _ (List.mem_of_getElem? (i := 42) rfl), rfl⟩
theorem wm_ml_L_61 : Cond.methodLink RL 61 yX8_weighs ∈ wL := List.mem_filter.mpr ⟨wL_t5 _ (List.mem_of_getElem? (i := 106) rfl), rfl⟩
theorem wm_im_X8_weighs : Cond.instanceMethod yX8_weighs ∈ wL := List.mem_filter.mpr ⟨wL_t5 _ (List.mem_of_getElem? (i := 107) rfl), rfl⟩
theorem wm_se_X8_weighs : Cond.selects RX8 yX8_weighs yX8_weighs ∈ wL := List.mem_filter.mpr ⟨wL_t5 _ (List.mem_of_getElem? (i := 108) rfl), rfl⟩
theorem wm_cd_X8_weighs : Cond.code yX8_weighs cX8_weighs 2 (some .int) ∈ wL := List.mem_filter.mpr ⟨wL_t5 _ (List.mem_of_getElem? (i := 109) rfl), rfl⟩
theorem wm_ml_L_62 : Cond.methodLink RL 62 yX7_off ∈ wL := List.mem_filter.mpr ⟨wL_t3 _ (List.mem_of_getElem? (i := 43) rfl), rfl⟩
theorem wm_im_X7_off : Cond.instanceMethod yX7_off ∈ wL := List.mem_filter.mpr ⟨wL_t3 _ (List.mem_of_getElem? (i := 44) rfl), rfl⟩
theorem wm_se_X7_off : Cond.selects RX7 yX7_off yX7_off ∈ wL := List.mem_filter.mpr ⟨wL_t3 _ (List.mem_of_getElem? (i := 45) rfl), rfl⟩
theorem wm_cd_X7_off : Cond.code yX7_off cX7_off 2 (some .int) ∈ wL := List.mem_filter.mpr ⟨wL_t3 _ (List.mem_of_getElem? (i := 46) rfl), rfl⟩
theorem wm_fl_X7_146 : Cond.fieldLink RX7 146 "SwornPounds$Town" "sworn" "[I" ∈ wL := List.mem_filter.mpr ⟨wL_t1 _ (List.mem_of_getElem? (i := 36) rfl), rfl⟩
theorem wm_ml_L_65 : Cond.methodLink RL 65 yX8_off ∈ wL := List.mem_filter.mpr ⟨wL_t5 _ (List.mem_of_getElem? (i := 110) rfl), rfl⟩
theorem wm_im_X8_off : Cond.instanceMethod yX8_off ∈ wL := List.mem_filter.mpr ⟨wL_t5 _ (List.mem_of_getElem? (i := 111) rfl), rfl⟩
theorem wm_se_X8_off : Cond.selects RX8 yX8_off yX8_off ∈ wL := List.mem_filter.mpr ⟨wL_t5 _ (List.mem_of_getElem? (i := 112) rfl), rfl⟩
theorem wm_cd_X8_off : Cond.code yX8_off cX8_off 2 (some .int) ∈ wL := List.mem_filter.mpr ⟨wL_t5 _ (List.mem_of_getElem? (i := 113) rfl), rfl⟩
theorem wm_ml_L_66 : Cond.methodLink RL 66 yX7_out ∈ wL := List.mem_filter.mpr ⟨wL_t3 _ (List.mem_of_getElem? (i := 47) rfl), rfl⟩
theorem wm_im_X7_out : Cond.instanceMethod yX7_out ∈ wL := List.mem_filter.mpr ⟨wL_t3 _ (List.mem_of_getElem? (i := 48) rfl), rfl⟩
theorem wm_se_X7_out : Cond.selects RX7 yX7_out yX7_out ∈ wL := List.mem_filter.mpr ⟨wL_t3 _ (List.mem_of_getElem? (i := 49) rfl), rfl⟩
theorem wm_cd_X7_out : Cond.code yX7_out cX7_out 2 (some .int) ∈ wL := List.mem_filter.mpr ⟨wL_t3 _ (List.mem_of_getElem? (i := 50) rfl), rfl⟩
theorem wm_ml_X7_149 : Cond.methodLink RX7 149 yX4_firstDayOff ∈ wL := List.mem_filter.mpr ⟨wL_t3 _ (List.mem_of_getElem? (i := 51) rfl), rfl⟩
theorem wm_im_X4_firstDayOff : Cond.instanceMethod yX4_firstDayOff ∈ wL := List.mem_filter.mpr ⟨wL_t3 _ (List.mem_of_getElem? (i := 52) rfl), rfl⟩
theorem wm_se_X4_firstDayOff : Cond.selects RX4 yX4_firstDayOff yX4_firstDayOff ∈ wL := List.mem_filter.mpr ⟨wL_t3 _ (List.mem_of_getElem? (i := 53) rfl), rfl⟩
theorem wm_cd_X4_firstDayOff : Cond.code yX4_firstDayOff cX4_firstDayOff 4 (some .int) ∈ wL := List.mem_filter.mpr ⟨wL_t3 _ (List.mem_of_getElem? (i := 54) rfl), rfl⟩
theorem wm_ml_X4_97 : Cond.methodLink RX4 97 Lib.Math.abs.name ∈ wL := List.mem_filter.mpr ⟨wL_t3 _ (List.mem_of_getElem? (i := 55) rfl), rfl⟩
theorem wm_ml_L_69 : Cond.methodLink RL 69 yX8_out ∈ wL := List.mem_filter.mpr ⟨wL_t5 _ (List.mem_of_getElem? (i := 114) rfl), rfl⟩
theorem wm_im_X8_out : Cond.instanceMethod yX8_out ∈ wL := List.mem_filter.mpr ⟨wL_t5 _ (List.mem_of_getElem? (i := 115) rfl), rfl⟩
theorem wm_se_X8_out : Cond.selects RX8 yX8_out yX8_out ∈ wL := List.mem_filter.mpr ⟨wL_t5 _ (List.mem_of_getElem? (i := 116) rfl), rfl⟩
theorem wm_cd_X8_out : Cond.code yX8_out cX8_out 4 (some .int) ∈ wL := List.mem_filter.mpr ⟨wL_t5 _ (List.mem_of_getElem? (i := 117) rfl), rfl⟩
theorem wm_ml_L_70 : Cond.methodLink RL 70 yX7_even ∈ wL := List.mem_filter.mpr ⟨wL_t3 _ (List.mem_of_getElem? (i := 56) rfl), rfl⟩
theorem wm_im_X7_even : Cond.instanceMethod yX7_even ∈ wL := List.mem_filter.mpr ⟨wL_t3 _ (List.mem_of_getElem? (i := 57) rfl), rfl⟩
theorem wm_se_X7_even : Cond.selects RX7 yX7_even yX7_even ∈ wL := List.mem_filter.mpr ⟨wL_t3 _ (List.mem_of_getElem? (i := 58) rfl), rfl⟩
theorem wm_cd_X7_even : Cond.code yX7_even cX7_even 3 (some .int) ∈ wL := List.mem_filter.mpr ⟨wL_t3 _ (List.mem_of_getElem? (i := 59) rfl), rfl⟩
theorem wm_ml_X7_152 : Cond.methodLink RX7 152 yX4_firstDayAlike ∈ wL := List.mem_filter.mpr ⟨wL_t3 _ (List.mem_of_getElem? (i := 60) rfl), rfl⟩
theorem wm_im_X4_firstDayAlike : Cond.instanceMethod yX4_firstDayAlike ∈ wL := List.mem_filter.mpr ⟨wL_t3 _ (List.mem_of_getElem? (i := 61) rfl), rfl⟩
theorem wm_se_X4_firstDayAlike : Cond.selects RX4 yX4_firstDayAlike yX4_firstDayAlike ∈ wL := List.mem_filter.mpr ⟨wL_t3 _ (List.mem_of_getElem? (i := 62) rfl), rfl⟩
theorem wm_cd_X4_firstDayAlike : Cond.code yX4_firstDayAlike cX4_firstDayAlike 6 (some .int) ∈ wL := List.mem_filter.mpr ⟨wL_t3 _ (List.mem_of_getElem? (i := 63) rfl), rfl⟩
theorem wm_ml_L_73 : Cond.methodLink RL 73 yX8_even ∈ wL := List.mem_filter.mpr ⟨wL_t5 _ (List.mem_of_getElem? (i := 118) rfl), rfl⟩
theorem wm_im_X8_even : Cond.instanceMethod yX8_even ∈ wL := List.mem_filter.mpr ⟨wL_t5 _ (List.mem_of_getElem? (i := 119) rfl), rfl⟩
theorem wm_se_X8_even : Cond.selects RX8 yX8_even yX8_even ∈ wL := List.mem_filter.mpr ⟨wL_t5 _ (List.mem_of_getElem? (i := 120) rfl), rfl⟩
theorem wm_cd_X8_even : Cond.code yX8_even cX8_even 5 (some .int) ∈ wL := List.mem_filter.mpr ⟨wL_t5 _ (List.mem_of_getElem? (i := 121) rfl), rfl⟩
theorem wm_ml_L_74 : Cond.methodLink RL 74 yX7_make ∈ wL := List.mem_filter.mpr ⟨wL_t3 _ (List.mem_of_getElem? (i := 64) rfl), rfl⟩
theorem wm_im_X7_make : Cond.instanceMethod yX7_make ∈ wL := List.mem_filter.mpr ⟨wL_t3 _ (List.mem_of_getElem? (i := 65) rfl), rfl⟩
theorem wm_se_X7_make : Cond.selects RX7 yX7_make yX7_make ∈ wL := List.mem_filter.mpr ⟨wL_t3 _ (List.mem_of_getElem? (i := 66) rfl), rfl⟩
theorem wm_cd_X7_make : Cond.code yX7_make cX7_make 4 (some .int) ∈ wL := List.mem_filter.mpr ⟨wL_t3 _ (List.mem_of_getElem? (i := 67) rfl), rfl⟩
theorem wm_fl_X7_160 : Cond.fieldLink RX7 160 "SwornPounds$Pans" "fewest" "I" ∈ wL := List.mem_filter.mpr ⟨wL_t1 _ (List.mem_of_getElem? (i := 170) rfl), rfl⟩
theorem wm_fl_X7_163 : Cond.fieldLink RX7 163 "SwornPounds$Pans" "bestFirst" "I" ∈ wL := List.mem_filter.mpr ⟨wL_t1 _ (List.mem_of_getElem? (i := 172) rfl), rfl⟩
theorem wm_fl_X7_166 : Cond.fieldLink RX7 166 "SwornPounds$Pans" "bestSecond" "I" ∈ wL := List.mem_filter.mpr ⟨wL_t1 _ (List.mem_of_getElem? (i := 174) rfl), rfl⟩
theorem wm_ml_X7_156 : Cond.methodLink RX7 156 yX3_seatAll ∈ wL := List.mem_filter.mpr ⟨wL_t3 _ (List.mem_of_getElem? (i := 68) rfl), rfl⟩
theorem wm_im_X3_seatAll : Cond.instanceMethod yX3_seatAll ∈ wL := List.mem_filter.mpr ⟨wL_t3 _ (List.mem_of_getElem? (i := 69) rfl), rfl⟩
theorem wm_se_X3_seatAll : Cond.selects RX3 yX3_seatAll yX3_seatAll ∈ wL := List.mem_filter.mpr ⟨wL_t3 _ (List.mem_of_getElem? (i := 70) rfl), rfl⟩
theorem wm_cd_X3_seatAll : Cond.code yX3_seatAll cX3_seatAll 8 none ∈ wL := List.mem_filter.mpr ⟨wL_t3 _ (List.mem_of_getElem? (i := 71) rfl), rfl⟩
theorem wm_fl_X3_43 : Cond.fieldLink RX3 43 "SwornPounds$Pans" "fewest" "I" ∈ wL := List.mem_filter.mpr ⟨wL_t1 _ (List.mem_of_getElem? (i := 169) rfl), rfl⟩
theorem wm_fl_X3_47 : Cond.fieldLink RX3 47 "SwornPounds$Pans" "bestFirst" "I" ∈ wL := List.mem_filter.mpr ⟨wL_t1 _ (List.mem_of_getElem? (i := 171) rfl), rfl⟩
theorem wm_fl_X3_50 : Cond.fieldLink RX3 50 "SwornPounds$Pans" "bestSecond" "I" ∈ wL := List.mem_filter.mpr ⟨wL_t1 _ (List.mem_of_getElem? (i := 173) rfl), rfl⟩
theorem wm_fl_X3_53 : Cond.fieldLink RX3 53 "SwornPounds$Pans" "nearest" "I" ∈ wL := List.mem_filter.mpr ⟨wL_t1 _ (List.mem_of_getElem? (i := 175) rfl), rfl⟩
theorem wm_fl_X3_62 : Cond.fieldLink RX3 62 "SwornPounds$Town" "there" "I" ∈ wL := List.mem_filter.mpr ⟨wL_t1 _ (List.mem_of_getElem? (i := 51) rfl), rfl⟩
theorem wm_ml_X3_39 : Cond.methodLink RX3 39 yX3_fillRows ∈ wL := List.mem_filter.mpr ⟨wL_t3 _ (List.mem_of_getElem? (i := 72) rfl), rfl⟩
theorem wm_im_X3_fillRows : Cond.instanceMethod yX3_fillRows ∈ wL := List.mem_filter.mpr ⟨wL_t3 _ (List.mem_of_getElem? (i := 74) rfl), rfl⟩
theorem wm_se_X3_fillRows : Cond.selects RX3 yX3_fillRows yX3_fillRows ∈ wL := List.mem_filter.mpr ⟨wL_p1 (⟨"SwornPounds$Pans", "fillRows", "(LSwornPounds$Town;)V"⟩, _) (List.mem_of_getElem? (i := 9) rfl), rfl⟩
theorem wm_cd_X3_fillRows : Cond.code yX3_fillRows cX3_fillRows 9 none ∈ wL := List.mem_filter.mpr ⟨wL_t3 _ (List.mem_of_getElem? (i := 75) rfl), rfl⟩
theorem wm_fl_X3_35 : Cond.fieldLink RX3 35 "SwornPounds$Town" "sworn" "[I" ∈ wL := List.mem_filter.mpr ⟨wL_t1 _ (List.mem_of_getElem? (i := 32) rfl), rfl⟩
theorem wm_ml_X3_25 : Cond.methodLink RX3 25 yX4_has ∈ wL := List.mem_filter.mpr ⟨wL_t3 _ (List.mem_of_getElem? (i := 76) rfl), rfl⟩
theorem wm_ml_X3_31 : Cond.methodLink RX3 31 yX4_poundsOf ∈ wL := List.mem_filter.mpr ⟨wL_t3 _ (List.mem_of_getElem? (i := 77) rfl), rfl⟩
theorem wm_ml_X3_36 : Cond.methodLink RX3 36 yX4_partner ∈ wL := List.mem_filter.mpr ⟨wL_t3 _ (List.mem_of_getElem? (i := 78) rfl), rfl⟩
theorem wm_im_X4_partner : Cond.instanceMethod yX4_partner ∈ wL := List.mem_filter.mpr ⟨wL_t3 _ (List.mem_of_getElem? (i := 79) rfl), rfl⟩
theorem wm_se_X4_partner : Cond.selects RX4 yX4_partner yX4_partner ∈ wL := List.mem_filter.mpr ⟨wL_t3 _ (List.mem_of_getElem? (i := 80) rfl), rfl⟩
theorem wm_cd_X4_partner : Cond.code yX4_partner cX4_partner 2 (some .int) ∈ wL := List.mem_filter.mpr ⟨wL_t3 _ (List.mem_of_getElem? (i := 81) rfl), rfl⟩
theorem wm_ml_X3_56 : Cond.methodLink RX3 56 yJ7_fill_031fb ∈ wL := List.mem_filter.mpr ⟨wL_t3 _ (List.mem_of_getElem? (i := 82) rfl), rfl⟩
theorem wm_st_J7_fill_031fb : Cond.static yJ7_fill_031fb ∈ wL := List.mem_filter.mpr ⟨wL_t3 _ (List.mem_of_getElem? (i := 83) rfl), rfl⟩
theorem wm_cd_J7_fill_031fb : Cond.code yJ7_fill_031fb cJ7_fill_031fb 4 none ∈ wL := List.mem_filter.mpr ⟨wL_t3 _ (List.mem_of_getElem? (i := 84) rfl), rfl⟩
theorem wm_st_X7_subsetsOf : Cond.static yX7_subsetsOf ∈ wL := List.mem_filter.mpr ⟨wL_t3 _ (List.mem_of_getElem? (i := 86) rfl), rfl⟩
theorem wm_cd_X7_subsetsOf : Cond.code yX7_subsetsOf cX7_subsetsOf 1 (some .int) ∈ wL := List.mem_filter.mpr ⟨wL_t3 _ (List.mem_of_getElem? (i := 87) rfl), rfl⟩
theorem wm_ml_X7_277 : Cond.methodLink RX7 277 yJ6_bitCount_0f7a4 ∈ wL := List.mem_filter.mpr ⟨wL_t3 _ (List.mem_of_getElem? (i := 88) rfl), rfl⟩
theorem wm_ml_X3_68 : Cond.methodLink RX3 68 yX3_mayIt ∈ wL := List.mem_filter.mpr ⟨wL_t3 _ (List.mem_of_getElem? (i := 89) rfl), rfl⟩
theorem wm_im_X3_mayIt : Cond.instanceMethod yX3_mayIt ∈ wL := List.mem_filter.mpr ⟨wL_t3 _ (List.mem_of_getElem? (i := 91) rfl), rfl⟩
theorem wm_se_X3_mayIt : Cond.selects RX3 yX3_mayIt yX3_mayIt ∈ wL := List.mem_filter.mpr ⟨wL_p1 (⟨"SwornPounds$Pans", "mayIt", "(I)Z"⟩, _) (List.mem_of_getElem? (i := 10) rfl), rfl⟩
theorem wm_cd_X3_mayIt : Cond.code yX3_mayIt cX3_mayIt 2 (some .boolean) ∈ wL := List.mem_filter.mpr ⟨wL_t3 _ (List.mem_of_getElem? (i := 92) rfl), rfl⟩
theorem wm_ml_X3_71 : Cond.methodLink RX3 71 yX3_seatSecond ∈ wL := List.mem_filter.mpr ⟨wL_t3 _ (List.mem_of_getElem? (i := 93) rfl), rfl⟩
theorem wm_im_X3_seatSecond : Cond.instanceMethod yX3_seatSecond ∈ wL := List.mem_filter.mpr ⟨wL_t3 _ (List.mem_of_getElem? (i := 95) rfl), rfl⟩
theorem wm_se_X3_seatSecond : Cond.selects RX3 yX3_seatSecond yX3_seatSecond ∈ wL := List.mem_filter.mpr ⟨wL_p1 (⟨"SwornPounds$Pans", "seatSecond", "([IIII)V"⟩, _) (List.mem_of_getElem? (i := 11) rfl), rfl⟩
theorem wm_cd_X3_seatSecond : Cond.code yX3_seatSecond cX3_seatSecond 9 none ∈ wL := List.mem_filter.mpr ⟨wL_t3 _ (List.mem_of_getElem? (i := 96) rfl), rfl⟩
theorem wm_ml_X3_79 : Cond.methodLink RX3 79 yX3_note ∈ wL := List.mem_filter.mpr ⟨wL_t3 _ (List.mem_of_getElem? (i := 97) rfl), rfl⟩
theorem wm_im_X3_note : Cond.instanceMethod yX3_note ∈ wL := List.mem_filter.mpr ⟨wL_t3 _ (List.mem_of_getElem? (i := 99) rfl), rfl⟩
theorem wm_se_X3_note : Cond.selects RX3 yX3_note yX3_note ∈ wL := List.mem_filter.mpr ⟨wL_p1 (⟨"SwornPounds$Pans", "note", "(IIII)V"⟩, _) (List.mem_of_getElem? (i := 12) rfl), rfl⟩
theorem wm_cd_X3_note : Cond.code yX3_note cX3_note 5 none ∈ wL := List.mem_filter.mpr ⟨wL_t3 _ (List.mem_of_getElem? (i := 100) rfl), rfl⟩
theorem wm_ml_X3_83 : Cond.methodLink RX3 83 Lib.Math.abs.name ∈ wL := List.mem_filter.mpr ⟨wL_t3 _ (List.mem_of_getElem? (i := 101) rfl), rfl⟩
theorem wm_ml_X3_88 : Cond.methodLink RX3 88 Lib.Math.min.name ∈ wL := List.mem_filter.mpr ⟨wL_t3 _ (List.mem_of_getElem? (i := 102) rfl), rfl⟩
theorem wm_ml_X3_91 : Cond.methodLink RX3 91 yX3_keepFewest ∈ wL := List.mem_filter.mpr ⟨wL_t3 _ (List.mem_of_getElem? (i := 103) rfl), rfl⟩
theorem wm_im_X3_keepFewest : Cond.instanceMethod yX3_keepFewest ∈ wL := List.mem_filter.mpr ⟨wL_t3 _ (List.mem_of_getElem? (i := 105) rfl), rfl⟩
theorem wm_se_X3_keepFewest : Cond.selects RX3 yX3_keepFewest yX3_keepFewest ∈ wL := List.mem_filter.mpr ⟨wL_p1 (⟨"SwornPounds$Pans", "keepFewest", "(II)V"⟩, _) (List.mem_of_getElem? (i := 13) rfl), rfl⟩
theorem wm_cd_X3_keepFewest : Cond.code yX3_keepFewest cX3_keepFewest 4 none ∈ wL := List.mem_filter.mpr ⟨wL_t3 _ (List.mem_of_getElem? (i := 106) rfl), rfl⟩
theorem wm_ml_X3_95 : Cond.methodLink RX3 95 yJ6_bitCount_0f7a4 ∈ wL := List.mem_filter.mpr ⟨wL_t3 _ (List.mem_of_getElem? (i := 107) rfl), rfl⟩
theorem wm_st_X7_nextSubset : Cond.static yX7_nextSubset ∈ wL := List.mem_filter.mpr ⟨wL_t3 _ (List.mem_of_getElem? (i := 109) rfl), rfl⟩
theorem wm_cd_X7_nextSubset : Cond.code yX7_nextSubset cX7_nextSubset 2 (some .int) ∈ wL := List.mem_filter.mpr ⟨wL_t3 _ (List.mem_of_getElem? (i := 110) rfl), rfl⟩
theorem wm_ml_L_78 : Cond.methodLink RL 78 yX8_make ∈ wL := List.mem_filter.mpr ⟨wL_t5 _ (List.mem_of_getElem? (i := 122) rfl), rfl⟩
theorem wm_im_X8_make : Cond.instanceMethod yX8_make ∈ wL := List.mem_filter.mpr ⟨wL_t5 _ (List.mem_of_getElem? (i := 123) rfl), rfl⟩
theorem wm_se_X8_make : Cond.selects RX8 yX8_make yX8_make ∈ wL := List.mem_filter.mpr ⟨wL_t5 _ (List.mem_of_getElem? (i := 124) rfl), rfl⟩
theorem wm_cd_X8_make : Cond.code yX8_make cX8_make 10 (some .int) ∈ wL := List.mem_filter.mpr ⟨wL_t5 _ (List.mem_of_getElem? (i := 125) rfl), rfl⟩
theorem wm_cl_X8_238 : Cond.constantLong RX8 238 (999) ∈ wL := List.mem_filter.mpr ⟨wL_t5 _ (List.mem_of_getElem? (i := 126) rfl), rfl⟩
theorem wm_fl_X8_232 : Cond.fieldLink RX8 232 "SwornPoundsModel" "onFirst" "I" ∈ wL := List.mem_filter.mpr ⟨wL_t4 _ (List.mem_of_getElem? (i := 97) rfl), rfl⟩
theorem wm_fl_X8_235 : Cond.fieldLink RX8 235 "SwornPoundsModel" "onSecond" "I" ∈ wL := List.mem_filter.mpr ⟨wL_t4 _ (List.mem_of_getElem? (i := 98) rfl), rfl⟩
theorem wm_ml_X8_240 : Cond.methodLink RX8 240 yX8_seat ∈ wL := List.mem_filter.mpr ⟨wL_t5 _ (List.mem_of_getElem? (i := 127) rfl), rfl⟩
theorem wm_im_X8_seat : Cond.instanceMethod yX8_seat ∈ wL := List.mem_filter.mpr ⟨wL_t5 _ (List.mem_of_getElem? (i := 129) rfl), rfl⟩
theorem wm_se_X8_seat : Cond.selects RX8 yX8_seat yX8_seat ∈ wL := List.mem_filter.mpr ⟨wL_p3 (⟨"SwornPoundsModel", "seat", "(I)Z"⟩, _) (List.mem_of_getElem? (i := 14) rfl), rfl⟩
theorem wm_cd_X8_seat : Cond.code yX8_seat cX8_seat 4 (some .boolean) ∈ wL := List.mem_filter.mpr ⟨wL_t5 _ (List.mem_of_getElem? (i := 130) rfl), rfl⟩
theorem wm_ml_X8_243 : Cond.methodLink RX8 243 yX8_difference ∈ wL := List.mem_filter.mpr ⟨wL_t5 _ (List.mem_of_getElem? (i := 131) rfl), rfl⟩
theorem wm_im_X8_difference : Cond.instanceMethod yX8_difference ∈ wL := List.mem_filter.mpr ⟨wL_t5 _ (List.mem_of_getElem? (i := 133) rfl), rfl⟩
theorem wm_se_X8_difference : Cond.selects RX8 yX8_difference yX8_difference ∈ wL := List.mem_filter.mpr ⟨wL_p3 (⟨"SwornPoundsModel", "difference", "(Z)I"⟩, _) (List.mem_of_getElem? (i := 15) rfl), rfl⟩
theorem wm_cd_X8_difference : Cond.code yX8_difference cX8_difference 2 (some .int) ∈ wL := List.mem_filter.mpr ⟨wL_t5 _ (List.mem_of_getElem? (i := 134) rfl), rfl⟩
theorem wm_ml_L_79 : Cond.methodLink RL 79 yX7_near ∈ wL := List.mem_filter.mpr ⟨wL_t3 _ (List.mem_of_getElem? (i := 111) rfl), rfl⟩
theorem wm_im_X7_near : Cond.instanceMethod yX7_near ∈ wL := List.mem_filter.mpr ⟨wL_t3 _ (List.mem_of_getElem? (i := 112) rfl), rfl⟩
theorem wm_se_X7_near : Cond.selects RX7 yX7_near yX7_near ∈ wL := List.mem_filter.mpr ⟨wL_t3 _ (List.mem_of_getElem? (i := 113) rfl), rfl⟩
theorem wm_cd_X7_near : Cond.code yX7_near cX7_near 3 (some .int) ∈ wL := List.mem_filter.mpr ⟨wL_t3 _ (List.mem_of_getElem? (i := 114) rfl), rfl⟩
theorem wm_fl_X7_169 : Cond.fieldLink RX7 169 "SwornPounds$Pans" "nearest" "I" ∈ wL := List.mem_filter.mpr ⟨wL_t1 _ (List.mem_of_getElem? (i := 176) rfl), rfl⟩
theorem wm_ml_L_83 : Cond.methodLink RL 83 yX8_near ∈ wL := List.mem_filter.mpr ⟨wL_t5 _ (List.mem_of_getElem? (i := 135) rfl), rfl⟩
theorem wm_im_X8_near : Cond.instanceMethod yX8_near ∈ wL := List.mem_filter.mpr ⟨wL_t5 _ (List.mem_of_getElem? (i := 136) rfl), rfl⟩
theorem wm_se_X8_near : Cond.selects RX8 yX8_near yX8_near ∈ wL := List.mem_filter.mpr ⟨wL_t5 _ (List.mem_of_getElem? (i := 137) rfl), rfl⟩
theorem wm_cd_X8_near : Cond.code yX8_near cX8_near 6 (some .int) ∈ wL := List.mem_filter.mpr ⟨wL_t5 _ (List.mem_of_getElem? (i := 138) rfl), rfl⟩
theorem wm_ml_L_84 : Cond.methodLink RL 84 yX7_gap ∈ wL := List.mem_filter.mpr ⟨wL_t3 _ (List.mem_of_getElem? (i := 115) rfl), rfl⟩
theorem wm_im_X7_gap : Cond.instanceMethod yX7_gap ∈ wL := List.mem_filter.mpr ⟨wL_t3 _ (List.mem_of_getElem? (i := 116) rfl), rfl⟩
theorem wm_se_X7_gap : Cond.selects RX7 yX7_gap yX7_gap ∈ wL := List.mem_filter.mpr ⟨wL_t3 _ (List.mem_of_getElem? (i := 117) rfl), rfl⟩
theorem wm_cd_X7_gap : Cond.code yX7_gap cX7_gap 2 (some .int) ∈ wL := List.mem_filter.mpr ⟨wL_t3 _ (List.mem_of_getElem? (i := 118) rfl), rfl⟩
theorem wm_ml_X7_172 : Cond.methodLink RX7 172 yX3_leastUnmade ∈ wL := List.mem_filter.mpr ⟨wL_t3 _ (List.mem_of_getElem? (i := 119) rfl), rfl⟩
theorem wm_im_X3_leastUnmade : Cond.instanceMethod yX3_leastUnmade ∈ wL := List.mem_filter.mpr ⟨wL_t3 _ (List.mem_of_getElem? (i := 120) rfl), rfl⟩
theorem wm_se_X3_leastUnmade : Cond.selects RX3 yX3_leastUnmade yX3_leastUnmade ∈ wL := List.mem_filter.mpr ⟨wL_t3 _ (List.mem_of_getElem? (i := 121) rfl), rfl⟩
theorem wm_cd_X3_leastUnmade : Cond.code yX3_leastUnmade cX3_leastUnmade 2 (some .int) ∈ wL := List.mem_filter.mpr ⟨wL_t3 _ (List.mem_of_getElem? (i := 122) rfl), rfl⟩
theorem wm_ml_L_88 : Cond.methodLink RL 88 yX8_gap ∈ wL := List.mem_filter.mpr ⟨wL_t5 _ (List.mem_of_getElem? (i := 139) rfl), rfl⟩
theorem wm_im_X8_gap : Cond.instanceMethod yX8_gap ∈ wL := List.mem_filter.mpr ⟨wL_t5 _ (List.mem_of_getElem? (i := 140) rfl), rfl⟩
theorem wm_se_X8_gap : Cond.selects RX8 yX8_gap yX8_gap ∈ wL := List.mem_filter.mpr ⟨wL_t5 _ (List.mem_of_getElem? (i := 141) rfl), rfl⟩
theorem wm_cd_X8_gap : Cond.code yX8_gap cX8_gap 3 (some .int) ∈ wL := List.mem_filter.mpr ⟨wL_t5 _ (List.mem_of_getElem? (i := 142) rfl), rfl⟩
theorem wm_ml_L_89 : Cond.methodLink RL 89 yX7_assize ∈ wL := List.mem_filter.mpr ⟨wL_t3 _ (List.mem_of_getElem? (i := 123) rfl), rfl⟩
theorem wm_im_X7_assize : Cond.instanceMethod yX7_assize ∈ wL := List.mem_filter.mpr ⟨wL_t3 _ (List.mem_of_getElem? (i := 124) rfl), rfl⟩
theorem wm_se_X7_assize : Cond.selects RX7 yX7_assize yX7_assize ∈ wL := List.mem_filter.mpr ⟨wL_t3 _ (List.mem_of_getElem? (i := 125) rfl), rfl⟩
theorem wm_cd_X7_assize : Cond.code yX7_assize cX7_assize 2 (some .int) ∈ wL := List.mem_filter.mpr ⟨wL_t3 _ (List.mem_of_getElem? (i := 126) rfl), rfl⟩
theorem wm_ml_X7_175 : Cond.methodLink RX7 175 yX4_ranked ∈ wL := List.mem_filter.mpr ⟨wL_t3 _ (List.mem_of_getElem? (i := 127) rfl), rfl⟩
theorem wm_im_X4_ranked : Cond.instanceMethod yX4_ranked ∈ wL := List.mem_filter.mpr ⟨wL_t3 _ (List.mem_of_getElem? (i := 128) rfl), rfl⟩
theorem wm_se_X4_ranked : Cond.selects RX4 yX4_ranked yX4_ranked ∈ wL := List.mem_filter.mpr ⟨wL_t3 _ (List.mem_of_getElem? (i := 129) rfl), rfl⟩
theorem wm_cd_X4_ranked : Cond.code yX4_ranked cX4_ranked 3 (some .int) ∈ wL := List.mem_filter.mpr ⟨wL_t3 _ (List.mem_of_getElem? (i := 130) rfl), rfl⟩
theorem wm_ml_X4_100 : Cond.methodLink RX4 100 yX4_howManyAhead ∈ wL := List.mem_filter.mpr ⟨wL_t3 _ (List.mem_of_getElem? (i := 131) rfl), rfl⟩
theorem wm_im_X4_howManyAhead : Cond.instanceMethod yX4_howManyAhead ∈ wL := List.mem_filter.mpr ⟨wL_t3 _ (List.mem_of_getElem? (i := 133) rfl), rfl⟩
theorem wm_se_X4_howManyAhead : Cond.selects RX4 yX4_howManyAhead yX4_howManyAhead ∈ wL := List.mem_filter.mpr ⟨wL_p1 (⟨"SwornPounds$Town", "howManyAhead", "(I)I"⟩, _) (List.mem_of_getElem? (i := 14) rfl), rfl⟩
theorem wm_cd_X4_howManyAhead : Cond.code yX4_howManyAhead cX4_howManyAhead 5 (some .int) ∈ wL := List.mem_filter.mpr ⟨wL_t3 _ (List.mem_of_getElem? (i := 134) rfl), rfl⟩
theorem wm_ml_X4_103 : Cond.methodLink RX4 103 yX4_poundsOf ∈ wL := List.mem_filter.mpr ⟨wL_t3 _ (List.mem_of_getElem? (i := 135) rfl), rfl⟩
theorem wm_ml_L_92 : Cond.methodLink RL 92 yX8_assize ∈ wL := List.mem_filter.mpr ⟨wL_t5 _ (List.mem_of_getElem? (i := 143) rfl), rfl⟩
theorem wm_im_X8_assize : Cond.instanceMethod yX8_assize ∈ wL := List.mem_filter.mpr ⟨wL_t5 _ (List.mem_of_getElem? (i := 144) rfl), rfl⟩
theorem wm_se_X8_assize : Cond.selects RX8 yX8_assize yX8_assize ∈ wL := List.mem_filter.mpr ⟨wL_t5 _ (List.mem_of_getElem? (i := 145) rfl), rfl⟩
theorem wm_cd_X8_assize : Cond.code yX8_assize cX8_assize 5 (some .int) ∈ wL := List.mem_filter.mpr ⟨wL_t5 _ (List.mem_of_getElem? (i := 146) rfl), rfl⟩
theorem wm_ml_L_93 : Cond.methodLink RL 93 yX7_just ∈ wL := List.mem_filter.mpr ⟨wL_t3 _ (List.mem_of_getElem? (i := 136) rfl), rfl⟩
theorem wm_im_X7_just : Cond.instanceMethod yX7_just ∈ wL := List.mem_filter.mpr ⟨wL_t3 _ (List.mem_of_getElem? (i := 137) rfl), rfl⟩
theorem wm_se_X7_just : Cond.selects RX7 yX7_just yX7_just ∈ wL := List.mem_filter.mpr ⟨wL_t3 _ (List.mem_of_getElem? (i := 138) rfl), rfl⟩
theorem wm_cd_X7_just : Cond.code yX7_just cX7_just 1 (some .int) ∈ wL := List.mem_filter.mpr ⟨wL_t3 _ (List.mem_of_getElem? (i := 139) rfl), rfl⟩
theorem wm_ml_X7_178 : Cond.methodLink RX7 178 yX4_mostAlike ∈ wL := List.mem_filter.mpr ⟨wL_t3 _ (List.mem_of_getElem? (i := 140) rfl), rfl⟩
theorem wm_im_X4_mostAlike : Cond.instanceMethod yX4_mostAlike ∈ wL := List.mem_filter.mpr ⟨wL_t3 _ (List.mem_of_getElem? (i := 141) rfl), rfl⟩
theorem wm_se_X4_mostAlike : Cond.selects RX4 yX4_mostAlike yX4_mostAlike ∈ wL := List.mem_filter.mpr ⟨wL_t3 _ (List.mem_of_getElem? (i := 142) rfl), rfl⟩
theorem wm_cd_X4_mostAlike : Cond.code yX4_mostAlike cX4_mostAlike 3 (some .int) ∈ wL := List.mem_filter.mpr ⟨wL_t3 _ (List.mem_of_getElem? (i := 143) rfl), rfl⟩
theorem wm_ml_X4_106 : Cond.methodLink RX4 106 yX4_howManyLike ∈ wL := List.mem_filter.mpr ⟨wL_t3 _ (List.mem_of_getElem? (i := 144) rfl), rfl⟩
theorem wm_im_X4_howManyLike : Cond.instanceMethod yX4_howManyLike ∈ wL := List.mem_filter.mpr ⟨wL_t3 _ (List.mem_of_getElem? (i := 146) rfl), rfl⟩
theorem wm_se_X4_howManyLike : Cond.selects RX4 yX4_howManyLike yX4_howManyLike ∈ wL := List.mem_filter.mpr ⟨wL_p1 (⟨"SwornPounds$Town", "howManyLike", "(I)I"⟩, _) (List.mem_of_getElem? (i := 15) rfl), rfl⟩
theorem wm_cd_X4_howManyLike : Cond.code yX4_howManyLike cX4_howManyLike 4 (some .int) ∈ wL := List.mem_filter.mpr ⟨wL_t3 _ (List.mem_of_getElem? (i := 147) rfl), rfl⟩
theorem wm_ml_L_96 : Cond.methodLink RL 96 yX8_just ∈ wL := List.mem_filter.mpr ⟨wL_t5 _ (List.mem_of_getElem? (i := 147) rfl), rfl⟩
theorem wm_im_X8_just : Cond.instanceMethod yX8_just ∈ wL := List.mem_filter.mpr ⟨wL_t5 _ (List.mem_of_getElem? (i := 148) rfl), rfl⟩
theorem wm_se_X8_just : Cond.selects RX8 yX8_just yX8_just ∈ wL := List.mem_filter.mpr ⟨wL_t5 _ (List.mem_of_getElem? (i := 149) rfl), rfl⟩
theorem wm_cd_X8_just : Cond.code yX8_just cX8_just 5 (some .int) ∈ wL := List.mem_filter.mpr ⟨wL_t5 _ (List.mem_of_getElem? (i := 150) rfl), rfl⟩
theorem wm_ml_L_97 : Cond.methodLink RL 97 yX7_price ∈ wL := List.mem_filter.mpr ⟨wL_t3 _ (List.mem_of_getElem? (i := 148) rfl), rfl⟩
theorem wm_im_X7_price : Cond.instanceMethod yX7_price ∈ wL := List.mem_filter.mpr ⟨wL_t3 _ (List.mem_of_getElem? (i := 149) rfl), rfl⟩
theorem wm_se_X7_price : Cond.selects RX7 yX7_price yX7_price ∈ wL := List.mem_filter.mpr ⟨wL_t3 _ (List.mem_of_getElem? (i := 150) rfl), rfl⟩
theorem wm_cd_X7_price : Cond.code yX7_price cX7_price 4 (some .int) ∈ wL := List.mem_filter.mpr ⟨wL_t3 _ (List.mem_of_getElem? (i := 151) rfl), rfl⟩
theorem wm_fl_X7_191 : Cond.fieldLink RX7 191 "SwornPounds$Pans" "dearest" "I" ∈ wL := List.mem_filter.mpr ⟨wL_t1 _ (List.mem_of_getElem? (i := 178) rfl), rfl⟩
theorem wm_fl_X7_194 : Cond.fieldLink RX7 194 "SwornPounds$Pans" "dearestAcross" "I" ∈ wL := List.mem_filter.mpr ⟨wL_t1 _ (List.mem_of_getElem? (i := 180) rfl), rfl⟩
theorem wm_ml_X7_181 : Cond.methodLink RX7 181 yX4_hasAll ∈ wL := List.mem_filter.mpr ⟨wL_t3 _ (List.mem_of_getElem? (i := 152) rfl), rfl⟩
theorem wm_ml_X7_184 : Cond.methodLink RX7 184 yX4_together ∈ wL := List.mem_filter.mpr ⟨wL_t3 _ (List.mem_of_getElem? (i := 153) rfl), rfl⟩
theorem wm_ml_X7_187 : Cond.methodLink RX7 187 yX3_sellDearest ∈ wL := List.mem_filter.mpr ⟨wL_t3 _ (List.mem_of_getElem? (i := 154) rfl), rfl⟩
theorem wm_im_X3_sellDearest : Cond.instanceMethod yX3_sellDearest ∈ wL := List.mem_filter.mpr ⟨wL_t3 _ (List.mem_of_getElem? (i := 155) rfl), rfl⟩
theorem wm_se_X3_sellDearest : Cond.selects RX3 yX3_sellDearest yX3_sellDearest ∈ wL := List.mem_filter.mpr ⟨wL_t3 _ (List.mem_of_getElem? (i := 156) rfl), rfl⟩
theorem wm_cd_X3_sellDearest : Cond.code yX3_sellDearest cX3_sellDearest 10 none ∈ wL := List.mem_filter.mpr ⟨wL_t3 _ (List.mem_of_getElem? (i := 157) rfl), rfl⟩
theorem wm_fl_X3_100 : Cond.fieldLink RX3 100 "SwornPounds$Pans" "dearest" "I" ∈ wL := List.mem_filter.mpr ⟨wL_t1 _ (List.mem_of_getElem? (i := 177) rfl), rfl⟩
theorem wm_fl_X3_103 : Cond.fieldLink RX3 103 "SwornPounds$Pans" "dearestAcross" "I" ∈ wL := List.mem_filter.mpr ⟨wL_t1 _ (List.mem_of_getElem? (i := 179) rfl), rfl⟩
theorem wm_ml_L_101 : Cond.methodLink RL 101 yX8_price ∈ wL := List.mem_filter.mpr ⟨wL_t5 _ (List.mem_of_getElem? (i := 151) rfl), rfl⟩
theorem wm_im_X8_price : Cond.instanceMethod yX8_price ∈ wL := List.mem_filter.mpr ⟨wL_t5 _ (List.mem_of_getElem? (i := 152) rfl), rfl⟩
theorem wm_se_X8_price : Cond.selects RX8 yX8_price yX8_price ∈ wL := List.mem_filter.mpr ⟨wL_t5 _ (List.mem_of_getElem? (i := 153) rfl), rfl⟩
theorem wm_cd_X8_price : Cond.code yX8_price cX8_price 9 (some .int) ∈ wL := List.mem_filter.mpr ⟨wL_t5 _ (List.mem_of_getElem? (i := 154) rfl), rfl⟩
theorem wm_cl_X8_247 : Cond.constantLong RX8 247 (255) ∈ wL := List.mem_filter.mpr ⟨wL_t5 _ (List.mem_of_getElem? (i := 155) rfl), rfl⟩
theorem wm_ml_L_102 : Cond.methodLink RL 102 yX7_seen ∈ wL := List.mem_filter.mpr ⟨wL_t3 _ (List.mem_of_getElem? (i := 158) rfl), rfl⟩
theorem wm_im_X7_seen : Cond.instanceMethod yX7_seen ∈ wL := List.mem_filter.mpr ⟨wL_t3 _ (List.mem_of_getElem? (i := 159) rfl), rfl⟩
theorem wm_se_X7_seen : Cond.selects RX7 yX7_seen yX7_seen ∈ wL := List.mem_filter.mpr ⟨wL_t3 _ (List.mem_of_getElem? (i := 160) rfl), rfl⟩
theorem wm_cd_X7_seen : Cond.code yX7_seen cX7_seen 4 (some .int) ∈ wL := List.mem_filter.mpr ⟨wL_t3 _ (List.mem_of_getElem? (i := 161) rfl), rfl⟩
theorem wm_fl_X7_203 : Cond.fieldLink RX7 203 "SwornPounds$Town" "sights" "I" ∈ wL := List.mem_filter.mpr ⟨wL_t1 _ (List.mem_of_getElem? (i := 63) rfl), rfl⟩
theorem wm_ml_X7_197 : Cond.methodLink RX7 197 yX4_mayBeWeighed ∈ wL := List.mem_filter.mpr ⟨wL_t3 _ (List.mem_of_getElem? (i := 162) rfl), rfl⟩
theorem wm_im_X4_mayBeWeighed : Cond.instanceMethod yX4_mayBeWeighed ∈ wL := List.mem_filter.mpr ⟨wL_t3 _ (List.mem_of_getElem? (i := 163) rfl), rfl⟩
theorem wm_se_X4_mayBeWeighed : Cond.selects RX4 yX4_mayBeWeighed yX4_mayBeWeighed ∈ wL := List.mem_filter.mpr ⟨wL_t3 _ (List.mem_of_getElem? (i := 164) rfl), rfl⟩
theorem wm_cd_X4_mayBeWeighed : Cond.code yX4_mayBeWeighed cX4_mayBeWeighed 3 (some .boolean) ∈ wL := List.mem_filter.mpr ⟨wL_t3 _ (List.mem_of_getElem? (i := 165) rfl), rfl⟩
theorem wm_ml_X4_109 : Cond.methodLink RX4 109 yX4_hasAll ∈ wL := List.mem_filter.mpr ⟨wL_t3 _ (List.mem_of_getElem? (i := 166) rfl), rfl⟩
theorem wm_ml_X7_200 : Cond.methodLink RX7 200 yX4_addSight ∈ wL := List.mem_filter.mpr ⟨wL_t3 _ (List.mem_of_getElem? (i := 167) rfl), rfl⟩
theorem wm_im_X4_addSight : Cond.instanceMethod yX4_addSight ∈ wL := List.mem_filter.mpr ⟨wL_t3 _ (List.mem_of_getElem? (i := 168) rfl), rfl⟩
theorem wm_se_X4_addSight : Cond.selects RX4 yX4_addSight yX4_addSight ∈ wL := List.mem_filter.mpr ⟨wL_t3 _ (List.mem_of_getElem? (i := 169) rfl), rfl⟩
theorem wm_cd_X4_addSight : Cond.code yX4_addSight cX4_addSight 4 (some .boolean) ∈ wL := List.mem_filter.mpr ⟨wL_t3 _ (List.mem_of_getElem? (i := 170) rfl), rfl⟩
theorem wm_ml_L_105 : Cond.methodLink RL 105 yX8_seen ∈ wL := List.mem_filter.mpr ⟨wL_t5 _ (List.mem_of_getElem? (i := 156) rfl), rfl⟩
theorem wm_im_X8_seen : Cond.instanceMethod yX8_seen ∈ wL := List.mem_filter.mpr ⟨wL_t5 _ (List.mem_of_getElem? (i := 157) rfl), rfl⟩
theorem wm_se_X8_seen : Cond.selects RX8 yX8_seen yX8_seen ∈ wL := List.mem_filter.mpr ⟨wL_t5 _ (List.mem_of_getElem? (i := 158) rfl), rfl⟩
theorem wm_cd_X8_seen : Cond.code yX8_seen cX8_seen 4 (some .int) ∈ wL := List.mem_filter.mpr ⟨wL_t5 _ (List.mem_of_getElem? (i := 159) rfl), rfl⟩
theorem wm_fl_X8_252 : Cond.fieldLink RX8 252 "SwornPoundsModel" "sights" "I" ∈ wL := List.mem_filter.mpr ⟨wL_t4 _ (List.mem_of_getElem? (i := 77) rfl), rfl⟩
theorem wm_ml_X8_249 : Cond.methodLink RX8 249 yX8_areSides ∈ wL := List.mem_filter.mpr ⟨wL_t5 _ (List.mem_of_getElem? (i := 160) rfl), rfl⟩
theorem wm_im_X8_areSides : Cond.instanceMethod yX8_areSides ∈ wL := List.mem_filter.mpr ⟨wL_t5 _ (List.mem_of_getElem? (i := 162) rfl), rfl⟩
theorem wm_se_X8_areSides : Cond.selects RX8 yX8_areSides yX8_areSides ∈ wL := List.mem_filter.mpr ⟨wL_p4 (⟨"SwornPoundsModel", "areSides", "(II)Z"⟩, _) (List.mem_of_getElem? (i := 0) rfl), rfl⟩
theorem wm_cd_X8_areSides : Cond.code yX8_areSides cX8_areSides 3 (some .boolean) ∈ wL := List.mem_filter.mpr ⟨wL_t5 _ (List.mem_of_getElem? (i := 163) rfl), rfl⟩
theorem wm_ml_L_106 : Cond.methodLink RL 106 yX7_forget ∈ wL := List.mem_filter.mpr ⟨wL_t3 _ (List.mem_of_getElem? (i := 171) rfl), rfl⟩
theorem wm_im_X7_forget : Cond.instanceMethod yX7_forget ∈ wL := List.mem_filter.mpr ⟨wL_t3 _ (List.mem_of_getElem? (i := 172) rfl), rfl⟩
theorem wm_se_X7_forget : Cond.selects RX7 yX7_forget yX7_forget ∈ wL := List.mem_filter.mpr ⟨wL_t3 _ (List.mem_of_getElem? (i := 173) rfl), rfl⟩
theorem wm_cd_X7_forget : Cond.code yX7_forget cX7_forget 2 (some .int) ∈ wL := List.mem_filter.mpr ⟨wL_t3 _ (List.mem_of_getElem? (i := 174) rfl), rfl⟩
theorem wm_ml_L_109 : Cond.methodLink RL 109 yX8_forget ∈ wL := List.mem_filter.mpr ⟨wL_t5 _ (List.mem_of_getElem? (i := 164) rfl), rfl⟩
theorem wm_im_X8_forget : Cond.instanceMethod yX8_forget ∈ wL := List.mem_filter.mpr ⟨wL_t5 _ (List.mem_of_getElem? (i := 165) rfl), rfl⟩
theorem wm_se_X8_forget : Cond.selects RX8 yX8_forget yX8_forget ∈ wL := List.mem_filter.mpr ⟨wL_t5 _ (List.mem_of_getElem? (i := 166) rfl), rfl⟩
theorem wm_cd_X8_forget : Cond.code yX8_forget cX8_forget 2 (some .int) ∈ wL := List.mem_filter.mpr ⟨wL_t5 _ (List.mem_of_getElem? (i := 167) rfl), rfl⟩
theorem wm_ml_L_110 : Cond.methodLink RL 110 yX7_airs ∈ wL := List.mem_filter.mpr ⟨wL_t3 _ (List.mem_of_getElem? (i := 175) rfl), rfl⟩
theorem wm_im_X7_airs : Cond.instanceMethod yX7_airs ∈ wL := List.mem_filter.mpr ⟨wL_t3 _ (List.mem_of_getElem? (i := 176) rfl), rfl⟩
theorem wm_se_X7_airs : Cond.selects RX7 yX7_airs yX7_airs ∈ wL := List.mem_filter.mpr ⟨wL_t3 _ (List.mem_of_getElem? (i := 177) rfl), rfl⟩
theorem wm_cd_X7_airs : Cond.code yX7_airs cX7_airs 2 (some .int) ∈ wL := List.mem_filter.mpr ⟨wL_t3 _ (List.mem_of_getElem? (i := 178) rfl), rfl⟩
theorem wm_fl_X7_209 : Cond.fieldLink RX7 209 "SwornPounds$Worlds" "count" "I" ∈ wL := List.mem_filter.mpr ⟨wL_t1 _ (List.mem_of_getElem? (i := 214) rfl), rfl⟩
theorem wm_ml_X7_206 : Cond.methodLink RX7 206 yX5_find ∈ wL := List.mem_filter.mpr ⟨wL_t3 _ (List.mem_of_getElem? (i := 179) rfl), rfl⟩
theorem wm_im_X5_find : Cond.instanceMethod yX5_find ∈ wL := List.mem_filter.mpr ⟨wL_t3 _ (List.mem_of_getElem? (i := 180) rfl), rfl⟩
theorem wm_se_X5_find : Cond.selects RX5 yX5_find yX5_find ∈ wL := List.mem_filter.mpr ⟨wL_t3 _ (List.mem_of_getElem? (i := 181) rfl), rfl⟩
theorem wm_cd_X5_find : Cond.code yX5_find cX5_find 3 none ∈ wL := List.mem_filter.mpr ⟨wL_t3 _ (List.mem_of_getElem? (i := 182) rfl), rfl⟩
theorem wm_fl_X5_24 : Cond.fieldLink RX5 24 "SwornPounds$Worlds" "count" "I" ∈ wL := List.mem_filter.mpr ⟨wL_t1 _ (List.mem_of_getElem? (i := 213) rfl), rfl⟩
theorem wm_ml_X5_28 : Cond.methodLink RX5 28 yX5_fillLeads ∈ wL := List.mem_filter.mpr ⟨wL_t3 _ (List.mem_of_getElem? (i := 183) rfl), rfl⟩
theorem wm_im_X5_fillLeads : Cond.instanceMethod yX5_fillLeads ∈ wL := List.mem_filter.mpr ⟨wL_t3 _ (List.mem_of_getElem? (i := 185) rfl), rfl⟩
theorem wm_se_X5_fillLeads : Cond.selects RX5 yX5_fillLeads yX5_fillLeads ∈ wL := List.mem_filter.mpr ⟨wL_p2 (⟨"SwornPounds$Worlds", "fillLeads", "(LSwornPounds$Town;)V"⟩, _) (List.mem_of_getElem? (i := 0) rfl), rfl⟩
theorem wm_cd_X5_fillLeads : Cond.code yX5_fillLeads cX5_fillLeads 3 none ∈ wL := List.mem_filter.mpr ⟨wL_t3 _ (List.mem_of_getElem? (i := 186) rfl), rfl⟩
theorem wm_fl_X5_53 : Cond.fieldLink RX5 53 "SwornPounds$Town" "sights" "I" ∈ wL := List.mem_filter.mpr ⟨wL_t1 _ (List.mem_of_getElem? (i := 62) rfl), rfl⟩
theorem wm_fl_X5_56 : Cond.fieldLink RX5 56 "SwornPounds$Town" "sightFirst" "[I" ∈ wL := List.mem_filter.mpr ⟨wL_t1 _ (List.mem_of_getElem? (i := 45) rfl), rfl⟩
theorem wm_fl_X5_46 : Cond.fieldLink RX5 46 "SwornPounds$Town" "sworn" "[I" ∈ wL := List.mem_filter.mpr ⟨wL_t1 _ (List.mem_of_getElem? (i := 33) rfl), rfl⟩
theorem wm_fl_X5_63 : Cond.fieldLink RX5 63 "SwornPounds$Town" "sightSecond" "[I" ∈ wL := List.mem_filter.mpr ⟨wL_t1 _ (List.mem_of_getElem? (i := 47) rfl), rfl⟩
theorem wm_ml_X5_59 : Cond.methodLink RX5 59 yX4_sumOver ∈ wL := List.mem_filter.mpr ⟨wL_t3 _ (List.mem_of_getElem? (i := 187) rfl), rfl⟩
theorem wm_ml_X5_32 : Cond.methodLink RX5 32 yX5_addIfSeen ∈ wL := List.mem_filter.mpr ⟨wL_t3 _ (List.mem_of_getElem? (i := 188) rfl), rfl⟩
theorem wm_im_X5_addIfSeen : Cond.instanceMethod yX5_addIfSeen ∈ wL := List.mem_filter.mpr ⟨wL_t3 _ (List.mem_of_getElem? (i := 190) rfl), rfl⟩
theorem wm_se_X5_addIfSeen : Cond.selects RX5 yX5_addIfSeen yX5_addIfSeen ∈ wL := List.mem_filter.mpr ⟨wL_p2 (⟨"SwornPounds$Worlds", "addIfSeen", "(LSwornPounds$Town;II)V"⟩, _) (List.mem_of_getElem? (i := 1) rfl), rfl⟩
theorem wm_cd_X5_addIfSeen : Cond.code yX5_addIfSeen cX5_addIfSeen 4 none ∈ wL := List.mem_filter.mpr ⟨wL_t3 _ (List.mem_of_getElem? (i := 191) rfl), rfl⟩
theorem wm_ml_X5_49 : Cond.methodLink RX5 49 yX5_isAsSeen ∈ wL := List.mem_filter.mpr ⟨wL_t3 _ (List.mem_of_getElem? (i := 192) rfl), rfl⟩
theorem wm_im_X5_isAsSeen : Cond.instanceMethod yX5_isAsSeen ∈ wL := List.mem_filter.mpr ⟨wL_t3 _ (List.mem_of_getElem? (i := 194) rfl), rfl⟩
theorem wm_se_X5_isAsSeen : Cond.selects RX5 yX5_isAsSeen yX5_isAsSeen ∈ wL := List.mem_filter.mpr ⟨wL_p2 (⟨"SwornPounds$Worlds", "isAsSeen", "(LSwornPounds$Town;II)Z"⟩, _) (List.mem_of_getElem? (i := 2) rfl), rfl⟩
theorem wm_cd_X5_isAsSeen : Cond.code yX5_isAsSeen cX5_isAsSeen 6 (some .boolean) ∈ wL := List.mem_filter.mpr ⟨wL_t3 _ (List.mem_of_getElem? (i := 195) rfl), rfl⟩
theorem wm_fl_X5_74 : Cond.fieldLink RX5 74 "SwornPounds$Town" "sightHow" "[I" ∈ wL := List.mem_filter.mpr ⟨wL_t1 _ (List.mem_of_getElem? (i := 49) rfl), rfl⟩
theorem wm_st_X7_balance : Cond.static yX7_balance ∈ wL := List.mem_filter.mpr ⟨wL_t3 _ (List.mem_of_getElem? (i := 198) rfl), rfl⟩
theorem wm_cd_X7_balance : Cond.code yX7_balance cX7_balance 2 (some .int) ∈ wL := List.mem_filter.mpr ⟨wL_t3 _ (List.mem_of_getElem? (i := 199) rfl), rfl⟩
theorem wm_ml_X5_36 : Cond.methodLink RX5 36 yX4_has ∈ wL := List.mem_filter.mpr ⟨wL_t3 _ (List.mem_of_getElem? (i := 200) rfl), rfl⟩
theorem wm_ml_X5_42 : Cond.methodLink RX5 42 yX5_findOf ∈ wL := List.mem_filter.mpr ⟨wL_t3 _ (List.mem_of_getElem? (i := 201) rfl), rfl⟩
theorem wm_im_X5_findOf : Cond.instanceMethod yX5_findOf ∈ wL := List.mem_filter.mpr ⟨wL_t3 _ (List.mem_of_getElem? (i := 203) rfl), rfl⟩
theorem wm_se_X5_findOf : Cond.selects RX5 yX5_findOf yX5_findOf ∈ wL := List.mem_filter.mpr ⟨wL_p2 (⟨"SwornPounds$Worlds", "findOf", "(LSwornPounds$Town;I)V"⟩, _) (List.mem_of_getElem? (i := 3) rfl), rfl⟩
theorem wm_cd_X5_findOf : Cond.code yX5_findOf cX5_findOf 4 none ∈ wL := List.mem_filter.mpr ⟨wL_t3 _ (List.mem_of_getElem? (i := 204) rfl), rfl⟩
theorem wm_ml_X7_210 : Cond.methodLink RX7 210 yX5_suspects ∈ wL := List.mem_filter.mpr ⟨wL_t3 _ (List.mem_of_getElem? (i := 205) rfl), rfl⟩
theorem wm_im_X5_suspects : Cond.instanceMethod yX5_suspects ∈ wL := List.mem_filter.mpr ⟨wL_t3 _ (List.mem_of_getElem? (i := 206) rfl), rfl⟩
theorem wm_se_X5_suspects : Cond.selects RX5 yX5_suspects yX5_suspects ∈ wL := List.mem_filter.mpr ⟨wL_t3 _ (List.mem_of_getElem? (i := 207) rfl), rfl⟩
theorem wm_cd_X5_suspects : Cond.code yX5_suspects cX5_suspects 3 (some .int) ∈ wL := List.mem_filter.mpr ⟨wL_t3 _ (List.mem_of_getElem? (i := 208) rfl), rfl⟩
theorem wm_ml_L_113 : Cond.methodLink RL 113 yX8_airs ∈ wL := List.mem_filter.mpr ⟨wL_t5 _ (List.mem_of_getElem? (i := 168) rfl), rfl⟩
theorem wm_im_X8_airs : Cond.instanceMethod yX8_airs ∈ wL := List.mem_filter.mpr ⟨wL_t5 _ (List.mem_of_getElem? (i := 169) rfl), rfl⟩
theorem wm_se_X8_airs : Cond.selects RX8 yX8_airs yX8_airs ∈ wL := List.mem_filter.mpr ⟨wL_t5 _ (List.mem_of_getElem? (i := 170) rfl), rfl⟩
theorem wm_cd_X8_airs : Cond.code yX8_airs cX8_airs 4 (some .int) ∈ wL := List.mem_filter.mpr ⟨wL_t5 _ (List.mem_of_getElem? (i := 171) rfl), rfl⟩
theorem wm_fl_X8_263 : Cond.fieldLink RX8 263 "SwornPoundsModel" "worlds" "I" ∈ wL := List.mem_filter.mpr ⟨wL_t4 _ (List.mem_of_getElem? (i := 102) rfl), rfl⟩
theorem wm_ml_X8_273 : Cond.methodLink RX8 273 yX8_findWorlds ∈ wL := List.mem_filter.mpr ⟨wL_t5 _ (List.mem_of_getElem? (i := 172) rfl), rfl⟩
theorem wm_im_X8_findWorlds : Cond.instanceMethod yX8_findWorlds ∈ wL := List.mem_filter.mpr ⟨wL_t5 _ (List.mem_of_getElem? (i := 174) rfl), rfl⟩
theorem wm_se_X8_findWorlds : Cond.selects RX8 yX8_findWorlds yX8_findWorlds ∈ wL := List.mem_filter.mpr ⟨wL_p4 (⟨"SwornPoundsModel", "findWorlds", "()V"⟩, _) (List.mem_of_getElem? (i := 1) rfl), rfl⟩
theorem wm_cd_X8_findWorlds : Cond.code yX8_findWorlds cX8_findWorlds 3 none ∈ wL := List.mem_filter.mpr ⟨wL_t5 _ (List.mem_of_getElem? (i := 175) rfl), rfl⟩
theorem wm_ml_X8_266 : Cond.methodLink RX8 266 yX8_isWorld ∈ wL := List.mem_filter.mpr ⟨wL_t5 _ (List.mem_of_getElem? (i := 176) rfl), rfl⟩
theorem wm_im_X8_isWorld : Cond.instanceMethod yX8_isWorld ∈ wL := List.mem_filter.mpr ⟨wL_t5 _ (List.mem_of_getElem? (i := 178) rfl), rfl⟩
theorem wm_se_X8_isWorld : Cond.selects RX8 yX8_isWorld yX8_isWorld ∈ wL := List.mem_filter.mpr ⟨wL_p4 (⟨"SwornPoundsModel", "isWorld", "(II)Z"⟩, _) (List.mem_of_getElem? (i := 2) rfl), rfl⟩
theorem wm_cd_X8_isWorld : Cond.code yX8_isWorld cX8_isWorld 5 (some .boolean) ∈ wL := List.mem_filter.mpr ⟨wL_t5 _ (List.mem_of_getElem? (i := 179) rfl), rfl⟩
theorem wm_ml_X8_259 : Cond.methodLink RX8 259 yX8_howAcross ∈ wL := List.mem_filter.mpr ⟨wL_t5 _ (List.mem_of_getElem? (i := 180) rfl), rfl⟩
theorem wm_im_X8_howAcross : Cond.instanceMethod yX8_howAcross ∈ wL := List.mem_filter.mpr ⟨wL_t5 _ (List.mem_of_getElem? (i := 182) rfl), rfl⟩
theorem wm_se_X8_howAcross : Cond.selects RX8 yX8_howAcross yX8_howAcross ∈ wL := List.mem_filter.mpr ⟨wL_p4 (⟨"SwornPoundsModel", "howAcross", "(IIII)I"⟩, _) (List.mem_of_getElem? (i := 3) rfl), rfl⟩
theorem wm_cd_X8_howAcross : Cond.code yX8_howAcross cX8_howAcross 6 (some .int) ∈ wL := List.mem_filter.mpr ⟨wL_t5 _ (List.mem_of_getElem? (i := 183) rfl), rfl⟩
theorem wm_ml_X8_255 : Cond.methodLink RX8 255 yX8_airyOf ∈ wL := List.mem_filter.mpr ⟨wL_t5 _ (List.mem_of_getElem? (i := 184) rfl), rfl⟩
theorem wm_im_X8_airyOf : Cond.instanceMethod yX8_airyOf ∈ wL := List.mem_filter.mpr ⟨wL_t5 _ (List.mem_of_getElem? (i := 186) rfl), rfl⟩
theorem wm_se_X8_airyOf : Cond.selects RX8 yX8_airyOf yX8_airyOf ∈ wL := List.mem_filter.mpr ⟨wL_p4 (⟨"SwornPoundsModel", "airyOf", "(III)I"⟩, _) (List.mem_of_getElem? (i := 4) rfl), rfl⟩
theorem wm_cd_X8_airyOf : Cond.code yX8_airyOf cX8_airyOf 7 (some .int) ∈ wL := List.mem_filter.mpr ⟨wL_t5 _ (List.mem_of_getElem? (i := 187) rfl), rfl⟩
theorem wm_ml_X8_269 : Cond.methodLink RX8 269 yX8_addWorld ∈ wL := List.mem_filter.mpr ⟨wL_t5 _ (List.mem_of_getElem? (i := 188) rfl), rfl⟩
theorem wm_im_X8_addWorld : Cond.instanceMethod yX8_addWorld ∈ wL := List.mem_filter.mpr ⟨wL_t5 _ (List.mem_of_getElem? (i := 190) rfl), rfl⟩
theorem wm_se_X8_addWorld : Cond.selects RX8 yX8_addWorld yX8_addWorld ∈ wL := List.mem_filter.mpr ⟨wL_p4 (⟨"SwornPoundsModel", "addWorld", "(II)V"⟩, _) (List.mem_of_getElem? (i := 5) rfl), rfl⟩
theorem wm_cd_X8_addWorld : Cond.code yX8_addWorld cX8_addWorld 3 none ∈ wL := List.mem_filter.mpr ⟨wL_t5 _ (List.mem_of_getElem? (i := 191) rfl), rfl⟩
theorem wm_ml_L_114 : Cond.methodLink RL 114 yX7_air ∈ wL := List.mem_filter.mpr ⟨wL_t3 _ (List.mem_of_getElem? (i := 209) rfl), rfl⟩
theorem wm_im_X7_air : Cond.instanceMethod yX7_air ∈ wL := List.mem_filter.mpr ⟨wL_t3 _ (List.mem_of_getElem? (i := 210) rfl), rfl⟩
theorem wm_se_X7_air : Cond.selects RX7 yX7_air yX7_air ∈ wL := List.mem_filter.mpr ⟨wL_t3 _ (List.mem_of_getElem? (i := 211) rfl), rfl⟩
theorem wm_cd_X7_air : Cond.code yX7_air cX7_air 2 (some .int) ∈ wL := List.mem_filter.mpr ⟨wL_t3 _ (List.mem_of_getElem? (i := 212) rfl), rfl⟩
theorem wm_ml_X7_213 : Cond.methodLink RX7 213 yX5_leastMore ∈ wL := List.mem_filter.mpr ⟨wL_t3 _ (List.mem_of_getElem? (i := 213) rfl), rfl⟩
theorem wm_im_X5_leastMore : Cond.instanceMethod yX5_leastMore ∈ wL := List.mem_filter.mpr ⟨wL_t3 _ (List.mem_of_getElem? (i := 214) rfl), rfl⟩
theorem wm_se_X5_leastMore : Cond.selects RX5 yX5_leastMore yX5_leastMore ∈ wL := List.mem_filter.mpr ⟨wL_t3 _ (List.mem_of_getElem? (i := 215) rfl), rfl⟩
theorem wm_cd_X5_leastMore : Cond.code yX5_leastMore cX5_leastMore 3 (some .int) ∈ wL := List.mem_filter.mpr ⟨wL_t3 _ (List.mem_of_getElem? (i := 216) rfl), rfl⟩
theorem wm_ml_L_117 : Cond.methodLink RL 117 yX8_air ∈ wL := List.mem_filter.mpr ⟨wL_t5 _ (List.mem_of_getElem? (i := 192) rfl), rfl⟩
theorem wm_im_X8_air : Cond.instanceMethod yX8_air ∈ wL := List.mem_filter.mpr ⟨wL_t5 _ (List.mem_of_getElem? (i := 193) rfl), rfl⟩
theorem wm_se_X8_air : Cond.selects RX8 yX8_air yX8_air ∈ wL := List.mem_filter.mpr ⟨wL_t5 _ (List.mem_of_getElem? (i := 194) rfl), rfl⟩
theorem wm_cd_X8_air : Cond.code yX8_air cX8_air 3 (some .int) ∈ wL := List.mem_filter.mpr ⟨wL_t5 _ (List.mem_of_getElem? (i := 195) rfl), rfl⟩
theorem wm_ml_L_118 : Cond.methodLink RL 118 yX7_cross ∈ wL := List.mem_filter.mpr ⟨wL_t3 _ (List.mem_of_getElem? (i := 217) rfl), rfl⟩
theorem wm_im_X7_cross : Cond.instanceMethod yX7_cross ∈ wL := List.mem_filter.mpr ⟨wL_t3 _ (List.mem_of_getElem? (i := 218) rfl), rfl⟩
theorem wm_se_X7_cross : Cond.selects RX7 yX7_cross yX7_cross ∈ wL := List.mem_filter.mpr ⟨wL_t3 _ (List.mem_of_getElem? (i := 219) rfl), rfl⟩
theorem wm_cd_X7_cross : Cond.code yX7_cross cX7_cross 2 (some .int) ∈ wL := List.mem_filter.mpr ⟨wL_t3 _ (List.mem_of_getElem? (i := 220) rfl), rfl⟩
theorem wm_fl_X7_219 : Cond.fieldLink RX7 219 "SwornPounds$Worlds" "bestPair" "I" ∈ wL := List.mem_filter.mpr ⟨wL_t1 _ (List.mem_of_getElem? (i := 216) rfl), rfl⟩
theorem wm_fl_X7_222 : Cond.fieldLink RX7 222 "SwornPounds$Worlds" "bestLeft" "I" ∈ wL := List.mem_filter.mpr ⟨wL_t1 _ (List.mem_of_getElem? (i := 218) rfl), rfl⟩
theorem wm_ml_X7_216 : Cond.methodLink RX7 216 yX5_choosePair ∈ wL := List.mem_filter.mpr ⟨wL_t3 _ (List.mem_of_getElem? (i := 221) rfl), rfl⟩
theorem wm_im_X5_choosePair : Cond.instanceMethod yX5_choosePair ∈ wL := List.mem_filter.mpr ⟨wL_t3 _ (List.mem_of_getElem? (i := 222) rfl), rfl⟩
theorem wm_se_X5_choosePair : Cond.selects RX5 yX5_choosePair yX5_choosePair ∈ wL := List.mem_filter.mpr ⟨wL_t3 _ (List.mem_of_getElem? (i := 223) rfl), rfl⟩
theorem wm_cd_X5_choosePair : Cond.code yX5_choosePair cX5_choosePair 4 none ∈ wL := List.mem_filter.mpr ⟨wL_t3 _ (List.mem_of_getElem? (i := 224) rfl), rfl⟩
theorem wm_fl_X5_77 : Cond.fieldLink RX5 77 "SwornPounds$Worlds" "bestPair" "I" ∈ wL := List.mem_filter.mpr ⟨wL_t1 _ (List.mem_of_getElem? (i := 215) rfl), rfl⟩
theorem wm_fl_X5_80 : Cond.fieldLink RX5 80 "SwornPounds$Worlds" "bestLeft" "I" ∈ wL := List.mem_filter.mpr ⟨wL_t1 _ (List.mem_of_getElem? (i := 217) rfl), rfl⟩
theorem wm_ml_X5_83 : Cond.methodLink RX5 83 yX4_hasTwo ∈ wL := List.mem_filter.mpr ⟨wL_t3 _ (List.mem_of_getElem? (i := 225) rfl), rfl⟩
theorem wm_ml_X5_86 : Cond.methodLink RX5 86 yX5_tryPair ∈ wL := List.mem_filter.mpr ⟨wL_t3 _ (List.mem_of_getElem? (i := 226) rfl), rfl⟩
theorem wm_im_X5_tryPair : Cond.instanceMethod yX5_tryPair ∈ wL := List.mem_filter.mpr ⟨wL_t3 _ (List.mem_of_getElem? (i := 228) rfl), rfl⟩
theorem wm_se_X5_tryPair : Cond.selects RX5 yX5_tryPair yX5_tryPair ∈ wL := List.mem_filter.mpr ⟨wL_p2 (⟨"SwornPounds$Worlds", "tryPair", "(LSwornPounds$Town;II)V"⟩, _) (List.mem_of_getElem? (i := 4) rfl), rfl⟩
theorem wm_cd_X5_tryPair : Cond.code yX5_tryPair cX5_tryPair 7 none ∈ wL := List.mem_filter.mpr ⟨wL_t3 _ (List.mem_of_getElem? (i := 229) rfl), rfl⟩
theorem wm_ml_X5_95 : Cond.methodLink RX5 95 Lib.Math.max.name ∈ wL := List.mem_filter.mpr ⟨wL_t3 _ (List.mem_of_getElem? (i := 231) rfl), rfl⟩
theorem wm_ml_X5_89 : Cond.methodLink RX5 89 yJ7_fill_53178 ∈ wL := List.mem_filter.mpr ⟨wL_t3 _ (List.mem_of_getElem? (i := 230) rfl), rfl⟩
theorem wm_ml_L_121 : Cond.methodLink RL 121 yX8_cross ∈ wL := List.mem_filter.mpr ⟨wL_t5 _ (List.mem_of_getElem? (i := 196) rfl), rfl⟩
theorem wm_im_X8_cross : Cond.instanceMethod yX8_cross ∈ wL := List.mem_filter.mpr ⟨wL_t5 _ (List.mem_of_getElem? (i := 197) rfl), rfl⟩
theorem wm_se_X8_cross : Cond.selects RX8 yX8_cross yX8_cross ∈ wL := List.mem_filter.mpr ⟨wL_t5 _ (List.mem_of_getElem? (i := 198) rfl), rfl⟩
theorem wm_cd_X8_cross : Cond.code yX8_cross cX8_cross 6 (some .int) ∈ wL := List.mem_filter.mpr ⟨wL_t5 _ (List.mem_of_getElem? (i := 199) rfl), rfl⟩
theorem wm_ml_X8_276 : Cond.methodLink RX8 276 yX8_mostLeft ∈ wL := List.mem_filter.mpr ⟨wL_t5 _ (List.mem_of_getElem? (i := 200) rfl), rfl⟩
theorem wm_im_X8_mostLeft : Cond.instanceMethod yX8_mostLeft ∈ wL := List.mem_filter.mpr ⟨wL_t5 _ (List.mem_of_getElem? (i := 202) rfl), rfl⟩
theorem wm_se_X8_mostLeft : Cond.selects RX8 yX8_mostLeft yX8_mostLeft ∈ wL := List.mem_filter.mpr ⟨wL_p4 (⟨"SwornPoundsModel", "mostLeft", "(II)I"⟩, _) (List.mem_of_getElem? (i := 6) rfl), rfl⟩
theorem wm_cd_X8_mostLeft : Cond.code yX8_mostLeft cX8_mostLeft 7 (some .int) ∈ wL := List.mem_filter.mpr ⟨wL_t5 _ (List.mem_of_getElem? (i := 203) rfl), rfl⟩
theorem wm_ml_L_122 : Cond.methodLink RL 122 yX7_chance ∈ wL := List.mem_filter.mpr ⟨wL_t3 _ (List.mem_of_getElem? (i := 232) rfl), rfl⟩
theorem wm_im_X7_chance : Cond.instanceMethod yX7_chance ∈ wL := List.mem_filter.mpr ⟨wL_t3 _ (List.mem_of_getElem? (i := 233) rfl), rfl⟩
theorem wm_se_X7_chance : Cond.selects RX7 yX7_chance yX7_chance ∈ wL := List.mem_filter.mpr ⟨wL_t3 _ (List.mem_of_getElem? (i := 234) rfl), rfl⟩
theorem wm_cd_X7_chance : Cond.code yX7_chance cX7_chance 7 (some .long) ∈ wL := List.mem_filter.mpr ⟨wL_t3 _ (List.mem_of_getElem? (i := 235) rfl), rfl⟩
theorem wm_cl_X7_225 : Cond.constantLong RX7 225 (-1000000000000000001) ∈ wL := List.mem_filter.mpr ⟨wL_t3 _ (List.mem_of_getElem? (i := 236) rfl), rfl⟩
theorem wm_cl_X7_227 : Cond.constantLong RX7 227 (-1000000000000000002) ∈ wL := List.mem_filter.mpr ⟨wL_t3 _ (List.mem_of_getElem? (i := 237) rfl), rfl⟩
theorem wm_fl_X7_236 : Cond.fieldLink RX7 236 "SwornPounds$Fraction" "upper" "J" ∈ wL := List.mem_filter.mpr ⟨wL_t2 _ (List.mem_of_getElem? (i := 1) rfl), rfl⟩
theorem wm_fl_X7_240 : Cond.fieldLink RX7 240 "SwornPounds$Fraction" "lower" "J" ∈ wL := List.mem_filter.mpr ⟨wL_t2 _ (List.mem_of_getElem? (i := 3) rfl), rfl⟩
theorem wm_ml_X7_229 : Cond.methodLink RX7 229 yX0_setHeavier ∈ wL := List.mem_filter.mpr ⟨wL_t3 _ (List.mem_of_getElem? (i := 238) rfl), rfl⟩
theorem wm_im_X0_setHeavier : Cond.instanceMethod yX0_setHeavier ∈ wL := List.mem_filter.mpr ⟨wL_t3 _ (List.mem_of_getElem? (i := 239) rfl), rfl⟩
theorem wm_se_X0_setHeavier : Cond.selects RX0 yX0_setHeavier yX0_setHeavier ∈ wL := List.mem_filter.mpr ⟨wL_t4 _ (List.mem_of_getElem? (i := 0) rfl), rfl⟩
theorem wm_cd_X0_setHeavier : Cond.code yX0_setHeavier cX0_setHeavier 16 none ∈ wL := List.mem_filter.mpr ⟨wL_t4 _ (List.mem_of_getElem? (i := 1) rfl), rfl⟩
theorem wm_fl_X0_7 : Cond.fieldLink RX0 7 "SwornPounds$Town" "weight" "[I" ∈ wL := List.mem_filter.mpr ⟨wL_t1 _ (List.mem_of_getElem? (i := 38) rfl), rfl⟩
theorem wm_ml_X0_13 : Cond.methodLink RX0 13 yX4_sumOver ∈ wL := List.mem_filter.mpr ⟨wL_t4 _ (List.mem_of_getElem? (i := 2) rfl), rfl⟩
theorem wm_ml_X0_17 : Cond.methodLink RX0 17 yJ6_bitCount_0f7a4 ∈ wL := List.mem_filter.mpr ⟨wL_t4 _ (List.mem_of_getElem? (i := 3) rfl), rfl⟩
theorem wm_ml_X0_28 : Cond.methodLink RX0 28 yX0_power ∈ wL := List.mem_filter.mpr ⟨wL_t4 _ (List.mem_of_getElem? (i := 5) rfl), rfl⟩
theorem wm_st_X0_power : Cond.static yX0_power ∈ wL := List.mem_filter.mpr ⟨wL_t4 _ (List.mem_of_getElem? (i := 6) rfl), rfl⟩
theorem wm_cd_X0_power : Cond.code yX0_power cX0_power 5 (some .long) ∈ wL := List.mem_filter.mpr ⟨wL_t4 _ (List.mem_of_getElem? (i := 7) rfl), rfl⟩
theorem wm_ml_X0_38 : Cond.methodLink RX0 38 yX0_put ∈ wL := List.mem_filter.mpr ⟨wL_t4 _ (List.mem_of_getElem? (i := 9) rfl), rfl⟩
theorem wm_im_X0_put : Cond.instanceMethod yX0_put ∈ wL := List.mem_filter.mpr ⟨wL_t4 _ (List.mem_of_getElem? (i := 11) rfl), rfl⟩
theorem wm_se_X0_put : Cond.selects RX0 yX0_put yX0_put ∈ wL := List.mem_filter.mpr ⟨wL_p2 (⟨"SwornPounds$Fraction", "put", "(JJ)V"⟩, _) (List.mem_of_getElem? (i := 5) rfl), rfl⟩
theorem wm_cd_X0_put : Cond.code yX0_put cX0_put 7 none ∈ wL := List.mem_filter.mpr ⟨wL_t4 _ (List.mem_of_getElem? (i := 12) rfl), rfl⟩
theorem wm_ml_X0_44 : Cond.methodLink RX0 44 Lib.MathLoose.abs_long.x ∈ wL := List.mem_filter.mpr ⟨wL_t4 _ (List.mem_of_getElem? (i := 13) rfl), rfl⟩
theorem wm_st_abs_long : Cond.static Lib.MathLoose.abs_long.x ∈ wL := List.mem_filter.mpr ⟨wL_t4 _ (List.mem_of_getElem? (i := 14) rfl), rfl⟩
theorem wm_cd_abs_long : Cond.code Lib.MathLoose.abs_long.x Lib.MathLoose.abs_long.code 2 (some .long) ∈ wL := List.mem_filter.mpr ⟨wL_t4 _ (List.mem_of_getElem? (i := 15) rfl), rfl⟩
theorem wm_fl_X0_54 : Cond.fieldLink RX0 54 "SwornPounds$Fraction" "upper" "J" ∈ wL := List.mem_filter.mpr ⟨wL_t2 _ (List.mem_of_getElem? (i := 0) rfl), rfl⟩
theorem wm_fl_X0_58 : Cond.fieldLink RX0 58 "SwornPounds$Fraction" "lower" "J" ∈ wL := List.mem_filter.mpr ⟨wL_t2 _ (List.mem_of_getElem? (i := 2) rfl), rfl⟩
theorem wm_ml_X0_50 : Cond.methodLink RX0 50 yX0_sharedDivisor ∈ wL := List.mem_filter.mpr ⟨wL_t4 _ (List.mem_of_getElem? (i := 16) rfl), rfl⟩
theorem wm_st_X0_sharedDivisor : Cond.static yX0_sharedDivisor ∈ wL := List.mem_filter.mpr ⟨wL_t4 _ (List.mem_of_getElem? (i := 17) rfl), rfl⟩
theorem wm_cd_X0_sharedDivisor : Cond.code yX0_sharedDivisor cX0_sharedDivisor 11 (some .long) ∈ wL := List.mem_filter.mpr ⟨wL_t4 _ (List.mem_of_getElem? (i := 18) rfl), rfl⟩
theorem wm_ml_X7_233 : Cond.methodLink RX7 233 yX0_setMean ∈ wL := List.mem_filter.mpr ⟨wL_t4 _ (List.mem_of_getElem? (i := 19) rfl), rfl⟩
theorem wm_im_X0_setMean : Cond.instanceMethod yX0_setMean ∈ wL := List.mem_filter.mpr ⟨wL_t4 _ (List.mem_of_getElem? (i := 20) rfl), rfl⟩
theorem wm_se_X0_setMean : Cond.selects RX0 yX0_setMean yX0_setMean ∈ wL := List.mem_filter.mpr ⟨wL_t4 _ (List.mem_of_getElem? (i := 21) rfl), rfl⟩
theorem wm_cd_X0_setMean : Cond.code yX0_setMean cX0_setMean 8 none ∈ wL := List.mem_filter.mpr ⟨wL_t4 _ (List.mem_of_getElem? (i := 22) rfl), rfl⟩
theorem wm_cl_X0_42 : Cond.constantLong RX0 42 (10) ∈ wL := List.mem_filter.mpr ⟨wL_t4 _ (List.mem_of_getElem? (i := 23) rfl), rfl⟩
theorem wm_ml_L_126 : Cond.methodLink RL 126 yX8_chance ∈ wL := List.mem_filter.mpr ⟨wL_t5 _ (List.mem_of_getElem? (i := 204) rfl), rfl⟩
theorem wm_im_X8_chance : Cond.instanceMethod yX8_chance ∈ wL := List.mem_filter.mpr ⟨wL_t5 _ (List.mem_of_getElem? (i := 205) rfl), rfl⟩
theorem wm_se_X8_chance : Cond.selects RX8 yX8_chance yX8_chance ∈ wL := List.mem_filter.mpr ⟨wL_t5 _ (List.mem_of_getElem? (i := 206) rfl), rfl⟩
theorem wm_cd_X8_chance : Cond.code yX8_chance cX8_chance 20 (some .long) ∈ wL := List.mem_filter.mpr ⟨wL_t5 _ (List.mem_of_getElem? (i := 207) rfl), rfl⟩
theorem wm_cl_X8_279 : Cond.constantLong RX8 279 (-1000000000000000001) ∈ wL := List.mem_filter.mpr ⟨wL_t5 _ (List.mem_of_getElem? (i := 208) rfl), rfl⟩
theorem wm_cl_X8_281 : Cond.constantLong RX8 281 (10) ∈ wL := List.mem_filter.mpr ⟨wL_t5 _ (List.mem_of_getElem? (i := 209) rfl), rfl⟩
theorem wm_cl_X8_283 : Cond.constantLong RX8 283 (50) ∈ wL := List.mem_filter.mpr ⟨wL_t5 _ (List.mem_of_getElem? (i := 210) rfl), rfl⟩
theorem wm_cl_X8_285 : Cond.constantLong RX8 285 (-1000000000000000002) ∈ wL := List.mem_filter.mpr ⟨wL_t5 _ (List.mem_of_getElem? (i := 211) rfl), rfl⟩
theorem wm_ml_X8_287 : Cond.methodLink RX8 287 yX8_lowest ∈ wL := List.mem_filter.mpr ⟨wL_t5 _ (List.mem_of_getElem? (i := 212) rfl), rfl⟩
theorem wm_st_X8_lowest : Cond.static yX8_lowest ∈ wL := List.mem_filter.mpr ⟨wL_t5 _ (List.mem_of_getElem? (i := 213) rfl), rfl⟩
theorem wm_cd_X8_lowest : Cond.code yX8_lowest cX8_lowest 11 (some .long) ∈ wL := List.mem_filter.mpr ⟨wL_t5 _ (List.mem_of_getElem? (i := 214) rfl), rfl⟩
theorem wm_ml_L_127 : Cond.methodLink RL 127 yX7_year ∈ wL := List.mem_filter.mpr ⟨wL_t4 _ (List.mem_of_getElem? (i := 24) rfl), rfl⟩
theorem wm_im_X7_year : Cond.instanceMethod yX7_year ∈ wL := List.mem_filter.mpr ⟨wL_t4 _ (List.mem_of_getElem? (i := 25) rfl), rfl⟩
theorem wm_se_X7_year : Cond.selects RX7 yX7_year yX7_year ∈ wL := List.mem_filter.mpr ⟨wL_t4 _ (List.mem_of_getElem? (i := 26) rfl), rfl⟩
theorem wm_cd_X7_year : Cond.code yX7_year cX7_year 4 (some .int) ∈ wL := List.mem_filter.mpr ⟨wL_t4 _ (List.mem_of_getElem? (i := 27) rfl), rfl⟩
theorem wm_fl_X7_246 : Cond.fieldLink RX7 246 "SwornPounds$Year" "sold" "I" ∈ wL := List.mem_filter.mpr ⟨wL_t2 _ (List.mem_of_getElem? (i := 19) rfl), rfl⟩
theorem wm_fl_X7_249 : Cond.fieldLink RX7 249 "SwornPounds$Year" "pounds" "I" ∈ wL := List.mem_filter.mpr ⟨wL_t2 _ (List.mem_of_getElem? (i := 21) rfl), rfl⟩
theorem wm_fl_X7_252 : Cond.fieldLink RX7 252 "SwornPounds$Year" "salesOff" "I" ∈ wL := List.mem_filter.mpr ⟨wL_t2 _ (List.mem_of_getElem? (i := 23) rfl), rfl⟩
theorem wm_ml_X7_243 : Cond.methodLink RX7 243 yX6_pass ∈ wL := List.mem_filter.mpr ⟨wL_t4 _ (List.mem_of_getElem? (i := 28) rfl), rfl⟩
theorem wm_im_X6_pass : Cond.instanceMethod yX6_pass ∈ wL := List.mem_filter.mpr ⟨wL_t4 _ (List.mem_of_getElem? (i := 29) rfl), rfl⟩
theorem wm_se_X6_pass : Cond.selects RX6 yX6_pass yX6_pass ∈ wL := List.mem_filter.mpr ⟨wL_t4 _ (List.mem_of_getElem? (i := 30) rfl), rfl⟩
theorem wm_cd_X6_pass : Cond.code yX6_pass cX6_pass 6 none ∈ wL := List.mem_filter.mpr ⟨wL_t4 _ (List.mem_of_getElem? (i := 31) rfl), rfl⟩
theorem wm_fl_X6_20 : Cond.fieldLink RX6 20 "SwornPounds$Year" "sold" "I" ∈ wL := List.mem_filter.mpr ⟨wL_t2 _ (List.mem_of_getElem? (i := 18) rfl), rfl⟩
theorem wm_fl_X6_24 : Cond.fieldLink RX6 24 "SwornPounds$Year" "pounds" "I" ∈ wL := List.mem_filter.mpr ⟨wL_t2 _ (List.mem_of_getElem? (i := 20) rfl), rfl⟩
theorem wm_fl_X6_27 : Cond.fieldLink RX6 27 "SwornPounds$Year" "salesOff" "I" ∈ wL := List.mem_filter.mpr ⟨wL_t2 _ (List.mem_of_getElem? (i := 22) rfl), rfl⟩
theorem wm_ck_X6_30 : Cond.constant RX6 30 (65537) ∈ wL := List.mem_filter.mpr ⟨wL_t4 _ (List.mem_of_getElem? (i := 33) rfl), rfl⟩
theorem wm_ml_X6_16 : Cond.methodLink RX6 16 yX4_copyFrom ∈ wL := List.mem_filter.mpr ⟨wL_t4 _ (List.mem_of_getElem? (i := 32) rfl), rfl⟩
theorem wm_ml_X6_31 : Cond.methodLink RX6 31 yX4_passDay ∈ wL := List.mem_filter.mpr ⟨wL_t4 _ (List.mem_of_getElem? (i := 34) rfl), rfl⟩
theorem wm_ml_X6_34 : Cond.methodLink RX6 34 yX4_has ∈ wL := List.mem_filter.mpr ⟨wL_t4 _ (List.mem_of_getElem? (i := 35) rfl), rfl⟩
theorem wm_ml_X6_38 : Cond.methodLink RX6 38 yX6_sell ∈ wL := List.mem_filter.mpr ⟨wL_t4 _ (List.mem_of_getElem? (i := 36) rfl), rfl⟩
theorem wm_im_X6_sell : Cond.instanceMethod yX6_sell ∈ wL := List.mem_filter.mpr ⟨wL_t4 _ (List.mem_of_getElem? (i := 38) rfl), rfl⟩
theorem wm_se_X6_sell : Cond.selects RX6 yX6_sell yX6_sell ∈ wL := List.mem_filter.mpr ⟨wL_p2 (⟨"SwornPounds$Year", "sell", "(I)V"⟩, _) (List.mem_of_getElem? (i := 6) rfl), rfl⟩
theorem wm_cd_X6_sell : Cond.code yX6_sell cX6_sell 5 none ∈ wL := List.mem_filter.mpr ⟨wL_t4 _ (List.mem_of_getElem? (i := 39) rfl), rfl⟩
theorem wm_fl_X6_46 : Cond.fieldLink RX6 46 "SwornPounds$Town" "sworn" "[I" ∈ wL := List.mem_filter.mpr ⟨wL_t1 _ (List.mem_of_getElem? (i := 34) rfl), rfl⟩
theorem wm_ml_X6_57 : Cond.methodLink RX6 57 Lib.Math.abs.name ∈ wL := List.mem_filter.mpr ⟨wL_t4 _ (List.mem_of_getElem? (i := 43) rfl), rfl⟩
theorem wm_fl_X6_62 : Cond.fieldLink RX6 62 "SwornPounds$Town" "limit" "I" ∈ wL := List.mem_filter.mpr ⟨wL_t1 _ (List.mem_of_getElem? (i := 56) rfl), rfl⟩
theorem wm_ml_X6_42 : Cond.methodLink RX6 42 yX4_partner ∈ wL := List.mem_filter.mpr ⟨wL_t4 _ (List.mem_of_getElem? (i := 40) rfl), rfl⟩
theorem wm_ml_X6_50 : Cond.methodLink RX6 50 yX4_sumOver ∈ wL := List.mem_filter.mpr ⟨wL_t4 _ (List.mem_of_getElem? (i := 41) rfl), rfl⟩
theorem wm_ml_X6_54 : Cond.methodLink RX6 54 yX4_poundsOfAll ∈ wL := List.mem_filter.mpr ⟨wL_t4 _ (List.mem_of_getElem? (i := 42) rfl), rfl⟩
theorem wm_ml_L_130 : Cond.methodLink RL 130 yX8_year ∈ wL := List.mem_filter.mpr ⟨wL_t5 _ (List.mem_of_getElem? (i := 215) rfl), rfl⟩
theorem wm_im_X8_year : Cond.instanceMethod yX8_year ∈ wL := List.mem_filter.mpr ⟨wL_t5 _ (List.mem_of_getElem? (i := 216) rfl), rfl⟩
theorem wm_se_X8_year : Cond.selects RX8 yX8_year yX8_year ∈ wL := List.mem_filter.mpr ⟨wL_t5 _ (List.mem_of_getElem? (i := 217) rfl), rfl⟩
theorem wm_cd_X8_year : Cond.code yX8_year cX8_year 11 (some .int) ∈ wL := List.mem_filter.mpr ⟨wL_t5 _ (List.mem_of_getElem? (i := 218) rfl), rfl⟩
theorem wm_cl_X8_291 : Cond.constantLong RX8 291 (9999) ∈ wL := List.mem_filter.mpr ⟨wL_t5 _ (List.mem_of_getElem? (i := 219) rfl), rfl⟩
theorem wm_cl_X8_293 : Cond.constantLong RX8 293 (75) ∈ wL := List.mem_filter.mpr ⟨wL_t5 _ (List.mem_of_getElem? (i := 220) rfl), rfl⟩
theorem wm_cl_X8_295 : Cond.constantLong RX8 295 (74) ∈ wL := List.mem_filter.mpr ⟨wL_t5 _ (List.mem_of_getElem? (i := 221) rfl), rfl⟩
theorem wm_cl_X8_297 : Cond.constantLong RX8 297 (65537) ∈ wL := List.mem_filter.mpr ⟨wL_t5 _ (List.mem_of_getElem? (i := 222) rfl), rfl⟩
theorem wm_ml_L_131 : Cond.methodLink RL 131 yX7_image ∈ wL := List.mem_filter.mpr ⟨wL_t4 _ (List.mem_of_getElem? (i := 44) rfl), rfl⟩
theorem wm_im_X7_image : Cond.instanceMethod yX7_image ∈ wL := List.mem_filter.mpr ⟨wL_t4 _ (List.mem_of_getElem? (i := 45) rfl), rfl⟩
theorem wm_se_X7_image : Cond.selects RX7 yX7_image yX7_image ∈ wL := List.mem_filter.mpr ⟨wL_t4 _ (List.mem_of_getElem? (i := 46) rfl), rfl⟩
theorem wm_cd_X7_image : Cond.code yX7_image cX7_image 2 (some .int) ∈ wL := List.mem_filter.mpr ⟨wL_t4 _ (List.mem_of_getElem? (i := 47) rfl), rfl⟩
theorem wm_ml_L_134 : Cond.methodLink RL 134 yX8_image ∈ wL := List.mem_filter.mpr ⟨wL_t5 _ (List.mem_of_getElem? (i := 223) rfl), rfl⟩
theorem wm_im_X8_image : Cond.instanceMethod yX8_image ∈ wL := List.mem_filter.mpr ⟨wL_t5 _ (List.mem_of_getElem? (i := 224) rfl), rfl⟩
theorem wm_se_X8_image : Cond.selects RX8 yX8_image yX8_image ∈ wL := List.mem_filter.mpr ⟨wL_t5 _ (List.mem_of_getElem? (i := 225) rfl), rfl⟩
theorem wm_cd_X8_image : Cond.code yX8_image cX8_image 2 (some .int) ∈ wL := List.mem_filter.mpr ⟨wL_t5 _ (List.mem_of_getElem? (i := 226) rfl), rfl⟩
theorem wm_fl_X8_303 : Cond.fieldLink RX8 303 "SwornPoundsModel" "keptAt" "I" ∈ wL := List.mem_filter.mpr ⟨wL_t4 _ (List.mem_of_getElem? (i := 105) rfl), rfl⟩
theorem wm_fl_X8_299 : Cond.fieldLink RX8 299 "SwornPoundsModel" "isWriting" "Z" ∈ wL := List.mem_filter.mpr ⟨wL_t4 _ (List.mem_of_getElem? (i := 106) rfl), rfl⟩
theorem wm_ml_X8_309 : Cond.methodLink RX8 309 yX8_passAll ∈ wL := List.mem_filter.mpr ⟨wL_t5 _ (List.mem_of_getElem? (i := 227) rfl), rfl⟩
theorem wm_im_X8_passAll : Cond.instanceMethod yX8_passAll ∈ wL := List.mem_filter.mpr ⟨wL_t5 _ (List.mem_of_getElem? (i := 229) rfl), rfl⟩
theorem wm_se_X8_passAll : Cond.selects RX8 yX8_passAll yX8_passAll ∈ wL := List.mem_filter.mpr ⟨wL_p4 (⟨"SwornPoundsModel", "passAll", "()V"⟩, _) (List.mem_of_getElem? (i := 7) rfl), rfl⟩
theorem wm_cd_X8_passAll : Cond.code yX8_passAll cX8_passAll 2 none ∈ wL := List.mem_filter.mpr ⟨wL_t5 _ (List.mem_of_getElem? (i := 230) rfl), rfl⟩
theorem wm_ml_X8_306 : Cond.methodLink RX8 306 yX8_pass ∈ wL := List.mem_filter.mpr ⟨wL_t5 _ (List.mem_of_getElem? (i := 231) rfl), rfl⟩
theorem wm_im_X8_pass : Cond.instanceMethod yX8_pass ∈ wL := List.mem_filter.mpr ⟨wL_t5 _ (List.mem_of_getElem? (i := 233) rfl), rfl⟩
theorem wm_se_X8_pass : Cond.selects RX8 yX8_pass yX8_pass ∈ wL := List.mem_filter.mpr ⟨wL_p4 (⟨"SwornPoundsModel", "pass", "(I)I"⟩, _) (List.mem_of_getElem? (i := 8) rfl), rfl⟩
theorem wm_cd_X8_pass : Cond.code yX8_pass cX8_pass 3 (some .int) ∈ wL := List.mem_filter.mpr ⟨wL_t5 _ (List.mem_of_getElem? (i := 234) rfl), rfl⟩
theorem wm_ml_L_135 : Cond.methodLink RL 135 yX7_restore ∈ wL := List.mem_filter.mpr ⟨wL_t4 _ (List.mem_of_getElem? (i := 48) rfl), rfl⟩
theorem wm_im_X7_restore : Cond.instanceMethod yX7_restore ∈ wL := List.mem_filter.mpr ⟨wL_t4 _ (List.mem_of_getElem? (i := 49) rfl), rfl⟩
theorem wm_se_X7_restore : Cond.selects RX7 yX7_restore yX7_restore ∈ wL := List.mem_filter.mpr ⟨wL_t4 _ (List.mem_of_getElem? (i := 50) rfl), rfl⟩
theorem wm_cd_X7_restore : Cond.code yX7_restore cX7_restore 2 (some .int) ∈ wL := List.mem_filter.mpr ⟨wL_t4 _ (List.mem_of_getElem? (i := 51) rfl), rfl⟩
theorem wm_ml_L_138 : Cond.methodLink RL 138 yX8_restore ∈ wL := List.mem_filter.mpr ⟨wL_t5 _ (List.mem_of_getElem? (i := 235) rfl), rfl⟩
theorem wm_im_X8_restore : Cond.instanceMethod yX8_restore ∈ wL := List.mem_filter.mpr ⟨wL_t5 _ (List.mem_of_getElem? (i := 236) rfl), rfl⟩
theorem wm_se_X8_restore : Cond.selects RX8 yX8_restore yX8_restore ∈ wL := List.mem_filter.mpr ⟨wL_t5 _ (List.mem_of_getElem? (i := 237) rfl), rfl⟩
theorem wm_cd_X8_restore : Cond.code yX8_restore cX8_restore 2 (some .int) ∈ wL := List.mem_filter.mpr ⟨wL_t5 _ (List.mem_of_getElem? (i := 238) rfl), rfl⟩
theorem wm_ml_L_139 : Cond.methodLink RL 139 yX7_told ∈ wL := List.mem_filter.mpr ⟨wL_t4 _ (List.mem_of_getElem? (i := 52) rfl), rfl⟩
theorem wm_im_X7_told : Cond.instanceMethod yX7_told ∈ wL := List.mem_filter.mpr ⟨wL_t4 _ (List.mem_of_getElem? (i := 53) rfl), rfl⟩
theorem wm_se_X7_told : Cond.selects RX7 yX7_told yX7_told ∈ wL := List.mem_filter.mpr ⟨wL_t4 _ (List.mem_of_getElem? (i := 54) rfl), rfl⟩
theorem wm_cd_X7_told : Cond.code yX7_told cX7_told 2 (some .int) ∈ wL := List.mem_filter.mpr ⟨wL_t4 _ (List.mem_of_getElem? (i := 55) rfl), rfl⟩
theorem wm_fl_X7_255 : Cond.fieldLink RX7 255 "SwornPounds$Town" "there" "I" ∈ wL := List.mem_filter.mpr ⟨wL_t1 _ (List.mem_of_getElem? (i := 52) rfl), rfl⟩
theorem wm_fl_X7_258 : Cond.fieldLink RX7 258 "SwornPounds$Town" "colds" "I" ∈ wL := List.mem_filter.mpr ⟨wL_t1 _ (List.mem_of_getElem? (i := 54) rfl), rfl⟩
theorem wm_ml_X7_261 : Cond.methodLink RX7 261 yX7_tellPerson ∈ wL := List.mem_filter.mpr ⟨wL_t4 _ (List.mem_of_getElem? (i := 56) rfl), rfl⟩
theorem wm_im_X7_tellPerson : Cond.instanceMethod yX7_tellPerson ∈ wL := List.mem_filter.mpr ⟨wL_t4 _ (List.mem_of_getElem? (i := 58) rfl), rfl⟩
theorem wm_se_X7_tellPerson : Cond.selects RX7 yX7_tellPerson yX7_tellPerson ∈ wL := List.mem_filter.mpr ⟨wL_p2 (⟨"SwornPounds", "tellPerson", "(II)I"⟩, _) (List.mem_of_getElem? (i := 7) rfl), rfl⟩
theorem wm_cd_X7_tellPerson : Cond.code yX7_tellPerson cX7_tellPerson 3 (some .int) ∈ wL := List.mem_filter.mpr ⟨wL_t4 _ (List.mem_of_getElem? (i := 59) rfl), rfl⟩
theorem wm_fl_X7_264 : Cond.fieldLink RX7 264 "SwornPounds$Town" "drift" "[I" ∈ wL := List.mem_filter.mpr ⟨wL_t1 _ (List.mem_of_getElem? (i := 41) rfl), rfl⟩
theorem wm_fl_X7_267 : Cond.fieldLink RX7 267 "SwornPounds$Town" "spouse" "[I" ∈ wL := List.mem_filter.mpr ⟨wL_t1 _ (List.mem_of_getElem? (i := 43) rfl), rfl⟩
theorem wm_ml_L_142 : Cond.methodLink RL 142 yX8_told ∈ wL := List.mem_filter.mpr ⟨wL_t5 _ (List.mem_of_getElem? (i := 239) rfl), rfl⟩
theorem wm_im_X8_told : Cond.instanceMethod yX8_told ∈ wL := List.mem_filter.mpr ⟨wL_t6 _ (List.mem_of_getElem? (i := 0) rfl), rfl⟩
theorem wm_se_X8_told : Cond.selects RX8 yX8_told yX8_told ∈ wL := List.mem_filter.mpr ⟨wL_t6 _ (List.mem_of_getElem? (i := 1) rfl), rfl⟩
theorem wm_cd_X8_told : Cond.code yX8_told cX8_told 2 (some .int) ∈ wL := List.mem_filter.mpr ⟨wL_t6 _ (List.mem_of_getElem? (i := 2) rfl), rfl⟩
theorem wm_cl_X8_312 : Cond.constantLong RX8 312 (89) ∈ wL := List.mem_filter.mpr ⟨wL_t6 _ (List.mem_of_getElem? (i := 3) rfl), rfl⟩
theorem wm_ml_X8_314 : Cond.methodLink RX8 314 yX8_toldOf ∈ wL := List.mem_filter.mpr ⟨wL_t6 _ (List.mem_of_getElem? (i := 4) rfl), rfl⟩
theorem wm_im_X8_toldOf : Cond.instanceMethod yX8_toldOf ∈ wL := List.mem_filter.mpr ⟨wL_t6 _ (List.mem_of_getElem? (i := 6) rfl), rfl⟩
theorem wm_se_X8_toldOf : Cond.selects RX8 yX8_toldOf yX8_toldOf ∈ wL := List.mem_filter.mpr ⟨wL_p4 (⟨"SwornPoundsModel", "toldOf", "(II)I"⟩, _) (List.mem_of_getElem? (i := 9) rfl), rfl⟩
theorem wm_cd_X8_toldOf : Cond.code yX8_toldOf cX8_toldOf 3 (some .int) ∈ wL := List.mem_filter.mpr ⟨wL_t6 _ (List.mem_of_getElem? (i := 7) rfl), rfl⟩
theorem wm_lay_X0_0 : u_lay RX0 TX0 0 ∈ wL := List.mem_filter.mpr ⟨wL_t2 _ (List.mem_of_getElem? (i := 4) rfl), rfl⟩
theorem wm_lay_X0_1 : u_lay RX0 TX0 1 ∈ wL := List.mem_filter.mpr ⟨wL_t2 _ (List.mem_of_getElem? (i := 6) rfl), rfl⟩
theorem inlX0 : ∀ w ∈ u_ws RX0 TX0 2, w ∈ wL := by
  show ∀ w ∈ [u_lay RX0 TX0 0, u_lay RX0 TX0 1], w ∈ wL
  exact List.forall_mem_cons.mpr ⟨wm_lay_X0_0, List.forall_mem_cons.mpr ⟨wm_lay_X0_1, fun _ h => absurd h List.not_mem_nil⟩⟩
theorem wm_lay_X1_0 : u_lay RX1 TX1 0 ∈ wL := List.mem_filter.mpr ⟨wL_t1 _ (List.mem_of_getElem? (i := 132) rfl), rfl⟩
theorem wm_lay_X1_1 : u_lay RX1 TX1 1 ∈ wL := List.mem_filter.mpr ⟨wL_t1 _ (List.mem_of_getElem? (i := 134) rfl), rfl⟩
theorem wm_lay_X1_2 : u_lay RX1 TX1 2 ∈ wL := List.mem_filter.mpr ⟨wL_t1 _ (List.mem_of_getElem? (i := 136) rfl), rfl⟩
theorem wm_lay_X1_3 : u_lay RX1 TX1 3 ∈ wL := List.mem_filter.mpr ⟨wL_t1 _ (List.mem_of_getElem? (i := 138) rfl), rfl⟩
theorem wm_lay_X1_4 : u_lay RX1 TX1 4 ∈ wL := List.mem_filter.mpr ⟨wL_t1 _ (List.mem_of_getElem? (i := 140) rfl), rfl⟩
theorem wm_lay_X1_5 : u_lay RX1 TX1 5 ∈ wL := List.mem_filter.mpr ⟨wL_t1 _ (List.mem_of_getElem? (i := 142) rfl), rfl⟩
theorem wm_lay_X1_6 : u_lay RX1 TX1 6 ∈ wL := List.mem_filter.mpr ⟨wL_t1 _ (List.mem_of_getElem? (i := 144) rfl), rfl⟩
theorem wm_lay_X1_7 : u_lay RX1 TX1 7 ∈ wL := List.mem_filter.mpr ⟨wL_t1 _ (List.mem_of_getElem? (i := 146) rfl), rfl⟩
theorem wm_lay_X1_8 : u_lay RX1 TX1 8 ∈ wL := List.mem_filter.mpr ⟨wL_t1 _ (List.mem_of_getElem? (i := 148) rfl), rfl⟩
theorem wm_lay_X1_9 : u_lay RX1 TX1 9 ∈ wL := List.mem_filter.mpr ⟨wL_t1 _ (List.mem_of_getElem? (i := 150) rfl), rfl⟩
theorem wm_lay_X1_10 : u_lay RX1 TX1 10 ∈ wL := List.mem_filter.mpr ⟨wL_t1 _ (List.mem_of_getElem? (i := 152) rfl), rfl⟩
theorem wm_lay_X1_11 : u_lay RX1 TX1 11 ∈ wL := List.mem_filter.mpr ⟨wL_t1 _ (List.mem_of_getElem? (i := 154) rfl), rfl⟩
theorem wm_lay_X1_12 : u_lay RX1 TX1 12 ∈ wL := List.mem_filter.mpr ⟨wL_t1 _ (List.mem_of_getElem? (i := 156) rfl), rfl⟩
theorem inlX1 : ∀ w ∈ u_ws RX1 TX1 13, w ∈ wL := by
  show ∀ w ∈ [u_lay RX1 TX1 0, u_lay RX1 TX1 1, u_lay RX1 TX1 2, u_lay RX1 TX1 3, u_lay RX1 TX1 4, u_lay RX1 TX1 5, u_lay RX1 TX1 6, u_lay RX1 TX1 7, u_lay RX1 TX1 8, u_lay RX1 TX1 9, u_lay RX1 TX1 10, u_lay RX1 TX1 11, u_lay RX1 TX1 12], w ∈ wL
  exact List.forall_mem_cons.mpr ⟨wm_lay_X1_0, List.forall_mem_cons.mpr ⟨wm_lay_X1_1, List.forall_mem_cons.mpr ⟨wm_lay_X1_2, List.forall_mem_cons.mpr ⟨wm_lay_X1_3, List.forall_mem_cons.mpr ⟨wm_lay_X1_4, List.forall_mem_cons.mpr ⟨wm_lay_X1_5, List.forall_mem_cons.mpr ⟨wm_lay_X1_6, List.forall_mem_cons.mpr ⟨wm_lay_X1_7, List.forall_mem_cons.mpr ⟨wm_lay_X1_8, List.forall_mem_cons.mpr ⟨wm_lay_X1_9, List.forall_mem_cons.mpr ⟨wm_lay_X1_10, List.forall_mem_cons.mpr ⟨wm_lay_X1_11, List.forall_mem_cons.mpr ⟨wm_lay_X1_12, fun _ h => absurd h List.not_mem_nil⟩⟩⟩⟩⟩⟩⟩⟩⟩⟩⟩⟩⟩
theorem wm_lay_X2_0 : u_lay RX2 TX2 0 ∈ wL := List.mem_filter.mpr ⟨wL_t1 _ (List.mem_of_getElem? (i := 102) rfl), rfl⟩
theorem wm_lay_X2_1 : u_lay RX2 TX2 1 ∈ wL := List.mem_filter.mpr ⟨wL_t1 _ (List.mem_of_getElem? (i := 104) rfl), rfl⟩
theorem inlX2 : ∀ w ∈ u_ws RX2 TX2 2, w ∈ wL := by
  show ∀ w ∈ [u_lay RX2 TX2 0, u_lay RX2 TX2 1], w ∈ wL
  exact List.forall_mem_cons.mpr ⟨wm_lay_X2_0, List.forall_mem_cons.mpr ⟨wm_lay_X2_1, fun _ h => absurd h List.not_mem_nil⟩⟩
theorem wm_lay_X3_0 : u_lay RX3 TX3 0 ∈ wL := List.mem_filter.mpr ⟨wL_t1 _ (List.mem_of_getElem? (i := 181) rfl), rfl⟩
theorem wm_lay_X3_1 : u_lay RX3 TX3 1 ∈ wL := List.mem_filter.mpr ⟨wL_t1 _ (List.mem_of_getElem? (i := 183) rfl), rfl⟩
theorem wm_lay_X3_2 : u_lay RX3 TX3 2 ∈ wL := List.mem_filter.mpr ⟨wL_t1 _ (List.mem_of_getElem? (i := 185) rfl), rfl⟩
theorem wm_lay_X3_3 : u_lay RX3 TX3 3 ∈ wL := List.mem_filter.mpr ⟨wL_t1 _ (List.mem_of_getElem? (i := 187) rfl), rfl⟩
theorem wm_lay_X3_4 : u_lay RX3 TX3 4 ∈ wL := List.mem_filter.mpr ⟨wL_t1 _ (List.mem_of_getElem? (i := 189) rfl), rfl⟩
theorem wm_lay_X3_5 : u_lay RX3 TX3 5 ∈ wL := List.mem_filter.mpr ⟨wL_t1 _ (List.mem_of_getElem? (i := 191) rfl), rfl⟩
theorem wm_lay_X3_6 : u_lay RX3 TX3 6 ∈ wL := List.mem_filter.mpr ⟨wL_t1 _ (List.mem_of_getElem? (i := 193) rfl), rfl⟩
theorem wm_lay_X3_7 : u_lay RX3 TX3 7 ∈ wL := List.mem_filter.mpr ⟨wL_t1 _ (List.mem_of_getElem? (i := 195) rfl), rfl⟩
theorem wm_lay_X3_8 : u_lay RX3 TX3 8 ∈ wL := List.mem_filter.mpr ⟨wL_t1 _ (List.mem_of_getElem? (i := 197) rfl), rfl⟩
theorem wm_lay_X3_9 : u_lay RX3 TX3 9 ∈ wL := List.mem_filter.mpr ⟨wL_t1 _ (List.mem_of_getElem? (i := 199) rfl), rfl⟩
theorem inlX3 : ∀ w ∈ u_ws RX3 TX3 10, w ∈ wL := by
  show ∀ w ∈ [u_lay RX3 TX3 0, u_lay RX3 TX3 1, u_lay RX3 TX3 2, u_lay RX3 TX3 3, u_lay RX3 TX3 4, u_lay RX3 TX3 5, u_lay RX3 TX3 6, u_lay RX3 TX3 7, u_lay RX3 TX3 8, u_lay RX3 TX3 9], w ∈ wL
  exact List.forall_mem_cons.mpr ⟨wm_lay_X3_0, List.forall_mem_cons.mpr ⟨wm_lay_X3_1, List.forall_mem_cons.mpr ⟨wm_lay_X3_2, List.forall_mem_cons.mpr ⟨wm_lay_X3_3, List.forall_mem_cons.mpr ⟨wm_lay_X3_4, List.forall_mem_cons.mpr ⟨wm_lay_X3_5, List.forall_mem_cons.mpr ⟨wm_lay_X3_6, List.forall_mem_cons.mpr ⟨wm_lay_X3_7, List.forall_mem_cons.mpr ⟨wm_lay_X3_8, List.forall_mem_cons.mpr ⟨wm_lay_X3_9, fun _ h => absurd h List.not_mem_nil⟩⟩⟩⟩⟩⟩⟩⟩⟩⟩
theorem wm_lay_X4_0 : u_lay RX4 TX4 0 ∈ wL := List.mem_filter.mpr ⟨wL_t1 _ (List.mem_of_getElem? (i := 64) rfl), rfl⟩
theorem wm_lay_X4_1 : u_lay RX4 TX4 1 ∈ wL := List.mem_filter.mpr ⟨wL_t1 _ (List.mem_of_getElem? (i := 66) rfl), rfl⟩
theorem wm_lay_X4_2 : u_lay RX4 TX4 2 ∈ wL := List.mem_filter.mpr ⟨wL_t1 _ (List.mem_of_getElem? (i := 68) rfl), rfl⟩
theorem wm_lay_X4_3 : u_lay RX4 TX4 3 ∈ wL := List.mem_filter.mpr ⟨wL_t1 _ (List.mem_of_getElem? (i := 70) rfl), rfl⟩
theorem wm_lay_X4_4 : u_lay RX4 TX4 4 ∈ wL := List.mem_filter.mpr ⟨wL_t1 _ (List.mem_of_getElem? (i := 72) rfl), rfl⟩
theorem wm_lay_X4_5 : u_lay RX4 TX4 5 ∈ wL := List.mem_filter.mpr ⟨wL_t1 _ (List.mem_of_getElem? (i := 74) rfl), rfl⟩
theorem wm_lay_X4_6 : u_lay RX4 TX4 6 ∈ wL := List.mem_filter.mpr ⟨wL_t1 _ (List.mem_of_getElem? (i := 76) rfl), rfl⟩
theorem wm_lay_X4_7 : u_lay RX4 TX4 7 ∈ wL := List.mem_filter.mpr ⟨wL_t1 _ (List.mem_of_getElem? (i := 78) rfl), rfl⟩
theorem wm_lay_X4_8 : u_lay RX4 TX4 8 ∈ wL := List.mem_filter.mpr ⟨wL_t1 _ (List.mem_of_getElem? (i := 80) rfl), rfl⟩
theorem wm_lay_X4_9 : u_lay RX4 TX4 9 ∈ wL := List.mem_filter.mpr ⟨wL_t1 _ (List.mem_of_getElem? (i := 82) rfl), rfl⟩
theorem wm_lay_X4_10 : u_lay RX4 TX4 10 ∈ wL := List.mem_filter.mpr ⟨wL_t1 _ (List.mem_of_getElem? (i := 84) rfl), rfl⟩
theorem wm_lay_X4_11 : u_lay RX4 TX4 11 ∈ wL := List.mem_filter.mpr ⟨wL_t1 _ (List.mem_of_getElem? (i := 86) rfl), rfl⟩
theorem inlX4 : ∀ w ∈ u_ws RX4 TX4 12, w ∈ wL := by
  show ∀ w ∈ [u_lay RX4 TX4 0, u_lay RX4 TX4 1, u_lay RX4 TX4 2, u_lay RX4 TX4 3, u_lay RX4 TX4 4, u_lay RX4 TX4 5, u_lay RX4 TX4 6, u_lay RX4 TX4 7, u_lay RX4 TX4 8, u_lay RX4 TX4 9, u_lay RX4 TX4 10, u_lay RX4 TX4 11], w ∈ wL
  exact List.forall_mem_cons.mpr ⟨wm_lay_X4_0, List.forall_mem_cons.mpr ⟨wm_lay_X4_1, List.forall_mem_cons.mpr ⟨wm_lay_X4_2, List.forall_mem_cons.mpr ⟨wm_lay_X4_3, List.forall_mem_cons.mpr ⟨wm_lay_X4_4, List.forall_mem_cons.mpr ⟨wm_lay_X4_5, List.forall_mem_cons.mpr ⟨wm_lay_X4_6, List.forall_mem_cons.mpr ⟨wm_lay_X4_7, List.forall_mem_cons.mpr ⟨wm_lay_X4_8, List.forall_mem_cons.mpr ⟨wm_lay_X4_9, List.forall_mem_cons.mpr ⟨wm_lay_X4_10, List.forall_mem_cons.mpr ⟨wm_lay_X4_11, fun _ h => absurd h List.not_mem_nil⟩⟩⟩⟩⟩⟩⟩⟩⟩⟩⟩⟩
theorem wm_lay_X5_0 : u_lay RX5 TX5 0 ∈ wL := List.mem_filter.mpr ⟨wL_t1 _ (List.mem_of_getElem? (i := 219) rfl), rfl⟩
theorem wm_lay_X5_1 : u_lay RX5 TX5 1 ∈ wL := List.mem_filter.mpr ⟨wL_t1 _ (List.mem_of_getElem? (i := 221) rfl), rfl⟩
theorem wm_lay_X5_2 : u_lay RX5 TX5 2 ∈ wL := List.mem_filter.mpr ⟨wL_t1 _ (List.mem_of_getElem? (i := 223) rfl), rfl⟩
theorem wm_lay_X5_3 : u_lay RX5 TX5 3 ∈ wL := List.mem_filter.mpr ⟨wL_t1 _ (List.mem_of_getElem? (i := 225) rfl), rfl⟩
theorem wm_lay_X5_4 : u_lay RX5 TX5 4 ∈ wL := List.mem_filter.mpr ⟨wL_t1 _ (List.mem_of_getElem? (i := 227) rfl), rfl⟩
theorem wm_lay_X5_5 : u_lay RX5 TX5 5 ∈ wL := List.mem_filter.mpr ⟨wL_t1 _ (List.mem_of_getElem? (i := 229) rfl), rfl⟩
theorem wm_lay_X5_6 : u_lay RX5 TX5 6 ∈ wL := List.mem_filter.mpr ⟨wL_t1 _ (List.mem_of_getElem? (i := 231) rfl), rfl⟩
theorem inlX5 : ∀ w ∈ u_ws RX5 TX5 7, w ∈ wL := by
  show ∀ w ∈ [u_lay RX5 TX5 0, u_lay RX5 TX5 1, u_lay RX5 TX5 2, u_lay RX5 TX5 3, u_lay RX5 TX5 4, u_lay RX5 TX5 5, u_lay RX5 TX5 6], w ∈ wL
  exact List.forall_mem_cons.mpr ⟨wm_lay_X5_0, List.forall_mem_cons.mpr ⟨wm_lay_X5_1, List.forall_mem_cons.mpr ⟨wm_lay_X5_2, List.forall_mem_cons.mpr ⟨wm_lay_X5_3, List.forall_mem_cons.mpr ⟨wm_lay_X5_4, List.forall_mem_cons.mpr ⟨wm_lay_X5_5, List.forall_mem_cons.mpr ⟨wm_lay_X5_6, fun _ h => absurd h List.not_mem_nil⟩⟩⟩⟩⟩⟩⟩
theorem wm_lay_X6_0 : u_lay RX6 TX6 0 ∈ wL := List.mem_filter.mpr ⟨wL_t2 _ (List.mem_of_getElem? (i := 24) rfl), rfl⟩
theorem wm_lay_X6_1 : u_lay RX6 TX6 1 ∈ wL := List.mem_filter.mpr ⟨wL_t2 _ (List.mem_of_getElem? (i := 26) rfl), rfl⟩
theorem wm_lay_X6_2 : u_lay RX6 TX6 2 ∈ wL := List.mem_filter.mpr ⟨wL_t2 _ (List.mem_of_getElem? (i := 28) rfl), rfl⟩
theorem wm_lay_X6_3 : u_lay RX6 TX6 3 ∈ wL := List.mem_filter.mpr ⟨wL_t2 _ (List.mem_of_getElem? (i := 30) rfl), rfl⟩
theorem inlX6 : ∀ w ∈ u_ws RX6 TX6 4, w ∈ wL := by
  show ∀ w ∈ [u_lay RX6 TX6 0, u_lay RX6 TX6 1, u_lay RX6 TX6 2, u_lay RX6 TX6 3], w ∈ wL
  exact List.forall_mem_cons.mpr ⟨wm_lay_X6_0, List.forall_mem_cons.mpr ⟨wm_lay_X6_1, List.forall_mem_cons.mpr ⟨wm_lay_X6_2, List.forall_mem_cons.mpr ⟨wm_lay_X6_3, fun _ h => absurd h List.not_mem_nil⟩⟩⟩⟩
theorem wm_lay_X7_0 : u_lay RX7 TX7 0 ∈ wL := List.mem_filter.mpr ⟨wL_t2 _ (List.mem_of_getElem? (i := 42) rfl), rfl⟩
theorem wm_lay_X7_1 : u_lay RX7 TX7 1 ∈ wL := List.mem_filter.mpr ⟨wL_t2 _ (List.mem_of_getElem? (i := 44) rfl), rfl⟩
theorem wm_lay_X7_2 : u_lay RX7 TX7 2 ∈ wL := List.mem_filter.mpr ⟨wL_t2 _ (List.mem_of_getElem? (i := 46) rfl), rfl⟩
theorem wm_lay_X7_3 : u_lay RX7 TX7 3 ∈ wL := List.mem_filter.mpr ⟨wL_t2 _ (List.mem_of_getElem? (i := 48) rfl), rfl⟩
theorem wm_lay_X7_4 : u_lay RX7 TX7 4 ∈ wL := List.mem_filter.mpr ⟨wL_t2 _ (List.mem_of_getElem? (i := 50) rfl), rfl⟩
theorem wm_lay_X7_5 : u_lay RX7 TX7 5 ∈ wL := List.mem_filter.mpr ⟨wL_t2 _ (List.mem_of_getElem? (i := 52) rfl), rfl⟩
theorem wm_lay_X7_6 : u_lay RX7 TX7 6 ∈ wL := List.mem_filter.mpr ⟨wL_t2 _ (List.mem_of_getElem? (i := 54) rfl), rfl⟩
theorem wm_lay_X7_7 : u_lay RX7 TX7 7 ∈ wL := List.mem_filter.mpr ⟨wL_t2 _ (List.mem_of_getElem? (i := 56) rfl), rfl⟩
theorem wm_lay_X7_8 : u_lay RX7 TX7 8 ∈ wL := List.mem_filter.mpr ⟨wL_t2 _ (List.mem_of_getElem? (i := 58) rfl), rfl⟩
theorem inlX7 : ∀ w ∈ u_ws RX7 TX7 9, w ∈ wL := by
  show ∀ w ∈ [u_lay RX7 TX7 0, u_lay RX7 TX7 1, u_lay RX7 TX7 2, u_lay RX7 TX7 3, u_lay RX7 TX7 4, u_lay RX7 TX7 5, u_lay RX7 TX7 6, u_lay RX7 TX7 7, u_lay RX7 TX7 8], w ∈ wL
  exact List.forall_mem_cons.mpr ⟨wm_lay_X7_0, List.forall_mem_cons.mpr ⟨wm_lay_X7_1, List.forall_mem_cons.mpr ⟨wm_lay_X7_2, List.forall_mem_cons.mpr ⟨wm_lay_X7_3, List.forall_mem_cons.mpr ⟨wm_lay_X7_4, List.forall_mem_cons.mpr ⟨wm_lay_X7_5, List.forall_mem_cons.mpr ⟨wm_lay_X7_6, List.forall_mem_cons.mpr ⟨wm_lay_X7_7, List.forall_mem_cons.mpr ⟨wm_lay_X7_8, fun _ h => absurd h List.not_mem_nil⟩⟩⟩⟩⟩⟩⟩⟩⟩
theorem wm_lay_X8_0 : u_lay RX8 TX8 0 ∈ wL := List.mem_filter.mpr ⟨wL_t4 _ (List.mem_of_getElem? (i := 107) rfl), rfl⟩
theorem wm_lay_X8_1 : u_lay RX8 TX8 1 ∈ wL := List.mem_filter.mpr ⟨wL_t4 _ (List.mem_of_getElem? (i := 109) rfl), rfl⟩
theorem wm_lay_X8_2 : u_lay RX8 TX8 2 ∈ wL := List.mem_filter.mpr ⟨wL_t4 _ (List.mem_of_getElem? (i := 111) rfl), rfl⟩
theorem wm_lay_X8_3 : u_lay RX8 TX8 3 ∈ wL := List.mem_filter.mpr ⟨wL_t4 _ (List.mem_of_getElem? (i := 113) rfl), rfl⟩
theorem wm_lay_X8_4 : u_lay RX8 TX8 4 ∈ wL := List.mem_filter.mpr ⟨wL_t4 _ (List.mem_of_getElem? (i := 115) rfl), rfl⟩
theorem wm_lay_X8_5 : u_lay RX8 TX8 5 ∈ wL := List.mem_filter.mpr ⟨wL_t4 _ (List.mem_of_getElem? (i := 117) rfl), rfl⟩
theorem wm_lay_X8_6 : u_lay RX8 TX8 6 ∈ wL := List.mem_filter.mpr ⟨wL_t4 _ (List.mem_of_getElem? (i := 119) rfl), rfl⟩
theorem wm_lay_X8_7 : u_lay RX8 TX8 7 ∈ wL := List.mem_filter.mpr ⟨wL_t4 _ (List.mem_of_getElem? (i := 121) rfl), rfl⟩
theorem wm_lay_X8_8 : u_lay RX8 TX8 8 ∈ wL := List.mem_filter.mpr ⟨wL_t4 _ (List.mem_of_getElem? (i := 123) rfl), rfl⟩
theorem wm_lay_X8_9 : u_lay RX8 TX8 9 ∈ wL := List.mem_filter.mpr ⟨wL_t4 _ (List.mem_of_getElem? (i := 125) rfl), rfl⟩
theorem wm_lay_X8_10 : u_lay RX8 TX8 10 ∈ wL := List.mem_filter.mpr ⟨wL_t4 _ (List.mem_of_getElem? (i := 127) rfl), rfl⟩
theorem wm_lay_X8_11 : u_lay RX8 TX8 11 ∈ wL := List.mem_filter.mpr ⟨wL_t4 _ (List.mem_of_getElem? (i := 129) rfl), rfl⟩
theorem wm_lay_X8_12 : u_lay RX8 TX8 12 ∈ wL := List.mem_filter.mpr ⟨wL_t4 _ (List.mem_of_getElem? (i := 131) rfl), rfl⟩
theorem wm_lay_X8_13 : u_lay RX8 TX8 13 ∈ wL := List.mem_filter.mpr ⟨wL_t4 _ (List.mem_of_getElem? (i := 133) rfl), rfl⟩
theorem wm_lay_X8_14 : u_lay RX8 TX8 14 ∈ wL := List.mem_filter.mpr ⟨wL_t4 _ (List.mem_of_getElem? (i := 135) rfl), rfl⟩
theorem wm_lay_X8_15 : u_lay RX8 TX8 15 ∈ wL := List.mem_filter.mpr ⟨wL_t4 _ (List.mem_of_getElem? (i := 137) rfl), rfl⟩
theorem wm_lay_X8_16 : u_lay RX8 TX8 16 ∈ wL := List.mem_filter.mpr ⟨wL_t4 _ (List.mem_of_getElem? (i := 139) rfl), rfl⟩
theorem wm_lay_X8_17 : u_lay RX8 TX8 17 ∈ wL := List.mem_filter.mpr ⟨wL_t4 _ (List.mem_of_getElem? (i := 141) rfl), rfl⟩
theorem wm_lay_X8_18 : u_lay RX8 TX8 18 ∈ wL := List.mem_filter.mpr ⟨wL_t4 _ (List.mem_of_getElem? (i := 143) rfl), rfl⟩
theorem wm_lay_X8_19 : u_lay RX8 TX8 19 ∈ wL := List.mem_filter.mpr ⟨wL_t4 _ (List.mem_of_getElem? (i := 145) rfl), rfl⟩
theorem wm_lay_X8_20 : u_lay RX8 TX8 20 ∈ wL := List.mem_filter.mpr ⟨wL_t4 _ (List.mem_of_getElem? (i := 147) rfl), rfl⟩
theorem wm_lay_X8_21 : u_lay RX8 TX8 21 ∈ wL := List.mem_filter.mpr ⟨wL_t4 _ (List.mem_of_getElem? (i := 149) rfl), rfl⟩
theorem wm_lay_X8_22 : u_lay RX8 TX8 22 ∈ wL := List.mem_filter.mpr ⟨wL_t4 _ (List.mem_of_getElem? (i := 151) rfl), rfl⟩
theorem wm_lay_X8_23 : u_lay RX8 TX8 23 ∈ wL := List.mem_filter.mpr ⟨wL_t4 _ (List.mem_of_getElem? (i := 153) rfl), rfl⟩
theorem wm_lay_X8_24 : u_lay RX8 TX8 24 ∈ wL := List.mem_filter.mpr ⟨wL_t4 _ (List.mem_of_getElem? (i := 155) rfl), rfl⟩
theorem wm_lay_X8_25 : u_lay RX8 TX8 25 ∈ wL := List.mem_filter.mpr ⟨wL_t4 _ (List.mem_of_getElem? (i := 157) rfl), rfl⟩
theorem wm_lay_X8_26 : u_lay RX8 TX8 26 ∈ wL := List.mem_filter.mpr ⟨wL_t4 _ (List.mem_of_getElem? (i := 159) rfl), rfl⟩
theorem wm_lay_X8_27 : u_lay RX8 TX8 27 ∈ wL := List.mem_filter.mpr ⟨wL_t4 _ (List.mem_of_getElem? (i := 161) rfl), rfl⟩
theorem wm_lay_X8_28 : u_lay RX8 TX8 28 ∈ wL := List.mem_filter.mpr ⟨wL_t4 _ (List.mem_of_getElem? (i := 163) rfl), rfl⟩
theorem wm_lay_X8_29 : u_lay RX8 TX8 29 ∈ wL := List.mem_filter.mpr ⟨wL_t4 _ (List.mem_of_getElem? (i := 165) rfl), rfl⟩
theorem wm_lay_X8_30 : u_lay RX8 TX8 30 ∈ wL := List.mem_filter.mpr ⟨wL_t4 _ (List.mem_of_getElem? (i := 167) rfl), rfl⟩
theorem wm_lay_X8_31 : u_lay RX8 TX8 31 ∈ wL := List.mem_filter.mpr ⟨wL_t4 _ (List.mem_of_getElem? (i := 169) rfl), rfl⟩
theorem wm_lay_X8_32 : u_lay RX8 TX8 32 ∈ wL := List.mem_filter.mpr ⟨wL_t4 _ (List.mem_of_getElem? (i := 171) rfl), rfl⟩
theorem wm_lay_X8_33 : u_lay RX8 TX8 33 ∈ wL := List.mem_filter.mpr ⟨wL_t4 _ (List.mem_of_getElem? (i := 173) rfl), rfl⟩
theorem wm_lay_X8_34 : u_lay RX8 TX8 34 ∈ wL := List.mem_filter.mpr ⟨wL_t4 _ (List.mem_of_getElem? (i := 175) rfl), rfl⟩
theorem wm_lay_X8_35 : u_lay RX8 TX8 35 ∈ wL := List.mem_filter.mpr ⟨wL_t4 _ (List.mem_of_getElem? (i := 177) rfl), rfl⟩
theorem wm_lay_X8_36 : u_lay RX8 TX8 36 ∈ wL := List.mem_filter.mpr ⟨wL_t4 _ (List.mem_of_getElem? (i := 179) rfl), rfl⟩
theorem wm_lay_X8_37 : u_lay RX8 TX8 37 ∈ wL := List.mem_filter.mpr ⟨wL_t4 _ (List.mem_of_getElem? (i := 181) rfl), rfl⟩
theorem wm_lay_X8_38 : u_lay RX8 TX8 38 ∈ wL := List.mem_filter.mpr ⟨wL_t4 _ (List.mem_of_getElem? (i := 183) rfl), rfl⟩
theorem wm_lay_X8_39 : u_lay RX8 TX8 39 ∈ wL := List.mem_filter.mpr ⟨wL_t4 _ (List.mem_of_getElem? (i := 185) rfl), rfl⟩
theorem wm_lay_X8_40 : u_lay RX8 TX8 40 ∈ wL := List.mem_filter.mpr ⟨wL_t4 _ (List.mem_of_getElem? (i := 187) rfl), rfl⟩
theorem inlX8 : ∀ w ∈ u_ws RX8 TX8 41, w ∈ wL := by
  show ∀ w ∈ [u_lay RX8 TX8 0, u_lay RX8 TX8 1, u_lay RX8 TX8 2, u_lay RX8 TX8 3, u_lay RX8 TX8 4, u_lay RX8 TX8 5, u_lay RX8 TX8 6, u_lay RX8 TX8 7, u_lay RX8 TX8 8, u_lay RX8 TX8 9, u_lay RX8 TX8 10, u_lay RX8 TX8 11, u_lay RX8 TX8 12, u_lay RX8 TX8 13, u_lay RX8 TX8 14, u_lay RX8 TX8 15, u_lay RX8 TX8 16, u_lay RX8 TX8 17, u_lay RX8 TX8 18, u_lay RX8 TX8 19, u_lay RX8 TX8 20, u_lay RX8 TX8 21, u_lay RX8 TX8 22, u_lay RX8 TX8 23, u_lay RX8 TX8 24, u_lay RX8 TX8 25, u_lay RX8 TX8 26, u_lay RX8 TX8 27, u_lay RX8 TX8 28, u_lay RX8 TX8 29, u_lay RX8 TX8 30, u_lay RX8 TX8 31, u_lay RX8 TX8 32, u_lay RX8 TX8 33, u_lay RX8 TX8 34, u_lay RX8 TX8 35, u_lay RX8 TX8 36, u_lay RX8 TX8 37, u_lay RX8 TX8 38, u_lay RX8 TX8 39, u_lay RX8 TX8 40], w ∈ wL
  exact List.forall_mem_cons.mpr ⟨wm_lay_X8_0, List.forall_mem_cons.mpr ⟨wm_lay_X8_1, List.forall_mem_cons.mpr ⟨wm_lay_X8_2, List.forall_mem_cons.mpr ⟨wm_lay_X8_3, List.forall_mem_cons.mpr ⟨wm_lay_X8_4, List.forall_mem_cons.mpr ⟨wm_lay_X8_5, List.forall_mem_cons.mpr ⟨wm_lay_X8_6, List.forall_mem_cons.mpr ⟨wm_lay_X8_7, List.forall_mem_cons.mpr ⟨wm_lay_X8_8, List.forall_mem_cons.mpr ⟨wm_lay_X8_9, List.forall_mem_cons.mpr ⟨wm_lay_X8_10, List.forall_mem_cons.mpr ⟨wm_lay_X8_11, List.forall_mem_cons.mpr ⟨wm_lay_X8_12, List.forall_mem_cons.mpr ⟨wm_lay_X8_13, List.forall_mem_cons.mpr ⟨wm_lay_X8_14, List.forall_mem_cons.mpr ⟨wm_lay_X8_15, List.forall_mem_cons.mpr ⟨wm_lay_X8_16, List.forall_mem_cons.mpr ⟨wm_lay_X8_17, List.forall_mem_cons.mpr ⟨wm_lay_X8_18, List.forall_mem_cons.mpr ⟨wm_lay_X8_19, List.forall_mem_cons.mpr ⟨wm_lay_X8_20, List.forall_mem_cons.mpr ⟨wm_lay_X8_21, List.forall_mem_cons.mpr ⟨wm_lay_X8_22, List.forall_mem_cons.mpr ⟨wm_lay_X8_23, List.forall_mem_cons.mpr ⟨wm_lay_X8_24, List.forall_mem_cons.mpr ⟨wm_lay_X8_25, List.forall_mem_cons.mpr ⟨wm_lay_X8_26, List.forall_mem_cons.mpr ⟨wm_lay_X8_27, List.forall_mem_cons.mpr ⟨wm_lay_X8_28, List.forall_mem_cons.mpr ⟨wm_lay_X8_29, List.forall_mem_cons.mpr ⟨wm_lay_X8_30, List.forall_mem_cons.mpr ⟨wm_lay_X8_31, List.forall_mem_cons.mpr ⟨wm_lay_X8_32, List.forall_mem_cons.mpr ⟨wm_lay_X8_33, List.forall_mem_cons.mpr ⟨wm_lay_X8_34, List.forall_mem_cons.mpr ⟨wm_lay_X8_35, List.forall_mem_cons.mpr ⟨wm_lay_X8_36, List.forall_mem_cons.mpr ⟨wm_lay_X8_37, List.forall_mem_cons.mpr ⟨wm_lay_X8_38, List.forall_mem_cons.mpr ⟨wm_lay_X8_39, List.forall_mem_cons.mpr ⟨wm_lay_X8_40, fun _ h => absurd h List.not_mem_nil⟩⟩⟩⟩⟩⟩⟩⟩⟩⟩⟩⟩⟩⟩⟩⟩⟩⟩⟩⟩⟩⟩⟩⟩⟩⟩⟩⟩⟩⟩⟩⟩⟩⟩⟩⟩⟩⟩⟩⟩⟩
def wL_nest : List Cond := [Cond.methodLinkNest RX7 26 yX2_init RX7, Cond.methodLinkNest RX7 33 yX1_init RX7, Cond.methodLinkNest RX7 40 yX3_init RX7, Cond.methodLinkNest RX7 47 yX5_init RX7, Cond.methodLinkNest RX7 54 yX0_init RX7, Cond.methodLinkNest RX7 61 yX6_init RX7, Cond.methodLinkNest RX2 31 yX7_within RX7, Cond.methodLinkNest RX1 107 yX7_holds RX7, Cond.methodLinkNest RX4 83 yX7_holds RX7, Cond.methodLinkNest RX3 65 yX7_subsetsOf RX7, Cond.methodLinkNest RX3 75 yX7_nextSubset RX7, Cond.methodLinkNest RX5 66 yX7_holds RX7, Cond.methodLinkNest RX5 70 yX7_balance RX7, Cond.methodLinkNest RX0 23 yX7_subsetsOf RX7, Cond.methodLinkNest RX0 34 yX7_nextSubset RX7]
theorem wq_X7_26 : Cond.methodLinkNest RX7 26 yX2_init RX7 ∈ lw_tbl := wL_t1 _ (List.mem_of_getElem? (i := 93) rfl)
theorem wq_X7_33 : Cond.methodLinkNest RX7 33 yX1_init RX7 ∈ lw_tbl := wL_t1 _ (List.mem_of_getElem? (i := 110) rfl)
theorem wq_X7_40 : Cond.methodLinkNest RX7 40 yX3_init RX7 ∈ lw_tbl := wL_t1 _ (List.mem_of_getElem? (i := 161) rfl)
theorem wq_X7_47 : Cond.methodLinkNest RX7 47 yX5_init RX7 ∈ lw_tbl := wL_t1 _ (List.mem_of_getElem? (i := 205) rfl)
theorem wq_X7_54 : Cond.methodLinkNest RX7 54 yX0_init RX7 ∈ lw_tbl := wL_t1 _ (List.mem_of_getElem? (i := 236) rfl)
theorem wq_X7_61 : Cond.methodLinkNest RX7 61 yX6_init RX7 ∈ lw_tbl := wL_t2 _ (List.mem_of_getElem? (i := 11) rfl)
theorem wq_X2_31 : Cond.methodLinkNest RX2 31 yX7_within RX7 ∈ lw_tbl := wL_t2 _ (List.mem_of_getElem? (i := 158) rfl)
theorem wq_X1_107 : Cond.methodLinkNest RX1 107 yX7_holds RX7 ∈ lw_tbl := wL_t2 _ (List.mem_of_getElem? (i := 195) rfl)
theorem wq_X4_83 : Cond.methodLinkNest RX4 83 yX7_holds RX7 ∈ lw_tbl := wL_t2 _ (List.mem_of_getElem? (i := 237) rfl)
theorem wq_X3_65 : Cond.methodLinkNest RX3 65 yX7_subsetsOf RX7 ∈ lw_tbl := wL_t3 _ (List.mem_of_getElem? (i := 85) rfl)
theorem wq_X3_75 : Cond.methodLinkNest RX3 75 yX7_nextSubset RX7 ∈ lw_tbl := wL_t3 _ (List.mem_of_getElem? (i := 108) rfl)
theorem wq_X5_66 : Cond.methodLinkNest RX5 66 yX7_holds RX7 ∈ lw_tbl := wL_t3 _ (List.mem_of_getElem? (i := 196) rfl)
theorem wq_X5_70 : Cond.methodLinkNest RX5 70 yX7_balance RX7 ∈ lw_tbl := wL_t3 _ (List.mem_of_getElem? (i := 197) rfl)
theorem wq_X0_23 : Cond.methodLinkNest RX0 23 yX7_subsetsOf RX7 ∈ lw_tbl := wL_t4 _ (List.mem_of_getElem? (i := 4) rfl)
theorem wq_X0_34 : Cond.methodLinkNest RX0 34 yX7_nextSubset RX7 ∈ lw_tbl := wL_t4 _ (List.mem_of_getElem? (i := 8) rfl)
theorem wL_nest_in : ∀ w ∈ wL_nest, w ∈ lw_tbl := List.forall_mem_cons.mpr ⟨wq_X7_26, List.forall_mem_cons.mpr ⟨wq_X7_33, List.forall_mem_cons.mpr ⟨wq_X7_40, List.forall_mem_cons.mpr ⟨wq_X7_47, List.forall_mem_cons.mpr ⟨wq_X7_54, List.forall_mem_cons.mpr ⟨wq_X7_61, List.forall_mem_cons.mpr ⟨wq_X2_31, List.forall_mem_cons.mpr ⟨wq_X1_107, List.forall_mem_cons.mpr ⟨wq_X4_83, List.forall_mem_cons.mpr ⟨wq_X3_65, List.forall_mem_cons.mpr ⟨wq_X3_75, List.forall_mem_cons.mpr ⟨wq_X5_66, List.forall_mem_cons.mpr ⟨wq_X5_70, List.forall_mem_cons.mpr ⟨wq_X0_23, List.forall_mem_cons.mpr ⟨wq_X0_34, fun _ h => absurd h List.not_mem_nil⟩⟩⟩⟩⟩⟩⟩⟩⟩⟩⟩⟩⟩⟩⟩
theorem wn_X7_26 : Cond.methodLinkNest RX7 26 yX2_init RX7 ∈ wL_nest := List.mem_of_getElem? (i := 0) rfl
theorem wn_X7_33 : Cond.methodLinkNest RX7 33 yX1_init RX7 ∈ wL_nest := List.mem_of_getElem? (i := 1) rfl
theorem wn_X7_40 : Cond.methodLinkNest RX7 40 yX3_init RX7 ∈ wL_nest := List.mem_of_getElem? (i := 2) rfl
theorem wn_X7_47 : Cond.methodLinkNest RX7 47 yX5_init RX7 ∈ wL_nest := List.mem_of_getElem? (i := 3) rfl
theorem wn_X7_54 : Cond.methodLinkNest RX7 54 yX0_init RX7 ∈ wL_nest := List.mem_of_getElem? (i := 4) rfl
theorem wn_X7_61 : Cond.methodLinkNest RX7 61 yX6_init RX7 ∈ wL_nest := List.mem_of_getElem? (i := 5) rfl
theorem wn_X2_31 : Cond.methodLinkNest RX2 31 yX7_within RX7 ∈ wL_nest := List.mem_of_getElem? (i := 6) rfl
theorem wn_X1_107 : Cond.methodLinkNest RX1 107 yX7_holds RX7 ∈ wL_nest := List.mem_of_getElem? (i := 7) rfl
theorem wn_X4_83 : Cond.methodLinkNest RX4 83 yX7_holds RX7 ∈ wL_nest := List.mem_of_getElem? (i := 8) rfl
theorem wn_X3_65 : Cond.methodLinkNest RX3 65 yX7_subsetsOf RX7 ∈ wL_nest := List.mem_of_getElem? (i := 9) rfl
theorem wn_X3_75 : Cond.methodLinkNest RX3 75 yX7_nextSubset RX7 ∈ wL_nest := List.mem_of_getElem? (i := 10) rfl
theorem wn_X5_66 : Cond.methodLinkNest RX5 66 yX7_holds RX7 ∈ wL_nest := List.mem_of_getElem? (i := 11) rfl
theorem wn_X5_70 : Cond.methodLinkNest RX5 70 yX7_balance RX7 ∈ wL_nest := List.mem_of_getElem? (i := 12) rfl
theorem wn_X0_23 : Cond.methodLinkNest RX0 23 yX7_subsetsOf RX7 ∈ wL_nest := List.mem_of_getElem? (i := 13) rfl
theorem wn_X0_34 : Cond.methodLinkNest RX0 34 yX7_nextSubset RX7 ∈ wL_nest := List.mem_of_getElem? (i := 14) rfl
end
section
theorem dX0_init_0 : decode cX0_init 0 = .ok (.aload_n 0, 1) := by decide +kernel
theorem dX0_init_1 : decode cX0_init 1 = .ok (.invokespecial 1, 3) := by decide +kernel
theorem dX0_init_4 : decode cX0_init 4 = .ok (.return_, 1) := by decide +kernel
theorem dX0_setHeavier_0 : decode cX0_setHeavier 0 = .ok (.iload_n 2, 1) := by decide +kernel
theorem dX0_setHeavier_1 : decode cX0_setHeavier 1 = .ok (.iload_n 3, 1) := by decide +kernel
theorem dX0_setHeavier_2 : decode cX0_setHeavier 2 = .ok (.ior, 1) := by decide +kernel
theorem dX0_setHeavier_3 : decode cX0_setHeavier 3 = .ok (.istore 6, 2) := by decide +kernel
theorem dX0_setHeavier_5 : decode cX0_setHeavier 5 = .ok (.aload_n 1, 1) := by decide +kernel
theorem dX0_setHeavier_6 : decode cX0_setHeavier 6 = .ok (.iload_n 2, 1) := by decide +kernel
theorem dX0_setHeavier_7 : decode cX0_setHeavier 7 = .ok (.aload_n 1, 1) := by decide +kernel
theorem dX0_setHeavier_8 : decode cX0_setHeavier 8 = .ok (.getfield 7, 3) := by decide +kernel
theorem dX0_setHeavier_11 : decode cX0_setHeavier 11 = .ok (.invokevirtual 13, 3) := by decide +kernel
theorem dX0_setHeavier_14 : decode cX0_setHeavier 14 = .ok (.aload_n 1, 1) := by decide +kernel
theorem dX0_setHeavier_15 : decode cX0_setHeavier 15 = .ok (.iload_n 3, 1) := by decide +kernel
theorem dX0_setHeavier_16 : decode cX0_setHeavier 16 = .ok (.aload_n 1, 1) := by decide +kernel
theorem dX0_setHeavier_17 : decode cX0_setHeavier 17 = .ok (.getfield 7, 3) := by decide +kernel
theorem dX0_setHeavier_20 : decode cX0_setHeavier 20 = .ok (.invokevirtual 13, 3) := by decide +kernel
theorem dX0_setHeavier_23 : decode cX0_setHeavier 23 = .ok (.isub, 1) := by decide +kernel
theorem dX0_setHeavier_24 : decode cX0_setHeavier 24 = .ok (.istore 7, 2) := by decide +kernel
theorem dX0_setHeavier_26 : decode cX0_setHeavier 26 = .ok (.iload 6, 2) := by decide +kernel
theorem dX0_setHeavier_28 : decode cX0_setHeavier 28 = .ok (.invokestatic 17, 3) := by decide +kernel
theorem dX0_setHeavier_31 : decode cX0_setHeavier 31 = .ok (.istore 8, 2) := by decide +kernel
theorem dX0_setHeavier_33 : decode cX0_setHeavier 33 = .ok (.lconst 0, 1) := by decide +kernel
theorem dX0_setHeavier_34 : decode cX0_setHeavier 34 = .ok (.lstore 9, 2) := by decide +kernel
theorem dX0_setHeavier_36 : decode cX0_setHeavier 36 = .ok (.iconst 0, 1) := by decide +kernel
theorem dX0_setHeavier_37 : decode cX0_setHeavier 37 = .ok (.istore 11, 2) := by decide +kernel
theorem dX0_setHeavier_39 : decode cX0_setHeavier 39 = .ok (.iload 6, 2) := by decide +kernel
theorem dX0_setHeavier_41 : decode cX0_setHeavier 41 = .ok (.invokestatic 23, 3) := by decide +kernel
theorem dX0_setHeavier_44 : decode cX0_setHeavier 44 = .ok (.istore 12, 2) := by decide +kernel
theorem dX0_setHeavier_46 : decode cX0_setHeavier 46 = .ok (.iconst 0, 1) := by decide +kernel
theorem dX0_setHeavier_47 : decode cX0_setHeavier 47 = .ok (.istore 13, 2) := by decide +kernel
theorem dX0_setHeavier_49 : decode cX0_setHeavier 49 = .ok (.iload 13, 2) := by decide +kernel
theorem dX0_setHeavier_51 : decode cX0_setHeavier 51 = .ok (.iload 12, 2) := by decide +kernel
theorem dX0_setHeavier_53 : decode cX0_setHeavier 53 = .ok (.if_icmp .ge 79, 3) := by decide +kernel
theorem dX0_setHeavier_56 : decode cX0_setHeavier 56 = .ok (.iload 11, 2) := by decide +kernel
theorem dX0_setHeavier_58 : decode cX0_setHeavier 58 = .ok (.iload_n 2, 1) := by decide +kernel
theorem dX0_setHeavier_59 : decode cX0_setHeavier 59 = .ok (.iand, 1) := by decide +kernel
theorem dX0_setHeavier_60 : decode cX0_setHeavier 60 = .ok (.invokestatic 17, 3) := by decide +kernel
theorem dX0_setHeavier_63 : decode cX0_setHeavier 63 = .ok (.iload 11, 2) := by decide +kernel
theorem dX0_setHeavier_65 : decode cX0_setHeavier 65 = .ok (.iload_n 3, 1) := by decide +kernel
theorem dX0_setHeavier_66 : decode cX0_setHeavier 66 = .ok (.iand, 1) := by decide +kernel
theorem dX0_setHeavier_67 : decode cX0_setHeavier 67 = .ok (.invokestatic 17, 3) := by decide +kernel
theorem dX0_setHeavier_70 : decode cX0_setHeavier 70 = .ok (.isub, 1) := by decide +kernel
theorem dX0_setHeavier_71 : decode cX0_setHeavier 71 = .ok (.istore 14, 2) := by decide +kernel
theorem dX0_setHeavier_73 : decode cX0_setHeavier 73 = .ok (.iload 7, 2) := by decide +kernel
theorem dX0_setHeavier_75 : decode cX0_setHeavier 75 = .ok (.iload 5, 2) := by decide +kernel
theorem dX0_setHeavier_77 : decode cX0_setHeavier 77 = .ok (.iload 14, 2) := by decide +kernel
theorem dX0_setHeavier_79 : decode cX0_setHeavier 79 = .ok (.imul, 1) := by decide +kernel
theorem dX0_setHeavier_80 : decode cX0_setHeavier 80 = .ok (.iadd, 1) := by decide +kernel
theorem dX0_setHeavier_81 : decode cX0_setHeavier 81 = .ok (.ifCond .le 36, 3) := by decide +kernel
theorem dX0_setHeavier_84 : decode cX0_setHeavier 84 = .ok (.iload 11, 2) := by decide +kernel
theorem dX0_setHeavier_86 : decode cX0_setHeavier 86 = .ok (.invokestatic 17, 3) := by decide +kernel
theorem dX0_setHeavier_89 : decode cX0_setHeavier 89 = .ok (.istore 15, 2) := by decide +kernel
theorem dX0_setHeavier_91 : decode cX0_setHeavier 91 = .ok (.lload 9, 2) := by decide +kernel
theorem dX0_setHeavier_93 : decode cX0_setHeavier 93 = .ok (.iload 4, 2) := by decide +kernel
theorem dX0_setHeavier_95 : decode cX0_setHeavier 95 = .ok (.iload 15, 2) := by decide +kernel
theorem dX0_setHeavier_97 : decode cX0_setHeavier 97 = .ok (.invokestatic 28, 3) := by decide +kernel
theorem dX0_setHeavier_100 : decode cX0_setHeavier 100 = .ok (.bipush 10, 2) := by decide +kernel
theorem dX0_setHeavier_102 : decode cX0_setHeavier 102 = .ok (.iload 4, 2) := by decide +kernel
theorem dX0_setHeavier_104 : decode cX0_setHeavier 104 = .ok (.isub, 1) := by decide +kernel
theorem dX0_setHeavier_105 : decode cX0_setHeavier 105 = .ok (.iload 8, 2) := by decide +kernel
theorem dX0_setHeavier_107 : decode cX0_setHeavier 107 = .ok (.iload 15, 2) := by decide +kernel
theorem dX0_setHeavier_109 : decode cX0_setHeavier 109 = .ok (.isub, 1) := by decide +kernel
theorem dX0_setHeavier_110 : decode cX0_setHeavier 110 = .ok (.invokestatic 28, 3) := by decide +kernel
theorem dX0_setHeavier_113 : decode cX0_setHeavier 113 = .ok (.lmul, 1) := by decide +kernel
theorem dX0_setHeavier_114 : decode cX0_setHeavier 114 = .ok (.ladd, 1) := by decide +kernel
theorem dX0_setHeavier_115 : decode cX0_setHeavier 115 = .ok (.lstore 9, 2) := by decide +kernel
theorem dX0_setHeavier_117 : decode cX0_setHeavier 117 = .ok (.iload 11, 2) := by decide +kernel
theorem dX0_setHeavier_119 : decode cX0_setHeavier 119 = .ok (.iload 6, 2) := by decide +kernel
theorem dX0_setHeavier_121 : decode cX0_setHeavier 121 = .ok (.invokestatic 34, 3) := by decide +kernel
theorem dX0_setHeavier_124 : decode cX0_setHeavier 124 = .ok (.istore 11, 2) := by decide +kernel
theorem dX0_setHeavier_126 : decode cX0_setHeavier 126 = .ok (.iinc 13 1, 3) := by decide +kernel
theorem dX0_setHeavier_129 : decode cX0_setHeavier 129 = .ok (.goto (-80), 3) := by decide +kernel
theorem dX0_setHeavier_132 : decode cX0_setHeavier 132 = .ok (.aload_n 0, 1) := by decide +kernel
theorem dX0_setHeavier_133 : decode cX0_setHeavier 133 = .ok (.lload 9, 2) := by decide +kernel
theorem dX0_setHeavier_135 : decode cX0_setHeavier 135 = .ok (.bipush 10, 2) := by decide +kernel
theorem dX0_setHeavier_137 : decode cX0_setHeavier 137 = .ok (.iload 8, 2) := by decide +kernel
theorem dX0_setHeavier_139 : decode cX0_setHeavier 139 = .ok (.invokestatic 28, 3) := by decide +kernel
theorem dX0_setHeavier_142 : decode cX0_setHeavier 142 = .ok (.invokevirtual 38, 3) := by decide +kernel
theorem dX0_setHeavier_145 : decode cX0_setHeavier 145 = .ok (.return_, 1) := by decide +kernel
theorem dX0_setMean_0 : decode cX0_setMean 0 = .ok (.aload_n 1, 1) := by decide +kernel
theorem dX0_setMean_1 : decode cX0_setMean 1 = .ok (.iload_n 2, 1) := by decide +kernel
theorem dX0_setMean_2 : decode cX0_setMean 2 = .ok (.aload_n 1, 1) := by decide +kernel
theorem dX0_setMean_3 : decode cX0_setMean 3 = .ok (.getfield 7, 3) := by decide +kernel
theorem dX0_setMean_6 : decode cX0_setMean 6 = .ok (.invokevirtual 13, 3) := by decide +kernel
theorem dX0_setMean_9 : decode cX0_setMean 9 = .ok (.aload_n 1, 1) := by decide +kernel
theorem dX0_setMean_10 : decode cX0_setMean 10 = .ok (.iload_n 3, 1) := by decide +kernel
theorem dX0_setMean_11 : decode cX0_setMean 11 = .ok (.aload_n 1, 1) := by decide +kernel
theorem dX0_setMean_12 : decode cX0_setMean 12 = .ok (.getfield 7, 3) := by decide +kernel
theorem dX0_setMean_15 : decode cX0_setMean 15 = .ok (.invokevirtual 13, 3) := by decide +kernel
theorem dX0_setMean_18 : decode cX0_setMean 18 = .ok (.isub, 1) := by decide +kernel
theorem dX0_setMean_19 : decode cX0_setMean 19 = .ok (.istore 6, 2) := by decide +kernel
theorem dX0_setMean_21 : decode cX0_setMean 21 = .ok (.iload_n 2, 1) := by decide +kernel
theorem dX0_setMean_22 : decode cX0_setMean 22 = .ok (.invokestatic 17, 3) := by decide +kernel
theorem dX0_setMean_25 : decode cX0_setMean 25 = .ok (.iload_n 3, 1) := by decide +kernel
theorem dX0_setMean_26 : decode cX0_setMean 26 = .ok (.invokestatic 17, 3) := by decide +kernel
theorem dX0_setMean_29 : decode cX0_setMean 29 = .ok (.isub, 1) := by decide +kernel
theorem dX0_setMean_30 : decode cX0_setMean 30 = .ok (.istore 7, 2) := by decide +kernel
theorem dX0_setMean_32 : decode cX0_setMean 32 = .ok (.aload_n 0, 1) := by decide +kernel
theorem dX0_setMean_33 : decode cX0_setMean 33 = .ok (.ldc2_w 42, 3) := by decide +kernel
theorem dX0_setMean_36 : decode cX0_setMean 36 = .ok (.iload 6, 2) := by decide +kernel
theorem dX0_setMean_38 : decode cX0_setMean 38 = .ok (.i2l, 1) := by decide +kernel
theorem dX0_setMean_39 : decode cX0_setMean 39 = .ok (.lmul, 1) := by decide +kernel
theorem dX0_setMean_40 : decode cX0_setMean 40 = .ok (.iload 4, 2) := by decide +kernel
theorem dX0_setMean_42 : decode cX0_setMean 42 = .ok (.i2l, 1) := by decide +kernel
theorem dX0_setMean_43 : decode cX0_setMean 43 = .ok (.iload 5, 2) := by decide +kernel
theorem dX0_setMean_45 : decode cX0_setMean 45 = .ok (.i2l, 1) := by decide +kernel
theorem dX0_setMean_46 : decode cX0_setMean 46 = .ok (.lmul, 1) := by decide +kernel
theorem dX0_setMean_47 : decode cX0_setMean 47 = .ok (.iload 7, 2) := by decide +kernel
theorem dX0_setMean_49 : decode cX0_setMean 49 = .ok (.i2l, 1) := by decide +kernel
theorem dX0_setMean_50 : decode cX0_setMean 50 = .ok (.lmul, 1) := by decide +kernel
theorem dX0_setMean_51 : decode cX0_setMean 51 = .ok (.ladd, 1) := by decide +kernel
theorem dX0_setMean_52 : decode cX0_setMean 52 = .ok (.ldc2_w 42, 3) := by decide +kernel
theorem dX0_setMean_55 : decode cX0_setMean 55 = .ok (.invokevirtual 38, 3) := by decide +kernel
theorem dX0_setMean_58 : decode cX0_setMean 58 = .ok (.return_, 1) := by decide +kernel
theorem dX0_put_0 : decode cX0_put 0 = .ok (.lload_n 1, 1) := by decide +kernel
theorem dX0_put_1 : decode cX0_put 1 = .ok (.invokestatic 44, 3) := by decide +kernel
theorem dX0_put_4 : decode cX0_put 4 = .ok (.lload_n 3, 1) := by decide +kernel
theorem dX0_put_5 : decode cX0_put 5 = .ok (.invokestatic 50, 3) := by decide +kernel
theorem dX0_put_8 : decode cX0_put 8 = .ok (.lstore 5, 2) := by decide +kernel
theorem dX0_put_10 : decode cX0_put 10 = .ok (.aload_n 0, 1) := by decide +kernel
theorem dX0_put_11 : decode cX0_put 11 = .ok (.lload 5, 2) := by decide +kernel
theorem dX0_put_13 : decode cX0_put 13 = .ok (.lconst 1, 1) := by decide +kernel
theorem dX0_put_14 : decode cX0_put 14 = .ok (.lcmp, 1) := by decide +kernel
theorem dX0_put_15 : decode cX0_put 15 = .ok (.ifCond .le 10, 3) := by decide +kernel
theorem dX0_put_18 : decode cX0_put 18 = .ok (.lload_n 1, 1) := by decide +kernel
theorem dX0_put_19 : decode cX0_put 19 = .ok (.lload 5, 2) := by decide +kernel
theorem dX0_put_21 : decode cX0_put 21 = .ok (.ldiv, 1) := by decide +kernel
theorem dX0_put_22 : decode cX0_put 22 = .ok (.goto 4, 3) := by decide +kernel
theorem dX0_put_25 : decode cX0_put 25 = .ok (.lload_n 1, 1) := by decide +kernel
theorem dX0_put_26 : decode cX0_put 26 = .ok (.putfield 54, 3) := by decide +kernel
theorem dX0_put_29 : decode cX0_put 29 = .ok (.aload_n 0, 1) := by decide +kernel
theorem dX0_put_30 : decode cX0_put 30 = .ok (.lload 5, 2) := by decide +kernel
theorem dX0_put_32 : decode cX0_put 32 = .ok (.lconst 1, 1) := by decide +kernel
theorem dX0_put_33 : decode cX0_put 33 = .ok (.lcmp, 1) := by decide +kernel
theorem dX0_put_34 : decode cX0_put 34 = .ok (.ifCond .le 10, 3) := by decide +kernel
theorem dX0_put_37 : decode cX0_put 37 = .ok (.lload_n 3, 1) := by decide +kernel
theorem dX0_put_38 : decode cX0_put 38 = .ok (.lload 5, 2) := by decide +kernel
theorem dX0_put_40 : decode cX0_put 40 = .ok (.ldiv, 1) := by decide +kernel
theorem dX0_put_41 : decode cX0_put 41 = .ok (.goto 4, 3) := by decide +kernel
theorem dX0_put_44 : decode cX0_put 44 = .ok (.lload_n 3, 1) := by decide +kernel
theorem dX0_put_45 : decode cX0_put 45 = .ok (.putfield 58, 3) := by decide +kernel
theorem dX0_put_48 : decode cX0_put 48 = .ok (.return_, 1) := by decide +kernel
theorem dX0_sharedDivisor_0 : decode cX0_sharedDivisor 0 = .ok (.lload_n 0, 1) := by decide +kernel
theorem dX0_sharedDivisor_1 : decode cX0_sharedDivisor 1 = .ok (.lstore 4, 2) := by decide +kernel
theorem dX0_sharedDivisor_3 : decode cX0_sharedDivisor 3 = .ok (.lload_n 2, 1) := by decide +kernel
theorem dX0_sharedDivisor_4 : decode cX0_sharedDivisor 4 = .ok (.lstore 6, 2) := by decide +kernel
theorem dX0_sharedDivisor_6 : decode cX0_sharedDivisor 6 = .ok (.iconst 0, 1) := by decide +kernel
theorem dX0_sharedDivisor_7 : decode cX0_sharedDivisor 7 = .ok (.istore 8, 2) := by decide +kernel
theorem dX0_sharedDivisor_9 : decode cX0_sharedDivisor 9 = .ok (.iload 8, 2) := by decide +kernel
theorem dX0_sharedDivisor_11 : decode cX0_sharedDivisor 11 = .ok (.sipush 200, 3) := by decide +kernel
theorem dX0_sharedDivisor_14 : decode cX0_sharedDivisor 14 = .ok (.if_icmp .ge 31, 3) := by decide +kernel
theorem dX0_sharedDivisor_17 : decode cX0_sharedDivisor 17 = .ok (.lload 6, 2) := by decide +kernel
theorem dX0_sharedDivisor_19 : decode cX0_sharedDivisor 19 = .ok (.lconst 0, 1) := by decide +kernel
theorem dX0_sharedDivisor_20 : decode cX0_sharedDivisor 20 = .ok (.lcmp, 1) := by decide +kernel
theorem dX0_sharedDivisor_21 : decode cX0_sharedDivisor 21 = .ok (.ifCond .eq 24, 3) := by decide +kernel
theorem dX0_sharedDivisor_24 : decode cX0_sharedDivisor 24 = .ok (.lload 4, 2) := by decide +kernel
theorem dX0_sharedDivisor_26 : decode cX0_sharedDivisor 26 = .ok (.lload 6, 2) := by decide +kernel
theorem dX0_sharedDivisor_28 : decode cX0_sharedDivisor 28 = .ok (.lrem, 1) := by decide +kernel
theorem dX0_sharedDivisor_29 : decode cX0_sharedDivisor 29 = .ok (.lstore 9, 2) := by decide +kernel
theorem dX0_sharedDivisor_31 : decode cX0_sharedDivisor 31 = .ok (.lload 6, 2) := by decide +kernel
theorem dX0_sharedDivisor_33 : decode cX0_sharedDivisor 33 = .ok (.lstore 4, 2) := by decide +kernel
theorem dX0_sharedDivisor_35 : decode cX0_sharedDivisor 35 = .ok (.lload 9, 2) := by decide +kernel
theorem dX0_sharedDivisor_37 : decode cX0_sharedDivisor 37 = .ok (.lstore 6, 2) := by decide +kernel
theorem dX0_sharedDivisor_39 : decode cX0_sharedDivisor 39 = .ok (.iinc 8 1, 3) := by decide +kernel
theorem dX0_sharedDivisor_42 : decode cX0_sharedDivisor 42 = .ok (.goto (-33), 3) := by decide +kernel
theorem dX0_sharedDivisor_45 : decode cX0_sharedDivisor 45 = .ok (.lload 4, 2) := by decide +kernel
theorem dX0_sharedDivisor_47 : decode cX0_sharedDivisor 47 = .ok (.lreturn, 1) := by decide +kernel
theorem dX0_power_0 : decode cX0_power 0 = .ok (.lconst 1, 1) := by decide +kernel
theorem dX0_power_1 : decode cX0_power 1 = .ok (.lstore_n 2, 1) := by decide +kernel
theorem dX0_power_2 : decode cX0_power 2 = .ok (.iconst 0, 1) := by decide +kernel
theorem dX0_power_3 : decode cX0_power 3 = .ok (.istore 4, 2) := by decide +kernel
theorem dX0_power_5 : decode cX0_power 5 = .ok (.iload 4, 2) := by decide +kernel
theorem dX0_power_7 : decode cX0_power 7 = .ok (.iload_n 1, 1) := by decide +kernel
theorem dX0_power_8 : decode cX0_power 8 = .ok (.if_icmp .ge 14, 3) := by decide +kernel
theorem dX0_power_11 : decode cX0_power 11 = .ok (.lload_n 2, 1) := by decide +kernel
theorem dX0_power_12 : decode cX0_power 12 = .ok (.iload_n 0, 1) := by decide +kernel
theorem dX0_power_13 : decode cX0_power 13 = .ok (.i2l, 1) := by decide +kernel
theorem dX0_power_14 : decode cX0_power 14 = .ok (.lmul, 1) := by decide +kernel
theorem dX0_power_15 : decode cX0_power 15 = .ok (.lstore_n 2, 1) := by decide +kernel
theorem dX0_power_16 : decode cX0_power 16 = .ok (.iinc 4 1, 3) := by decide +kernel
theorem dX0_power_19 : decode cX0_power 19 = .ok (.goto (-14), 3) := by decide +kernel
theorem dX0_power_22 : decode cX0_power 22 = .ok (.lload_n 2, 1) := by decide +kernel
theorem dX0_power_23 : decode cX0_power 23 = .ok (.lreturn, 1) := by decide +kernel
theorem dX1_init_0 : decode cX1_init 0 = .ok (.aload_n 0, 1) := by decide +kernel
theorem dX1_init_1 : decode cX1_init 1 = .ok (.invokespecial 3, 3) := by decide +kernel
theorem dX1_init_4 : decode cX1_init 4 = .ok (.aload_n 0, 1) := by decide +kernel
theorem dX1_init_5 : decode cX1_init 5 = .ok (.new 9, 3) := by decide +kernel
theorem dX1_init_8 : decode cX1_init 8 = .ok (.dup, 1) := by decide +kernel
theorem dX1_init_9 : decode cX1_init 9 = .ok (.invokespecial 11, 3) := by decide +kernel
theorem dX1_init_12 : decode cX1_init 12 = .ok (.putfield 12, 3) := by decide +kernel
theorem dX1_init_15 : decode cX1_init 15 = .ok (.return_, 1) := by decide +kernel
theorem dX1_hold_0 : decode cX1_hold 0 = .ok (.aload_n 0, 1) := by decide +kernel
theorem dX1_hold_1 : decode cX1_hold 1 = .ok (.getfield 12, 3) := by decide +kernel
theorem dX1_hold_4 : decode cX1_hold 4 = .ok (.aload_n 2, 1) := by decide +kernel
theorem dX1_hold_5 : decode cX1_hold 5 = .ok (.invokevirtual 18, 3) := by decide +kernel
theorem dX1_hold_8 : decode cX1_hold 8 = .ok (.aload_n 0, 1) := by decide +kernel
theorem dX1_hold_9 : decode cX1_hold 9 = .ok (.iconst 0, 1) := by decide +kernel
theorem dX1_hold_10 : decode cX1_hold 10 = .ok (.putfield 22, 3) := by decide +kernel
theorem dX1_hold_13 : decode cX1_hold 13 = .ok (.aload_n 0, 1) := by decide +kernel
theorem dX1_hold_14 : decode cX1_hold 14 = .ok (.bipush (-6), 2) := by decide +kernel
theorem dX1_hold_16 : decode cX1_hold 16 = .ok (.putfield 26, 3) := by decide +kernel
theorem dX1_hold_19 : decode cX1_hold 19 = .ok (.aload_n 0, 1) := by decide +kernel
theorem dX1_hold_20 : decode cX1_hold 20 = .ok (.bipush (-6), 2) := by decide +kernel
theorem dX1_hold_22 : decode cX1_hold 22 = .ok (.putfield 29, 3) := by decide +kernel
theorem dX1_hold_25 : decode cX1_hold 25 = .ok (.aload_n 0, 1) := by decide +kernel
theorem dX1_hold_26 : decode cX1_hold 26 = .ok (.iconst 0, 1) := by decide +kernel
theorem dX1_hold_27 : decode cX1_hold 27 = .ok (.putfield 32, 3) := by decide +kernel
theorem dX1_hold_30 : decode cX1_hold 30 = .ok (.aload_n 0, 1) := by decide +kernel
theorem dX1_hold_31 : decode cX1_hold 31 = .ok (.iconst 0, 1) := by decide +kernel
theorem dX1_hold_32 : decode cX1_hold 32 = .ok (.putfield 35, 3) := by decide +kernel
theorem dX1_hold_35 : decode cX1_hold 35 = .ok (.aload_n 0, 1) := by decide +kernel
theorem dX1_hold_36 : decode cX1_hold 36 = .ok (.iconst 0, 1) := by decide +kernel
theorem dX1_hold_37 : decode cX1_hold 37 = .ok (.putfield 38, 3) := by decide +kernel
theorem dX1_hold_40 : decode cX1_hold 40 = .ok (.aload_n 0, 1) := by decide +kernel
theorem dX1_hold_41 : decode cX1_hold 41 = .ok (.bipush (-6), 2) := by decide +kernel
theorem dX1_hold_43 : decode cX1_hold 43 = .ok (.putfield 41, 3) := by decide +kernel
theorem dX1_hold_46 : decode cX1_hold 46 = .ok (.aload_n 0, 1) := by decide +kernel
theorem dX1_hold_47 : decode cX1_hold 47 = .ok (.invokevirtual 44, 3) := by decide +kernel
theorem dX1_hold_50 : decode cX1_hold 50 = .ok (.iconst 0, 1) := by decide +kernel
theorem dX1_hold_51 : decode cX1_hold 51 = .ok (.istore_n 3, 1) := by decide +kernel
theorem dX1_hold_52 : decode cX1_hold 52 = .ok (.iload_n 3, 1) := by decide +kernel
theorem dX1_hold_53 : decode cX1_hold 53 = .ok (.aload_n 1, 1) := by decide +kernel
theorem dX1_hold_54 : decode cX1_hold 54 = .ok (.getfield 47, 3) := by decide +kernel
theorem dX1_hold_57 : decode cX1_hold 57 = .ok (.if_icmp .ge 28, 3) := by decide +kernel
theorem dX1_hold_60 : decode cX1_hold 60 = .ok (.aload_n 0, 1) := by decide +kernel
theorem dX1_hold_61 : decode cX1_hold 61 = .ok (.getfield 26, 3) := by decide +kernel
theorem dX1_hold_64 : decode cX1_hold 64 = .ok (.bipush (-6), 2) := by decide +kernel
theorem dX1_hold_66 : decode cX1_hold 66 = .ok (.if_icmp .ne 19, 3) := by decide +kernel
theorem dX1_hold_69 : decode cX1_hold 69 = .ok (.aload_n 0, 1) := by decide +kernel
theorem dX1_hold_70 : decode cX1_hold 70 = .ok (.aload_n 1, 1) := by decide +kernel
theorem dX1_hold_71 : decode cX1_hold 71 = .ok (.getfield 52, 3) := by decide +kernel
theorem dX1_hold_74 : decode cX1_hold 74 = .ok (.iload_n 3, 1) := by decide +kernel
theorem dX1_hold_75 : decode cX1_hold 75 = .ok (.iaload, 1) := by decide +kernel
theorem dX1_hold_76 : decode cX1_hold 76 = .ok (.invokevirtual 56, 3) := by decide +kernel
theorem dX1_hold_79 : decode cX1_hold 79 = .ok (.iinc 3 1, 3) := by decide +kernel
theorem dX1_hold_82 : decode cX1_hold 82 = .ok (.goto (-30), 3) := by decide +kernel
theorem dX1_hold_85 : decode cX1_hold 85 = .ok (.return_, 1) := by decide +kernel
theorem dX1_answer_0 : decode cX1_answer 0 = .ok (.iload_n 1, 1) := by decide +kernel
theorem dX1_answer_1 : decode cX1_answer 1 = .ok (.tableswitch 60 0 4 #[35, 40, 45, 50, 55], 35) := by decide +kernel
theorem dX1_answer_36 : decode cX1_answer 36 = .ok (.aload_n 0, 1) := by decide +kernel
theorem dX1_answer_37 : decode cX1_answer 37 = .ok (.getfield 26, 3) := by decide +kernel
theorem dX1_answer_40 : decode cX1_answer 40 = .ok (.ireturn, 1) := by decide +kernel
theorem dX1_answer_41 : decode cX1_answer 41 = .ok (.aload_n 0, 1) := by decide +kernel
theorem dX1_answer_42 : decode cX1_answer 42 = .ok (.getfield 29, 3) := by decide +kernel
theorem dX1_answer_45 : decode cX1_answer 45 = .ok (.ireturn, 1) := by decide +kernel
theorem dX1_answer_46 : decode cX1_answer 46 = .ok (.aload_n 0, 1) := by decide +kernel
theorem dX1_answer_47 : decode cX1_answer 47 = .ok (.getfield 32, 3) := by decide +kernel
theorem dX1_answer_50 : decode cX1_answer 50 = .ok (.ireturn, 1) := by decide +kernel
theorem dX1_answer_51 : decode cX1_answer 51 = .ok (.aload_n 0, 1) := by decide +kernel
theorem dX1_answer_52 : decode cX1_answer 52 = .ok (.getfield 35, 3) := by decide +kernel
theorem dX1_answer_55 : decode cX1_answer 55 = .ok (.ireturn, 1) := by decide +kernel
theorem dX1_answer_56 : decode cX1_answer 56 = .ok (.aload_n 0, 1) := by decide +kernel
theorem dX1_answer_57 : decode cX1_answer 57 = .ok (.getfield 38, 3) := by decide +kernel
theorem dX1_answer_60 : decode cX1_answer 60 = .ok (.ireturn, 1) := by decide +kernel
theorem dX1_answer_61 : decode cX1_answer 61 = .ok (.aload_n 0, 1) := by decide +kernel
theorem dX1_answer_62 : decode cX1_answer 62 = .ok (.getfield 41, 3) := by decide +kernel
theorem dX1_answer_65 : decode cX1_answer 65 = .ok (.ireturn, 1) := by decide +kernel
theorem dX1_beginAct_0 : decode cX1_beginAct 0 = .ok (.aload_n 0, 1) := by decide +kernel
theorem dX1_beginAct_1 : decode cX1_beginAct 1 = .ok (.iconst 0, 1) := by decide +kernel
theorem dX1_beginAct_2 : decode cX1_beginAct 2 = .ok (.putfield 60, 3) := by decide +kernel
theorem dX1_beginAct_5 : decode cX1_beginAct 5 = .ok (.aload_n 0, 1) := by decide +kernel
theorem dX1_beginAct_6 : decode cX1_beginAct 6 = .ok (.iconst 0, 1) := by decide +kernel
theorem dX1_beginAct_7 : decode cX1_beginAct 7 = .ok (.putfield 63, 3) := by decide +kernel
theorem dX1_beginAct_10 : decode cX1_beginAct 10 = .ok (.aload_n 0, 1) := by decide +kernel
theorem dX1_beginAct_11 : decode cX1_beginAct 11 = .ok (.iconst 0, 1) := by decide +kernel
theorem dX1_beginAct_12 : decode cX1_beginAct 12 = .ok (.putfield 66, 3) := by decide +kernel
theorem dX1_beginAct_15 : decode cX1_beginAct 15 = .ok (.aload_n 0, 1) := by decide +kernel
theorem dX1_beginAct_16 : decode cX1_beginAct 16 = .ok (.iconst 0, 1) := by decide +kernel
theorem dX1_beginAct_17 : decode cX1_beginAct 17 = .ok (.putfield 70, 3) := by decide +kernel
theorem dX1_beginAct_20 : decode cX1_beginAct 20 = .ok (.aload_n 0, 1) := by decide +kernel
theorem dX1_beginAct_21 : decode cX1_beginAct 21 = .ok (.iconst 0, 1) := by decide +kernel
theorem dX1_beginAct_22 : decode cX1_beginAct 22 = .ok (.putfield 73, 3) := by decide +kernel
theorem dX1_beginAct_25 : decode cX1_beginAct 25 = .ok (.return_, 1) := by decide +kernel
theorem dX1_endAct_0 : decode cX1_endAct 0 = .ok (.aload_n 0, 1) := by decide +kernel
theorem dX1_endAct_1 : decode cX1_endAct 1 = .ok (.dup, 1) := by decide +kernel
theorem dX1_endAct_2 : decode cX1_endAct 2 = .ok (.getfield 22, 3) := by decide +kernel
theorem dX1_endAct_5 : decode cX1_endAct 5 = .ok (.iconst 1, 1) := by decide +kernel
theorem dX1_endAct_6 : decode cX1_endAct 6 = .ok (.iadd, 1) := by decide +kernel
theorem dX1_endAct_7 : decode cX1_endAct 7 = .ok (.putfield 22, 3) := by decide +kernel
theorem dX1_endAct_10 : decode cX1_endAct 10 = .ok (.aload_n 0, 1) := by decide +kernel
theorem dX1_endAct_11 : decode cX1_endAct 11 = .ok (.invokevirtual 44, 3) := by decide +kernel
theorem dX1_endAct_14 : decode cX1_endAct 14 = .ok (.return_, 1) := by decide +kernel
theorem dX1_read_0 : decode cX1_read 0 = .ok (.iload_n 1, 1) := by decide +kernel
theorem dX1_read_1 : decode cX1_read 1 = .ok (.invokestatic 76, 3) := by decide +kernel
theorem dX1_read_4 : decode cX1_read 4 = .ok (.ifCond .eq 14, 3) := by decide +kernel
theorem dX1_read_7 : decode cX1_read 7 = .ok (.aload_n 0, 1) := by decide +kernel
theorem dX1_read_8 : decode cX1_read 8 = .ok (.iload_n 1, 1) := by decide +kernel
theorem dX1_read_9 : decode cX1_read 9 = .ok (.bipush 65, 2) := by decide +kernel
theorem dX1_read_11 : decode cX1_read 11 = .ok (.isub, 1) := by decide +kernel
theorem dX1_read_12 : decode cX1_read 12 = .ok (.invokevirtual 80, 3) := by decide +kernel
theorem dX1_read_15 : decode cX1_read 15 = .ok (.goto 75, 3) := by decide +kernel
theorem dX1_read_18 : decode cX1_read 18 = .ok (.iload_n 1, 1) := by decide +kernel
theorem dX1_read_19 : decode cX1_read 19 = .ok (.bipush 124, 2) := by decide +kernel
theorem dX1_read_21 : decode cX1_read 21 = .ok (.if_icmp .ne 11, 3) := by decide +kernel
theorem dX1_read_24 : decode cX1_read 24 = .ok (.aload_n 0, 1) := by decide +kernel
theorem dX1_read_25 : decode cX1_read 25 = .ok (.iconst 1, 1) := by decide +kernel
theorem dX1_read_26 : decode cX1_read 26 = .ok (.putfield 70, 3) := by decide +kernel
theorem dX1_read_29 : decode cX1_read 29 = .ok (.goto 61, 3) := by decide +kernel
theorem dX1_read_32 : decode cX1_read 32 = .ok (.iload_n 1, 1) := by decide +kernel
theorem dX1_read_33 : decode cX1_read 33 = .ok (.bipush 94, 2) := by decide +kernel
theorem dX1_read_35 : decode cX1_read 35 = .ok (.if_icmp .ne 11, 3) := by decide +kernel
theorem dX1_read_38 : decode cX1_read 38 = .ok (.aload_n 0, 1) := by decide +kernel
theorem dX1_read_39 : decode cX1_read 39 = .ok (.iconst 1, 1) := by decide +kernel
theorem dX1_read_40 : decode cX1_read 40 = .ok (.putfield 73, 3) := by decide +kernel
theorem dX1_read_43 : decode cX1_read 43 = .ok (.goto 47, 3) := by decide +kernel
theorem dX1_read_46 : decode cX1_read 46 = .ok (.iload_n 1, 1) := by decide +kernel
theorem dX1_read_47 : decode cX1_read 47 = .ok (.bipush 46, 2) := by decide +kernel
theorem dX1_read_49 : decode cX1_read 49 = .ok (.if_icmp .ne 17, 3) := by decide +kernel
theorem dX1_read_52 : decode cX1_read 52 = .ok (.aload_n 0, 1) := by decide +kernel
theorem dX1_read_53 : decode cX1_read 53 = .ok (.getfield 12, 3) := by decide +kernel
theorem dX1_read_56 : decode cX1_read 56 = .ok (.invokevirtual 83, 3) := by decide +kernel
theorem dX1_read_59 : decode cX1_read 59 = .ok (.aload_n 0, 1) := by decide +kernel
theorem dX1_read_60 : decode cX1_read 60 = .ok (.invokevirtual 86, 3) := by decide +kernel
theorem dX1_read_63 : decode cX1_read 63 = .ok (.goto 27, 3) := by decide +kernel
theorem dX1_read_66 : decode cX1_read 66 = .ok (.iload_n 1, 1) := by decide +kernel
theorem dX1_read_67 : decode cX1_read 67 = .ok (.bipush 42, 2) := by decide +kernel
theorem dX1_read_69 : decode cX1_read 69 = .ok (.if_icmp .ne 17, 3) := by decide +kernel
theorem dX1_read_72 : decode cX1_read 72 = .ok (.aload_n 0, 1) := by decide +kernel
theorem dX1_read_73 : decode cX1_read 73 = .ok (.getfield 12, 3) := by decide +kernel
theorem dX1_read_76 : decode cX1_read 76 = .ok (.invokevirtual 89, 3) := by decide +kernel
theorem dX1_read_79 : decode cX1_read 79 = .ok (.aload_n 0, 1) := by decide +kernel
theorem dX1_read_80 : decode cX1_read 80 = .ok (.invokevirtual 86, 3) := by decide +kernel
theorem dX1_read_83 : decode cX1_read 83 = .ok (.goto 7, 3) := by decide +kernel
theorem dX1_read_86 : decode cX1_read 86 = .ok (.aload_n 0, 1) := by decide +kernel
theorem dX1_read_87 : decode cX1_read 87 = .ok (.invokevirtual 92, 3) := by decide +kernel
theorem dX1_read_90 : decode cX1_read 90 = .ok (.return_, 1) := by decide +kernel
theorem dX1_readPerson_0 : decode cX1_readPerson 0 = .ok (.aload_n 0, 1) := by decide +kernel
theorem dX1_readPerson_1 : decode cX1_readPerson 1 = .ok (.getfield 73, 3) := by decide +kernel
theorem dX1_readPerson_4 : decode cX1_readPerson 4 = .ok (.ifCond .ne 11, 3) := by decide +kernel
theorem dX1_readPerson_7 : decode cX1_readPerson 7 = .ok (.aload_n 0, 1) := by decide +kernel
theorem dX1_readPerson_8 : decode cX1_readPerson 8 = .ok (.iload_n 1, 1) := by decide +kernel
theorem dX1_readPerson_9 : decode cX1_readPerson 9 = .ok (.invokevirtual 95, 3) := by decide +kernel
theorem dX1_readPerson_12 : decode cX1_readPerson 12 = .ok (.goto 34, 3) := by decide +kernel
theorem dX1_readPerson_15 : decode cX1_readPerson 15 = .ok (.aload_n 0, 1) := by decide +kernel
theorem dX1_readPerson_16 : decode cX1_readPerson 16 = .ok (.getfield 12, 3) := by decide +kernel
theorem dX1_readPerson_19 : decode cX1_readPerson 19 = .ok (.iload_n 1, 1) := by decide +kernel
theorem dX1_readPerson_20 : decode cX1_readPerson 20 = .ok (.invokevirtual 98, 3) := by decide +kernel
theorem dX1_readPerson_23 : decode cX1_readPerson 23 = .ok (.ifCond .eq 18, 3) := by decide +kernel
theorem dX1_readPerson_26 : decode cX1_readPerson 26 = .ok (.aload_n 0, 1) := by decide +kernel
theorem dX1_readPerson_27 : decode cX1_readPerson 27 = .ok (.getfield 12, 3) := by decide +kernel
theorem dX1_readPerson_30 : decode cX1_readPerson 30 = .ok (.iload_n 1, 1) := by decide +kernel
theorem dX1_readPerson_31 : decode cX1_readPerson 31 = .ok (.invokevirtual 101, 3) := by decide +kernel
theorem dX1_readPerson_34 : decode cX1_readPerson 34 = .ok (.aload_n 0, 1) := by decide +kernel
theorem dX1_readPerson_35 : decode cX1_readPerson 35 = .ok (.invokevirtual 86, 3) := by decide +kernel
theorem dX1_readPerson_38 : decode cX1_readPerson 38 = .ok (.goto 8, 3) := by decide +kernel
theorem dX1_readPerson_41 : decode cX1_readPerson 41 = .ok (.aload_n 0, 1) := by decide +kernel
theorem dX1_readPerson_42 : decode cX1_readPerson 42 = .ok (.iconst 1, 1) := by decide +kernel
theorem dX1_readPerson_43 : decode cX1_readPerson 43 = .ok (.invokevirtual 104, 3) := by decide +kernel
theorem dX1_readPerson_46 : decode cX1_readPerson 46 = .ok (.return_, 1) := by decide +kernel
theorem dX1_sit_0 : decode cX1_sit 0 = .ok (.aload_n 0, 1) := by decide +kernel
theorem dX1_sit_1 : decode cX1_sit 1 = .ok (.getfield 60, 3) := by decide +kernel
theorem dX1_sit_4 : decode cX1_sit 4 = .ok (.aload_n 0, 1) := by decide +kernel
theorem dX1_sit_5 : decode cX1_sit 5 = .ok (.getfield 63, 3) := by decide +kernel
theorem dX1_sit_8 : decode cX1_sit 8 = .ok (.ior, 1) := by decide +kernel
theorem dX1_sit_9 : decode cX1_sit 9 = .ok (.iload_n 1, 1) := by decide +kernel
theorem dX1_sit_10 : decode cX1_sit 10 = .ok (.invokestatic 107, 3) := by decide +kernel
theorem dX1_sit_13 : decode cX1_sit 13 = .ok (.ifCond .eq 8, 3) := by decide +kernel
theorem dX1_sit_16 : decode cX1_sit 16 = .ok (.aload_n 0, 1) := by decide +kernel
theorem dX1_sit_17 : decode cX1_sit 17 = .ok (.iconst 1, 1) := by decide +kernel
theorem dX1_sit_18 : decode cX1_sit 18 = .ok (.putfield 66, 3) := by decide +kernel
theorem dX1_sit_21 : decode cX1_sit 21 = .ok (.aload_n 0, 1) := by decide +kernel
theorem dX1_sit_22 : decode cX1_sit 22 = .ok (.getfield 70, 3) := by decide +kernel
theorem dX1_sit_25 : decode cX1_sit 25 = .ok (.ifCond .eq 18, 3) := by decide +kernel
theorem dX1_sit_28 : decode cX1_sit 28 = .ok (.aload_n 0, 1) := by decide +kernel
theorem dX1_sit_29 : decode cX1_sit 29 = .ok (.dup, 1) := by decide +kernel
theorem dX1_sit_30 : decode cX1_sit 30 = .ok (.getfield 63, 3) := by decide +kernel
theorem dX1_sit_33 : decode cX1_sit 33 = .ok (.iconst 1, 1) := by decide +kernel
theorem dX1_sit_34 : decode cX1_sit 34 = .ok (.iload_n 1, 1) := by decide +kernel
theorem dX1_sit_35 : decode cX1_sit 35 = .ok (.ishl, 1) := by decide +kernel
theorem dX1_sit_36 : decode cX1_sit 36 = .ok (.ior, 1) := by decide +kernel
theorem dX1_sit_37 : decode cX1_sit 37 = .ok (.putfield 63, 3) := by decide +kernel
theorem dX1_sit_40 : decode cX1_sit 40 = .ok (.goto 15, 3) := by decide +kernel
theorem dX1_sit_43 : decode cX1_sit 43 = .ok (.aload_n 0, 1) := by decide +kernel
theorem dX1_sit_44 : decode cX1_sit 44 = .ok (.dup, 1) := by decide +kernel
theorem dX1_sit_45 : decode cX1_sit 45 = .ok (.getfield 60, 3) := by decide +kernel
theorem dX1_sit_48 : decode cX1_sit 48 = .ok (.iconst 1, 1) := by decide +kernel
theorem dX1_sit_49 : decode cX1_sit 49 = .ok (.iload_n 1, 1) := by decide +kernel
theorem dX1_sit_50 : decode cX1_sit 50 = .ok (.ishl, 1) := by decide +kernel
theorem dX1_sit_51 : decode cX1_sit 51 = .ok (.ior, 1) := by decide +kernel
theorem dX1_sit_52 : decode cX1_sit 52 = .ok (.putfield 60, 3) := by decide +kernel
theorem dX1_sit_55 : decode cX1_sit 55 = .ok (.return_, 1) := by decide +kernel
theorem dX1_breakOff_0 : decode cX1_breakOff 0 = .ok (.aload_n 0, 1) := by decide +kernel
theorem dX1_breakOff_1 : decode cX1_breakOff 1 = .ok (.aload_n 0, 1) := by decide +kernel
theorem dX1_breakOff_2 : decode cX1_breakOff 2 = .ok (.getfield 22, 3) := by decide +kernel
theorem dX1_breakOff_5 : decode cX1_breakOff 5 = .ok (.putfield 26, 3) := by decide +kernel
theorem dX1_breakOff_8 : decode cX1_breakOff 8 = .ok (.aload_n 0, 1) := by decide +kernel
theorem dX1_breakOff_9 : decode cX1_breakOff 9 = .ok (.iload_n 1, 1) := by decide +kernel
theorem dX1_breakOff_10 : decode cX1_breakOff 10 = .ok (.putfield 29, 3) := by decide +kernel
theorem dX1_breakOff_13 : decode cX1_breakOff 13 = .ok (.return_, 1) := by decide +kernel
theorem dX1_sell_0 : decode cX1_sell 0 = .ok (.aload_n 0, 1) := by decide +kernel
theorem dX1_sell_1 : decode cX1_sell 1 = .ok (.getfield 12, 3) := by decide +kernel
theorem dX1_sell_4 : decode cX1_sell 4 = .ok (.aload_n 0, 1) := by decide +kernel
theorem dX1_sell_5 : decode cX1_sell 5 = .ok (.getfield 63, 3) := by decide +kernel
theorem dX1_sell_8 : decode cX1_sell 8 = .ok (.aload_n 0, 1) := by decide +kernel
theorem dX1_sell_9 : decode cX1_sell 9 = .ok (.getfield 12, 3) := by decide +kernel
theorem dX1_sell_12 : decode cX1_sell 12 = .ok (.getfield 111, 3) := by decide +kernel
theorem dX1_sell_15 : decode cX1_sell 15 = .ok (.invokevirtual 114, 3) := by decide +kernel
theorem dX1_sell_18 : decode cX1_sell 18 = .ok (.aload_n 0, 1) := by decide +kernel
theorem dX1_sell_19 : decode cX1_sell 19 = .ok (.getfield 12, 3) := by decide +kernel
theorem dX1_sell_22 : decode cX1_sell 22 = .ok (.aload_n 0, 1) := by decide +kernel
theorem dX1_sell_23 : decode cX1_sell 23 = .ok (.getfield 60, 3) := by decide +kernel
theorem dX1_sell_26 : decode cX1_sell 26 = .ok (.aload_n 0, 1) := by decide +kernel
theorem dX1_sell_27 : decode cX1_sell 27 = .ok (.getfield 12, 3) := by decide +kernel
theorem dX1_sell_30 : decode cX1_sell 30 = .ok (.getfield 111, 3) := by decide +kernel
theorem dX1_sell_33 : decode cX1_sell 33 = .ok (.invokevirtual 114, 3) := by decide +kernel
theorem dX1_sell_36 : decode cX1_sell 36 = .ok (.isub, 1) := by decide +kernel
theorem dX1_sell_37 : decode cX1_sell 37 = .ok (.istore_n 1, 1) := by decide +kernel
theorem dX1_sell_38 : decode cX1_sell 38 = .ok (.aload_n 0, 1) := by decide +kernel
theorem dX1_sell_39 : decode cX1_sell 39 = .ok (.iload_n 1, 1) := by decide +kernel
theorem dX1_sell_40 : decode cX1_sell 40 = .ok (.invokevirtual 118, 3) := by decide +kernel
theorem dX1_sell_43 : decode cX1_sell 43 = .ok (.istore_n 2, 1) := by decide +kernel
theorem dX1_sell_44 : decode cX1_sell 44 = .ok (.iload_n 2, 1) := by decide +kernel
theorem dX1_sell_45 : decode cX1_sell 45 = .ok (.ifCond .eq 9, 3) := by decide +kernel
theorem dX1_sell_48 : decode cX1_sell 48 = .ok (.aload_n 0, 1) := by decide +kernel
theorem dX1_sell_49 : decode cX1_sell 49 = .ok (.iload_n 2, 1) := by decide +kernel
theorem dX1_sell_50 : decode cX1_sell 50 = .ok (.invokevirtual 104, 3) := by decide +kernel
theorem dX1_sell_53 : decode cX1_sell 53 = .ok (.return_, 1) := by decide +kernel
theorem dX1_sell_54 : decode cX1_sell 54 = .ok (.iconst 0, 1) := by decide +kernel
theorem dX1_sell_55 : decode cX1_sell 55 = .ok (.aload_n 0, 1) := by decide +kernel
theorem dX1_sell_56 : decode cX1_sell 56 = .ok (.getfield 12, 3) := by decide +kernel
theorem dX1_sell_59 : decode cX1_sell 59 = .ok (.aload_n 0, 1) := by decide +kernel
theorem dX1_sell_60 : decode cX1_sell 60 = .ok (.getfield 63, 3) := by decide +kernel
theorem dX1_sell_63 : decode cX1_sell 63 = .ok (.invokevirtual 122, 3) := by decide +kernel
theorem dX1_sell_66 : decode cX1_sell 66 = .ok (.aload_n 0, 1) := by decide +kernel
theorem dX1_sell_67 : decode cX1_sell 67 = .ok (.getfield 12, 3) := by decide +kernel
theorem dX1_sell_70 : decode cX1_sell 70 = .ok (.aload_n 0, 1) := by decide +kernel
theorem dX1_sell_71 : decode cX1_sell 71 = .ok (.getfield 60, 3) := by decide +kernel
theorem dX1_sell_74 : decode cX1_sell 74 = .ok (.invokevirtual 122, 3) := by decide +kernel
theorem dX1_sell_77 : decode cX1_sell 77 = .ok (.isub, 1) := by decide +kernel
theorem dX1_sell_78 : decode cX1_sell 78 = .ok (.invokestatic 125, 3) := by decide +kernel
theorem dX1_sell_81 : decode cX1_sell 81 = .ok (.istore_n 3, 1) := by decide +kernel
theorem dX1_sell_82 : decode cX1_sell 82 = .ok (.aload_n 0, 1) := by decide +kernel
theorem dX1_sell_83 : decode cX1_sell 83 = .ok (.getfield 41, 3) := by decide +kernel
theorem dX1_sell_86 : decode cX1_sell 86 = .ok (.bipush (-6), 2) := by decide +kernel
theorem dX1_sell_88 : decode cX1_sell 88 = .ok (.if_icmp .ne 27, 3) := by decide +kernel
theorem dX1_sell_91 : decode cX1_sell 91 = .ok (.iload_n 3, 1) := by decide +kernel
theorem dX1_sell_92 : decode cX1_sell 92 = .ok (.iload_n 1, 1) := by decide +kernel
theorem dX1_sell_93 : decode cX1_sell 93 = .ok (.isub, 1) := by decide +kernel
theorem dX1_sell_94 : decode cX1_sell 94 = .ok (.invokestatic 131, 3) := by decide +kernel
theorem dX1_sell_97 : decode cX1_sell 97 = .ok (.aload_n 0, 1) := by decide +kernel
theorem dX1_sell_98 : decode cX1_sell 98 = .ok (.getfield 12, 3) := by decide +kernel
theorem dX1_sell_101 : decode cX1_sell 101 = .ok (.getfield 134, 3) := by decide +kernel
theorem dX1_sell_104 : decode cX1_sell 104 = .ok (.if_icmp .le 11, 3) := by decide +kernel
theorem dX1_sell_107 : decode cX1_sell 107 = .ok (.aload_n 0, 1) := by decide +kernel
theorem dX1_sell_108 : decode cX1_sell 108 = .ok (.aload_n 0, 1) := by decide +kernel
theorem dX1_sell_109 : decode cX1_sell 109 = .ok (.getfield 22, 3) := by decide +kernel
theorem dX1_sell_112 : decode cX1_sell 112 = .ok (.putfield 41, 3) := by decide +kernel
theorem dX1_sell_115 : decode cX1_sell 115 = .ok (.aload_n 0, 1) := by decide +kernel
theorem dX1_sell_116 : decode cX1_sell 116 = .ok (.dup, 1) := by decide +kernel
theorem dX1_sell_117 : decode cX1_sell 117 = .ok (.getfield 32, 3) := by decide +kernel
theorem dX1_sell_120 : decode cX1_sell 120 = .ok (.iconst 1, 1) := by decide +kernel
theorem dX1_sell_121 : decode cX1_sell 121 = .ok (.iadd, 1) := by decide +kernel
theorem dX1_sell_122 : decode cX1_sell 122 = .ok (.putfield 32, 3) := by decide +kernel
theorem dX1_sell_125 : decode cX1_sell 125 = .ok (.aload_n 0, 1) := by decide +kernel
theorem dX1_sell_126 : decode cX1_sell 126 = .ok (.dup, 1) := by decide +kernel
theorem dX1_sell_127 : decode cX1_sell 127 = .ok (.getfield 35, 3) := by decide +kernel
theorem dX1_sell_130 : decode cX1_sell 130 = .ok (.iload_n 1, 1) := by decide +kernel
theorem dX1_sell_131 : decode cX1_sell 131 = .ok (.iadd, 1) := by decide +kernel
theorem dX1_sell_132 : decode cX1_sell 132 = .ok (.putfield 35, 3) := by decide +kernel
theorem dX1_sell_135 : decode cX1_sell 135 = .ok (.aload_n 0, 1) := by decide +kernel
theorem dX1_sell_136 : decode cX1_sell 136 = .ok (.dup, 1) := by decide +kernel
theorem dX1_sell_137 : decode cX1_sell 137 = .ok (.getfield 38, 3) := by decide +kernel
theorem dX1_sell_140 : decode cX1_sell 140 = .ok (.iload_n 3, 1) := by decide +kernel
theorem dX1_sell_141 : decode cX1_sell 141 = .ok (.iadd, 1) := by decide +kernel
theorem dX1_sell_142 : decode cX1_sell 142 = .ok (.putfield 38, 3) := by decide +kernel
theorem dX1_sell_145 : decode cX1_sell 145 = .ok (.aload_n 0, 1) := by decide +kernel
theorem dX1_sell_146 : decode cX1_sell 146 = .ok (.invokevirtual 86, 3) := by decide +kernel
theorem dX1_sell_149 : decode cX1_sell 149 = .ok (.return_, 1) := by decide +kernel
theorem dX1_reasonAgainst_0 : decode cX1_reasonAgainst 0 = .ok (.aload_n 0, 1) := by decide +kernel
theorem dX1_reasonAgainst_1 : decode cX1_reasonAgainst 1 = .ok (.getfield 12, 3) := by decide +kernel
theorem dX1_reasonAgainst_4 : decode cX1_reasonAgainst 4 = .ok (.aload_n 0, 1) := by decide +kernel
theorem dX1_reasonAgainst_5 : decode cX1_reasonAgainst 5 = .ok (.getfield 60, 3) := by decide +kernel
theorem dX1_reasonAgainst_8 : decode cX1_reasonAgainst 8 = .ok (.aload_n 0, 1) := by decide +kernel
theorem dX1_reasonAgainst_9 : decode cX1_reasonAgainst 9 = .ok (.getfield 63, 3) := by decide +kernel
theorem dX1_reasonAgainst_12 : decode cX1_reasonAgainst 12 = .ok (.ior, 1) := by decide +kernel
theorem dX1_reasonAgainst_13 : decode cX1_reasonAgainst 13 = .ok (.invokevirtual 137, 3) := by decide +kernel
theorem dX1_reasonAgainst_16 : decode cX1_reasonAgainst 16 = .ok (.ifCond .ne 5, 3) := by decide +kernel
theorem dX1_reasonAgainst_19 : decode cX1_reasonAgainst 19 = .ok (.iconst 1, 1) := by decide +kernel
theorem dX1_reasonAgainst_20 : decode cX1_reasonAgainst 20 = .ok (.ireturn, 1) := by decide +kernel
theorem dX1_reasonAgainst_21 : decode cX1_reasonAgainst 21 = .ok (.aload_n 0, 1) := by decide +kernel
theorem dX1_reasonAgainst_22 : decode cX1_reasonAgainst 22 = .ok (.getfield 66, 3) := by decide +kernel
theorem dX1_reasonAgainst_25 : decode cX1_reasonAgainst 25 = .ok (.ifCond .eq 5, 3) := by decide +kernel
theorem dX1_reasonAgainst_28 : decode cX1_reasonAgainst 28 = .ok (.iconst 2, 1) := by decide +kernel
theorem dX1_reasonAgainst_29 : decode cX1_reasonAgainst 29 = .ok (.ireturn, 1) := by decide +kernel
theorem dX1_reasonAgainst_30 : decode cX1_reasonAgainst 30 = .ok (.aload_n 0, 1) := by decide +kernel
theorem dX1_reasonAgainst_31 : decode cX1_reasonAgainst 31 = .ok (.getfield 12, 3) := by decide +kernel
theorem dX1_reasonAgainst_34 : decode cX1_reasonAgainst 34 = .ok (.aload_n 0, 1) := by decide +kernel
theorem dX1_reasonAgainst_35 : decode cX1_reasonAgainst 35 = .ok (.getfield 60, 3) := by decide +kernel
theorem dX1_reasonAgainst_38 : decode cX1_reasonAgainst 38 = .ok (.invokevirtual 140, 3) := by decide +kernel
theorem dX1_reasonAgainst_41 : decode cX1_reasonAgainst 41 = .ok (.ifCond .eq 17, 3) := by decide +kernel
theorem dX1_reasonAgainst_44 : decode cX1_reasonAgainst 44 = .ok (.aload_n 0, 1) := by decide +kernel
theorem dX1_reasonAgainst_45 : decode cX1_reasonAgainst 45 = .ok (.getfield 12, 3) := by decide +kernel
theorem dX1_reasonAgainst_48 : decode cX1_reasonAgainst 48 = .ok (.aload_n 0, 1) := by decide +kernel
theorem dX1_reasonAgainst_49 : decode cX1_reasonAgainst 49 = .ok (.getfield 63, 3) := by decide +kernel
theorem dX1_reasonAgainst_52 : decode cX1_reasonAgainst 52 = .ok (.invokevirtual 140, 3) := by decide +kernel
theorem dX1_reasonAgainst_55 : decode cX1_reasonAgainst 55 = .ok (.ifCond .ne 5, 3) := by decide +kernel
theorem dX1_reasonAgainst_58 : decode cX1_reasonAgainst 58 = .ok (.iconst 3, 1) := by decide +kernel
theorem dX1_reasonAgainst_59 : decode cX1_reasonAgainst 59 = .ok (.ireturn, 1) := by decide +kernel
theorem dX1_reasonAgainst_60 : decode cX1_reasonAgainst 60 = .ok (.iload_n 1, 1) := by decide +kernel
theorem dX1_reasonAgainst_61 : decode cX1_reasonAgainst 61 = .ok (.ifCond .gt 7, 3) := by decide +kernel
theorem dX1_reasonAgainst_64 : decode cX1_reasonAgainst 64 = .ok (.iconst 4, 1) := by decide +kernel
theorem dX1_reasonAgainst_65 : decode cX1_reasonAgainst 65 = .ok (.goto 4, 3) := by decide +kernel
theorem dX1_reasonAgainst_68 : decode cX1_reasonAgainst 68 = .ok (.iconst 0, 1) := by decide +kernel
theorem dX1_reasonAgainst_69 : decode cX1_reasonAgainst 69 = .ok (.ireturn, 1) := by decide +kernel
theorem dX2_init_0 : decode cX2_init 0 = .ok (.aload_n 0, 1) := by decide +kernel
theorem dX2_init_1 : decode cX2_init 1 = .ok (.invokespecial 3, 3) := by decide +kernel
theorem dX2_init_4 : decode cX2_init 4 = .ok (.aload_n 0, 1) := by decide +kernel
theorem dX2_init_5 : decode cX2_init 5 = .ok (.bipush 60, 2) := by decide +kernel
theorem dX2_init_7 : decode cX2_init 7 = .ok (.newarray .int, 2) := by decide +kernel
theorem dX2_init_9 : decode cX2_init 9 = .ok (.putfield 9, 3) := by decide +kernel
theorem dX2_init_12 : decode cX2_init 12 = .ok (.return_, 1) := by decide +kernel
theorem dX2_add_0 : decode cX2_add 0 = .ok (.aload_n 0, 1) := by decide +kernel
theorem dX2_add_1 : decode cX2_add 1 = .ok (.getfield 15, 3) := by decide +kernel
theorem dX2_add_4 : decode cX2_add 4 = .ok (.bipush 60, 2) := by decide +kernel
theorem dX2_add_6 : decode cX2_add 6 = .ok (.if_icmp .lt 5, 3) := by decide +kernel
theorem dX2_add_9 : decode cX2_add 9 = .ok (.iconst 0, 1) := by decide +kernel
theorem dX2_add_10 : decode cX2_add 10 = .ok (.ireturn, 1) := by decide +kernel
theorem dX2_add_11 : decode cX2_add 11 = .ok (.aload_n 0, 1) := by decide +kernel
theorem dX2_add_12 : decode cX2_add 12 = .ok (.getfield 9, 3) := by decide +kernel
theorem dX2_add_15 : decode cX2_add 15 = .ok (.aload_n 0, 1) := by decide +kernel
theorem dX2_add_16 : decode cX2_add 16 = .ok (.getfield 15, 3) := by decide +kernel
theorem dX2_add_19 : decode cX2_add 19 = .ok (.iload_n 1, 1) := by decide +kernel
theorem dX2_add_20 : decode cX2_add 20 = .ok (.iastore, 1) := by decide +kernel
theorem dX2_add_21 : decode cX2_add 21 = .ok (.aload_n 0, 1) := by decide +kernel
theorem dX2_add_22 : decode cX2_add 22 = .ok (.dup, 1) := by decide +kernel
theorem dX2_add_23 : decode cX2_add 23 = .ok (.getfield 15, 3) := by decide +kernel
theorem dX2_add_26 : decode cX2_add 26 = .ok (.iconst 1, 1) := by decide +kernel
theorem dX2_add_27 : decode cX2_add 27 = .ok (.iadd, 1) := by decide +kernel
theorem dX2_add_28 : decode cX2_add 28 = .ok (.putfield 15, 3) := by decide +kernel
theorem dX2_add_31 : decode cX2_add 31 = .ok (.iconst 1, 1) := by decide +kernel
theorem dX2_add_32 : decode cX2_add 32 = .ok (.ireturn, 1) := by decide +kernel
theorem dX2_firstFault_0 : decode cX2_firstFault 0 = .ok (.iconst 0, 1) := by decide +kernel
theorem dX2_firstFault_1 : decode cX2_firstFault 1 = .ok (.istore_n 1, 1) := by decide +kernel
theorem dX2_firstFault_2 : decode cX2_firstFault 2 = .ok (.iconst 0, 1) := by decide +kernel
theorem dX2_firstFault_3 : decode cX2_firstFault 3 = .ok (.istore_n 2, 1) := by decide +kernel
theorem dX2_firstFault_4 : decode cX2_firstFault 4 = .ok (.iload_n 2, 1) := by decide +kernel
theorem dX2_firstFault_5 : decode cX2_firstFault 5 = .ok (.aload_n 0, 1) := by decide +kernel
theorem dX2_firstFault_6 : decode cX2_firstFault 6 = .ok (.getfield 15, 3) := by decide +kernel
theorem dX2_firstFault_9 : decode cX2_firstFault 9 = .ok (.if_icmp .ge 27, 3) := by decide +kernel
theorem dX2_firstFault_12 : decode cX2_firstFault 12 = .ok (.iload_n 1, 1) := by decide +kernel
theorem dX2_firstFault_13 : decode cX2_firstFault 13 = .ok (.aload_n 0, 1) := by decide +kernel
theorem dX2_firstFault_14 : decode cX2_firstFault 14 = .ok (.getfield 9, 3) := by decide +kernel
theorem dX2_firstFault_17 : decode cX2_firstFault 17 = .ok (.iload_n 2, 1) := by decide +kernel
theorem dX2_firstFault_18 : decode cX2_firstFault 18 = .ok (.iaload, 1) := by decide +kernel
theorem dX2_firstFault_19 : decode cX2_firstFault 19 = .ok (.invokestatic 19, 3) := by decide +kernel
theorem dX2_firstFault_22 : decode cX2_firstFault 22 = .ok (.istore_n 1, 1) := by decide +kernel
theorem dX2_firstFault_23 : decode cX2_firstFault 23 = .ok (.iload_n 1, 1) := by decide +kernel
theorem dX2_firstFault_24 : decode cX2_firstFault 24 = .ok (.iconst 5, 1) := by decide +kernel
theorem dX2_firstFault_25 : decode cX2_firstFault 25 = .ok (.if_icmp .ne 5, 3) := by decide +kernel
theorem dX2_firstFault_28 : decode cX2_firstFault 28 = .ok (.iload_n 2, 1) := by decide +kernel
theorem dX2_firstFault_29 : decode cX2_firstFault 29 = .ok (.ireturn, 1) := by decide +kernel
theorem dX2_firstFault_30 : decode cX2_firstFault 30 = .ok (.iinc 2 1, 3) := by decide +kernel
theorem dX2_firstFault_33 : decode cX2_firstFault 33 = .ok (.goto (-29), 3) := by decide +kernel
theorem dX2_firstFault_36 : decode cX2_firstFault 36 = .ok (.iload_n 1, 1) := by decide +kernel
theorem dX2_firstFault_37 : decode cX2_firstFault 37 = .ok (.ifCond .ne 8, 3) := by decide +kernel
theorem dX2_firstFault_40 : decode cX2_firstFault 40 = .ok (.bipush (-6), 2) := by decide +kernel
theorem dX2_firstFault_42 : decode cX2_firstFault 42 = .ok (.goto 7, 3) := by decide +kernel
theorem dX2_firstFault_45 : decode cX2_firstFault 45 = .ok (.aload_n 0, 1) := by decide +kernel
theorem dX2_firstFault_46 : decode cX2_firstFault 46 = .ok (.getfield 15, 3) := by decide +kernel
theorem dX2_firstFault_49 : decode cX2_firstFault 49 = .ok (.ireturn, 1) := by decide +kernel
theorem dX2_after_0 : decode cX2_after 0 = .ok (.iload_n 0, 1) := by decide +kernel
theorem dX2_after_1 : decode cX2_after 1 = .ok (.tableswitch 112 0 4 #[35, 40, 63, 76, 99], 35) := by decide +kernel
theorem dX2_after_36 : decode cX2_after 36 = .ok (.iload_n 1, 1) := by decide +kernel
theorem dX2_after_37 : decode cX2_after 37 = .ok (.invokestatic 23, 3) := by decide +kernel
theorem dX2_after_40 : decode cX2_after 40 = .ok (.ireturn, 1) := by decide +kernel
theorem dX2_after_41 : decode cX2_after 41 = .ok (.iload_n 1, 1) := by decide +kernel
theorem dX2_after_42 : decode cX2_after 42 = .ok (.invokestatic 27, 3) := by decide +kernel
theorem dX2_after_45 : decode cX2_after 45 = .ok (.ifCond .eq 7, 3) := by decide +kernel
theorem dX2_after_48 : decode cX2_after 48 = .ok (.iconst 1, 1) := by decide +kernel
theorem dX2_after_49 : decode cX2_after 49 = .ok (.goto 14, 3) := by decide +kernel
theorem dX2_after_52 : decode cX2_after 52 = .ok (.iload_n 1, 1) := by decide +kernel
theorem dX2_after_53 : decode cX2_after 53 = .ok (.bipush 124, 2) := by decide +kernel
theorem dX2_after_55 : decode cX2_after 55 = .ok (.if_icmp .ne 7, 3) := by decide +kernel
theorem dX2_after_58 : decode cX2_after 58 = .ok (.iconst 2, 1) := by decide +kernel
theorem dX2_after_59 : decode cX2_after 59 = .ok (.goto 4, 3) := by decide +kernel
theorem dX2_after_62 : decode cX2_after 62 = .ok (.iconst 5, 1) := by decide +kernel
theorem dX2_after_63 : decode cX2_after 63 = .ok (.ireturn, 1) := by decide +kernel
theorem dX2_after_64 : decode cX2_after 64 = .ok (.iload_n 1, 1) := by decide +kernel
theorem dX2_after_65 : decode cX2_after 65 = .ok (.invokestatic 27, 3) := by decide +kernel
theorem dX2_after_68 : decode cX2_after 68 = .ok (.ifCond .eq 7, 3) := by decide +kernel
theorem dX2_after_71 : decode cX2_after 71 = .ok (.iconst 3, 1) := by decide +kernel
theorem dX2_after_72 : decode cX2_after 72 = .ok (.goto 4, 3) := by decide +kernel
theorem dX2_after_75 : decode cX2_after 75 = .ok (.iconst 5, 1) := by decide +kernel
theorem dX2_after_76 : decode cX2_after 76 = .ok (.ireturn, 1) := by decide +kernel
theorem dX2_after_77 : decode cX2_after 77 = .ok (.iload_n 1, 1) := by decide +kernel
theorem dX2_after_78 : decode cX2_after 78 = .ok (.invokestatic 27, 3) := by decide +kernel
theorem dX2_after_81 : decode cX2_after 81 = .ok (.ifCond .eq 7, 3) := by decide +kernel
theorem dX2_after_84 : decode cX2_after 84 = .ok (.iconst 3, 1) := by decide +kernel
theorem dX2_after_85 : decode cX2_after 85 = .ok (.goto 14, 3) := by decide +kernel
theorem dX2_after_88 : decode cX2_after 88 = .ok (.iload_n 1, 1) := by decide +kernel
theorem dX2_after_89 : decode cX2_after 89 = .ok (.bipush 59, 2) := by decide +kernel
theorem dX2_after_91 : decode cX2_after 91 = .ok (.if_icmp .ne 7, 3) := by decide +kernel
theorem dX2_after_94 : decode cX2_after 94 = .ok (.iconst 0, 1) := by decide +kernel
theorem dX2_after_95 : decode cX2_after 95 = .ok (.goto 4, 3) := by decide +kernel
theorem dX2_after_98 : decode cX2_after 98 = .ok (.iconst 5, 1) := by decide +kernel
theorem dX2_after_99 : decode cX2_after 99 = .ok (.ireturn, 1) := by decide +kernel
theorem dX2_after_100 : decode cX2_after 100 = .ok (.iload_n 1, 1) := by decide +kernel
theorem dX2_after_101 : decode cX2_after 101 = .ok (.invokestatic 27, 3) := by decide +kernel
theorem dX2_after_104 : decode cX2_after 104 = .ok (.ifCond .eq 7, 3) := by decide +kernel
theorem dX2_after_107 : decode cX2_after 107 = .ok (.iconst 0, 1) := by decide +kernel
theorem dX2_after_108 : decode cX2_after 108 = .ok (.goto 4, 3) := by decide +kernel
theorem dX2_after_111 : decode cX2_after 111 = .ok (.iconst 5, 1) := by decide +kernel
theorem dX2_after_112 : decode cX2_after 112 = .ok (.ireturn, 1) := by decide +kernel
theorem dX2_after_113 : decode cX2_after 113 = .ok (.iconst 5, 1) := by decide +kernel
theorem dX2_after_114 : decode cX2_after 114 = .ok (.ireturn, 1) := by decide +kernel
theorem dX2_afterNothing_0 : decode cX2_afterNothing 0 = .ok (.iload_n 0, 1) := by decide +kernel
theorem dX2_afterNothing_1 : decode cX2_afterNothing 1 = .ok (.lookupswitch 51 #[(42, 45), (46, 43), (94, 47), (124, 49)], 43) := by decide +kernel
theorem dX2_afterNothing_44 : decode cX2_afterNothing 44 = .ok (.iconst 0, 1) := by decide +kernel
theorem dX2_afterNothing_45 : decode cX2_afterNothing 45 = .ok (.ireturn, 1) := by decide +kernel
theorem dX2_afterNothing_46 : decode cX2_afterNothing 46 = .ok (.iconst 0, 1) := by decide +kernel
theorem dX2_afterNothing_47 : decode cX2_afterNothing 47 = .ok (.ireturn, 1) := by decide +kernel
theorem dX2_afterNothing_48 : decode cX2_afterNothing 48 = .ok (.iconst 4, 1) := by decide +kernel
theorem dX2_afterNothing_49 : decode cX2_afterNothing 49 = .ok (.ireturn, 1) := by decide +kernel
theorem dX2_afterNothing_50 : decode cX2_afterNothing 50 = .ok (.iconst 2, 1) := by decide +kernel
theorem dX2_afterNothing_51 : decode cX2_afterNothing 51 = .ok (.ireturn, 1) := by decide +kernel
theorem dX2_afterNothing_52 : decode cX2_afterNothing 52 = .ok (.iload_n 0, 1) := by decide +kernel
theorem dX2_afterNothing_53 : decode cX2_afterNothing 53 = .ok (.invokestatic 27, 3) := by decide +kernel
theorem dX2_afterNothing_56 : decode cX2_afterNothing 56 = .ok (.ifCond .eq 7, 3) := by decide +kernel
theorem dX2_afterNothing_59 : decode cX2_afterNothing 59 = .ok (.iconst 1, 1) := by decide +kernel
theorem dX2_afterNothing_60 : decode cX2_afterNothing 60 = .ok (.goto 4, 3) := by decide +kernel
theorem dX2_afterNothing_63 : decode cX2_afterNothing 63 = .ok (.iconst 5, 1) := by decide +kernel
theorem dX2_afterNothing_64 : decode cX2_afterNothing 64 = .ok (.ireturn, 1) := by decide +kernel
theorem dX2_isLetter_0 : decode cX2_isLetter 0 = .ok (.iload_n 0, 1) := by decide +kernel
theorem dX2_isLetter_1 : decode cX2_isLetter 1 = .ok (.bipush 65, 2) := by decide +kernel
theorem dX2_isLetter_3 : decode cX2_isLetter 3 = .ok (.bipush 72, 2) := by decide +kernel
theorem dX2_isLetter_5 : decode cX2_isLetter 5 = .ok (.invokestatic 31, 3) := by decide +kernel
theorem dX2_isLetter_8 : decode cX2_isLetter 8 = .ok (.ireturn, 1) := by decide +kernel
theorem dX3_init_0 : decode cX3_init 0 = .ok (.aload_n 0, 1) := by decide +kernel
theorem dX3_init_1 : decode cX3_init 1 = .ok (.invokespecial 3, 3) := by decide +kernel
theorem dX3_init_4 : decode cX3_init 4 = .ok (.aload_n 0, 1) := by decide +kernel
theorem dX3_init_5 : decode cX3_init 5 = .ok (.sipush 256, 3) := by decide +kernel
theorem dX3_init_8 : decode cX3_init 8 = .ok (.newarray .int, 2) := by decide +kernel
theorem dX3_init_10 : decode cX3_init 10 = .ok (.putfield 9, 3) := by decide +kernel
theorem dX3_init_13 : decode cX3_init 13 = .ok (.aload_n 0, 1) := by decide +kernel
theorem dX3_init_14 : decode cX3_init 14 = .ok (.sipush 256, 3) := by decide +kernel
theorem dX3_init_17 : decode cX3_init 17 = .ok (.newarray .int, 2) := by decide +kernel
theorem dX3_init_19 : decode cX3_init 19 = .ok (.putfield 15, 3) := by decide +kernel
theorem dX3_init_22 : decode cX3_init 22 = .ok (.aload_n 0, 1) := by decide +kernel
theorem dX3_init_23 : decode cX3_init 23 = .ok (.sipush 256, 3) := by decide +kernel
theorem dX3_init_26 : decode cX3_init 26 = .ok (.newarray .int, 2) := by decide +kernel
theorem dX3_init_28 : decode cX3_init 28 = .ok (.putfield 18, 3) := by decide +kernel
theorem dX3_init_31 : decode cX3_init 31 = .ok (.aload_n 0, 1) := by decide +kernel
theorem dX3_init_32 : decode cX3_init 32 = .ok (.sipush 3201, 3) := by decide +kernel
theorem dX3_init_35 : decode cX3_init 35 = .ok (.newarray .byte, 2) := by decide +kernel
theorem dX3_init_37 : decode cX3_init 37 = .ok (.putfield 21, 3) := by decide +kernel
theorem dX3_init_40 : decode cX3_init 40 = .ok (.return_, 1) := by decide +kernel
theorem dX3_fillRows_0 : decode cX3_fillRows 0 = .ok (.iconst 0, 1) := by decide +kernel
theorem dX3_fillRows_1 : decode cX3_fillRows 1 = .ok (.istore_n 2, 1) := by decide +kernel
theorem dX3_fillRows_2 : decode cX3_fillRows 2 = .ok (.iload_n 2, 1) := by decide +kernel
theorem dX3_fillRows_3 : decode cX3_fillRows 3 = .ok (.bipush 8, 2) := by decide +kernel
theorem dX3_fillRows_5 : decode cX3_fillRows 5 = .ok (.if_icmp .ge 143, 3) := by decide +kernel
theorem dX3_fillRows_8 : decode cX3_fillRows 8 = .ok (.iconst 1, 1) := by decide +kernel
theorem dX3_fillRows_9 : decode cX3_fillRows 9 = .ok (.iload_n 2, 1) := by decide +kernel
theorem dX3_fillRows_10 : decode cX3_fillRows 10 = .ok (.ishl, 1) := by decide +kernel
theorem dX3_fillRows_11 : decode cX3_fillRows 11 = .ok (.istore_n 3, 1) := by decide +kernel
theorem dX3_fillRows_12 : decode cX3_fillRows 12 = .ok (.aload_n 1, 1) := by decide +kernel
theorem dX3_fillRows_13 : decode cX3_fillRows 13 = .ok (.iload_n 2, 1) := by decide +kernel
theorem dX3_fillRows_14 : decode cX3_fillRows 14 = .ok (.invokevirtual 25, 3) := by decide +kernel
theorem dX3_fillRows_17 : decode cX3_fillRows 17 = .ok (.istore 4, 2) := by decide +kernel
theorem dX3_fillRows_19 : decode cX3_fillRows 19 = .ok (.iload 4, 2) := by decide +kernel
theorem dX3_fillRows_21 : decode cX3_fillRows 21 = .ok (.ifCond .eq 11, 3) := by decide +kernel
theorem dX3_fillRows_24 : decode cX3_fillRows 24 = .ok (.aload_n 1, 1) := by decide +kernel
theorem dX3_fillRows_25 : decode cX3_fillRows 25 = .ok (.iload_n 2, 1) := by decide +kernel
theorem dX3_fillRows_26 : decode cX3_fillRows 26 = .ok (.invokevirtual 31, 3) := by decide +kernel
theorem dX3_fillRows_29 : decode cX3_fillRows 29 = .ok (.goto 4, 3) := by decide +kernel
theorem dX3_fillRows_32 : decode cX3_fillRows 32 = .ok (.iconst 0, 1) := by decide +kernel
theorem dX3_fillRows_33 : decode cX3_fillRows 33 = .ok (.istore 5, 2) := by decide +kernel
theorem dX3_fillRows_35 : decode cX3_fillRows 35 = .ok (.iload 4, 2) := by decide +kernel
theorem dX3_fillRows_37 : decode cX3_fillRows 37 = .ok (.ifCond .eq 12, 3) := by decide +kernel
theorem dX3_fillRows_40 : decode cX3_fillRows 40 = .ok (.aload_n 1, 1) := by decide +kernel
theorem dX3_fillRows_41 : decode cX3_fillRows 41 = .ok (.getfield 35, 3) := by decide +kernel
theorem dX3_fillRows_44 : decode cX3_fillRows 44 = .ok (.iload_n 2, 1) := by decide +kernel
theorem dX3_fillRows_45 : decode cX3_fillRows 45 = .ok (.iaload, 1) := by decide +kernel
theorem dX3_fillRows_46 : decode cX3_fillRows 46 = .ok (.goto 4, 3) := by decide +kernel
theorem dX3_fillRows_49 : decode cX3_fillRows 49 = .ok (.iconst 0, 1) := by decide +kernel
theorem dX3_fillRows_50 : decode cX3_fillRows 50 = .ok (.istore 6, 2) := by decide +kernel
theorem dX3_fillRows_52 : decode cX3_fillRows 52 = .ok (.iload 4, 2) := by decide +kernel
theorem dX3_fillRows_54 : decode cX3_fillRows 54 = .ok (.ifCond .eq 11, 3) := by decide +kernel
theorem dX3_fillRows_57 : decode cX3_fillRows 57 = .ok (.aload_n 1, 1) := by decide +kernel
theorem dX3_fillRows_58 : decode cX3_fillRows 58 = .ok (.iload_n 2, 1) := by decide +kernel
theorem dX3_fillRows_59 : decode cX3_fillRows 59 = .ok (.invokevirtual 36, 3) := by decide +kernel
theorem dX3_fillRows_62 : decode cX3_fillRows 62 = .ok (.goto 4, 3) := by decide +kernel
theorem dX3_fillRows_65 : decode cX3_fillRows 65 = .ok (.iconst 0, 1) := by decide +kernel
theorem dX3_fillRows_66 : decode cX3_fillRows 66 = .ok (.istore 7, 2) := by decide +kernel
theorem dX3_fillRows_68 : decode cX3_fillRows 68 = .ok (.iload_n 3, 1) := by decide +kernel
theorem dX3_fillRows_69 : decode cX3_fillRows 69 = .ok (.istore 8, 2) := by decide +kernel
theorem dX3_fillRows_71 : decode cX3_fillRows 71 = .ok (.iload 8, 2) := by decide +kernel
theorem dX3_fillRows_73 : decode cX3_fillRows 73 = .ok (.iconst 2, 1) := by decide +kernel
theorem dX3_fillRows_74 : decode cX3_fillRows 74 = .ok (.iload_n 3, 1) := by decide +kernel
theorem dX3_fillRows_75 : decode cX3_fillRows 75 = .ok (.imul, 1) := by decide +kernel
theorem dX3_fillRows_76 : decode cX3_fillRows 76 = .ok (.if_icmp .ge 66, 3) := by decide +kernel
theorem dX3_fillRows_79 : decode cX3_fillRows 79 = .ok (.aload_n 0, 1) := by decide +kernel
theorem dX3_fillRows_80 : decode cX3_fillRows 80 = .ok (.getfield 9, 3) := by decide +kernel
theorem dX3_fillRows_83 : decode cX3_fillRows 83 = .ok (.iload 8, 2) := by decide +kernel
theorem dX3_fillRows_85 : decode cX3_fillRows 85 = .ok (.aload_n 0, 1) := by decide +kernel
theorem dX3_fillRows_86 : decode cX3_fillRows 86 = .ok (.getfield 9, 3) := by decide +kernel
theorem dX3_fillRows_89 : decode cX3_fillRows 89 = .ok (.iload 8, 2) := by decide +kernel
theorem dX3_fillRows_91 : decode cX3_fillRows 91 = .ok (.iload_n 3, 1) := by decide +kernel
theorem dX3_fillRows_92 : decode cX3_fillRows 92 = .ok (.isub, 1) := by decide +kernel
theorem dX3_fillRows_93 : decode cX3_fillRows 93 = .ok (.iaload, 1) := by decide +kernel
theorem dX3_fillRows_94 : decode cX3_fillRows 94 = .ok (.iload 5, 2) := by decide +kernel
theorem dX3_fillRows_96 : decode cX3_fillRows 96 = .ok (.iadd, 1) := by decide +kernel
theorem dX3_fillRows_97 : decode cX3_fillRows 97 = .ok (.iastore, 1) := by decide +kernel
theorem dX3_fillRows_98 : decode cX3_fillRows 98 = .ok (.aload_n 0, 1) := by decide +kernel
theorem dX3_fillRows_99 : decode cX3_fillRows 99 = .ok (.getfield 15, 3) := by decide +kernel
theorem dX3_fillRows_102 : decode cX3_fillRows 102 = .ok (.iload 8, 2) := by decide +kernel
theorem dX3_fillRows_104 : decode cX3_fillRows 104 = .ok (.aload_n 0, 1) := by decide +kernel
theorem dX3_fillRows_105 : decode cX3_fillRows 105 = .ok (.getfield 15, 3) := by decide +kernel
theorem dX3_fillRows_108 : decode cX3_fillRows 108 = .ok (.iload 8, 2) := by decide +kernel
theorem dX3_fillRows_110 : decode cX3_fillRows 110 = .ok (.iload_n 3, 1) := by decide +kernel
theorem dX3_fillRows_111 : decode cX3_fillRows 111 = .ok (.isub, 1) := by decide +kernel
theorem dX3_fillRows_112 : decode cX3_fillRows 112 = .ok (.iaload, 1) := by decide +kernel
theorem dX3_fillRows_113 : decode cX3_fillRows 113 = .ok (.iload 6, 2) := by decide +kernel
theorem dX3_fillRows_115 : decode cX3_fillRows 115 = .ok (.iadd, 1) := by decide +kernel
theorem dX3_fillRows_116 : decode cX3_fillRows 116 = .ok (.iastore, 1) := by decide +kernel
theorem dX3_fillRows_117 : decode cX3_fillRows 117 = .ok (.aload_n 0, 1) := by decide +kernel
theorem dX3_fillRows_118 : decode cX3_fillRows 118 = .ok (.getfield 18, 3) := by decide +kernel
theorem dX3_fillRows_121 : decode cX3_fillRows 121 = .ok (.iload 8, 2) := by decide +kernel
theorem dX3_fillRows_123 : decode cX3_fillRows 123 = .ok (.aload_n 0, 1) := by decide +kernel
theorem dX3_fillRows_124 : decode cX3_fillRows 124 = .ok (.getfield 18, 3) := by decide +kernel
theorem dX3_fillRows_127 : decode cX3_fillRows 127 = .ok (.iload 8, 2) := by decide +kernel
theorem dX3_fillRows_129 : decode cX3_fillRows 129 = .ok (.iload_n 3, 1) := by decide +kernel
theorem dX3_fillRows_130 : decode cX3_fillRows 130 = .ok (.isub, 1) := by decide +kernel
theorem dX3_fillRows_131 : decode cX3_fillRows 131 = .ok (.iaload, 1) := by decide +kernel
theorem dX3_fillRows_132 : decode cX3_fillRows 132 = .ok (.iload 7, 2) := by decide +kernel
theorem dX3_fillRows_134 : decode cX3_fillRows 134 = .ok (.ior, 1) := by decide +kernel
theorem dX3_fillRows_135 : decode cX3_fillRows 135 = .ok (.iastore, 1) := by decide +kernel
theorem dX3_fillRows_136 : decode cX3_fillRows 136 = .ok (.iinc 8 1, 3) := by decide +kernel
theorem dX3_fillRows_139 : decode cX3_fillRows 139 = .ok (.goto (-68), 3) := by decide +kernel
theorem dX3_fillRows_142 : decode cX3_fillRows 142 = .ok (.iinc 2 1, 3) := by decide +kernel
theorem dX3_fillRows_145 : decode cX3_fillRows 145 = .ok (.goto (-143), 3) := by decide +kernel
theorem dX3_fillRows_148 : decode cX3_fillRows 148 = .ok (.return_, 1) := by decide +kernel
theorem dX3_mayIt_0 : decode cX3_mayIt 0 = .ok (.aload_n 0, 1) := by decide +kernel
theorem dX3_mayIt_1 : decode cX3_mayIt 1 = .ok (.getfield 18, 3) := by decide +kernel
theorem dX3_mayIt_4 : decode cX3_mayIt 4 = .ok (.iload_n 1, 1) := by decide +kernel
theorem dX3_mayIt_5 : decode cX3_mayIt 5 = .ok (.iaload, 1) := by decide +kernel
theorem dX3_mayIt_6 : decode cX3_mayIt 6 = .ok (.iload_n 1, 1) := by decide +kernel
theorem dX3_mayIt_7 : decode cX3_mayIt 7 = .ok (.iconst (-1), 1) := by decide +kernel
theorem dX3_mayIt_8 : decode cX3_mayIt 8 = .ok (.ixor, 1) := by decide +kernel
theorem dX3_mayIt_9 : decode cX3_mayIt 9 = .ok (.iand, 1) := by decide +kernel
theorem dX3_mayIt_10 : decode cX3_mayIt 10 = .ok (.ifCond .ne 7, 3) := by decide +kernel
theorem dX3_mayIt_13 : decode cX3_mayIt 13 = .ok (.iconst 1, 1) := by decide +kernel
theorem dX3_mayIt_14 : decode cX3_mayIt 14 = .ok (.goto 4, 3) := by decide +kernel
theorem dX3_mayIt_17 : decode cX3_mayIt 17 = .ok (.iconst 0, 1) := by decide +kernel
theorem dX3_mayIt_18 : decode cX3_mayIt 18 = .ok (.ireturn, 1) := by decide +kernel
theorem dX3_seatAll_0 : decode cX3_seatAll 0 = .ok (.aload_n 0, 1) := by decide +kernel
theorem dX3_seatAll_1 : decode cX3_seatAll 1 = .ok (.aload_n 1, 1) := by decide +kernel
theorem dX3_seatAll_2 : decode cX3_seatAll 2 = .ok (.invokevirtual 39, 3) := by decide +kernel
theorem dX3_seatAll_5 : decode cX3_seatAll 5 = .ok (.aload_n 0, 1) := by decide +kernel
theorem dX3_seatAll_6 : decode cX3_seatAll 6 = .ok (.bipush (-6), 2) := by decide +kernel
theorem dX3_seatAll_8 : decode cX3_seatAll 8 = .ok (.putfield 43, 3) := by decide +kernel
theorem dX3_seatAll_11 : decode cX3_seatAll 11 = .ok (.aload_n 0, 1) := by decide +kernel
theorem dX3_seatAll_12 : decode cX3_seatAll 12 = .ok (.bipush (-6), 2) := by decide +kernel
theorem dX3_seatAll_14 : decode cX3_seatAll 14 = .ok (.putfield 47, 3) := by decide +kernel
theorem dX3_seatAll_17 : decode cX3_seatAll 17 = .ok (.aload_n 0, 1) := by decide +kernel
theorem dX3_seatAll_18 : decode cX3_seatAll 18 = .ok (.bipush (-6), 2) := by decide +kernel
theorem dX3_seatAll_20 : decode cX3_seatAll 20 = .ok (.putfield 50, 3) := by decide +kernel
theorem dX3_seatAll_23 : decode cX3_seatAll 23 = .ok (.aload_n 0, 1) := by decide +kernel
theorem dX3_seatAll_24 : decode cX3_seatAll 24 = .ok (.iload_n 3, 1) := by decide +kernel
theorem dX3_seatAll_25 : decode cX3_seatAll 25 = .ok (.putfield 53, 3) := by decide +kernel
theorem dX3_seatAll_28 : decode cX3_seatAll 28 = .ok (.aload_n 0, 1) := by decide +kernel
theorem dX3_seatAll_29 : decode cX3_seatAll 29 = .ok (.getfield 21, 3) := by decide +kernel
theorem dX3_seatAll_32 : decode cX3_seatAll 32 = .ok (.iconst 0, 1) := by decide +kernel
theorem dX3_seatAll_33 : decode cX3_seatAll 33 = .ok (.invokestatic 56, 3) := by decide +kernel
theorem dX3_seatAll_36 : decode cX3_seatAll 36 = .ok (.iload_n 2, 1) := by decide +kernel
theorem dX3_seatAll_37 : decode cX3_seatAll 37 = .ok (.ifCond .eq 10, 3) := by decide +kernel
theorem dX3_seatAll_40 : decode cX3_seatAll 40 = .ok (.aload_n 0, 1) := by decide +kernel
theorem dX3_seatAll_41 : decode cX3_seatAll 41 = .ok (.getfield 15, 3) := by decide +kernel
theorem dX3_seatAll_44 : decode cX3_seatAll 44 = .ok (.goto 7, 3) := by decide +kernel
theorem dX3_seatAll_47 : decode cX3_seatAll 47 = .ok (.aload_n 0, 1) := by decide +kernel
theorem dX3_seatAll_48 : decode cX3_seatAll 48 = .ok (.getfield 9, 3) := by decide +kernel
theorem dX3_seatAll_51 : decode cX3_seatAll 51 = .ok (.astore 4, 2) := by decide +kernel
theorem dX3_seatAll_53 : decode cX3_seatAll 53 = .ok (.iconst 0, 1) := by decide +kernel
theorem dX3_seatAll_54 : decode cX3_seatAll 54 = .ok (.istore 5, 2) := by decide +kernel
theorem dX3_seatAll_56 : decode cX3_seatAll 56 = .ok (.aload_n 1, 1) := by decide +kernel
theorem dX3_seatAll_57 : decode cX3_seatAll 57 = .ok (.getfield 62, 3) := by decide +kernel
theorem dX3_seatAll_60 : decode cX3_seatAll 60 = .ok (.invokestatic 65, 3) := by decide +kernel
theorem dX3_seatAll_63 : decode cX3_seatAll 63 = .ok (.istore 6, 2) := by decide +kernel
theorem dX3_seatAll_65 : decode cX3_seatAll 65 = .ok (.iconst 0, 1) := by decide +kernel
theorem dX3_seatAll_66 : decode cX3_seatAll 66 = .ok (.istore 7, 2) := by decide +kernel
theorem dX3_seatAll_68 : decode cX3_seatAll 68 = .ok (.iload 7, 2) := by decide +kernel
theorem dX3_seatAll_70 : decode cX3_seatAll 70 = .ok (.iload 6, 2) := by decide +kernel
theorem dX3_seatAll_72 : decode cX3_seatAll 72 = .ok (.if_icmp .ge 47, 3) := by decide +kernel
theorem dX3_seatAll_75 : decode cX3_seatAll 75 = .ok (.aload_n 0, 1) := by decide +kernel
theorem dX3_seatAll_76 : decode cX3_seatAll 76 = .ok (.iload 5, 2) := by decide +kernel
theorem dX3_seatAll_78 : decode cX3_seatAll 78 = .ok (.invokevirtual 68, 3) := by decide +kernel
theorem dX3_seatAll_81 : decode cX3_seatAll 81 = .ok (.ifCond .eq 21, 3) := by decide +kernel
theorem dX3_seatAll_84 : decode cX3_seatAll 84 = .ok (.aload_n 0, 1) := by decide +kernel
theorem dX3_seatAll_85 : decode cX3_seatAll 85 = .ok (.aload 4, 2) := by decide +kernel
theorem dX3_seatAll_87 : decode cX3_seatAll 87 = .ok (.iload 5, 2) := by decide +kernel
theorem dX3_seatAll_89 : decode cX3_seatAll 89 = .ok (.aload_n 1, 1) := by decide +kernel
theorem dX3_seatAll_90 : decode cX3_seatAll 90 = .ok (.getfield 62, 3) := by decide +kernel
theorem dX3_seatAll_93 : decode cX3_seatAll 93 = .ok (.iload 5, 2) := by decide +kernel
theorem dX3_seatAll_95 : decode cX3_seatAll 95 = .ok (.iconst (-1), 1) := by decide +kernel
theorem dX3_seatAll_96 : decode cX3_seatAll 96 = .ok (.ixor, 1) := by decide +kernel
theorem dX3_seatAll_97 : decode cX3_seatAll 97 = .ok (.iand, 1) := by decide +kernel
theorem dX3_seatAll_98 : decode cX3_seatAll 98 = .ok (.iload_n 3, 1) := by decide +kernel
theorem dX3_seatAll_99 : decode cX3_seatAll 99 = .ok (.invokevirtual 71, 3) := by decide +kernel
theorem dX3_seatAll_102 : decode cX3_seatAll 102 = .ok (.iload 5, 2) := by decide +kernel
theorem dX3_seatAll_104 : decode cX3_seatAll 104 = .ok (.aload_n 1, 1) := by decide +kernel
theorem dX3_seatAll_105 : decode cX3_seatAll 105 = .ok (.getfield 62, 3) := by decide +kernel
theorem dX3_seatAll_108 : decode cX3_seatAll 108 = .ok (.invokestatic 75, 3) := by decide +kernel
theorem dX3_seatAll_111 : decode cX3_seatAll 111 = .ok (.istore 5, 2) := by decide +kernel
theorem dX3_seatAll_113 : decode cX3_seatAll 113 = .ok (.iinc 7 1, 3) := by decide +kernel
theorem dX3_seatAll_116 : decode cX3_seatAll 116 = .ok (.goto (-48), 3) := by decide +kernel
theorem dX3_seatAll_119 : decode cX3_seatAll 119 = .ok (.return_, 1) := by decide +kernel
theorem dX3_seatSecond_0 : decode cX3_seatSecond 0 = .ok (.iconst 0, 1) := by decide +kernel
theorem dX3_seatSecond_1 : decode cX3_seatSecond 1 = .ok (.istore 5, 2) := by decide +kernel
theorem dX3_seatSecond_3 : decode cX3_seatSecond 3 = .ok (.iload_n 3, 1) := by decide +kernel
theorem dX3_seatSecond_4 : decode cX3_seatSecond 4 = .ok (.invokestatic 65, 3) := by decide +kernel
theorem dX3_seatSecond_7 : decode cX3_seatSecond 7 = .ok (.istore 6, 2) := by decide +kernel
theorem dX3_seatSecond_9 : decode cX3_seatSecond 9 = .ok (.iconst 0, 1) := by decide +kernel
theorem dX3_seatSecond_10 : decode cX3_seatSecond 10 = .ok (.istore 7, 2) := by decide +kernel
theorem dX3_seatSecond_12 : decode cX3_seatSecond 12 = .ok (.iload 7, 2) := by decide +kernel
theorem dX3_seatSecond_14 : decode cX3_seatSecond 14 = .ok (.iload 6, 2) := by decide +kernel
theorem dX3_seatSecond_16 : decode cX3_seatSecond 16 = .ok (.if_icmp .ge 52, 3) := by decide +kernel
theorem dX3_seatSecond_19 : decode cX3_seatSecond 19 = .ok (.aload_n 1, 1) := by decide +kernel
theorem dX3_seatSecond_20 : decode cX3_seatSecond 20 = .ok (.iload_n 2, 1) := by decide +kernel
theorem dX3_seatSecond_21 : decode cX3_seatSecond 21 = .ok (.iaload, 1) := by decide +kernel
theorem dX3_seatSecond_22 : decode cX3_seatSecond 22 = .ok (.aload_n 1, 1) := by decide +kernel
theorem dX3_seatSecond_23 : decode cX3_seatSecond 23 = .ok (.iload 5, 2) := by decide +kernel
theorem dX3_seatSecond_25 : decode cX3_seatSecond 25 = .ok (.iaload, 1) := by decide +kernel
theorem dX3_seatSecond_26 : decode cX3_seatSecond 26 = .ok (.isub, 1) := by decide +kernel
theorem dX3_seatSecond_27 : decode cX3_seatSecond 27 = .ok (.istore 8, 2) := by decide +kernel
theorem dX3_seatSecond_29 : decode cX3_seatSecond 29 = .ok (.iload 8, 2) := by decide +kernel
theorem dX3_seatSecond_31 : decode cX3_seatSecond 31 = .ok (.ifCond .le 23, 3) := by decide +kernel
theorem dX3_seatSecond_34 : decode cX3_seatSecond 34 = .ok (.aload_n 0, 1) := by decide +kernel
theorem dX3_seatSecond_35 : decode cX3_seatSecond 35 = .ok (.iload 5, 2) := by decide +kernel
theorem dX3_seatSecond_37 : decode cX3_seatSecond 37 = .ok (.invokevirtual 68, 3) := by decide +kernel
theorem dX3_seatSecond_40 : decode cX3_seatSecond 40 = .ok (.ifCond .eq 14, 3) := by decide +kernel
theorem dX3_seatSecond_43 : decode cX3_seatSecond 43 = .ok (.aload_n 0, 1) := by decide +kernel
theorem dX3_seatSecond_44 : decode cX3_seatSecond 44 = .ok (.iload_n 2, 1) := by decide +kernel
theorem dX3_seatSecond_45 : decode cX3_seatSecond 45 = .ok (.iload 5, 2) := by decide +kernel
theorem dX3_seatSecond_47 : decode cX3_seatSecond 47 = .ok (.iload 8, 2) := by decide +kernel
theorem dX3_seatSecond_49 : decode cX3_seatSecond 49 = .ok (.iload 4, 2) := by decide +kernel
theorem dX3_seatSecond_51 : decode cX3_seatSecond 51 = .ok (.invokevirtual 79, 3) := by decide +kernel
theorem dX3_seatSecond_54 : decode cX3_seatSecond 54 = .ok (.iload 5, 2) := by decide +kernel
theorem dX3_seatSecond_56 : decode cX3_seatSecond 56 = .ok (.iload_n 3, 1) := by decide +kernel
theorem dX3_seatSecond_57 : decode cX3_seatSecond 57 = .ok (.invokestatic 75, 3) := by decide +kernel
theorem dX3_seatSecond_60 : decode cX3_seatSecond 60 = .ok (.istore 5, 2) := by decide +kernel
theorem dX3_seatSecond_62 : decode cX3_seatSecond 62 = .ok (.iinc 7 1, 3) := by decide +kernel
theorem dX3_seatSecond_65 : decode cX3_seatSecond 65 = .ok (.goto (-53), 3) := by decide +kernel
theorem dX3_seatSecond_68 : decode cX3_seatSecond 68 = .ok (.return_, 1) := by decide +kernel
theorem dX3_note_0 : decode cX3_note 0 = .ok (.aload_n 0, 1) := by decide +kernel
theorem dX3_note_1 : decode cX3_note 1 = .ok (.aload_n 0, 1) := by decide +kernel
theorem dX3_note_2 : decode cX3_note 2 = .ok (.getfield 53, 3) := by decide +kernel
theorem dX3_note_5 : decode cX3_note 5 = .ok (.iload_n 3, 1) := by decide +kernel
theorem dX3_note_6 : decode cX3_note 6 = .ok (.iload 4, 2) := by decide +kernel
theorem dX3_note_8 : decode cX3_note 8 = .ok (.isub, 1) := by decide +kernel
theorem dX3_note_9 : decode cX3_note 9 = .ok (.invokestatic 83, 3) := by decide +kernel
theorem dX3_note_12 : decode cX3_note 12 = .ok (.invokestatic 88, 3) := by decide +kernel
theorem dX3_note_15 : decode cX3_note 15 = .ok (.putfield 53, 3) := by decide +kernel
theorem dX3_note_18 : decode cX3_note 18 = .ok (.iload_n 3, 1) := by decide +kernel
theorem dX3_note_19 : decode cX3_note 19 = .ok (.sipush 3200, 3) := by decide +kernel
theorem dX3_note_22 : decode cX3_note 22 = .ok (.if_icmp .gt 10, 3) := by decide +kernel
theorem dX3_note_25 : decode cX3_note 25 = .ok (.aload_n 0, 1) := by decide +kernel
theorem dX3_note_26 : decode cX3_note 26 = .ok (.getfield 21, 3) := by decide +kernel
theorem dX3_note_29 : decode cX3_note 29 = .ok (.iload_n 3, 1) := by decide +kernel
theorem dX3_note_30 : decode cX3_note 30 = .ok (.iconst 1, 1) := by decide +kernel
theorem dX3_note_31 : decode cX3_note 31 = .ok (.bastore, 1) := by decide +kernel
theorem dX3_note_32 : decode cX3_note 32 = .ok (.iload_n 3, 1) := by decide +kernel
theorem dX3_note_33 : decode cX3_note 33 = .ok (.iload 4, 2) := by decide +kernel
theorem dX3_note_35 : decode cX3_note 35 = .ok (.if_icmp .ne 9, 3) := by decide +kernel
theorem dX3_note_38 : decode cX3_note 38 = .ok (.aload_n 0, 1) := by decide +kernel
theorem dX3_note_39 : decode cX3_note 39 = .ok (.iload_n 1, 1) := by decide +kernel
theorem dX3_note_40 : decode cX3_note 40 = .ok (.iload_n 2, 1) := by decide +kernel
theorem dX3_note_41 : decode cX3_note 41 = .ok (.invokevirtual 91, 3) := by decide +kernel
theorem dX3_note_44 : decode cX3_note 44 = .ok (.return_, 1) := by decide +kernel
theorem dX3_keepFewest_0 : decode cX3_keepFewest 0 = .ok (.iload_n 1, 1) := by decide +kernel
theorem dX3_keepFewest_1 : decode cX3_keepFewest 1 = .ok (.iload_n 2, 1) := by decide +kernel
theorem dX3_keepFewest_2 : decode cX3_keepFewest 2 = .ok (.ior, 1) := by decide +kernel
theorem dX3_keepFewest_3 : decode cX3_keepFewest 3 = .ok (.invokestatic 95, 3) := by decide +kernel
theorem dX3_keepFewest_6 : decode cX3_keepFewest 6 = .ok (.istore_n 3, 1) := by decide +kernel
theorem dX3_keepFewest_7 : decode cX3_keepFewest 7 = .ok (.aload_n 0, 1) := by decide +kernel
theorem dX3_keepFewest_8 : decode cX3_keepFewest 8 = .ok (.getfield 43, 3) := by decide +kernel
theorem dX3_keepFewest_11 : decode cX3_keepFewest 11 = .ok (.bipush (-6), 2) := by decide +kernel
theorem dX3_keepFewest_13 : decode cX3_keepFewest 13 = .ok (.if_icmp .eq 11, 3) := by decide +kernel
theorem dX3_keepFewest_16 : decode cX3_keepFewest 16 = .ok (.iload_n 3, 1) := by decide +kernel
theorem dX3_keepFewest_17 : decode cX3_keepFewest 17 = .ok (.aload_n 0, 1) := by decide +kernel
theorem dX3_keepFewest_18 : decode cX3_keepFewest 18 = .ok (.getfield 43, 3) := by decide +kernel
theorem dX3_keepFewest_21 : decode cX3_keepFewest 21 = .ok (.if_icmp .ge 18, 3) := by decide +kernel
theorem dX3_keepFewest_24 : decode cX3_keepFewest 24 = .ok (.aload_n 0, 1) := by decide +kernel
theorem dX3_keepFewest_25 : decode cX3_keepFewest 25 = .ok (.iload_n 3, 1) := by decide +kernel
theorem dX3_keepFewest_26 : decode cX3_keepFewest 26 = .ok (.putfield 43, 3) := by decide +kernel
theorem dX3_keepFewest_29 : decode cX3_keepFewest 29 = .ok (.aload_n 0, 1) := by decide +kernel
theorem dX3_keepFewest_30 : decode cX3_keepFewest 30 = .ok (.iload_n 1, 1) := by decide +kernel
theorem dX3_keepFewest_31 : decode cX3_keepFewest 31 = .ok (.putfield 47, 3) := by decide +kernel
theorem dX3_keepFewest_34 : decode cX3_keepFewest 34 = .ok (.aload_n 0, 1) := by decide +kernel
theorem dX3_keepFewest_35 : decode cX3_keepFewest 35 = .ok (.iload_n 2, 1) := by decide +kernel
theorem dX3_keepFewest_36 : decode cX3_keepFewest 36 = .ok (.putfield 50, 3) := by decide +kernel
theorem dX3_keepFewest_39 : decode cX3_keepFewest 39 = .ok (.return_, 1) := by decide +kernel
theorem dX3_leastUnmade_0 : decode cX3_leastUnmade 0 = .ok (.iconst 1, 1) := by decide +kernel
theorem dX3_leastUnmade_1 : decode cX3_leastUnmade 1 = .ok (.istore_n 1, 1) := by decide +kernel
theorem dX3_leastUnmade_2 : decode cX3_leastUnmade 2 = .ok (.iload_n 1, 1) := by decide +kernel
theorem dX3_leastUnmade_3 : decode cX3_leastUnmade 3 = .ok (.sipush 3200, 3) := by decide +kernel
theorem dX3_leastUnmade_6 : decode cX3_leastUnmade 6 = .ok (.if_icmp .gt 20, 3) := by decide +kernel
theorem dX3_leastUnmade_9 : decode cX3_leastUnmade 9 = .ok (.aload_n 0, 1) := by decide +kernel
theorem dX3_leastUnmade_10 : decode cX3_leastUnmade 10 = .ok (.getfield 21, 3) := by decide +kernel
theorem dX3_leastUnmade_13 : decode cX3_leastUnmade 13 = .ok (.iload_n 1, 1) := by decide +kernel
theorem dX3_leastUnmade_14 : decode cX3_leastUnmade 14 = .ok (.baload, 1) := by decide +kernel
theorem dX3_leastUnmade_15 : decode cX3_leastUnmade 15 = .ok (.ifCond .ne 5, 3) := by decide +kernel
theorem dX3_leastUnmade_18 : decode cX3_leastUnmade 18 = .ok (.iload_n 1, 1) := by decide +kernel
theorem dX3_leastUnmade_19 : decode cX3_leastUnmade 19 = .ok (.ireturn, 1) := by decide +kernel
theorem dX3_leastUnmade_20 : decode cX3_leastUnmade 20 = .ok (.iinc 1 1, 3) := by decide +kernel
theorem dX3_leastUnmade_23 : decode cX3_leastUnmade 23 = .ok (.goto (-21), 3) := by decide +kernel
theorem dX3_leastUnmade_26 : decode cX3_leastUnmade 26 = .ok (.sipush 3201, 3) := by decide +kernel
theorem dX3_leastUnmade_29 : decode cX3_leastUnmade 29 = .ok (.ireturn, 1) := by decide +kernel
theorem dX3_sellDearest_0 : decode cX3_sellDearest 0 = .ok (.aload_n 0, 1) := by decide +kernel
theorem dX3_sellDearest_1 : decode cX3_sellDearest 1 = .ok (.aload_n 1, 1) := by decide +kernel
theorem dX3_sellDearest_2 : decode cX3_sellDearest 2 = .ok (.invokevirtual 39, 3) := by decide +kernel
theorem dX3_sellDearest_5 : decode cX3_sellDearest 5 = .ok (.aload_n 0, 1) := by decide +kernel
theorem dX3_sellDearest_6 : decode cX3_sellDearest 6 = .ok (.bipush (-6), 2) := by decide +kernel
theorem dX3_sellDearest_8 : decode cX3_sellDearest 8 = .ok (.putfield 100, 3) := by decide +kernel
theorem dX3_sellDearest_11 : decode cX3_sellDearest 11 = .ok (.aload_n 0, 1) := by decide +kernel
theorem dX3_sellDearest_12 : decode cX3_sellDearest 12 = .ok (.bipush (-6), 2) := by decide +kernel
theorem dX3_sellDearest_14 : decode cX3_sellDearest 14 = .ok (.putfield 103, 3) := by decide +kernel
theorem dX3_sellDearest_17 : decode cX3_sellDearest 17 = .ok (.iconst 0, 1) := by decide +kernel
theorem dX3_sellDearest_18 : decode cX3_sellDearest 18 = .ok (.istore 4, 2) := by decide +kernel
theorem dX3_sellDearest_20 : decode cX3_sellDearest 20 = .ok (.aload_n 1, 1) := by decide +kernel
theorem dX3_sellDearest_21 : decode cX3_sellDearest 21 = .ok (.getfield 62, 3) := by decide +kernel
theorem dX3_sellDearest_24 : decode cX3_sellDearest 24 = .ok (.iload_n 3, 1) := by decide +kernel
theorem dX3_sellDearest_25 : decode cX3_sellDearest 25 = .ok (.iconst (-1), 1) := by decide +kernel
theorem dX3_sellDearest_26 : decode cX3_sellDearest 26 = .ok (.ixor, 1) := by decide +kernel
theorem dX3_sellDearest_27 : decode cX3_sellDearest 27 = .ok (.iand, 1) := by decide +kernel
theorem dX3_sellDearest_28 : decode cX3_sellDearest 28 = .ok (.istore 5, 2) := by decide +kernel
theorem dX3_sellDearest_30 : decode cX3_sellDearest 30 = .ok (.iconst 0, 1) := by decide +kernel
theorem dX3_sellDearest_31 : decode cX3_sellDearest 31 = .ok (.istore 6, 2) := by decide +kernel
theorem dX3_sellDearest_33 : decode cX3_sellDearest 33 = .ok (.iload 5, 2) := by decide +kernel
theorem dX3_sellDearest_35 : decode cX3_sellDearest 35 = .ok (.invokestatic 65, 3) := by decide +kernel
theorem dX3_sellDearest_38 : decode cX3_sellDearest 38 = .ok (.istore 7, 2) := by decide +kernel
theorem dX3_sellDearest_40 : decode cX3_sellDearest 40 = .ok (.iconst 0, 1) := by decide +kernel
theorem dX3_sellDearest_41 : decode cX3_sellDearest 41 = .ok (.istore 8, 2) := by decide +kernel
theorem dX3_sellDearest_43 : decode cX3_sellDearest 43 = .ok (.iload 8, 2) := by decide +kernel
theorem dX3_sellDearest_45 : decode cX3_sellDearest 45 = .ok (.iload 7, 2) := by decide +kernel
theorem dX3_sellDearest_47 : decode cX3_sellDearest 47 = .ok (.if_icmp .ge 84, 3) := by decide +kernel
theorem dX3_sellDearest_50 : decode cX3_sellDearest 50 = .ok (.aload_n 0, 1) := by decide +kernel
theorem dX3_sellDearest_51 : decode cX3_sellDearest 51 = .ok (.getfield 15, 3) := by decide +kernel
theorem dX3_sellDearest_54 : decode cX3_sellDearest 54 = .ok (.iload 6, 2) := by decide +kernel
theorem dX3_sellDearest_56 : decode cX3_sellDearest 56 = .ok (.iaload, 1) := by decide +kernel
theorem dX3_sellDearest_57 : decode cX3_sellDearest 57 = .ok (.aload_n 0, 1) := by decide +kernel
theorem dX3_sellDearest_58 : decode cX3_sellDearest 58 = .ok (.getfield 15, 3) := by decide +kernel
theorem dX3_sellDearest_61 : decode cX3_sellDearest 61 = .ok (.iload_n 3, 1) := by decide +kernel
theorem dX3_sellDearest_62 : decode cX3_sellDearest 62 = .ok (.iaload, 1) := by decide +kernel
theorem dX3_sellDearest_63 : decode cX3_sellDearest 63 = .ok (.isub, 1) := by decide +kernel
theorem dX3_sellDearest_64 : decode cX3_sellDearest 64 = .ok (.istore 9, 2) := by decide +kernel
theorem dX3_sellDearest_66 : decode cX3_sellDearest 66 = .ok (.iload 9, 2) := by decide +kernel
theorem dX3_sellDearest_68 : decode cX3_sellDearest 68 = .ok (.iload 4, 2) := by decide +kernel
theorem dX3_sellDearest_70 : decode cX3_sellDearest 70 = .ok (.if_icmp .le 46, 3) := by decide +kernel
theorem dX3_sellDearest_73 : decode cX3_sellDearest 73 = .ok (.aload_n 0, 1) := by decide +kernel
theorem dX3_sellDearest_74 : decode cX3_sellDearest 74 = .ok (.iload 6, 2) := by decide +kernel
theorem dX3_sellDearest_76 : decode cX3_sellDearest 76 = .ok (.invokevirtual 68, 3) := by decide +kernel
theorem dX3_sellDearest_79 : decode cX3_sellDearest 79 = .ok (.ifCond .eq 37, 3) := by decide +kernel
theorem dX3_sellDearest_82 : decode cX3_sellDearest 82 = .ok (.aload_n 0, 1) := by decide +kernel
theorem dX3_sellDearest_83 : decode cX3_sellDearest 83 = .ok (.getfield 9, 3) := by decide +kernel
theorem dX3_sellDearest_86 : decode cX3_sellDearest 86 = .ok (.iload 6, 2) := by decide +kernel
theorem dX3_sellDearest_88 : decode cX3_sellDearest 88 = .ok (.iaload, 1) := by decide +kernel
theorem dX3_sellDearest_89 : decode cX3_sellDearest 89 = .ok (.iload_n 2, 1) := by decide +kernel
theorem dX3_sellDearest_90 : decode cX3_sellDearest 90 = .ok (.aload_n 0, 1) := by decide +kernel
theorem dX3_sellDearest_91 : decode cX3_sellDearest 91 = .ok (.getfield 9, 3) := by decide +kernel
theorem dX3_sellDearest_94 : decode cX3_sellDearest 94 = .ok (.iload_n 3, 1) := by decide +kernel
theorem dX3_sellDearest_95 : decode cX3_sellDearest 95 = .ok (.iaload, 1) := by decide +kernel
theorem dX3_sellDearest_96 : decode cX3_sellDearest 96 = .ok (.iadd, 1) := by decide +kernel
theorem dX3_sellDearest_97 : decode cX3_sellDearest 97 = .ok (.if_icmp .gt 19, 3) := by decide +kernel
theorem dX3_sellDearest_100 : decode cX3_sellDearest 100 = .ok (.iload 9, 2) := by decide +kernel
theorem dX3_sellDearest_102 : decode cX3_sellDearest 102 = .ok (.istore 4, 2) := by decide +kernel
theorem dX3_sellDearest_104 : decode cX3_sellDearest 104 = .ok (.aload_n 0, 1) := by decide +kernel
theorem dX3_sellDearest_105 : decode cX3_sellDearest 105 = .ok (.iload 9, 2) := by decide +kernel
theorem dX3_sellDearest_107 : decode cX3_sellDearest 107 = .ok (.putfield 100, 3) := by decide +kernel
theorem dX3_sellDearest_110 : decode cX3_sellDearest 110 = .ok (.aload_n 0, 1) := by decide +kernel
theorem dX3_sellDearest_111 : decode cX3_sellDearest 111 = .ok (.iload 6, 2) := by decide +kernel
theorem dX3_sellDearest_113 : decode cX3_sellDearest 113 = .ok (.putfield 103, 3) := by decide +kernel
theorem dX3_sellDearest_116 : decode cX3_sellDearest 116 = .ok (.iload 6, 2) := by decide +kernel
theorem dX3_sellDearest_118 : decode cX3_sellDearest 118 = .ok (.iload 5, 2) := by decide +kernel
theorem dX3_sellDearest_120 : decode cX3_sellDearest 120 = .ok (.invokestatic 75, 3) := by decide +kernel
theorem dX3_sellDearest_123 : decode cX3_sellDearest 123 = .ok (.istore 6, 2) := by decide +kernel
theorem dX3_sellDearest_125 : decode cX3_sellDearest 125 = .ok (.iinc 8 1, 3) := by decide +kernel
theorem dX3_sellDearest_128 : decode cX3_sellDearest 128 = .ok (.goto (-85), 3) := by decide +kernel
theorem dX3_sellDearest_131 : decode cX3_sellDearest 131 = .ok (.return_, 1) := by decide +kernel
theorem dX4_init_0 : decode cX4_init 0 = .ok (.aload_n 0, 1) := by decide +kernel
theorem dX4_init_1 : decode cX4_init 1 = .ok (.invokespecial 3, 3) := by decide +kernel
theorem dX4_init_4 : decode cX4_init 4 = .ok (.aload_n 0, 1) := by decide +kernel
theorem dX4_init_5 : decode cX4_init 5 = .ok (.bipush 8, 2) := by decide +kernel
theorem dX4_init_7 : decode cX4_init 7 = .ok (.newarray .int, 2) := by decide +kernel
theorem dX4_init_9 : decode cX4_init 9 = .ok (.putfield 9, 3) := by decide +kernel
theorem dX4_init_12 : decode cX4_init 12 = .ok (.aload_n 0, 1) := by decide +kernel
theorem dX4_init_13 : decode cX4_init 13 = .ok (.bipush 8, 2) := by decide +kernel
theorem dX4_init_15 : decode cX4_init 15 = .ok (.newarray .int, 2) := by decide +kernel
theorem dX4_init_17 : decode cX4_init 17 = .ok (.putfield 15, 3) := by decide +kernel
theorem dX4_init_20 : decode cX4_init 20 = .ok (.aload_n 0, 1) := by decide +kernel
theorem dX4_init_21 : decode cX4_init 21 = .ok (.bipush 8, 2) := by decide +kernel
theorem dX4_init_23 : decode cX4_init 23 = .ok (.newarray .int, 2) := by decide +kernel
theorem dX4_init_25 : decode cX4_init 25 = .ok (.putfield 18, 3) := by decide +kernel
theorem dX4_init_28 : decode cX4_init 28 = .ok (.aload_n 0, 1) := by decide +kernel
theorem dX4_init_29 : decode cX4_init 29 = .ok (.bipush 8, 2) := by decide +kernel
theorem dX4_init_31 : decode cX4_init 31 = .ok (.newarray .int, 2) := by decide +kernel
theorem dX4_init_33 : decode cX4_init 33 = .ok (.putfield 21, 3) := by decide +kernel
theorem dX4_init_36 : decode cX4_init 36 = .ok (.aload_n 0, 1) := by decide +kernel
theorem dX4_init_37 : decode cX4_init 37 = .ok (.bipush 8, 2) := by decide +kernel
theorem dX4_init_39 : decode cX4_init 39 = .ok (.newarray .int, 2) := by decide +kernel
theorem dX4_init_41 : decode cX4_init 41 = .ok (.putfield 24, 3) := by decide +kernel
theorem dX4_init_44 : decode cX4_init 44 = .ok (.aload_n 0, 1) := by decide +kernel
theorem dX4_init_45 : decode cX4_init 45 = .ok (.bipush 8, 2) := by decide +kernel
theorem dX4_init_47 : decode cX4_init 47 = .ok (.newarray .int, 2) := by decide +kernel
theorem dX4_init_49 : decode cX4_init 49 = .ok (.putfield 27, 3) := by decide +kernel
theorem dX4_init_52 : decode cX4_init 52 = .ok (.aload_n 0, 1) := by decide +kernel
theorem dX4_init_53 : decode cX4_init 53 = .ok (.bipush 8, 2) := by decide +kernel
theorem dX4_init_55 : decode cX4_init 55 = .ok (.newarray .int, 2) := by decide +kernel
theorem dX4_init_57 : decode cX4_init 57 = .ok (.putfield 30, 3) := by decide +kernel
theorem dX4_init_60 : decode cX4_init 60 = .ok (.aload_n 0, 1) := by decide +kernel
theorem dX4_init_61 : decode cX4_init 61 = .ok (.iconst 5, 1) := by decide +kernel
theorem dX4_init_62 : decode cX4_init 62 = .ok (.putfield 33, 3) := by decide +kernel
theorem dX4_init_65 : decode cX4_init 65 = .ok (.aload_n 0, 1) := by decide +kernel
theorem dX4_init_66 : decode cX4_init 66 = .ok (.getfield 21, 3) := by decide +kernel
theorem dX4_init_69 : decode cX4_init 69 = .ok (.bipush (-6), 2) := by decide +kernel
theorem dX4_init_71 : decode cX4_init 71 = .ok (.invokestatic 37, 3) := by decide +kernel
theorem dX4_init_74 : decode cX4_init 74 = .ok (.return_, 1) := by decide +kernel
theorem dX4_copyFrom_0 : decode cX4_copyFrom 0 = .ok (.aload_n 1, 1) := by decide +kernel
theorem dX4_copyFrom_1 : decode cX4_copyFrom 1 = .ok (.getfield 9, 3) := by decide +kernel
theorem dX4_copyFrom_4 : decode cX4_copyFrom 4 = .ok (.iconst 0, 1) := by decide +kernel
theorem dX4_copyFrom_5 : decode cX4_copyFrom 5 = .ok (.aload_n 0, 1) := by decide +kernel
theorem dX4_copyFrom_6 : decode cX4_copyFrom 6 = .ok (.getfield 9, 3) := by decide +kernel
theorem dX4_copyFrom_9 : decode cX4_copyFrom 9 = .ok (.iconst 0, 1) := by decide +kernel
theorem dX4_copyFrom_10 : decode cX4_copyFrom 10 = .ok (.bipush 8, 2) := by decide +kernel
theorem dX4_copyFrom_12 : decode cX4_copyFrom 12 = .ok (.invokestatic 43, 3) := by decide +kernel
theorem dX4_copyFrom_15 : decode cX4_copyFrom 15 = .ok (.aload_n 1, 1) := by decide +kernel
theorem dX4_copyFrom_16 : decode cX4_copyFrom 16 = .ok (.getfield 15, 3) := by decide +kernel
theorem dX4_copyFrom_19 : decode cX4_copyFrom 19 = .ok (.iconst 0, 1) := by decide +kernel
theorem dX4_copyFrom_20 : decode cX4_copyFrom 20 = .ok (.aload_n 0, 1) := by decide +kernel
theorem dX4_copyFrom_21 : decode cX4_copyFrom 21 = .ok (.getfield 15, 3) := by decide +kernel
theorem dX4_copyFrom_24 : decode cX4_copyFrom 24 = .ok (.iconst 0, 1) := by decide +kernel
theorem dX4_copyFrom_25 : decode cX4_copyFrom 25 = .ok (.bipush 8, 2) := by decide +kernel
theorem dX4_copyFrom_27 : decode cX4_copyFrom 27 = .ok (.invokestatic 43, 3) := by decide +kernel
theorem dX4_copyFrom_30 : decode cX4_copyFrom 30 = .ok (.aload_n 1, 1) := by decide +kernel
theorem dX4_copyFrom_31 : decode cX4_copyFrom 31 = .ok (.getfield 18, 3) := by decide +kernel
theorem dX4_copyFrom_34 : decode cX4_copyFrom 34 = .ok (.iconst 0, 1) := by decide +kernel
theorem dX4_copyFrom_35 : decode cX4_copyFrom 35 = .ok (.aload_n 0, 1) := by decide +kernel
theorem dX4_copyFrom_36 : decode cX4_copyFrom 36 = .ok (.getfield 18, 3) := by decide +kernel
theorem dX4_copyFrom_39 : decode cX4_copyFrom 39 = .ok (.iconst 0, 1) := by decide +kernel
theorem dX4_copyFrom_40 : decode cX4_copyFrom 40 = .ok (.bipush 8, 2) := by decide +kernel
theorem dX4_copyFrom_42 : decode cX4_copyFrom 42 = .ok (.invokestatic 43, 3) := by decide +kernel
theorem dX4_copyFrom_45 : decode cX4_copyFrom 45 = .ok (.aload_n 1, 1) := by decide +kernel
theorem dX4_copyFrom_46 : decode cX4_copyFrom 46 = .ok (.getfield 21, 3) := by decide +kernel
theorem dX4_copyFrom_49 : decode cX4_copyFrom 49 = .ok (.iconst 0, 1) := by decide +kernel
theorem dX4_copyFrom_50 : decode cX4_copyFrom 50 = .ok (.aload_n 0, 1) := by decide +kernel
theorem dX4_copyFrom_51 : decode cX4_copyFrom 51 = .ok (.getfield 21, 3) := by decide +kernel
theorem dX4_copyFrom_54 : decode cX4_copyFrom 54 = .ok (.iconst 0, 1) := by decide +kernel
theorem dX4_copyFrom_55 : decode cX4_copyFrom 55 = .ok (.bipush 8, 2) := by decide +kernel
theorem dX4_copyFrom_57 : decode cX4_copyFrom 57 = .ok (.invokestatic 43, 3) := by decide +kernel
theorem dX4_copyFrom_60 : decode cX4_copyFrom 60 = .ok (.aload_n 1, 1) := by decide +kernel
theorem dX4_copyFrom_61 : decode cX4_copyFrom 61 = .ok (.getfield 24, 3) := by decide +kernel
theorem dX4_copyFrom_64 : decode cX4_copyFrom 64 = .ok (.iconst 0, 1) := by decide +kernel
theorem dX4_copyFrom_65 : decode cX4_copyFrom 65 = .ok (.aload_n 0, 1) := by decide +kernel
theorem dX4_copyFrom_66 : decode cX4_copyFrom 66 = .ok (.getfield 24, 3) := by decide +kernel
theorem dX4_copyFrom_69 : decode cX4_copyFrom 69 = .ok (.iconst 0, 1) := by decide +kernel
theorem dX4_copyFrom_70 : decode cX4_copyFrom 70 = .ok (.bipush 8, 2) := by decide +kernel
theorem dX4_copyFrom_72 : decode cX4_copyFrom 72 = .ok (.invokestatic 43, 3) := by decide +kernel
theorem dX4_copyFrom_75 : decode cX4_copyFrom 75 = .ok (.aload_n 1, 1) := by decide +kernel
theorem dX4_copyFrom_76 : decode cX4_copyFrom 76 = .ok (.getfield 27, 3) := by decide +kernel
theorem dX4_copyFrom_79 : decode cX4_copyFrom 79 = .ok (.iconst 0, 1) := by decide +kernel
theorem dX4_copyFrom_80 : decode cX4_copyFrom 80 = .ok (.aload_n 0, 1) := by decide +kernel
theorem dX4_copyFrom_81 : decode cX4_copyFrom 81 = .ok (.getfield 27, 3) := by decide +kernel
theorem dX4_copyFrom_84 : decode cX4_copyFrom 84 = .ok (.iconst 0, 1) := by decide +kernel
theorem dX4_copyFrom_85 : decode cX4_copyFrom 85 = .ok (.bipush 8, 2) := by decide +kernel
theorem dX4_copyFrom_87 : decode cX4_copyFrom 87 = .ok (.invokestatic 43, 3) := by decide +kernel
theorem dX4_copyFrom_90 : decode cX4_copyFrom 90 = .ok (.aload_n 1, 1) := by decide +kernel
theorem dX4_copyFrom_91 : decode cX4_copyFrom 91 = .ok (.getfield 30, 3) := by decide +kernel
theorem dX4_copyFrom_94 : decode cX4_copyFrom 94 = .ok (.iconst 0, 1) := by decide +kernel
theorem dX4_copyFrom_95 : decode cX4_copyFrom 95 = .ok (.aload_n 0, 1) := by decide +kernel
theorem dX4_copyFrom_96 : decode cX4_copyFrom 96 = .ok (.getfield 30, 3) := by decide +kernel
theorem dX4_copyFrom_99 : decode cX4_copyFrom 99 = .ok (.iconst 0, 1) := by decide +kernel
theorem dX4_copyFrom_100 : decode cX4_copyFrom 100 = .ok (.bipush 8, 2) := by decide +kernel
theorem dX4_copyFrom_102 : decode cX4_copyFrom 102 = .ok (.invokestatic 43, 3) := by decide +kernel
theorem dX4_copyFrom_105 : decode cX4_copyFrom 105 = .ok (.aload_n 0, 1) := by decide +kernel
theorem dX4_copyFrom_106 : decode cX4_copyFrom 106 = .ok (.aload_n 1, 1) := by decide +kernel
theorem dX4_copyFrom_107 : decode cX4_copyFrom 107 = .ok (.getfield 49, 3) := by decide +kernel
theorem dX4_copyFrom_110 : decode cX4_copyFrom 110 = .ok (.putfield 49, 3) := by decide +kernel
theorem dX4_copyFrom_113 : decode cX4_copyFrom 113 = .ok (.aload_n 0, 1) := by decide +kernel
theorem dX4_copyFrom_114 : decode cX4_copyFrom 114 = .ok (.aload_n 1, 1) := by decide +kernel
theorem dX4_copyFrom_115 : decode cX4_copyFrom 115 = .ok (.getfield 52, 3) := by decide +kernel
theorem dX4_copyFrom_118 : decode cX4_copyFrom 118 = .ok (.putfield 52, 3) := by decide +kernel
theorem dX4_copyFrom_121 : decode cX4_copyFrom 121 = .ok (.aload_n 0, 1) := by decide +kernel
theorem dX4_copyFrom_122 : decode cX4_copyFrom 122 = .ok (.aload_n 1, 1) := by decide +kernel
theorem dX4_copyFrom_123 : decode cX4_copyFrom 123 = .ok (.getfield 33, 3) := by decide +kernel
theorem dX4_copyFrom_126 : decode cX4_copyFrom 126 = .ok (.putfield 33, 3) := by decide +kernel
theorem dX4_copyFrom_129 : decode cX4_copyFrom 129 = .ok (.aload_n 0, 1) := by decide +kernel
theorem dX4_copyFrom_130 : decode cX4_copyFrom 130 = .ok (.aload_n 1, 1) := by decide +kernel
theorem dX4_copyFrom_131 : decode cX4_copyFrom 131 = .ok (.getfield 55, 3) := by decide +kernel
theorem dX4_copyFrom_134 : decode cX4_copyFrom 134 = .ok (.putfield 55, 3) := by decide +kernel
theorem dX4_copyFrom_137 : decode cX4_copyFrom 137 = .ok (.aload_n 0, 1) := by decide +kernel
theorem dX4_copyFrom_138 : decode cX4_copyFrom 138 = .ok (.aload_n 1, 1) := by decide +kernel
theorem dX4_copyFrom_139 : decode cX4_copyFrom 139 = .ok (.getfield 58, 3) := by decide +kernel
theorem dX4_copyFrom_142 : decode cX4_copyFrom 142 = .ok (.putfield 58, 3) := by decide +kernel
theorem dX4_copyFrom_145 : decode cX4_copyFrom 145 = .ok (.return_, 1) := by decide +kernel
theorem dX4_has_0 : decode cX4_has 0 = .ok (.iload_n 1, 1) := by decide +kernel
theorem dX4_has_1 : decode cX4_has 1 = .ok (.ifCond .lt 25, 3) := by decide +kernel
theorem dX4_has_4 : decode cX4_has 4 = .ok (.iload_n 1, 1) := by decide +kernel
theorem dX4_has_5 : decode cX4_has 5 = .ok (.bipush 8, 2) := by decide +kernel
theorem dX4_has_7 : decode cX4_has 7 = .ok (.if_icmp .ge 19, 3) := by decide +kernel
theorem dX4_has_10 : decode cX4_has 10 = .ok (.aload_n 0, 1) := by decide +kernel
theorem dX4_has_11 : decode cX4_has 11 = .ok (.getfield 49, 3) := by decide +kernel
theorem dX4_has_14 : decode cX4_has 14 = .ok (.iload_n 1, 1) := by decide +kernel
theorem dX4_has_15 : decode cX4_has 15 = .ok (.ishr, 1) := by decide +kernel
theorem dX4_has_16 : decode cX4_has 16 = .ok (.iconst 1, 1) := by decide +kernel
theorem dX4_has_17 : decode cX4_has 17 = .ok (.iand, 1) := by decide +kernel
theorem dX4_has_18 : decode cX4_has 18 = .ok (.iconst 1, 1) := by decide +kernel
theorem dX4_has_19 : decode cX4_has 19 = .ok (.if_icmp .ne 7, 3) := by decide +kernel
theorem dX4_has_22 : decode cX4_has 22 = .ok (.iconst 1, 1) := by decide +kernel
theorem dX4_has_23 : decode cX4_has 23 = .ok (.goto 4, 3) := by decide +kernel
theorem dX4_has_26 : decode cX4_has 26 = .ok (.iconst 0, 1) := by decide +kernel
theorem dX4_has_27 : decode cX4_has 27 = .ok (.ireturn, 1) := by decide +kernel
theorem dX4_hasTwo_0 : decode cX4_hasTwo 0 = .ok (.aload_n 0, 1) := by decide +kernel
theorem dX4_hasTwo_1 : decode cX4_hasTwo 1 = .ok (.iload_n 1, 1) := by decide +kernel
theorem dX4_hasTwo_2 : decode cX4_hasTwo 2 = .ok (.invokevirtual 61, 3) := by decide +kernel
theorem dX4_hasTwo_5 : decode cX4_hasTwo 5 = .ok (.ifCond .eq 20, 3) := by decide +kernel
theorem dX4_hasTwo_8 : decode cX4_hasTwo 8 = .ok (.aload_n 0, 1) := by decide +kernel
theorem dX4_hasTwo_9 : decode cX4_hasTwo 9 = .ok (.iload_n 2, 1) := by decide +kernel
theorem dX4_hasTwo_10 : decode cX4_hasTwo 10 = .ok (.invokevirtual 61, 3) := by decide +kernel
theorem dX4_hasTwo_13 : decode cX4_hasTwo 13 = .ok (.ifCond .eq 12, 3) := by decide +kernel
theorem dX4_hasTwo_16 : decode cX4_hasTwo 16 = .ok (.iload_n 1, 1) := by decide +kernel
theorem dX4_hasTwo_17 : decode cX4_hasTwo 17 = .ok (.iload_n 2, 1) := by decide +kernel
theorem dX4_hasTwo_18 : decode cX4_hasTwo 18 = .ok (.if_icmp .eq 7, 3) := by decide +kernel
theorem dX4_hasTwo_21 : decode cX4_hasTwo 21 = .ok (.iconst 1, 1) := by decide +kernel
theorem dX4_hasTwo_22 : decode cX4_hasTwo 22 = .ok (.goto 4, 3) := by decide +kernel
theorem dX4_hasTwo_25 : decode cX4_hasTwo 25 = .ok (.iconst 0, 1) := by decide +kernel
theorem dX4_hasTwo_26 : decode cX4_hasTwo 26 = .ok (.ireturn, 1) := by decide +kernel
theorem dX4_hasAll_0 : decode cX4_hasAll 0 = .ok (.iload_n 1, 1) := by decide +kernel
theorem dX4_hasAll_1 : decode cX4_hasAll 1 = .ok (.aload_n 0, 1) := by decide +kernel
theorem dX4_hasAll_2 : decode cX4_hasAll 2 = .ok (.getfield 49, 3) := by decide +kernel
theorem dX4_hasAll_5 : decode cX4_hasAll 5 = .ok (.iconst (-1), 1) := by decide +kernel
theorem dX4_hasAll_6 : decode cX4_hasAll 6 = .ok (.ixor, 1) := by decide +kernel
theorem dX4_hasAll_7 : decode cX4_hasAll 7 = .ok (.iand, 1) := by decide +kernel
theorem dX4_hasAll_8 : decode cX4_hasAll 8 = .ok (.ifCond .ne 7, 3) := by decide +kernel
theorem dX4_hasAll_11 : decode cX4_hasAll 11 = .ok (.iconst 1, 1) := by decide +kernel
theorem dX4_hasAll_12 : decode cX4_hasAll 12 = .ok (.goto 4, 3) := by decide +kernel
theorem dX4_hasAll_15 : decode cX4_hasAll 15 = .ok (.iconst 0, 1) := by decide +kernel
theorem dX4_hasAll_16 : decode cX4_hasAll 16 = .ok (.ireturn, 1) := by decide +kernel
theorem dX4_headcount_0 : decode cX4_headcount 0 = .ok (.aload_n 0, 1) := by decide +kernel
theorem dX4_headcount_1 : decode cX4_headcount 1 = .ok (.getfield 49, 3) := by decide +kernel
theorem dX4_headcount_4 : decode cX4_headcount 4 = .ok (.invokestatic 65, 3) := by decide +kernel
theorem dX4_headcount_7 : decode cX4_headcount 7 = .ok (.ireturn, 1) := by decide +kernel
theorem dX4_settle_0 : decode cX4_settle 0 = .ok (.aload_n 0, 1) := by decide +kernel
theorem dX4_settle_1 : decode cX4_settle 1 = .ok (.getfield 9, 3) := by decide +kernel
theorem dX4_settle_4 : decode cX4_settle 4 = .ok (.iload_n 1, 1) := by decide +kernel
theorem dX4_settle_5 : decode cX4_settle 5 = .ok (.iload_n 2, 1) := by decide +kernel
theorem dX4_settle_6 : decode cX4_settle 6 = .ok (.iastore, 1) := by decide +kernel
theorem dX4_settle_7 : decode cX4_settle 7 = .ok (.aload_n 0, 1) := by decide +kernel
theorem dX4_settle_8 : decode cX4_settle 8 = .ok (.getfield 15, 3) := by decide +kernel
theorem dX4_settle_11 : decode cX4_settle 11 = .ok (.iload_n 1, 1) := by decide +kernel
theorem dX4_settle_12 : decode cX4_settle 12 = .ok (.iload_n 3, 1) := by decide +kernel
theorem dX4_settle_13 : decode cX4_settle 13 = .ok (.iastore, 1) := by decide +kernel
theorem dX4_settle_14 : decode cX4_settle 14 = .ok (.aload_n 0, 1) := by decide +kernel
theorem dX4_settle_15 : decode cX4_settle 15 = .ok (.getfield 18, 3) := by decide +kernel
theorem dX4_settle_18 : decode cX4_settle 18 = .ok (.iload_n 1, 1) := by decide +kernel
theorem dX4_settle_19 : decode cX4_settle 19 = .ok (.iload 4, 2) := by decide +kernel
theorem dX4_settle_21 : decode cX4_settle 21 = .ok (.iastore, 1) := by decide +kernel
theorem dX4_settle_22 : decode cX4_settle 22 = .ok (.aload_n 0, 1) := by decide +kernel
theorem dX4_settle_23 : decode cX4_settle 23 = .ok (.dup, 1) := by decide +kernel
theorem dX4_settle_24 : decode cX4_settle 24 = .ok (.getfield 49, 3) := by decide +kernel
theorem dX4_settle_27 : decode cX4_settle 27 = .ok (.iconst 1, 1) := by decide +kernel
theorem dX4_settle_28 : decode cX4_settle 28 = .ok (.iload_n 1, 1) := by decide +kernel
theorem dX4_settle_29 : decode cX4_settle 29 = .ok (.ishl, 1) := by decide +kernel
theorem dX4_settle_30 : decode cX4_settle 30 = .ok (.ior, 1) := by decide +kernel
theorem dX4_settle_31 : decode cX4_settle 31 = .ok (.putfield 49, 3) := by decide +kernel
theorem dX4_settle_34 : decode cX4_settle 34 = .ok (.aload_n 0, 1) := by decide +kernel
theorem dX4_settle_35 : decode cX4_settle 35 = .ok (.dup, 1) := by decide +kernel
theorem dX4_settle_36 : decode cX4_settle 36 = .ok (.getfield 52, 3) := by decide +kernel
theorem dX4_settle_39 : decode cX4_settle 39 = .ok (.iconst 1, 1) := by decide +kernel
theorem dX4_settle_40 : decode cX4_settle 40 = .ok (.iload_n 1, 1) := by decide +kernel
theorem dX4_settle_41 : decode cX4_settle 41 = .ok (.ishl, 1) := by decide +kernel
theorem dX4_settle_42 : decode cX4_settle 42 = .ok (.iconst (-1), 1) := by decide +kernel
theorem dX4_settle_43 : decode cX4_settle 43 = .ok (.ixor, 1) := by decide +kernel
theorem dX4_settle_44 : decode cX4_settle 44 = .ok (.iand, 1) := by decide +kernel
theorem dX4_settle_45 : decode cX4_settle 45 = .ok (.putfield 52, 3) := by decide +kernel
theorem dX4_settle_48 : decode cX4_settle 48 = .ok (.return_, 1) := by decide +kernel
theorem dX4_remove_0 : decode cX4_remove 0 = .ok (.aload_n 0, 1) := by decide +kernel
theorem dX4_remove_1 : decode cX4_remove 1 = .ok (.iload_n 1, 1) := by decide +kernel
theorem dX4_remove_2 : decode cX4_remove 2 = .ok (.invokevirtual 71, 3) := by decide +kernel
theorem dX4_remove_5 : decode cX4_remove 5 = .ok (.aload_n 0, 1) := by decide +kernel
theorem dX4_remove_6 : decode cX4_remove 6 = .ok (.dup, 1) := by decide +kernel
theorem dX4_remove_7 : decode cX4_remove 7 = .ok (.getfield 49, 3) := by decide +kernel
theorem dX4_remove_10 : decode cX4_remove 10 = .ok (.iconst 1, 1) := by decide +kernel
theorem dX4_remove_11 : decode cX4_remove 11 = .ok (.iload_n 1, 1) := by decide +kernel
theorem dX4_remove_12 : decode cX4_remove 12 = .ok (.ishl, 1) := by decide +kernel
theorem dX4_remove_13 : decode cX4_remove 13 = .ok (.iconst (-1), 1) := by decide +kernel
theorem dX4_remove_14 : decode cX4_remove 14 = .ok (.ixor, 1) := by decide +kernel
theorem dX4_remove_15 : decode cX4_remove 15 = .ok (.iand, 1) := by decide +kernel
theorem dX4_remove_16 : decode cX4_remove 16 = .ok (.putfield 49, 3) := by decide +kernel
theorem dX4_remove_19 : decode cX4_remove 19 = .ok (.aload_n 0, 1) := by decide +kernel
theorem dX4_remove_20 : decode cX4_remove 20 = .ok (.dup, 1) := by decide +kernel
theorem dX4_remove_21 : decode cX4_remove 21 = .ok (.getfield 52, 3) := by decide +kernel
theorem dX4_remove_24 : decode cX4_remove 24 = .ok (.iconst 1, 1) := by decide +kernel
theorem dX4_remove_25 : decode cX4_remove 25 = .ok (.iload_n 1, 1) := by decide +kernel
theorem dX4_remove_26 : decode cX4_remove 26 = .ok (.ishl, 1) := by decide +kernel
theorem dX4_remove_27 : decode cX4_remove 27 = .ok (.iconst (-1), 1) := by decide +kernel
theorem dX4_remove_28 : decode cX4_remove 28 = .ok (.ixor, 1) := by decide +kernel
theorem dX4_remove_29 : decode cX4_remove 29 = .ok (.iand, 1) := by decide +kernel
theorem dX4_remove_30 : decode cX4_remove 30 = .ok (.putfield 52, 3) := by decide +kernel
theorem dX4_remove_33 : decode cX4_remove 33 = .ok (.return_, 1) := by decide +kernel
theorem dX4_areMarried_0 : decode cX4_areMarried 0 = .ok (.aload_n 0, 1) := by decide +kernel
theorem dX4_areMarried_1 : decode cX4_areMarried 1 = .ok (.getfield 21, 3) := by decide +kernel
theorem dX4_areMarried_4 : decode cX4_areMarried 4 = .ok (.iload_n 1, 1) := by decide +kernel
theorem dX4_areMarried_5 : decode cX4_areMarried 5 = .ok (.iaload, 1) := by decide +kernel
theorem dX4_areMarried_6 : decode cX4_areMarried 6 = .ok (.iload_n 2, 1) := by decide +kernel
theorem dX4_areMarried_7 : decode cX4_areMarried 7 = .ok (.if_icmp .ne 7, 3) := by decide +kernel
theorem dX4_areMarried_10 : decode cX4_areMarried 10 = .ok (.iconst 1, 1) := by decide +kernel
theorem dX4_areMarried_11 : decode cX4_areMarried 11 = .ok (.goto 4, 3) := by decide +kernel
theorem dX4_areMarried_14 : decode cX4_areMarried 14 = .ok (.iconst 0, 1) := by decide +kernel
theorem dX4_areMarried_15 : decode cX4_areMarried 15 = .ok (.ireturn, 1) := by decide +kernel
theorem dX4_mayMarry_0 : decode cX4_mayMarry 0 = .ok (.aload_n 0, 1) := by decide +kernel
theorem dX4_mayMarry_1 : decode cX4_mayMarry 1 = .ok (.iload_n 1, 1) := by decide +kernel
theorem dX4_mayMarry_2 : decode cX4_mayMarry 2 = .ok (.iload_n 2, 1) := by decide +kernel
theorem dX4_mayMarry_3 : decode cX4_mayMarry 3 = .ok (.invokevirtual 75, 3) := by decide +kernel
theorem dX4_mayMarry_6 : decode cX4_mayMarry 6 = .ok (.ifCond .ne 25, 3) := by decide +kernel
theorem dX4_mayMarry_9 : decode cX4_mayMarry 9 = .ok (.aload_n 0, 1) := by decide +kernel
theorem dX4_mayMarry_10 : decode cX4_mayMarry 10 = .ok (.getfield 21, 3) := by decide +kernel
theorem dX4_mayMarry_13 : decode cX4_mayMarry 13 = .ok (.iload_n 1, 1) := by decide +kernel
theorem dX4_mayMarry_14 : decode cX4_mayMarry 14 = .ok (.iaload, 1) := by decide +kernel
theorem dX4_mayMarry_15 : decode cX4_mayMarry 15 = .ok (.bipush (-6), 2) := by decide +kernel
theorem dX4_mayMarry_17 : decode cX4_mayMarry 17 = .ok (.if_icmp .ne 18, 3) := by decide +kernel
theorem dX4_mayMarry_20 : decode cX4_mayMarry 20 = .ok (.aload_n 0, 1) := by decide +kernel
theorem dX4_mayMarry_21 : decode cX4_mayMarry 21 = .ok (.getfield 21, 3) := by decide +kernel
theorem dX4_mayMarry_24 : decode cX4_mayMarry 24 = .ok (.iload_n 2, 1) := by decide +kernel
theorem dX4_mayMarry_25 : decode cX4_mayMarry 25 = .ok (.iaload, 1) := by decide +kernel
theorem dX4_mayMarry_26 : decode cX4_mayMarry 26 = .ok (.bipush (-6), 2) := by decide +kernel
theorem dX4_mayMarry_28 : decode cX4_mayMarry 28 = .ok (.if_icmp .ne 7, 3) := by decide +kernel
theorem dX4_mayMarry_31 : decode cX4_mayMarry 31 = .ok (.iconst 1, 1) := by decide +kernel
theorem dX4_mayMarry_32 : decode cX4_mayMarry 32 = .ok (.goto 4, 3) := by decide +kernel
theorem dX4_mayMarry_35 : decode cX4_mayMarry 35 = .ok (.iconst 0, 1) := by decide +kernel
theorem dX4_mayMarry_36 : decode cX4_mayMarry 36 = .ok (.ireturn, 1) := by decide +kernel
theorem dX4_join_0 : decode cX4_join 0 = .ok (.aload_n 0, 1) := by decide +kernel
theorem dX4_join_1 : decode cX4_join 1 = .ok (.getfield 21, 3) := by decide +kernel
theorem dX4_join_4 : decode cX4_join 4 = .ok (.iload_n 1, 1) := by decide +kernel
theorem dX4_join_5 : decode cX4_join 5 = .ok (.iload_n 2, 1) := by decide +kernel
theorem dX4_join_6 : decode cX4_join 6 = .ok (.iastore, 1) := by decide +kernel
theorem dX4_join_7 : decode cX4_join 7 = .ok (.aload_n 0, 1) := by decide +kernel
theorem dX4_join_8 : decode cX4_join 8 = .ok (.getfield 21, 3) := by decide +kernel
theorem dX4_join_11 : decode cX4_join 11 = .ok (.iload_n 2, 1) := by decide +kernel
theorem dX4_join_12 : decode cX4_join 12 = .ok (.iload_n 1, 1) := by decide +kernel
theorem dX4_join_13 : decode cX4_join 13 = .ok (.iastore, 1) := by decide +kernel
theorem dX4_join_14 : decode cX4_join 14 = .ok (.return_, 1) := by decide +kernel
theorem dX4_part_0 : decode cX4_part 0 = .ok (.aload_n 0, 1) := by decide +kernel
theorem dX4_part_1 : decode cX4_part 1 = .ok (.getfield 21, 3) := by decide +kernel
theorem dX4_part_4 : decode cX4_part 4 = .ok (.iload_n 1, 1) := by decide +kernel
theorem dX4_part_5 : decode cX4_part 5 = .ok (.iaload, 1) := by decide +kernel
theorem dX4_part_6 : decode cX4_part 6 = .ok (.istore_n 2, 1) := by decide +kernel
theorem dX4_part_7 : decode cX4_part 7 = .ok (.aload_n 0, 1) := by decide +kernel
theorem dX4_part_8 : decode cX4_part 8 = .ok (.getfield 21, 3) := by decide +kernel
theorem dX4_part_11 : decode cX4_part 11 = .ok (.iload_n 1, 1) := by decide +kernel
theorem dX4_part_12 : decode cX4_part 12 = .ok (.bipush (-6), 2) := by decide +kernel
theorem dX4_part_14 : decode cX4_part 14 = .ok (.iastore, 1) := by decide +kernel
theorem dX4_part_15 : decode cX4_part 15 = .ok (.aload_n 0, 1) := by decide +kernel
theorem dX4_part_16 : decode cX4_part 16 = .ok (.iload_n 2, 1) := by decide +kernel
theorem dX4_part_17 : decode cX4_part 17 = .ok (.invokevirtual 61, 3) := by decide +kernel
theorem dX4_part_20 : decode cX4_part 20 = .ok (.ifCond .eq 11, 3) := by decide +kernel
theorem dX4_part_23 : decode cX4_part 23 = .ok (.aload_n 0, 1) := by decide +kernel
theorem dX4_part_24 : decode cX4_part 24 = .ok (.getfield 21, 3) := by decide +kernel
theorem dX4_part_27 : decode cX4_part 27 = .ok (.iload_n 2, 1) := by decide +kernel
theorem dX4_part_28 : decode cX4_part 28 = .ok (.bipush (-6), 2) := by decide +kernel
theorem dX4_part_30 : decode cX4_part 30 = .ok (.iastore, 1) := by decide +kernel
theorem dX4_part_31 : decode cX4_part 31 = .ok (.return_, 1) := by decide +kernel
theorem dX4_marriages_0 : decode cX4_marriages 0 = .ok (.iconst 0, 1) := by decide +kernel
theorem dX4_marriages_1 : decode cX4_marriages 1 = .ok (.istore_n 1, 1) := by decide +kernel
theorem dX4_marriages_2 : decode cX4_marriages 2 = .ok (.iconst 0, 1) := by decide +kernel
theorem dX4_marriages_3 : decode cX4_marriages 3 = .ok (.istore_n 2, 1) := by decide +kernel
theorem dX4_marriages_4 : decode cX4_marriages 4 = .ok (.iload_n 2, 1) := by decide +kernel
theorem dX4_marriages_5 : decode cX4_marriages 5 = .ok (.bipush 8, 2) := by decide +kernel
theorem dX4_marriages_7 : decode cX4_marriages 7 = .ok (.if_icmp .ge 23, 3) := by decide +kernel
theorem dX4_marriages_10 : decode cX4_marriages 10 = .ok (.aload_n 0, 1) := by decide +kernel
theorem dX4_marriages_11 : decode cX4_marriages 11 = .ok (.getfield 21, 3) := by decide +kernel
theorem dX4_marriages_14 : decode cX4_marriages 14 = .ok (.iload_n 2, 1) := by decide +kernel
theorem dX4_marriages_15 : decode cX4_marriages 15 = .ok (.iaload, 1) := by decide +kernel
theorem dX4_marriages_16 : decode cX4_marriages 16 = .ok (.bipush (-6), 2) := by decide +kernel
theorem dX4_marriages_18 : decode cX4_marriages 18 = .ok (.if_icmp .eq 6, 3) := by decide +kernel
theorem dX4_marriages_21 : decode cX4_marriages 21 = .ok (.iinc 1 1, 3) := by decide +kernel
theorem dX4_marriages_24 : decode cX4_marriages 24 = .ok (.iinc 2 1, 3) := by decide +kernel
theorem dX4_marriages_27 : decode cX4_marriages 27 = .ok (.goto (-23), 3) := by decide +kernel
theorem dX4_marriages_30 : decode cX4_marriages 30 = .ok (.iload_n 1, 1) := by decide +kernel
theorem dX4_marriages_31 : decode cX4_marriages 31 = .ok (.iconst 2, 1) := by decide +kernel
theorem dX4_marriages_32 : decode cX4_marriages 32 = .ok (.idiv, 1) := by decide +kernel
theorem dX4_marriages_33 : decode cX4_marriages 33 = .ok (.ireturn, 1) := by decide +kernel
theorem dX4_partner_0 : decode cX4_partner 0 = .ok (.aload_n 0, 1) := by decide +kernel
theorem dX4_partner_1 : decode cX4_partner 1 = .ok (.getfield 21, 3) := by decide +kernel
theorem dX4_partner_4 : decode cX4_partner 4 = .ok (.iload_n 1, 1) := by decide +kernel
theorem dX4_partner_5 : decode cX4_partner 5 = .ok (.iaload, 1) := by decide +kernel
theorem dX4_partner_6 : decode cX4_partner 6 = .ok (.bipush (-6), 2) := by decide +kernel
theorem dX4_partner_8 : decode cX4_partner 8 = .ok (.if_icmp .ne 7, 3) := by decide +kernel
theorem dX4_partner_11 : decode cX4_partner 11 = .ok (.iconst 0, 1) := by decide +kernel
theorem dX4_partner_12 : decode cX4_partner 12 = .ok (.goto 11, 3) := by decide +kernel
theorem dX4_partner_15 : decode cX4_partner 15 = .ok (.iconst 1, 1) := by decide +kernel
theorem dX4_partner_16 : decode cX4_partner 16 = .ok (.aload_n 0, 1) := by decide +kernel
theorem dX4_partner_17 : decode cX4_partner 17 = .ok (.getfield 21, 3) := by decide +kernel
theorem dX4_partner_20 : decode cX4_partner 20 = .ok (.iload_n 1, 1) := by decide +kernel
theorem dX4_partner_21 : decode cX4_partner 21 = .ok (.iaload, 1) := by decide +kernel
theorem dX4_partner_22 : decode cX4_partner 22 = .ok (.ishl, 1) := by decide +kernel
theorem dX4_partner_23 : decode cX4_partner 23 = .ok (.ireturn, 1) := by decide +kernel
theorem dX4_together_0 : decode cX4_together 0 = .ok (.iconst 0, 1) := by decide +kernel
theorem dX4_together_1 : decode cX4_together 1 = .ok (.istore_n 2, 1) := by decide +kernel
theorem dX4_together_2 : decode cX4_together 2 = .ok (.iload_n 2, 1) := by decide +kernel
theorem dX4_together_3 : decode cX4_together 3 = .ok (.bipush 8, 2) := by decide +kernel
theorem dX4_together_5 : decode cX4_together 5 = .ok (.if_icmp .ge 44, 3) := by decide +kernel
theorem dX4_together_8 : decode cX4_together 8 = .ok (.iload_n 1, 1) := by decide +kernel
theorem dX4_together_9 : decode cX4_together 9 = .ok (.iload_n 2, 1) := by decide +kernel
theorem dX4_together_10 : decode cX4_together 10 = .ok (.ishr, 1) := by decide +kernel
theorem dX4_together_11 : decode cX4_together 11 = .ok (.iconst 1, 1) := by decide +kernel
theorem dX4_together_12 : decode cX4_together 12 = .ok (.iand, 1) := by decide +kernel
theorem dX4_together_13 : decode cX4_together 13 = .ok (.iconst 1, 1) := by decide +kernel
theorem dX4_together_14 : decode cX4_together 14 = .ok (.if_icmp .ne 29, 3) := by decide +kernel
theorem dX4_together_17 : decode cX4_together 17 = .ok (.aload_n 0, 1) := by decide +kernel
theorem dX4_together_18 : decode cX4_together 18 = .ok (.getfield 21, 3) := by decide +kernel
theorem dX4_together_21 : decode cX4_together 21 = .ok (.iload_n 2, 1) := by decide +kernel
theorem dX4_together_22 : decode cX4_together 22 = .ok (.iaload, 1) := by decide +kernel
theorem dX4_together_23 : decode cX4_together 23 = .ok (.bipush (-6), 2) := by decide +kernel
theorem dX4_together_25 : decode cX4_together 25 = .ok (.if_icmp .eq 18, 3) := by decide +kernel
theorem dX4_together_28 : decode cX4_together 28 = .ok (.iload_n 1, 1) := by decide +kernel
theorem dX4_together_29 : decode cX4_together 29 = .ok (.aload_n 0, 1) := by decide +kernel
theorem dX4_together_30 : decode cX4_together 30 = .ok (.getfield 21, 3) := by decide +kernel
theorem dX4_together_33 : decode cX4_together 33 = .ok (.iload_n 2, 1) := by decide +kernel
theorem dX4_together_34 : decode cX4_together 34 = .ok (.iaload, 1) := by decide +kernel
theorem dX4_together_35 : decode cX4_together 35 = .ok (.ishr, 1) := by decide +kernel
theorem dX4_together_36 : decode cX4_together 36 = .ok (.iconst 1, 1) := by decide +kernel
theorem dX4_together_37 : decode cX4_together 37 = .ok (.iand, 1) := by decide +kernel
theorem dX4_together_38 : decode cX4_together 38 = .ok (.ifCond .ne 5, 3) := by decide +kernel
theorem dX4_together_41 : decode cX4_together 41 = .ok (.iconst 0, 1) := by decide +kernel
theorem dX4_together_42 : decode cX4_together 42 = .ok (.ireturn, 1) := by decide +kernel
theorem dX4_together_43 : decode cX4_together 43 = .ok (.iinc 2 1, 3) := by decide +kernel
theorem dX4_together_46 : decode cX4_together 46 = .ok (.goto (-44), 3) := by decide +kernel
theorem dX4_together_49 : decode cX4_together 49 = .ok (.iconst 1, 1) := by decide +kernel
theorem dX4_together_50 : decode cX4_together 50 = .ok (.ireturn, 1) := by decide +kernel
theorem dX4_poundsOf_0 : decode cX4_poundsOf 0 = .ok (.aload_n 0, 1) := by decide +kernel
theorem dX4_poundsOf_1 : decode cX4_poundsOf 1 = .ok (.iload_n 1, 1) := by decide +kernel
theorem dX4_poundsOf_2 : decode cX4_poundsOf 2 = .ok (.aload_n 0, 1) := by decide +kernel
theorem dX4_poundsOf_3 : decode cX4_poundsOf 3 = .ok (.getfield 15, 3) := by decide +kernel
theorem dX4_poundsOf_6 : decode cX4_poundsOf 6 = .ok (.iload_n 1, 1) := by decide +kernel
theorem dX4_poundsOf_7 : decode cX4_poundsOf 7 = .ok (.iaload, 1) := by decide +kernel
theorem dX4_poundsOf_8 : decode cX4_poundsOf 8 = .ok (.invokevirtual 79, 3) := by decide +kernel
theorem dX4_poundsOf_11 : decode cX4_poundsOf 11 = .ok (.ireturn, 1) := by decide +kernel
theorem dX4_withCold_0 : decode cX4_withCold 0 = .ok (.aload_n 0, 1) := by decide +kernel
theorem dX4_withCold_1 : decode cX4_withCold 1 = .ok (.getfield 52, 3) := by decide +kernel
theorem dX4_withCold_4 : decode cX4_withCold 4 = .ok (.iload_n 1, 1) := by decide +kernel
theorem dX4_withCold_5 : decode cX4_withCold 5 = .ok (.ishr, 1) := by decide +kernel
theorem dX4_withCold_6 : decode cX4_withCold 6 = .ok (.iconst 1, 1) := by decide +kernel
theorem dX4_withCold_7 : decode cX4_withCold 7 = .ok (.iand, 1) := by decide +kernel
theorem dX4_withCold_8 : decode cX4_withCold 8 = .ok (.iconst 1, 1) := by decide +kernel
theorem dX4_withCold_9 : decode cX4_withCold 9 = .ok (.if_icmp .ne 12, 3) := by decide +kernel
theorem dX4_withCold_12 : decode cX4_withCold 12 = .ok (.iload_n 2, 1) := by decide +kernel
theorem dX4_withCold_13 : decode cX4_withCold 13 = .ok (.iload_n 2, 1) := by decide +kernel
theorem dX4_withCold_14 : decode cX4_withCold 14 = .ok (.bipush 10, 2) := by decide +kernel
theorem dX4_withCold_16 : decode cX4_withCold 16 = .ok (.idiv, 1) := by decide +kernel
theorem dX4_withCold_17 : decode cX4_withCold 17 = .ok (.isub, 1) := by decide +kernel
theorem dX4_withCold_18 : decode cX4_withCold 18 = .ok (.goto 4, 3) := by decide +kernel
theorem dX4_withCold_21 : decode cX4_withCold 21 = .ok (.iload_n 2, 1) := by decide +kernel
theorem dX4_withCold_22 : decode cX4_withCold 22 = .ok (.ireturn, 1) := by decide +kernel
theorem dX4_poundsOfAll_0 : decode cX4_poundsOfAll 0 = .ok (.iconst 0, 1) := by decide +kernel
theorem dX4_poundsOfAll_1 : decode cX4_poundsOfAll 1 = .ok (.istore_n 2, 1) := by decide +kernel
theorem dX4_poundsOfAll_2 : decode cX4_poundsOfAll 2 = .ok (.iconst 0, 1) := by decide +kernel
theorem dX4_poundsOfAll_3 : decode cX4_poundsOfAll 3 = .ok (.istore_n 3, 1) := by decide +kernel
theorem dX4_poundsOfAll_4 : decode cX4_poundsOfAll 4 = .ok (.iload_n 3, 1) := by decide +kernel
theorem dX4_poundsOfAll_5 : decode cX4_poundsOfAll 5 = .ok (.bipush 8, 2) := by decide +kernel
theorem dX4_poundsOfAll_7 : decode cX4_poundsOfAll 7 = .ok (.if_icmp .ge 36, 3) := by decide +kernel
theorem dX4_poundsOfAll_10 : decode cX4_poundsOfAll 10 = .ok (.iload_n 1, 1) := by decide +kernel
theorem dX4_poundsOfAll_11 : decode cX4_poundsOfAll 11 = .ok (.aload_n 0, 1) := by decide +kernel
theorem dX4_poundsOfAll_12 : decode cX4_poundsOfAll 12 = .ok (.getfield 49, 3) := by decide +kernel
theorem dX4_poundsOfAll_15 : decode cX4_poundsOfAll 15 = .ok (.iand, 1) := by decide +kernel
theorem dX4_poundsOfAll_16 : decode cX4_poundsOfAll 16 = .ok (.iload_n 3, 1) := by decide +kernel
theorem dX4_poundsOfAll_17 : decode cX4_poundsOfAll 17 = .ok (.invokestatic 83, 3) := by decide +kernel
theorem dX4_poundsOfAll_20 : decode cX4_poundsOfAll 20 = .ok (.ifCond .eq 17, 3) := by decide +kernel
theorem dX4_poundsOfAll_23 : decode cX4_poundsOfAll 23 = .ok (.iload_n 2, 1) := by decide +kernel
theorem dX4_poundsOfAll_24 : decode cX4_poundsOfAll 24 = .ok (.aload_n 0, 1) := by decide +kernel
theorem dX4_poundsOfAll_25 : decode cX4_poundsOfAll 25 = .ok (.iload_n 3, 1) := by decide +kernel
theorem dX4_poundsOfAll_26 : decode cX4_poundsOfAll 26 = .ok (.aload_n 0, 1) := by decide +kernel
theorem dX4_poundsOfAll_27 : decode cX4_poundsOfAll 27 = .ok (.getfield 15, 3) := by decide +kernel
theorem dX4_poundsOfAll_30 : decode cX4_poundsOfAll 30 = .ok (.iload_n 3, 1) := by decide +kernel
theorem dX4_poundsOfAll_31 : decode cX4_poundsOfAll 31 = .ok (.iaload, 1) := by decide +kernel
theorem dX4_poundsOfAll_32 : decode cX4_poundsOfAll 32 = .ok (.invokevirtual 79, 3) := by decide +kernel
theorem dX4_poundsOfAll_35 : decode cX4_poundsOfAll 35 = .ok (.iadd, 1) := by decide +kernel
theorem dX4_poundsOfAll_36 : decode cX4_poundsOfAll 36 = .ok (.istore_n 2, 1) := by decide +kernel
theorem dX4_poundsOfAll_37 : decode cX4_poundsOfAll 37 = .ok (.iinc 3 1, 3) := by decide +kernel
theorem dX4_poundsOfAll_40 : decode cX4_poundsOfAll 40 = .ok (.goto (-36), 3) := by decide +kernel
theorem dX4_poundsOfAll_43 : decode cX4_poundsOfAll 43 = .ok (.iload_n 2, 1) := by decide +kernel
theorem dX4_poundsOfAll_44 : decode cX4_poundsOfAll 44 = .ok (.ireturn, 1) := by decide +kernel
theorem dX4_sumOver_0 : decode cX4_sumOver 0 = .ok (.iconst 0, 1) := by decide +kernel
theorem dX4_sumOver_1 : decode cX4_sumOver 1 = .ok (.istore_n 3, 1) := by decide +kernel
theorem dX4_sumOver_2 : decode cX4_sumOver 2 = .ok (.iconst 0, 1) := by decide +kernel
theorem dX4_sumOver_3 : decode cX4_sumOver 3 = .ok (.istore 4, 2) := by decide +kernel
theorem dX4_sumOver_5 : decode cX4_sumOver 5 = .ok (.iload 4, 2) := by decide +kernel
theorem dX4_sumOver_7 : decode cX4_sumOver 7 = .ok (.bipush 8, 2) := by decide +kernel
theorem dX4_sumOver_9 : decode cX4_sumOver 9 = .ok (.if_icmp .ge 30, 3) := by decide +kernel
theorem dX4_sumOver_12 : decode cX4_sumOver 12 = .ok (.iload_n 1, 1) := by decide +kernel
theorem dX4_sumOver_13 : decode cX4_sumOver 13 = .ok (.aload_n 0, 1) := by decide +kernel
theorem dX4_sumOver_14 : decode cX4_sumOver 14 = .ok (.getfield 49, 3) := by decide +kernel
theorem dX4_sumOver_17 : decode cX4_sumOver 17 = .ok (.iand, 1) := by decide +kernel
theorem dX4_sumOver_18 : decode cX4_sumOver 18 = .ok (.iload 4, 2) := by decide +kernel
theorem dX4_sumOver_20 : decode cX4_sumOver 20 = .ok (.invokestatic 83, 3) := by decide +kernel
theorem dX4_sumOver_23 : decode cX4_sumOver 23 = .ok (.ifCond .eq 10, 3) := by decide +kernel
theorem dX4_sumOver_26 : decode cX4_sumOver 26 = .ok (.iload_n 3, 1) := by decide +kernel
theorem dX4_sumOver_27 : decode cX4_sumOver 27 = .ok (.aload_n 2, 1) := by decide +kernel
theorem dX4_sumOver_28 : decode cX4_sumOver 28 = .ok (.iload 4, 2) := by decide +kernel
theorem dX4_sumOver_30 : decode cX4_sumOver 30 = .ok (.iaload, 1) := by decide +kernel
theorem dX4_sumOver_31 : decode cX4_sumOver 31 = .ok (.iadd, 1) := by decide +kernel
theorem dX4_sumOver_32 : decode cX4_sumOver 32 = .ok (.istore_n 3, 1) := by decide +kernel
theorem dX4_sumOver_33 : decode cX4_sumOver 33 = .ok (.iinc 4 1, 3) := by decide +kernel
theorem dX4_sumOver_36 : decode cX4_sumOver 36 = .ok (.goto (-31), 3) := by decide +kernel
theorem dX4_sumOver_39 : decode cX4_sumOver 39 = .ok (.iload_n 3, 1) := by decide +kernel
theorem dX4_sumOver_40 : decode cX4_sumOver 40 = .ok (.ireturn, 1) := by decide +kernel
theorem dX4_drifted_0 : decode cX4_drifted 0 = .ok (.iconst 1, 1) := by decide +kernel
theorem dX4_drifted_1 : decode cX4_drifted 1 = .ok (.sipush 400, 3) := by decide +kernel
theorem dX4_drifted_4 : decode cX4_drifted 4 = .ok (.iload_n 2, 1) := by decide +kernel
theorem dX4_drifted_5 : decode cX4_drifted 5 = .ok (.aload_n 0, 1) := by decide +kernel
theorem dX4_drifted_6 : decode cX4_drifted 6 = .ok (.getfield 18, 3) := by decide +kernel
theorem dX4_drifted_9 : decode cX4_drifted 9 = .ok (.iload_n 1, 1) := by decide +kernel
theorem dX4_drifted_10 : decode cX4_drifted 10 = .ok (.iaload, 1) := by decide +kernel
theorem dX4_drifted_11 : decode cX4_drifted 11 = .ok (.iadd, 1) := by decide +kernel
theorem dX4_drifted_12 : decode cX4_drifted 12 = .ok (.invokestatic 86, 3) := by decide +kernel
theorem dX4_drifted_15 : decode cX4_drifted 15 = .ok (.invokestatic 91, 3) := by decide +kernel
theorem dX4_drifted_18 : decode cX4_drifted 18 = .ok (.ireturn, 1) := by decide +kernel
theorem dX4_passDay_0 : decode cX4_passDay 0 = .ok (.aload_n 0, 1) := by decide +kernel
theorem dX4_passDay_1 : decode cX4_passDay 1 = .ok (.dup, 1) := by decide +kernel
theorem dX4_passDay_2 : decode cX4_passDay 2 = .ok (.getfield 55, 3) := by decide +kernel
theorem dX4_passDay_5 : decode cX4_passDay 5 = .ok (.iconst 1, 1) := by decide +kernel
theorem dX4_passDay_6 : decode cX4_passDay 6 = .ok (.iadd, 1) := by decide +kernel
theorem dX4_passDay_7 : decode cX4_passDay 7 = .ok (.putfield 55, 3) := by decide +kernel
theorem dX4_passDay_10 : decode cX4_passDay 10 = .ok (.iconst 0, 1) := by decide +kernel
theorem dX4_passDay_11 : decode cX4_passDay 11 = .ok (.istore_n 1, 1) := by decide +kernel
theorem dX4_passDay_12 : decode cX4_passDay 12 = .ok (.iload_n 1, 1) := by decide +kernel
theorem dX4_passDay_13 : decode cX4_passDay 13 = .ok (.bipush 8, 2) := by decide +kernel
theorem dX4_passDay_15 : decode cX4_passDay 15 = .ok (.if_icmp .ge 34, 3) := by decide +kernel
theorem dX4_passDay_18 : decode cX4_passDay 18 = .ok (.aload_n 0, 1) := by decide +kernel
theorem dX4_passDay_19 : decode cX4_passDay 19 = .ok (.iload_n 1, 1) := by decide +kernel
theorem dX4_passDay_20 : decode cX4_passDay 20 = .ok (.invokevirtual 61, 3) := by decide +kernel
theorem dX4_passDay_23 : decode cX4_passDay 23 = .ok (.ifCond .eq 20, 3) := by decide +kernel
theorem dX4_passDay_26 : decode cX4_passDay 26 = .ok (.aload_n 0, 1) := by decide +kernel
theorem dX4_passDay_27 : decode cX4_passDay 27 = .ok (.getfield 15, 3) := by decide +kernel
theorem dX4_passDay_30 : decode cX4_passDay 30 = .ok (.iload_n 1, 1) := by decide +kernel
theorem dX4_passDay_31 : decode cX4_passDay 31 = .ok (.aload_n 0, 1) := by decide +kernel
theorem dX4_passDay_32 : decode cX4_passDay 32 = .ok (.iload_n 1, 1) := by decide +kernel
theorem dX4_passDay_33 : decode cX4_passDay 33 = .ok (.aload_n 0, 1) := by decide +kernel
theorem dX4_passDay_34 : decode cX4_passDay 34 = .ok (.getfield 15, 3) := by decide +kernel
theorem dX4_passDay_37 : decode cX4_passDay 37 = .ok (.iload_n 1, 1) := by decide +kernel
theorem dX4_passDay_38 : decode cX4_passDay 38 = .ok (.iaload, 1) := by decide +kernel
theorem dX4_passDay_39 : decode cX4_passDay 39 = .ok (.invokevirtual 94, 3) := by decide +kernel
theorem dX4_passDay_42 : decode cX4_passDay 42 = .ok (.iastore, 1) := by decide +kernel
theorem dX4_passDay_43 : decode cX4_passDay 43 = .ok (.iinc 1 1, 3) := by decide +kernel
theorem dX4_passDay_46 : decode cX4_passDay 46 = .ok (.goto (-34), 3) := by decide +kernel
theorem dX4_passDay_49 : decode cX4_passDay 49 = .ok (.return_, 1) := by decide +kernel
theorem dX4_feast_0 : decode cX4_feast 0 = .ok (.iconst 0, 1) := by decide +kernel
theorem dX4_feast_1 : decode cX4_feast 1 = .ok (.istore_n 1, 1) := by decide +kernel
theorem dX4_feast_2 : decode cX4_feast 2 = .ok (.iload_n 1, 1) := by decide +kernel
theorem dX4_feast_3 : decode cX4_feast 3 = .ok (.bipush 8, 2) := by decide +kernel
theorem dX4_feast_5 : decode cX4_feast 5 = .ok (.if_icmp .ge 37, 3) := by decide +kernel
theorem dX4_feast_8 : decode cX4_feast 8 = .ok (.aload_n 0, 1) := by decide +kernel
theorem dX4_feast_9 : decode cX4_feast 9 = .ok (.iload_n 1, 1) := by decide +kernel
theorem dX4_feast_10 : decode cX4_feast 10 = .ok (.invokevirtual 61, 3) := by decide +kernel
theorem dX4_feast_13 : decode cX4_feast 13 = .ok (.ifCond .eq 23, 3) := by decide +kernel
theorem dX4_feast_16 : decode cX4_feast 16 = .ok (.aload_n 0, 1) := by decide +kernel
theorem dX4_feast_17 : decode cX4_feast 17 = .ok (.getfield 15, 3) := by decide +kernel
theorem dX4_feast_20 : decode cX4_feast 20 = .ok (.iload_n 1, 1) := by decide +kernel
theorem dX4_feast_21 : decode cX4_feast 21 = .ok (.sipush 400, 3) := by decide +kernel
theorem dX4_feast_24 : decode cX4_feast 24 = .ok (.aload_n 0, 1) := by decide +kernel
theorem dX4_feast_25 : decode cX4_feast 25 = .ok (.getfield 15, 3) := by decide +kernel
theorem dX4_feast_28 : decode cX4_feast 28 = .ok (.iload_n 1, 1) := by decide +kernel
theorem dX4_feast_29 : decode cX4_feast 29 = .ok (.iaload, 1) := by decide +kernel
theorem dX4_feast_30 : decode cX4_feast 30 = .ok (.iconst 5, 1) := by decide +kernel
theorem dX4_feast_31 : decode cX4_feast 31 = .ok (.iadd, 1) := by decide +kernel
theorem dX4_feast_32 : decode cX4_feast 32 = .ok (.invokestatic 86, 3) := by decide +kernel
theorem dX4_feast_35 : decode cX4_feast 35 = .ok (.iastore, 1) := by decide +kernel
theorem dX4_feast_36 : decode cX4_feast 36 = .ok (.iinc 1 1, 3) := by decide +kernel
theorem dX4_feast_39 : decode cX4_feast 39 = .ok (.goto (-37), 3) := by decide +kernel
theorem dX4_feast_42 : decode cX4_feast 42 = .ok (.return_, 1) := by decide +kernel
theorem dX4_turnCold_0 : decode cX4_turnCold 0 = .ok (.aload_n 0, 1) := by decide +kernel
theorem dX4_turnCold_1 : decode cX4_turnCold 1 = .ok (.dup, 1) := by decide +kernel
theorem dX4_turnCold_2 : decode cX4_turnCold 2 = .ok (.getfield 52, 3) := by decide +kernel
theorem dX4_turnCold_5 : decode cX4_turnCold 5 = .ok (.iconst 1, 1) := by decide +kernel
theorem dX4_turnCold_6 : decode cX4_turnCold 6 = .ok (.iload_n 1, 1) := by decide +kernel
theorem dX4_turnCold_7 : decode cX4_turnCold 7 = .ok (.ishl, 1) := by decide +kernel
theorem dX4_turnCold_8 : decode cX4_turnCold 8 = .ok (.ixor, 1) := by decide +kernel
theorem dX4_turnCold_9 : decode cX4_turnCold 9 = .ok (.putfield 52, 3) := by decide +kernel
theorem dX4_turnCold_12 : decode cX4_turnCold 12 = .ok (.return_, 1) := by decide +kernel
theorem dX4_firstDayOff_0 : decode cX4_firstDayOff 0 = .ok (.aload_n 0, 1) := by decide +kernel
theorem dX4_firstDayOff_1 : decode cX4_firstDayOff 1 = .ok (.getfield 15, 3) := by decide +kernel
theorem dX4_firstDayOff_4 : decode cX4_firstDayOff 4 = .ok (.iload_n 1, 1) := by decide +kernel
theorem dX4_firstDayOff_5 : decode cX4_firstDayOff 5 = .ok (.iaload, 1) := by decide +kernel
theorem dX4_firstDayOff_6 : decode cX4_firstDayOff 6 = .ok (.istore_n 2, 1) := by decide +kernel
theorem dX4_firstDayOff_7 : decode cX4_firstDayOff 7 = .ok (.iconst 0, 1) := by decide +kernel
theorem dX4_firstDayOff_8 : decode cX4_firstDayOff 8 = .ok (.istore_n 3, 1) := by decide +kernel
theorem dX4_firstDayOff_9 : decode cX4_firstDayOff 9 = .ok (.iload_n 3, 1) := by decide +kernel
theorem dX4_firstDayOff_10 : decode cX4_firstDayOff 10 = .ok (.bipush 100, 2) := by decide +kernel
theorem dX4_firstDayOff_12 : decode cX4_firstDayOff 12 = .ok (.if_icmp .ge 41, 3) := by decide +kernel
theorem dX4_firstDayOff_15 : decode cX4_firstDayOff 15 = .ok (.aload_n 0, 1) := by decide +kernel
theorem dX4_firstDayOff_16 : decode cX4_firstDayOff 16 = .ok (.iload_n 1, 1) := by decide +kernel
theorem dX4_firstDayOff_17 : decode cX4_firstDayOff 17 = .ok (.iload_n 2, 1) := by decide +kernel
theorem dX4_firstDayOff_18 : decode cX4_firstDayOff 18 = .ok (.invokevirtual 79, 3) := by decide +kernel
theorem dX4_firstDayOff_21 : decode cX4_firstDayOff 21 = .ok (.aload_n 0, 1) := by decide +kernel
theorem dX4_firstDayOff_22 : decode cX4_firstDayOff 22 = .ok (.getfield 9, 3) := by decide +kernel
theorem dX4_firstDayOff_25 : decode cX4_firstDayOff 25 = .ok (.iload_n 1, 1) := by decide +kernel
theorem dX4_firstDayOff_26 : decode cX4_firstDayOff 26 = .ok (.iaload, 1) := by decide +kernel
theorem dX4_firstDayOff_27 : decode cX4_firstDayOff 27 = .ok (.isub, 1) := by decide +kernel
theorem dX4_firstDayOff_28 : decode cX4_firstDayOff 28 = .ok (.invokestatic 97, 3) := by decide +kernel
theorem dX4_firstDayOff_31 : decode cX4_firstDayOff 31 = .ok (.aload_n 0, 1) := by decide +kernel
theorem dX4_firstDayOff_32 : decode cX4_firstDayOff 32 = .ok (.getfield 33, 3) := by decide +kernel
theorem dX4_firstDayOff_35 : decode cX4_firstDayOff 35 = .ok (.if_icmp .le 5, 3) := by decide +kernel
theorem dX4_firstDayOff_38 : decode cX4_firstDayOff 38 = .ok (.iload_n 3, 1) := by decide +kernel
theorem dX4_firstDayOff_39 : decode cX4_firstDayOff 39 = .ok (.ireturn, 1) := by decide +kernel
theorem dX4_firstDayOff_40 : decode cX4_firstDayOff 40 = .ok (.aload_n 0, 1) := by decide +kernel
theorem dX4_firstDayOff_41 : decode cX4_firstDayOff 41 = .ok (.iload_n 1, 1) := by decide +kernel
theorem dX4_firstDayOff_42 : decode cX4_firstDayOff 42 = .ok (.iload_n 2, 1) := by decide +kernel
theorem dX4_firstDayOff_43 : decode cX4_firstDayOff 43 = .ok (.invokevirtual 94, 3) := by decide +kernel
theorem dX4_firstDayOff_46 : decode cX4_firstDayOff 46 = .ok (.istore_n 2, 1) := by decide +kernel
theorem dX4_firstDayOff_47 : decode cX4_firstDayOff 47 = .ok (.iinc 3 1, 3) := by decide +kernel
theorem dX4_firstDayOff_50 : decode cX4_firstDayOff 50 = .ok (.goto (-41), 3) := by decide +kernel
theorem dX4_firstDayOff_53 : decode cX4_firstDayOff 53 = .ok (.bipush (-6), 2) := by decide +kernel
theorem dX4_firstDayOff_55 : decode cX4_firstDayOff 55 = .ok (.ireturn, 1) := by decide +kernel
theorem dX4_firstDayAlike_0 : decode cX4_firstDayAlike 0 = .ok (.aload_n 0, 1) := by decide +kernel
theorem dX4_firstDayAlike_1 : decode cX4_firstDayAlike 1 = .ok (.getfield 15, 3) := by decide +kernel
theorem dX4_firstDayAlike_4 : decode cX4_firstDayAlike 4 = .ok (.iload_n 1, 1) := by decide +kernel
theorem dX4_firstDayAlike_5 : decode cX4_firstDayAlike 5 = .ok (.iaload, 1) := by decide +kernel
theorem dX4_firstDayAlike_6 : decode cX4_firstDayAlike 6 = .ok (.istore_n 3, 1) := by decide +kernel
theorem dX4_firstDayAlike_7 : decode cX4_firstDayAlike 7 = .ok (.aload_n 0, 1) := by decide +kernel
theorem dX4_firstDayAlike_8 : decode cX4_firstDayAlike 8 = .ok (.getfield 15, 3) := by decide +kernel
theorem dX4_firstDayAlike_11 : decode cX4_firstDayAlike 11 = .ok (.iload_n 2, 1) := by decide +kernel
theorem dX4_firstDayAlike_12 : decode cX4_firstDayAlike 12 = .ok (.iaload, 1) := by decide +kernel
theorem dX4_firstDayAlike_13 : decode cX4_firstDayAlike 13 = .ok (.istore 4, 2) := by decide +kernel
theorem dX4_firstDayAlike_15 : decode cX4_firstDayAlike 15 = .ok (.iconst 0, 1) := by decide +kernel
theorem dX4_firstDayAlike_16 : decode cX4_firstDayAlike 16 = .ok (.istore 5, 2) := by decide +kernel
theorem dX4_firstDayAlike_18 : decode cX4_firstDayAlike 18 = .ok (.iload 5, 2) := by decide +kernel
theorem dX4_firstDayAlike_20 : decode cX4_firstDayAlike 20 = .ok (.bipush 100, 2) := by decide +kernel
theorem dX4_firstDayAlike_22 : decode cX4_firstDayAlike 22 = .ok (.if_icmp .ge 44, 3) := by decide +kernel
theorem dX4_firstDayAlike_25 : decode cX4_firstDayAlike 25 = .ok (.aload_n 0, 1) := by decide +kernel
theorem dX4_firstDayAlike_26 : decode cX4_firstDayAlike 26 = .ok (.iload_n 1, 1) := by decide +kernel
theorem dX4_firstDayAlike_27 : decode cX4_firstDayAlike 27 = .ok (.iload_n 3, 1) := by decide +kernel
theorem dX4_firstDayAlike_28 : decode cX4_firstDayAlike 28 = .ok (.invokevirtual 79, 3) := by decide +kernel
theorem dX4_firstDayAlike_31 : decode cX4_firstDayAlike 31 = .ok (.aload_n 0, 1) := by decide +kernel
theorem dX4_firstDayAlike_32 : decode cX4_firstDayAlike 32 = .ok (.iload_n 2, 1) := by decide +kernel
theorem dX4_firstDayAlike_33 : decode cX4_firstDayAlike 33 = .ok (.iload 4, 2) := by decide +kernel
theorem dX4_firstDayAlike_35 : decode cX4_firstDayAlike 35 = .ok (.invokevirtual 79, 3) := by decide +kernel
theorem dX4_firstDayAlike_38 : decode cX4_firstDayAlike 38 = .ok (.if_icmp .ne 6, 3) := by decide +kernel
theorem dX4_firstDayAlike_41 : decode cX4_firstDayAlike 41 = .ok (.iload 5, 2) := by decide +kernel
theorem dX4_firstDayAlike_43 : decode cX4_firstDayAlike 43 = .ok (.ireturn, 1) := by decide +kernel
theorem dX4_firstDayAlike_44 : decode cX4_firstDayAlike 44 = .ok (.aload_n 0, 1) := by decide +kernel
theorem dX4_firstDayAlike_45 : decode cX4_firstDayAlike 45 = .ok (.iload_n 1, 1) := by decide +kernel
theorem dX4_firstDayAlike_46 : decode cX4_firstDayAlike 46 = .ok (.iload_n 3, 1) := by decide +kernel
theorem dX4_firstDayAlike_47 : decode cX4_firstDayAlike 47 = .ok (.invokevirtual 94, 3) := by decide +kernel
theorem dX4_firstDayAlike_50 : decode cX4_firstDayAlike 50 = .ok (.istore_n 3, 1) := by decide +kernel
theorem dX4_firstDayAlike_51 : decode cX4_firstDayAlike 51 = .ok (.aload_n 0, 1) := by decide +kernel
theorem dX4_firstDayAlike_52 : decode cX4_firstDayAlike 52 = .ok (.iload_n 2, 1) := by decide +kernel
theorem dX4_firstDayAlike_53 : decode cX4_firstDayAlike 53 = .ok (.iload 4, 2) := by decide +kernel
theorem dX4_firstDayAlike_55 : decode cX4_firstDayAlike 55 = .ok (.invokevirtual 94, 3) := by decide +kernel
theorem dX4_firstDayAlike_58 : decode cX4_firstDayAlike 58 = .ok (.istore 4, 2) := by decide +kernel
theorem dX4_firstDayAlike_60 : decode cX4_firstDayAlike 60 = .ok (.iinc 5 1, 3) := by decide +kernel
theorem dX4_firstDayAlike_63 : decode cX4_firstDayAlike 63 = .ok (.goto (-45), 3) := by decide +kernel
theorem dX4_firstDayAlike_66 : decode cX4_firstDayAlike 66 = .ok (.bipush (-6), 2) := by decide +kernel
theorem dX4_firstDayAlike_68 : decode cX4_firstDayAlike 68 = .ok (.ireturn, 1) := by decide +kernel
theorem dX4_ranked_0 : decode cX4_ranked 0 = .ok (.iconst 0, 1) := by decide +kernel
theorem dX4_ranked_1 : decode cX4_ranked 1 = .ok (.istore_n 2, 1) := by decide +kernel
theorem dX4_ranked_2 : decode cX4_ranked 2 = .ok (.iload_n 2, 1) := by decide +kernel
theorem dX4_ranked_3 : decode cX4_ranked 3 = .ok (.bipush 8, 2) := by decide +kernel
theorem dX4_ranked_5 : decode cX4_ranked 5 = .ok (.if_icmp .ge 28, 3) := by decide +kernel
theorem dX4_ranked_8 : decode cX4_ranked 8 = .ok (.aload_n 0, 1) := by decide +kernel
theorem dX4_ranked_9 : decode cX4_ranked 9 = .ok (.iload_n 2, 1) := by decide +kernel
theorem dX4_ranked_10 : decode cX4_ranked 10 = .ok (.invokevirtual 61, 3) := by decide +kernel
theorem dX4_ranked_13 : decode cX4_ranked 13 = .ok (.ifCond .eq 14, 3) := by decide +kernel
theorem dX4_ranked_16 : decode cX4_ranked 16 = .ok (.aload_n 0, 1) := by decide +kernel
theorem dX4_ranked_17 : decode cX4_ranked 17 = .ok (.iload_n 2, 1) := by decide +kernel
theorem dX4_ranked_18 : decode cX4_ranked 18 = .ok (.invokevirtual 100, 3) := by decide +kernel
theorem dX4_ranked_21 : decode cX4_ranked 21 = .ok (.iload_n 1, 1) := by decide +kernel
theorem dX4_ranked_22 : decode cX4_ranked 22 = .ok (.if_icmp .ne 5, 3) := by decide +kernel
theorem dX4_ranked_25 : decode cX4_ranked 25 = .ok (.iload_n 2, 1) := by decide +kernel
theorem dX4_ranked_26 : decode cX4_ranked 26 = .ok (.ireturn, 1) := by decide +kernel
theorem dX4_ranked_27 : decode cX4_ranked 27 = .ok (.iinc 2 1, 3) := by decide +kernel
theorem dX4_ranked_30 : decode cX4_ranked 30 = .ok (.goto (-28), 3) := by decide +kernel
theorem dX4_ranked_33 : decode cX4_ranked 33 = .ok (.bipush (-6), 2) := by decide +kernel
theorem dX4_ranked_35 : decode cX4_ranked 35 = .ok (.ireturn, 1) := by decide +kernel
theorem dX4_howManyAhead_0 : decode cX4_howManyAhead 0 = .ok (.iconst 0, 1) := by decide +kernel
theorem dX4_howManyAhead_1 : decode cX4_howManyAhead 1 = .ok (.istore_n 2, 1) := by decide +kernel
theorem dX4_howManyAhead_2 : decode cX4_howManyAhead 2 = .ok (.aload_n 0, 1) := by decide +kernel
theorem dX4_howManyAhead_3 : decode cX4_howManyAhead 3 = .ok (.iload_n 1, 1) := by decide +kernel
theorem dX4_howManyAhead_4 : decode cX4_howManyAhead 4 = .ok (.invokevirtual 103, 3) := by decide +kernel
theorem dX4_howManyAhead_7 : decode cX4_howManyAhead 7 = .ok (.istore_n 3, 1) := by decide +kernel
theorem dX4_howManyAhead_8 : decode cX4_howManyAhead 8 = .ok (.iconst 0, 1) := by decide +kernel
theorem dX4_howManyAhead_9 : decode cX4_howManyAhead 9 = .ok (.istore 4, 2) := by decide +kernel
theorem dX4_howManyAhead_11 : decode cX4_howManyAhead 11 = .ok (.iload 4, 2) := by decide +kernel
theorem dX4_howManyAhead_13 : decode cX4_howManyAhead 13 = .ok (.bipush 8, 2) := by decide +kernel
theorem dX4_howManyAhead_15 : decode cX4_howManyAhead 15 = .ok (.if_icmp .ge 47, 3) := by decide +kernel
theorem dX4_howManyAhead_18 : decode cX4_howManyAhead 18 = .ok (.aload_n 0, 1) := by decide +kernel
theorem dX4_howManyAhead_19 : decode cX4_howManyAhead 19 = .ok (.iload 4, 2) := by decide +kernel
theorem dX4_howManyAhead_21 : decode cX4_howManyAhead 21 = .ok (.invokevirtual 61, 3) := by decide +kernel
theorem dX4_howManyAhead_24 : decode cX4_howManyAhead 24 = .ok (.ifCond .eq 32, 3) := by decide +kernel
theorem dX4_howManyAhead_27 : decode cX4_howManyAhead 27 = .ok (.aload_n 0, 1) := by decide +kernel
theorem dX4_howManyAhead_28 : decode cX4_howManyAhead 28 = .ok (.iload 4, 2) := by decide +kernel
theorem dX4_howManyAhead_30 : decode cX4_howManyAhead 30 = .ok (.invokevirtual 103, 3) := by decide +kernel
theorem dX4_howManyAhead_33 : decode cX4_howManyAhead 33 = .ok (.iload_n 3, 1) := by decide +kernel
theorem dX4_howManyAhead_34 : decode cX4_howManyAhead 34 = .ok (.if_icmp .gt 19, 3) := by decide +kernel
theorem dX4_howManyAhead_37 : decode cX4_howManyAhead 37 = .ok (.aload_n 0, 1) := by decide +kernel
theorem dX4_howManyAhead_38 : decode cX4_howManyAhead 38 = .ok (.iload 4, 2) := by decide +kernel
theorem dX4_howManyAhead_40 : decode cX4_howManyAhead 40 = .ok (.invokevirtual 103, 3) := by decide +kernel
theorem dX4_howManyAhead_43 : decode cX4_howManyAhead 43 = .ok (.iload_n 3, 1) := by decide +kernel
theorem dX4_howManyAhead_44 : decode cX4_howManyAhead 44 = .ok (.if_icmp .ne 12, 3) := by decide +kernel
theorem dX4_howManyAhead_47 : decode cX4_howManyAhead 47 = .ok (.iload 4, 2) := by decide +kernel
theorem dX4_howManyAhead_49 : decode cX4_howManyAhead 49 = .ok (.iload_n 1, 1) := by decide +kernel
theorem dX4_howManyAhead_50 : decode cX4_howManyAhead 50 = .ok (.if_icmp .ge 6, 3) := by decide +kernel
theorem dX4_howManyAhead_53 : decode cX4_howManyAhead 53 = .ok (.iinc 2 1, 3) := by decide +kernel
theorem dX4_howManyAhead_56 : decode cX4_howManyAhead 56 = .ok (.iinc 4 1, 3) := by decide +kernel
theorem dX4_howManyAhead_59 : decode cX4_howManyAhead 59 = .ok (.goto (-48), 3) := by decide +kernel
theorem dX4_howManyAhead_62 : decode cX4_howManyAhead 62 = .ok (.iload_n 2, 1) := by decide +kernel
theorem dX4_howManyAhead_63 : decode cX4_howManyAhead 63 = .ok (.ireturn, 1) := by decide +kernel
theorem dX4_mostAlike_0 : decode cX4_mostAlike 0 = .ok (.iconst 0, 1) := by decide +kernel
theorem dX4_mostAlike_1 : decode cX4_mostAlike 1 = .ok (.istore_n 1, 1) := by decide +kernel
theorem dX4_mostAlike_2 : decode cX4_mostAlike 2 = .ok (.iconst 0, 1) := by decide +kernel
theorem dX4_mostAlike_3 : decode cX4_mostAlike 3 = .ok (.istore_n 2, 1) := by decide +kernel
theorem dX4_mostAlike_4 : decode cX4_mostAlike 4 = .ok (.iload_n 2, 1) := by decide +kernel
theorem dX4_mostAlike_5 : decode cX4_mostAlike 5 = .ok (.bipush 8, 2) := by decide +kernel
theorem dX4_mostAlike_7 : decode cX4_mostAlike 7 = .ok (.if_icmp .ge 27, 3) := by decide +kernel
theorem dX4_mostAlike_10 : decode cX4_mostAlike 10 = .ok (.aload_n 0, 1) := by decide +kernel
theorem dX4_mostAlike_11 : decode cX4_mostAlike 11 = .ok (.iload_n 2, 1) := by decide +kernel
theorem dX4_mostAlike_12 : decode cX4_mostAlike 12 = .ok (.invokevirtual 61, 3) := by decide +kernel
theorem dX4_mostAlike_15 : decode cX4_mostAlike 15 = .ok (.ifCond .eq 13, 3) := by decide +kernel
theorem dX4_mostAlike_18 : decode cX4_mostAlike 18 = .ok (.iload_n 1, 1) := by decide +kernel
theorem dX4_mostAlike_19 : decode cX4_mostAlike 19 = .ok (.aload_n 0, 1) := by decide +kernel
theorem dX4_mostAlike_20 : decode cX4_mostAlike 20 = .ok (.iload_n 2, 1) := by decide +kernel
theorem dX4_mostAlike_21 : decode cX4_mostAlike 21 = .ok (.invokevirtual 106, 3) := by decide +kernel
theorem dX4_mostAlike_24 : decode cX4_mostAlike 24 = .ok (.invokestatic 91, 3) := by decide +kernel
theorem dX4_mostAlike_27 : decode cX4_mostAlike 27 = .ok (.istore_n 1, 1) := by decide +kernel
theorem dX4_mostAlike_28 : decode cX4_mostAlike 28 = .ok (.iinc 2 1, 3) := by decide +kernel
theorem dX4_mostAlike_31 : decode cX4_mostAlike 31 = .ok (.goto (-27), 3) := by decide +kernel
theorem dX4_mostAlike_34 : decode cX4_mostAlike 34 = .ok (.iload_n 1, 1) := by decide +kernel
theorem dX4_mostAlike_35 : decode cX4_mostAlike 35 = .ok (.ireturn, 1) := by decide +kernel
theorem dX4_howManyLike_0 : decode cX4_howManyLike 0 = .ok (.iconst 0, 1) := by decide +kernel
theorem dX4_howManyLike_1 : decode cX4_howManyLike 1 = .ok (.istore_n 2, 1) := by decide +kernel
theorem dX4_howManyLike_2 : decode cX4_howManyLike 2 = .ok (.iconst 0, 1) := by decide +kernel
theorem dX4_howManyLike_3 : decode cX4_howManyLike 3 = .ok (.istore_n 3, 1) := by decide +kernel
theorem dX4_howManyLike_4 : decode cX4_howManyLike 4 = .ok (.iload_n 3, 1) := by decide +kernel
theorem dX4_howManyLike_5 : decode cX4_howManyLike 5 = .ok (.bipush 8, 2) := by decide +kernel
theorem dX4_howManyLike_7 : decode cX4_howManyLike 7 = .ok (.if_icmp .ge 33, 3) := by decide +kernel
theorem dX4_howManyLike_10 : decode cX4_howManyLike 10 = .ok (.aload_n 0, 1) := by decide +kernel
theorem dX4_howManyLike_11 : decode cX4_howManyLike 11 = .ok (.iload_n 3, 1) := by decide +kernel
theorem dX4_howManyLike_12 : decode cX4_howManyLike 12 = .ok (.invokevirtual 61, 3) := by decide +kernel
theorem dX4_howManyLike_15 : decode cX4_howManyLike 15 = .ok (.ifCond .eq 19, 3) := by decide +kernel
theorem dX4_howManyLike_18 : decode cX4_howManyLike 18 = .ok (.aload_n 0, 1) := by decide +kernel
theorem dX4_howManyLike_19 : decode cX4_howManyLike 19 = .ok (.iload_n 3, 1) := by decide +kernel
theorem dX4_howManyLike_20 : decode cX4_howManyLike 20 = .ok (.invokevirtual 103, 3) := by decide +kernel
theorem dX4_howManyLike_23 : decode cX4_howManyLike 23 = .ok (.aload_n 0, 1) := by decide +kernel
theorem dX4_howManyLike_24 : decode cX4_howManyLike 24 = .ok (.iload_n 1, 1) := by decide +kernel
theorem dX4_howManyLike_25 : decode cX4_howManyLike 25 = .ok (.invokevirtual 103, 3) := by decide +kernel
theorem dX4_howManyLike_28 : decode cX4_howManyLike 28 = .ok (.if_icmp .ne 6, 3) := by decide +kernel
theorem dX4_howManyLike_31 : decode cX4_howManyLike 31 = .ok (.iinc 2 1, 3) := by decide +kernel
theorem dX4_howManyLike_34 : decode cX4_howManyLike 34 = .ok (.iinc 3 1, 3) := by decide +kernel
theorem dX4_howManyLike_37 : decode cX4_howManyLike 37 = .ok (.goto (-33), 3) := by decide +kernel
theorem dX4_howManyLike_40 : decode cX4_howManyLike 40 = .ok (.iload_n 2, 1) := by decide +kernel
theorem dX4_howManyLike_41 : decode cX4_howManyLike 41 = .ok (.ireturn, 1) := by decide +kernel
theorem dX4_mayBeWeighed_0 : decode cX4_mayBeWeighed 0 = .ok (.aload_n 0, 1) := by decide +kernel
theorem dX4_mayBeWeighed_1 : decode cX4_mayBeWeighed 1 = .ok (.iload_n 1, 1) := by decide +kernel
theorem dX4_mayBeWeighed_2 : decode cX4_mayBeWeighed 2 = .ok (.invokevirtual 109, 3) := by decide +kernel
theorem dX4_mayBeWeighed_5 : decode cX4_mayBeWeighed 5 = .ok (.ifCond .eq 29, 3) := by decide +kernel
theorem dX4_mayBeWeighed_8 : decode cX4_mayBeWeighed 8 = .ok (.aload_n 0, 1) := by decide +kernel
theorem dX4_mayBeWeighed_9 : decode cX4_mayBeWeighed 9 = .ok (.iload_n 2, 1) := by decide +kernel
theorem dX4_mayBeWeighed_10 : decode cX4_mayBeWeighed 10 = .ok (.invokevirtual 109, 3) := by decide +kernel
theorem dX4_mayBeWeighed_13 : decode cX4_mayBeWeighed 13 = .ok (.ifCond .eq 21, 3) := by decide +kernel
theorem dX4_mayBeWeighed_16 : decode cX4_mayBeWeighed 16 = .ok (.iload_n 1, 1) := by decide +kernel
theorem dX4_mayBeWeighed_17 : decode cX4_mayBeWeighed 17 = .ok (.ifCond .eq 17, 3) := by decide +kernel
theorem dX4_mayBeWeighed_20 : decode cX4_mayBeWeighed 20 = .ok (.iload_n 2, 1) := by decide +kernel
theorem dX4_mayBeWeighed_21 : decode cX4_mayBeWeighed 21 = .ok (.ifCond .eq 13, 3) := by decide +kernel
theorem dX4_mayBeWeighed_24 : decode cX4_mayBeWeighed 24 = .ok (.iload_n 1, 1) := by decide +kernel
theorem dX4_mayBeWeighed_25 : decode cX4_mayBeWeighed 25 = .ok (.iload_n 2, 1) := by decide +kernel
theorem dX4_mayBeWeighed_26 : decode cX4_mayBeWeighed 26 = .ok (.iand, 1) := by decide +kernel
theorem dX4_mayBeWeighed_27 : decode cX4_mayBeWeighed 27 = .ok (.ifCond .ne 7, 3) := by decide +kernel
theorem dX4_mayBeWeighed_30 : decode cX4_mayBeWeighed 30 = .ok (.iconst 1, 1) := by decide +kernel
theorem dX4_mayBeWeighed_31 : decode cX4_mayBeWeighed 31 = .ok (.goto 4, 3) := by decide +kernel
theorem dX4_mayBeWeighed_34 : decode cX4_mayBeWeighed 34 = .ok (.iconst 0, 1) := by decide +kernel
theorem dX4_mayBeWeighed_35 : decode cX4_mayBeWeighed 35 = .ok (.ireturn, 1) := by decide +kernel
theorem dX4_addSight_0 : decode cX4_addSight 0 = .ok (.aload_n 0, 1) := by decide +kernel
theorem dX4_addSight_1 : decode cX4_addSight 1 = .ok (.getfield 58, 3) := by decide +kernel
theorem dX4_addSight_4 : decode cX4_addSight 4 = .ok (.bipush 8, 2) := by decide +kernel
theorem dX4_addSight_6 : decode cX4_addSight 6 = .ok (.if_icmp .lt 5, 3) := by decide +kernel
theorem dX4_addSight_9 : decode cX4_addSight 9 = .ok (.iconst 0, 1) := by decide +kernel
theorem dX4_addSight_10 : decode cX4_addSight 10 = .ok (.ireturn, 1) := by decide +kernel
theorem dX4_addSight_11 : decode cX4_addSight 11 = .ok (.aload_n 0, 1) := by decide +kernel
theorem dX4_addSight_12 : decode cX4_addSight 12 = .ok (.getfield 24, 3) := by decide +kernel
theorem dX4_addSight_15 : decode cX4_addSight 15 = .ok (.aload_n 0, 1) := by decide +kernel
theorem dX4_addSight_16 : decode cX4_addSight 16 = .ok (.getfield 58, 3) := by decide +kernel
theorem dX4_addSight_19 : decode cX4_addSight 19 = .ok (.iload_n 1, 1) := by decide +kernel
theorem dX4_addSight_20 : decode cX4_addSight 20 = .ok (.iastore, 1) := by decide +kernel
theorem dX4_addSight_21 : decode cX4_addSight 21 = .ok (.aload_n 0, 1) := by decide +kernel
theorem dX4_addSight_22 : decode cX4_addSight 22 = .ok (.getfield 27, 3) := by decide +kernel
theorem dX4_addSight_25 : decode cX4_addSight 25 = .ok (.aload_n 0, 1) := by decide +kernel
theorem dX4_addSight_26 : decode cX4_addSight 26 = .ok (.getfield 58, 3) := by decide +kernel
theorem dX4_addSight_29 : decode cX4_addSight 29 = .ok (.iload_n 2, 1) := by decide +kernel
theorem dX4_addSight_30 : decode cX4_addSight 30 = .ok (.iastore, 1) := by decide +kernel
theorem dX4_addSight_31 : decode cX4_addSight 31 = .ok (.aload_n 0, 1) := by decide +kernel
theorem dX4_addSight_32 : decode cX4_addSight 32 = .ok (.getfield 30, 3) := by decide +kernel
theorem dX4_addSight_35 : decode cX4_addSight 35 = .ok (.aload_n 0, 1) := by decide +kernel
theorem dX4_addSight_36 : decode cX4_addSight 36 = .ok (.getfield 58, 3) := by decide +kernel
theorem dX4_addSight_39 : decode cX4_addSight 39 = .ok (.iload_n 3, 1) := by decide +kernel
theorem dX4_addSight_40 : decode cX4_addSight 40 = .ok (.iastore, 1) := by decide +kernel
theorem dX4_addSight_41 : decode cX4_addSight 41 = .ok (.aload_n 0, 1) := by decide +kernel
theorem dX4_addSight_42 : decode cX4_addSight 42 = .ok (.dup, 1) := by decide +kernel
theorem dX4_addSight_43 : decode cX4_addSight 43 = .ok (.getfield 58, 3) := by decide +kernel
theorem dX4_addSight_46 : decode cX4_addSight 46 = .ok (.iconst 1, 1) := by decide +kernel
theorem dX4_addSight_47 : decode cX4_addSight 47 = .ok (.iadd, 1) := by decide +kernel
theorem dX4_addSight_48 : decode cX4_addSight 48 = .ok (.putfield 58, 3) := by decide +kernel
theorem dX4_addSight_51 : decode cX4_addSight 51 = .ok (.iconst 1, 1) := by decide +kernel
theorem dX4_addSight_52 : decode cX4_addSight 52 = .ok (.ireturn, 1) := by decide +kernel
theorem dX5_init_0 : decode cX5_init 0 = .ok (.aload_n 0, 1) := by decide +kernel
theorem dX5_init_1 : decode cX5_init 1 = .ok (.invokespecial 5, 3) := by decide +kernel
theorem dX5_init_4 : decode cX5_init 4 = .ok (.aload_n 0, 1) := by decide +kernel
theorem dX5_init_5 : decode cX5_init 5 = .ok (.sipush 145, 3) := by decide +kernel
theorem dX5_init_8 : decode cX5_init 8 = .ok (.newarray .int, 2) := by decide +kernel
theorem dX5_init_10 : decode cX5_init 10 = .ok (.putfield 11, 3) := by decide +kernel
theorem dX5_init_13 : decode cX5_init 13 = .ok (.aload_n 0, 1) := by decide +kernel
theorem dX5_init_14 : decode cX5_init 14 = .ok (.sipush 145, 3) := by decide +kernel
theorem dX5_init_17 : decode cX5_init 17 = .ok (.newarray .int, 2) := by decide +kernel
theorem dX5_init_19 : decode cX5_init 19 = .ok (.putfield 15, 3) := by decide +kernel
theorem dX5_init_22 : decode cX5_init 22 = .ok (.aload_n 0, 1) := by decide +kernel
theorem dX5_init_23 : decode cX5_init 23 = .ok (.bipush 8, 2) := by decide +kernel
theorem dX5_init_25 : decode cX5_init 25 = .ok (.newarray .int, 2) := by decide +kernel
theorem dX5_init_27 : decode cX5_init 27 = .ok (.putfield 18, 3) := by decide +kernel
theorem dX5_init_30 : decode cX5_init 30 = .ok (.aload_n 0, 1) := by decide +kernel
theorem dX5_init_31 : decode cX5_init 31 = .ok (.iconst 3, 1) := by decide +kernel
theorem dX5_init_32 : decode cX5_init 32 = .ok (.newarray .int, 2) := by decide +kernel
theorem dX5_init_34 : decode cX5_init 34 = .ok (.putfield 21, 3) := by decide +kernel
theorem dX5_init_37 : decode cX5_init 37 = .ok (.return_, 1) := by decide +kernel
theorem dX5_find_0 : decode cX5_find 0 = .ok (.aload_n 0, 1) := by decide +kernel
theorem dX5_find_1 : decode cX5_find 1 = .ok (.iconst 0, 1) := by decide +kernel
theorem dX5_find_2 : decode cX5_find 2 = .ok (.putfield 24, 3) := by decide +kernel
theorem dX5_find_5 : decode cX5_find 5 = .ok (.aload_n 0, 1) := by decide +kernel
theorem dX5_find_6 : decode cX5_find 6 = .ok (.aload_n 1, 1) := by decide +kernel
theorem dX5_find_7 : decode cX5_find 7 = .ok (.invokevirtual 28, 3) := by decide +kernel
theorem dX5_find_10 : decode cX5_find 10 = .ok (.aload_n 0, 1) := by decide +kernel
theorem dX5_find_11 : decode cX5_find 11 = .ok (.aload_n 1, 1) := by decide +kernel
theorem dX5_find_12 : decode cX5_find 12 = .ok (.bipush (-6), 2) := by decide +kernel
theorem dX5_find_14 : decode cX5_find 14 = .ok (.iconst 0, 1) := by decide +kernel
theorem dX5_find_15 : decode cX5_find 15 = .ok (.invokevirtual 32, 3) := by decide +kernel
theorem dX5_find_18 : decode cX5_find 18 = .ok (.iconst 0, 1) := by decide +kernel
theorem dX5_find_19 : decode cX5_find 19 = .ok (.istore_n 2, 1) := by decide +kernel
theorem dX5_find_20 : decode cX5_find 20 = .ok (.iload_n 2, 1) := by decide +kernel
theorem dX5_find_21 : decode cX5_find 21 = .ok (.bipush 8, 2) := by decide +kernel
theorem dX5_find_23 : decode cX5_find 23 = .ok (.if_icmp .ge 23, 3) := by decide +kernel
theorem dX5_find_26 : decode cX5_find 26 = .ok (.aload_n 1, 1) := by decide +kernel
theorem dX5_find_27 : decode cX5_find 27 = .ok (.iload_n 2, 1) := by decide +kernel
theorem dX5_find_28 : decode cX5_find 28 = .ok (.invokevirtual 36, 3) := by decide +kernel
theorem dX5_find_31 : decode cX5_find 31 = .ok (.ifCond .eq 9, 3) := by decide +kernel
theorem dX5_find_34 : decode cX5_find 34 = .ok (.aload_n 0, 1) := by decide +kernel
theorem dX5_find_35 : decode cX5_find 35 = .ok (.aload_n 1, 1) := by decide +kernel
theorem dX5_find_36 : decode cX5_find 36 = .ok (.iload_n 2, 1) := by decide +kernel
theorem dX5_find_37 : decode cX5_find 37 = .ok (.invokevirtual 42, 3) := by decide +kernel
theorem dX5_find_40 : decode cX5_find 40 = .ok (.iinc 2 1, 3) := by decide +kernel
theorem dX5_find_43 : decode cX5_find 43 = .ok (.goto (-23), 3) := by decide +kernel
theorem dX5_find_46 : decode cX5_find 46 = .ok (.return_, 1) := by decide +kernel
theorem dX5_findOf_0 : decode cX5_findOf 0 = .ok (.bipush (-9), 2) := by decide +kernel
theorem dX5_findOf_2 : decode cX5_findOf 2 = .ok (.istore_n 3, 1) := by decide +kernel
theorem dX5_findOf_3 : decode cX5_findOf 3 = .ok (.iload_n 3, 1) := by decide +kernel
theorem dX5_findOf_4 : decode cX5_findOf 4 = .ok (.bipush 9, 2) := by decide +kernel
theorem dX5_findOf_6 : decode cX5_findOf 6 = .ok (.if_icmp .gt 32, 3) := by decide +kernel
theorem dX5_findOf_9 : decode cX5_findOf 9 = .ok (.iload_n 3, 1) := by decide +kernel
theorem dX5_findOf_10 : decode cX5_findOf 10 = .ok (.ifCond .eq 22, 3) := by decide +kernel
theorem dX5_findOf_13 : decode cX5_findOf 13 = .ok (.aload_n 1, 1) := by decide +kernel
theorem dX5_findOf_14 : decode cX5_findOf 14 = .ok (.getfield 46, 3) := by decide +kernel
theorem dX5_findOf_17 : decode cX5_findOf 17 = .ok (.iload_n 2, 1) := by decide +kernel
theorem dX5_findOf_18 : decode cX5_findOf 18 = .ok (.iaload, 1) := by decide +kernel
theorem dX5_findOf_19 : decode cX5_findOf 19 = .ok (.iload_n 3, 1) := by decide +kernel
theorem dX5_findOf_20 : decode cX5_findOf 20 = .ok (.iadd, 1) := by decide +kernel
theorem dX5_findOf_21 : decode cX5_findOf 21 = .ok (.iconst 1, 1) := by decide +kernel
theorem dX5_findOf_22 : decode cX5_findOf 22 = .ok (.if_icmp .lt 10, 3) := by decide +kernel
theorem dX5_findOf_25 : decode cX5_findOf 25 = .ok (.aload_n 0, 1) := by decide +kernel
theorem dX5_findOf_26 : decode cX5_findOf 26 = .ok (.aload_n 1, 1) := by decide +kernel
theorem dX5_findOf_27 : decode cX5_findOf 27 = .ok (.iload_n 2, 1) := by decide +kernel
theorem dX5_findOf_28 : decode cX5_findOf 28 = .ok (.iload_n 3, 1) := by decide +kernel
theorem dX5_findOf_29 : decode cX5_findOf 29 = .ok (.invokevirtual 32, 3) := by decide +kernel
theorem dX5_findOf_32 : decode cX5_findOf 32 = .ok (.iinc 3 1, 3) := by decide +kernel
theorem dX5_findOf_35 : decode cX5_findOf 35 = .ok (.goto (-32), 3) := by decide +kernel
theorem dX5_findOf_38 : decode cX5_findOf 38 = .ok (.return_, 1) := by decide +kernel
theorem dX5_addIfSeen_0 : decode cX5_addIfSeen 0 = .ok (.aload_n 0, 1) := by decide +kernel
theorem dX5_addIfSeen_1 : decode cX5_addIfSeen 1 = .ok (.getfield 24, 3) := by decide +kernel
theorem dX5_addIfSeen_4 : decode cX5_addIfSeen 4 = .ok (.sipush 145, 3) := by decide +kernel
theorem dX5_addIfSeen_7 : decode cX5_addIfSeen 7 = .ok (.if_icmp .ge 43, 3) := by decide +kernel
theorem dX5_addIfSeen_10 : decode cX5_addIfSeen 10 = .ok (.aload_n 0, 1) := by decide +kernel
theorem dX5_addIfSeen_11 : decode cX5_addIfSeen 11 = .ok (.aload_n 1, 1) := by decide +kernel
theorem dX5_addIfSeen_12 : decode cX5_addIfSeen 12 = .ok (.iload_n 2, 1) := by decide +kernel
theorem dX5_addIfSeen_13 : decode cX5_addIfSeen 13 = .ok (.iload_n 3, 1) := by decide +kernel
theorem dX5_addIfSeen_14 : decode cX5_addIfSeen 14 = .ok (.invokevirtual 49, 3) := by decide +kernel
theorem dX5_addIfSeen_17 : decode cX5_addIfSeen 17 = .ok (.ifCond .eq 33, 3) := by decide +kernel
theorem dX5_addIfSeen_20 : decode cX5_addIfSeen 20 = .ok (.aload_n 0, 1) := by decide +kernel
theorem dX5_addIfSeen_21 : decode cX5_addIfSeen 21 = .ok (.getfield 11, 3) := by decide +kernel
theorem dX5_addIfSeen_24 : decode cX5_addIfSeen 24 = .ok (.aload_n 0, 1) := by decide +kernel
theorem dX5_addIfSeen_25 : decode cX5_addIfSeen 25 = .ok (.getfield 24, 3) := by decide +kernel
theorem dX5_addIfSeen_28 : decode cX5_addIfSeen 28 = .ok (.iload_n 2, 1) := by decide +kernel
theorem dX5_addIfSeen_29 : decode cX5_addIfSeen 29 = .ok (.iastore, 1) := by decide +kernel
theorem dX5_addIfSeen_30 : decode cX5_addIfSeen 30 = .ok (.aload_n 0, 1) := by decide +kernel
theorem dX5_addIfSeen_31 : decode cX5_addIfSeen 31 = .ok (.getfield 15, 3) := by decide +kernel
theorem dX5_addIfSeen_34 : decode cX5_addIfSeen 34 = .ok (.aload_n 0, 1) := by decide +kernel
theorem dX5_addIfSeen_35 : decode cX5_addIfSeen 35 = .ok (.getfield 24, 3) := by decide +kernel
theorem dX5_addIfSeen_38 : decode cX5_addIfSeen 38 = .ok (.iload_n 3, 1) := by decide +kernel
theorem dX5_addIfSeen_39 : decode cX5_addIfSeen 39 = .ok (.iastore, 1) := by decide +kernel
theorem dX5_addIfSeen_40 : decode cX5_addIfSeen 40 = .ok (.aload_n 0, 1) := by decide +kernel
theorem dX5_addIfSeen_41 : decode cX5_addIfSeen 41 = .ok (.dup, 1) := by decide +kernel
theorem dX5_addIfSeen_42 : decode cX5_addIfSeen 42 = .ok (.getfield 24, 3) := by decide +kernel
theorem dX5_addIfSeen_45 : decode cX5_addIfSeen 45 = .ok (.iconst 1, 1) := by decide +kernel
theorem dX5_addIfSeen_46 : decode cX5_addIfSeen 46 = .ok (.iadd, 1) := by decide +kernel
theorem dX5_addIfSeen_47 : decode cX5_addIfSeen 47 = .ok (.putfield 24, 3) := by decide +kernel
theorem dX5_addIfSeen_50 : decode cX5_addIfSeen 50 = .ok (.return_, 1) := by decide +kernel
theorem dX5_fillLeads_0 : decode cX5_fillLeads 0 = .ok (.iconst 0, 1) := by decide +kernel
theorem dX5_fillLeads_1 : decode cX5_fillLeads 1 = .ok (.istore_n 2, 1) := by decide +kernel
theorem dX5_fillLeads_2 : decode cX5_fillLeads 2 = .ok (.iload_n 2, 1) := by decide +kernel
theorem dX5_fillLeads_3 : decode cX5_fillLeads 3 = .ok (.aload_n 1, 1) := by decide +kernel
theorem dX5_fillLeads_4 : decode cX5_fillLeads 4 = .ok (.getfield 53, 3) := by decide +kernel
theorem dX5_fillLeads_7 : decode cX5_fillLeads 7 = .ok (.if_icmp .ge 44, 3) := by decide +kernel
theorem dX5_fillLeads_10 : decode cX5_fillLeads 10 = .ok (.aload_n 0, 1) := by decide +kernel
theorem dX5_fillLeads_11 : decode cX5_fillLeads 11 = .ok (.getfield 18, 3) := by decide +kernel
theorem dX5_fillLeads_14 : decode cX5_fillLeads 14 = .ok (.iload_n 2, 1) := by decide +kernel
theorem dX5_fillLeads_15 : decode cX5_fillLeads 15 = .ok (.aload_n 1, 1) := by decide +kernel
theorem dX5_fillLeads_16 : decode cX5_fillLeads 16 = .ok (.aload_n 1, 1) := by decide +kernel
theorem dX5_fillLeads_17 : decode cX5_fillLeads 17 = .ok (.getfield 56, 3) := by decide +kernel
theorem dX5_fillLeads_20 : decode cX5_fillLeads 20 = .ok (.iload_n 2, 1) := by decide +kernel
theorem dX5_fillLeads_21 : decode cX5_fillLeads 21 = .ok (.iaload, 1) := by decide +kernel
theorem dX5_fillLeads_22 : decode cX5_fillLeads 22 = .ok (.aload_n 1, 1) := by decide +kernel
theorem dX5_fillLeads_23 : decode cX5_fillLeads 23 = .ok (.getfield 46, 3) := by decide +kernel
theorem dX5_fillLeads_26 : decode cX5_fillLeads 26 = .ok (.invokevirtual 59, 3) := by decide +kernel
theorem dX5_fillLeads_29 : decode cX5_fillLeads 29 = .ok (.aload_n 1, 1) := by decide +kernel
theorem dX5_fillLeads_30 : decode cX5_fillLeads 30 = .ok (.aload_n 1, 1) := by decide +kernel
theorem dX5_fillLeads_31 : decode cX5_fillLeads 31 = .ok (.getfield 63, 3) := by decide +kernel
theorem dX5_fillLeads_34 : decode cX5_fillLeads 34 = .ok (.iload_n 2, 1) := by decide +kernel
theorem dX5_fillLeads_35 : decode cX5_fillLeads 35 = .ok (.iaload, 1) := by decide +kernel
theorem dX5_fillLeads_36 : decode cX5_fillLeads 36 = .ok (.aload_n 1, 1) := by decide +kernel
theorem dX5_fillLeads_37 : decode cX5_fillLeads 37 = .ok (.getfield 46, 3) := by decide +kernel
theorem dX5_fillLeads_40 : decode cX5_fillLeads 40 = .ok (.invokevirtual 59, 3) := by decide +kernel
theorem dX5_fillLeads_43 : decode cX5_fillLeads 43 = .ok (.isub, 1) := by decide +kernel
theorem dX5_fillLeads_44 : decode cX5_fillLeads 44 = .ok (.iastore, 1) := by decide +kernel
theorem dX5_fillLeads_45 : decode cX5_fillLeads 45 = .ok (.iinc 2 1, 3) := by decide +kernel
theorem dX5_fillLeads_48 : decode cX5_fillLeads 48 = .ok (.goto (-46), 3) := by decide +kernel
theorem dX5_fillLeads_51 : decode cX5_fillLeads 51 = .ok (.return_, 1) := by decide +kernel
theorem dX5_isAsSeen_0 : decode cX5_isAsSeen 0 = .ok (.iconst 0, 1) := by decide +kernel
theorem dX5_isAsSeen_1 : decode cX5_isAsSeen 1 = .ok (.istore 4, 2) := by decide +kernel
theorem dX5_isAsSeen_3 : decode cX5_isAsSeen 3 = .ok (.iload 4, 2) := by decide +kernel
theorem dX5_isAsSeen_5 : decode cX5_isAsSeen 5 = .ok (.aload_n 1, 1) := by decide +kernel
theorem dX5_isAsSeen_6 : decode cX5_isAsSeen 6 = .ok (.getfield 53, 3) := by decide +kernel
theorem dX5_isAsSeen_9 : decode cX5_isAsSeen 9 = .ok (.if_icmp .ge 79, 3) := by decide +kernel
theorem dX5_isAsSeen_12 : decode cX5_isAsSeen 12 = .ok (.aload_n 0, 1) := by decide +kernel
theorem dX5_isAsSeen_13 : decode cX5_isAsSeen 13 = .ok (.getfield 18, 3) := by decide +kernel
theorem dX5_isAsSeen_16 : decode cX5_isAsSeen 16 = .ok (.iload 4, 2) := by decide +kernel
theorem dX5_isAsSeen_18 : decode cX5_isAsSeen 18 = .ok (.iaload, 1) := by decide +kernel
theorem dX5_isAsSeen_19 : decode cX5_isAsSeen 19 = .ok (.istore 5, 2) := by decide +kernel
theorem dX5_isAsSeen_21 : decode cX5_isAsSeen 21 = .ok (.aload_n 1, 1) := by decide +kernel
theorem dX5_isAsSeen_22 : decode cX5_isAsSeen 22 = .ok (.getfield 56, 3) := by decide +kernel
theorem dX5_isAsSeen_25 : decode cX5_isAsSeen 25 = .ok (.iload 4, 2) := by decide +kernel
theorem dX5_isAsSeen_27 : decode cX5_isAsSeen 27 = .ok (.iaload, 1) := by decide +kernel
theorem dX5_isAsSeen_28 : decode cX5_isAsSeen 28 = .ok (.iload_n 2, 1) := by decide +kernel
theorem dX5_isAsSeen_29 : decode cX5_isAsSeen 29 = .ok (.invokestatic 66, 3) := by decide +kernel
theorem dX5_isAsSeen_32 : decode cX5_isAsSeen 32 = .ok (.ifCond .eq 12, 3) := by decide +kernel
theorem dX5_isAsSeen_35 : decode cX5_isAsSeen 35 = .ok (.iload 5, 2) := by decide +kernel
theorem dX5_isAsSeen_37 : decode cX5_isAsSeen 37 = .ok (.iload_n 3, 1) := by decide +kernel
theorem dX5_isAsSeen_38 : decode cX5_isAsSeen 38 = .ok (.iadd, 1) := by decide +kernel
theorem dX5_isAsSeen_39 : decode cX5_isAsSeen 39 = .ok (.istore 5, 2) := by decide +kernel
theorem dX5_isAsSeen_41 : decode cX5_isAsSeen 41 = .ok (.goto 23, 3) := by decide +kernel
theorem dX5_isAsSeen_44 : decode cX5_isAsSeen 44 = .ok (.aload_n 1, 1) := by decide +kernel
theorem dX5_isAsSeen_45 : decode cX5_isAsSeen 45 = .ok (.getfield 63, 3) := by decide +kernel
theorem dX5_isAsSeen_48 : decode cX5_isAsSeen 48 = .ok (.iload 4, 2) := by decide +kernel
theorem dX5_isAsSeen_50 : decode cX5_isAsSeen 50 = .ok (.iaload, 1) := by decide +kernel
theorem dX5_isAsSeen_51 : decode cX5_isAsSeen 51 = .ok (.iload_n 2, 1) := by decide +kernel
theorem dX5_isAsSeen_52 : decode cX5_isAsSeen 52 = .ok (.invokestatic 66, 3) := by decide +kernel
theorem dX5_isAsSeen_55 : decode cX5_isAsSeen 55 = .ok (.ifCond .eq 9, 3) := by decide +kernel
theorem dX5_isAsSeen_58 : decode cX5_isAsSeen 58 = .ok (.iload 5, 2) := by decide +kernel
theorem dX5_isAsSeen_60 : decode cX5_isAsSeen 60 = .ok (.iload_n 3, 1) := by decide +kernel
theorem dX5_isAsSeen_61 : decode cX5_isAsSeen 61 = .ok (.isub, 1) := by decide +kernel
theorem dX5_isAsSeen_62 : decode cX5_isAsSeen 62 = .ok (.istore 5, 2) := by decide +kernel
theorem dX5_isAsSeen_64 : decode cX5_isAsSeen 64 = .ok (.iload 5, 2) := by decide +kernel
theorem dX5_isAsSeen_66 : decode cX5_isAsSeen 66 = .ok (.iconst 0, 1) := by decide +kernel
theorem dX5_isAsSeen_67 : decode cX5_isAsSeen 67 = .ok (.invokestatic 70, 3) := by decide +kernel
theorem dX5_isAsSeen_70 : decode cX5_isAsSeen 70 = .ok (.aload_n 1, 1) := by decide +kernel
theorem dX5_isAsSeen_71 : decode cX5_isAsSeen 71 = .ok (.getfield 74, 3) := by decide +kernel
theorem dX5_isAsSeen_74 : decode cX5_isAsSeen 74 = .ok (.iload 4, 2) := by decide +kernel
theorem dX5_isAsSeen_76 : decode cX5_isAsSeen 76 = .ok (.iaload, 1) := by decide +kernel
theorem dX5_isAsSeen_77 : decode cX5_isAsSeen 77 = .ok (.if_icmp .eq 5, 3) := by decide +kernel
theorem dX5_isAsSeen_80 : decode cX5_isAsSeen 80 = .ok (.iconst 0, 1) := by decide +kernel
theorem dX5_isAsSeen_81 : decode cX5_isAsSeen 81 = .ok (.ireturn, 1) := by decide +kernel
theorem dX5_isAsSeen_82 : decode cX5_isAsSeen 82 = .ok (.iinc 4 1, 3) := by decide +kernel
theorem dX5_isAsSeen_85 : decode cX5_isAsSeen 85 = .ok (.goto (-82), 3) := by decide +kernel
theorem dX5_isAsSeen_88 : decode cX5_isAsSeen 88 = .ok (.iconst 1, 1) := by decide +kernel
theorem dX5_isAsSeen_89 : decode cX5_isAsSeen 89 = .ok (.ireturn, 1) := by decide +kernel
theorem dX5_suspects_0 : decode cX5_suspects 0 = .ok (.iconst 0, 1) := by decide +kernel
theorem dX5_suspects_1 : decode cX5_suspects 1 = .ok (.istore_n 1, 1) := by decide +kernel
theorem dX5_suspects_2 : decode cX5_suspects 2 = .ok (.iconst 0, 1) := by decide +kernel
theorem dX5_suspects_3 : decode cX5_suspects 3 = .ok (.istore_n 2, 1) := by decide +kernel
theorem dX5_suspects_4 : decode cX5_suspects 4 = .ok (.iload_n 2, 1) := by decide +kernel
theorem dX5_suspects_5 : decode cX5_suspects 5 = .ok (.aload_n 0, 1) := by decide +kernel
theorem dX5_suspects_6 : decode cX5_suspects 6 = .ok (.getfield 24, 3) := by decide +kernel
theorem dX5_suspects_9 : decode cX5_suspects 9 = .ok (.if_icmp .ge 31, 3) := by decide +kernel
theorem dX5_suspects_12 : decode cX5_suspects 12 = .ok (.aload_n 0, 1) := by decide +kernel
theorem dX5_suspects_13 : decode cX5_suspects 13 = .ok (.getfield 11, 3) := by decide +kernel
theorem dX5_suspects_16 : decode cX5_suspects 16 = .ok (.iload_n 2, 1) := by decide +kernel
theorem dX5_suspects_17 : decode cX5_suspects 17 = .ok (.iaload, 1) := by decide +kernel
theorem dX5_suspects_18 : decode cX5_suspects 18 = .ok (.bipush (-6), 2) := by decide +kernel
theorem dX5_suspects_20 : decode cX5_suspects 20 = .ok (.if_icmp .eq 14, 3) := by decide +kernel
theorem dX5_suspects_23 : decode cX5_suspects 23 = .ok (.iload_n 1, 1) := by decide +kernel
theorem dX5_suspects_24 : decode cX5_suspects 24 = .ok (.iconst 1, 1) := by decide +kernel
theorem dX5_suspects_25 : decode cX5_suspects 25 = .ok (.aload_n 0, 1) := by decide +kernel
theorem dX5_suspects_26 : decode cX5_suspects 26 = .ok (.getfield 11, 3) := by decide +kernel
theorem dX5_suspects_29 : decode cX5_suspects 29 = .ok (.iload_n 2, 1) := by decide +kernel
theorem dX5_suspects_30 : decode cX5_suspects 30 = .ok (.iaload, 1) := by decide +kernel
theorem dX5_suspects_31 : decode cX5_suspects 31 = .ok (.ishl, 1) := by decide +kernel
theorem dX5_suspects_32 : decode cX5_suspects 32 = .ok (.ior, 1) := by decide +kernel
theorem dX5_suspects_33 : decode cX5_suspects 33 = .ok (.istore_n 1, 1) := by decide +kernel
theorem dX5_suspects_34 : decode cX5_suspects 34 = .ok (.iinc 2 1, 3) := by decide +kernel
theorem dX5_suspects_37 : decode cX5_suspects 37 = .ok (.goto (-33), 3) := by decide +kernel
theorem dX5_suspects_40 : decode cX5_suspects 40 = .ok (.iload_n 1, 1) := by decide +kernel
theorem dX5_suspects_41 : decode cX5_suspects 41 = .ok (.ireturn, 1) := by decide +kernel
theorem dX5_leastMore_0 : decode cX5_leastMore 0 = .ok (.iconst 0, 1) := by decide +kernel
theorem dX5_leastMore_1 : decode cX5_leastMore 1 = .ok (.istore_n 2, 1) := by decide +kernel
theorem dX5_leastMore_2 : decode cX5_leastMore 2 = .ok (.iload_n 2, 1) := by decide +kernel
theorem dX5_leastMore_3 : decode cX5_leastMore 3 = .ok (.aload_n 0, 1) := by decide +kernel
theorem dX5_leastMore_4 : decode cX5_leastMore 4 = .ok (.getfield 24, 3) := by decide +kernel
theorem dX5_leastMore_7 : decode cX5_leastMore 7 = .ok (.if_icmp .ge 29, 3) := by decide +kernel
theorem dX5_leastMore_10 : decode cX5_leastMore 10 = .ok (.aload_n 0, 1) := by decide +kernel
theorem dX5_leastMore_11 : decode cX5_leastMore 11 = .ok (.getfield 11, 3) := by decide +kernel
theorem dX5_leastMore_14 : decode cX5_leastMore 14 = .ok (.iload_n 2, 1) := by decide +kernel
theorem dX5_leastMore_15 : decode cX5_leastMore 15 = .ok (.iaload, 1) := by decide +kernel
theorem dX5_leastMore_16 : decode cX5_leastMore 16 = .ok (.iload_n 1, 1) := by decide +kernel
theorem dX5_leastMore_17 : decode cX5_leastMore 17 = .ok (.if_icmp .ne 13, 3) := by decide +kernel
theorem dX5_leastMore_20 : decode cX5_leastMore 20 = .ok (.aload_n 0, 1) := by decide +kernel
theorem dX5_leastMore_21 : decode cX5_leastMore 21 = .ok (.getfield 15, 3) := by decide +kernel
theorem dX5_leastMore_24 : decode cX5_leastMore 24 = .ok (.iload_n 2, 1) := by decide +kernel
theorem dX5_leastMore_25 : decode cX5_leastMore 25 = .ok (.iaload, 1) := by decide +kernel
theorem dX5_leastMore_26 : decode cX5_leastMore 26 = .ok (.bipush 100, 2) := by decide +kernel
theorem dX5_leastMore_28 : decode cX5_leastMore 28 = .ok (.iadd, 1) := by decide +kernel
theorem dX5_leastMore_29 : decode cX5_leastMore 29 = .ok (.ireturn, 1) := by decide +kernel
theorem dX5_leastMore_30 : decode cX5_leastMore 30 = .ok (.iinc 2 1, 3) := by decide +kernel
theorem dX5_leastMore_33 : decode cX5_leastMore 33 = .ok (.goto (-31), 3) := by decide +kernel
theorem dX5_leastMore_36 : decode cX5_leastMore 36 = .ok (.bipush (-6), 2) := by decide +kernel
theorem dX5_leastMore_38 : decode cX5_leastMore 38 = .ok (.ireturn, 1) := by decide +kernel
theorem dX5_choosePair_0 : decode cX5_choosePair 0 = .ok (.aload_n 0, 1) := by decide +kernel
theorem dX5_choosePair_1 : decode cX5_choosePair 1 = .ok (.bipush (-6), 2) := by decide +kernel
theorem dX5_choosePair_3 : decode cX5_choosePair 3 = .ok (.putfield 77, 3) := by decide +kernel
theorem dX5_choosePair_6 : decode cX5_choosePair 6 = .ok (.aload_n 0, 1) := by decide +kernel
theorem dX5_choosePair_7 : decode cX5_choosePair 7 = .ok (.bipush (-6), 2) := by decide +kernel
theorem dX5_choosePair_9 : decode cX5_choosePair 9 = .ok (.putfield 80, 3) := by decide +kernel
theorem dX5_choosePair_12 : decode cX5_choosePair 12 = .ok (.aload_n 0, 1) := by decide +kernel
theorem dX5_choosePair_13 : decode cX5_choosePair 13 = .ok (.getfield 24, 3) := by decide +kernel
theorem dX5_choosePair_16 : decode cX5_choosePair 16 = .ok (.ifCond .ne 4, 3) := by decide +kernel
theorem dX5_choosePair_19 : decode cX5_choosePair 19 = .ok (.return_, 1) := by decide +kernel
theorem dX5_choosePair_20 : decode cX5_choosePair 20 = .ok (.iconst 0, 1) := by decide +kernel
theorem dX5_choosePair_21 : decode cX5_choosePair 21 = .ok (.istore_n 2, 1) := by decide +kernel
theorem dX5_choosePair_22 : decode cX5_choosePair 22 = .ok (.iload_n 2, 1) := by decide +kernel
theorem dX5_choosePair_23 : decode cX5_choosePair 23 = .ok (.bipush 8, 2) := by decide +kernel
theorem dX5_choosePair_25 : decode cX5_choosePair 25 = .ok (.if_icmp .ge 41, 3) := by decide +kernel
theorem dX5_choosePair_28 : decode cX5_choosePair 28 = .ok (.iload_n 2, 1) := by decide +kernel
theorem dX5_choosePair_29 : decode cX5_choosePair 29 = .ok (.iconst 1, 1) := by decide +kernel
theorem dX5_choosePair_30 : decode cX5_choosePair 30 = .ok (.iadd, 1) := by decide +kernel
theorem dX5_choosePair_31 : decode cX5_choosePair 31 = .ok (.istore_n 3, 1) := by decide +kernel
theorem dX5_choosePair_32 : decode cX5_choosePair 32 = .ok (.iload_n 3, 1) := by decide +kernel
theorem dX5_choosePair_33 : decode cX5_choosePair 33 = .ok (.bipush 8, 2) := by decide +kernel
theorem dX5_choosePair_35 : decode cX5_choosePair 35 = .ok (.if_icmp .ge 25, 3) := by decide +kernel
theorem dX5_choosePair_38 : decode cX5_choosePair 38 = .ok (.aload_n 1, 1) := by decide +kernel
theorem dX5_choosePair_39 : decode cX5_choosePair 39 = .ok (.iload_n 2, 1) := by decide +kernel
theorem dX5_choosePair_40 : decode cX5_choosePair 40 = .ok (.iload_n 3, 1) := by decide +kernel
theorem dX5_choosePair_41 : decode cX5_choosePair 41 = .ok (.invokevirtual 83, 3) := by decide +kernel
theorem dX5_choosePair_44 : decode cX5_choosePair 44 = .ok (.ifCond .eq 10, 3) := by decide +kernel
theorem dX5_choosePair_47 : decode cX5_choosePair 47 = .ok (.aload_n 0, 1) := by decide +kernel
theorem dX5_choosePair_48 : decode cX5_choosePair 48 = .ok (.aload_n 1, 1) := by decide +kernel
theorem dX5_choosePair_49 : decode cX5_choosePair 49 = .ok (.iload_n 2, 1) := by decide +kernel
theorem dX5_choosePair_50 : decode cX5_choosePair 50 = .ok (.iload_n 3, 1) := by decide +kernel
theorem dX5_choosePair_51 : decode cX5_choosePair 51 = .ok (.invokevirtual 86, 3) := by decide +kernel
theorem dX5_choosePair_54 : decode cX5_choosePair 54 = .ok (.iinc 3 1, 3) := by decide +kernel
theorem dX5_choosePair_57 : decode cX5_choosePair 57 = .ok (.goto (-25), 3) := by decide +kernel
theorem dX5_choosePair_60 : decode cX5_choosePair 60 = .ok (.iinc 2 1, 3) := by decide +kernel
theorem dX5_choosePair_63 : decode cX5_choosePair 63 = .ok (.goto (-41), 3) := by decide +kernel
theorem dX5_choosePair_66 : decode cX5_choosePair 66 = .ok (.return_, 1) := by decide +kernel
theorem dX5_tryPair_0 : decode cX5_tryPair 0 = .ok (.aload_n 0, 1) := by decide +kernel
theorem dX5_tryPair_1 : decode cX5_tryPair 1 = .ok (.getfield 21, 3) := by decide +kernel
theorem dX5_tryPair_4 : decode cX5_tryPair 4 = .ok (.iconst 0, 1) := by decide +kernel
theorem dX5_tryPair_5 : decode cX5_tryPair 5 = .ok (.invokestatic 89, 3) := by decide +kernel
theorem dX5_tryPair_8 : decode cX5_tryPair 8 = .ok (.iconst 0, 1) := by decide +kernel
theorem dX5_tryPair_9 : decode cX5_tryPair 9 = .ok (.istore 4, 2) := by decide +kernel
theorem dX5_tryPair_11 : decode cX5_tryPair 11 = .ok (.iload 4, 2) := by decide +kernel
theorem dX5_tryPair_13 : decode cX5_tryPair 13 = .ok (.aload_n 0, 1) := by decide +kernel
theorem dX5_tryPair_14 : decode cX5_tryPair 14 = .ok (.getfield 24, 3) := by decide +kernel
theorem dX5_tryPair_17 : decode cX5_tryPair 17 = .ok (.if_icmp .ge 87, 3) := by decide +kernel
theorem dX5_tryPair_20 : decode cX5_tryPair 20 = .ok (.aload_n 1, 1) := by decide +kernel
theorem dX5_tryPair_21 : decode cX5_tryPair 21 = .ok (.getfield 46, 3) := by decide +kernel
theorem dX5_tryPair_24 : decode cX5_tryPair 24 = .ok (.iload_n 2, 1) := by decide +kernel
theorem dX5_tryPair_25 : decode cX5_tryPair 25 = .ok (.iaload, 1) := by decide +kernel
theorem dX5_tryPair_26 : decode cX5_tryPair 26 = .ok (.aload_n 0, 1) := by decide +kernel
theorem dX5_tryPair_27 : decode cX5_tryPair 27 = .ok (.getfield 11, 3) := by decide +kernel
theorem dX5_tryPair_30 : decode cX5_tryPair 30 = .ok (.iload 4, 2) := by decide +kernel
theorem dX5_tryPair_32 : decode cX5_tryPair 32 = .ok (.iaload, 1) := by decide +kernel
theorem dX5_tryPair_33 : decode cX5_tryPair 33 = .ok (.iload_n 2, 1) := by decide +kernel
theorem dX5_tryPair_34 : decode cX5_tryPair 34 = .ok (.if_icmp .ne 13, 3) := by decide +kernel
theorem dX5_tryPair_37 : decode cX5_tryPair 37 = .ok (.aload_n 0, 1) := by decide +kernel
theorem dX5_tryPair_38 : decode cX5_tryPair 38 = .ok (.getfield 15, 3) := by decide +kernel
theorem dX5_tryPair_41 : decode cX5_tryPair 41 = .ok (.iload 4, 2) := by decide +kernel
theorem dX5_tryPair_43 : decode cX5_tryPair 43 = .ok (.iaload, 1) := by decide +kernel
theorem dX5_tryPair_44 : decode cX5_tryPair 44 = .ok (.goto 4, 3) := by decide +kernel
theorem dX5_tryPair_47 : decode cX5_tryPair 47 = .ok (.iconst 0, 1) := by decide +kernel
theorem dX5_tryPair_48 : decode cX5_tryPair 48 = .ok (.iadd, 1) := by decide +kernel
theorem dX5_tryPair_49 : decode cX5_tryPair 49 = .ok (.istore 5, 2) := by decide +kernel
theorem dX5_tryPair_51 : decode cX5_tryPair 51 = .ok (.aload_n 1, 1) := by decide +kernel
theorem dX5_tryPair_52 : decode cX5_tryPair 52 = .ok (.getfield 46, 3) := by decide +kernel
theorem dX5_tryPair_55 : decode cX5_tryPair 55 = .ok (.iload_n 3, 1) := by decide +kernel
theorem dX5_tryPair_56 : decode cX5_tryPair 56 = .ok (.iaload, 1) := by decide +kernel
theorem dX5_tryPair_57 : decode cX5_tryPair 57 = .ok (.aload_n 0, 1) := by decide +kernel
theorem dX5_tryPair_58 : decode cX5_tryPair 58 = .ok (.getfield 11, 3) := by decide +kernel
theorem dX5_tryPair_61 : decode cX5_tryPair 61 = .ok (.iload 4, 2) := by decide +kernel
theorem dX5_tryPair_63 : decode cX5_tryPair 63 = .ok (.iaload, 1) := by decide +kernel
theorem dX5_tryPair_64 : decode cX5_tryPair 64 = .ok (.iload_n 3, 1) := by decide +kernel
theorem dX5_tryPair_65 : decode cX5_tryPair 65 = .ok (.if_icmp .ne 13, 3) := by decide +kernel
theorem dX5_tryPair_68 : decode cX5_tryPair 68 = .ok (.aload_n 0, 1) := by decide +kernel
theorem dX5_tryPair_69 : decode cX5_tryPair 69 = .ok (.getfield 15, 3) := by decide +kernel
theorem dX5_tryPair_72 : decode cX5_tryPair 72 = .ok (.iload 4, 2) := by decide +kernel
theorem dX5_tryPair_74 : decode cX5_tryPair 74 = .ok (.iaload, 1) := by decide +kernel
theorem dX5_tryPair_75 : decode cX5_tryPair 75 = .ok (.goto 4, 3) := by decide +kernel
theorem dX5_tryPair_78 : decode cX5_tryPair 78 = .ok (.iconst 0, 1) := by decide +kernel
theorem dX5_tryPair_79 : decode cX5_tryPair 79 = .ok (.iadd, 1) := by decide +kernel
theorem dX5_tryPair_80 : decode cX5_tryPair 80 = .ok (.istore 6, 2) := by decide +kernel
theorem dX5_tryPair_82 : decode cX5_tryPair 82 = .ok (.aload_n 0, 1) := by decide +kernel
theorem dX5_tryPair_83 : decode cX5_tryPair 83 = .ok (.getfield 21, 3) := by decide +kernel
theorem dX5_tryPair_86 : decode cX5_tryPair 86 = .ok (.iload 5, 2) := by decide +kernel
theorem dX5_tryPair_88 : decode cX5_tryPair 88 = .ok (.iload 6, 2) := by decide +kernel
theorem dX5_tryPair_90 : decode cX5_tryPair 90 = .ok (.invokestatic 70, 3) := by decide +kernel
theorem dX5_tryPair_93 : decode cX5_tryPair 93 = .ok (.dup2, 1) := by decide +kernel
theorem dX5_tryPair_94 : decode cX5_tryPair 94 = .ok (.iaload, 1) := by decide +kernel
theorem dX5_tryPair_95 : decode cX5_tryPair 95 = .ok (.iconst 1, 1) := by decide +kernel
theorem dX5_tryPair_96 : decode cX5_tryPair 96 = .ok (.iadd, 1) := by decide +kernel
theorem dX5_tryPair_97 : decode cX5_tryPair 97 = .ok (.iastore, 1) := by decide +kernel
theorem dX5_tryPair_98 : decode cX5_tryPair 98 = .ok (.iinc 4 1, 3) := by decide +kernel
theorem dX5_tryPair_101 : decode cX5_tryPair 101 = .ok (.goto (-90), 3) := by decide +kernel
theorem dX5_tryPair_104 : decode cX5_tryPair 104 = .ok (.aload_n 0, 1) := by decide +kernel
theorem dX5_tryPair_105 : decode cX5_tryPair 105 = .ok (.getfield 21, 3) := by decide +kernel
theorem dX5_tryPair_108 : decode cX5_tryPair 108 = .ok (.iconst 0, 1) := by decide +kernel
theorem dX5_tryPair_109 : decode cX5_tryPair 109 = .ok (.iaload, 1) := by decide +kernel
theorem dX5_tryPair_110 : decode cX5_tryPair 110 = .ok (.aload_n 0, 1) := by decide +kernel
theorem dX5_tryPair_111 : decode cX5_tryPair 111 = .ok (.getfield 21, 3) := by decide +kernel
theorem dX5_tryPair_114 : decode cX5_tryPair 114 = .ok (.iconst 1, 1) := by decide +kernel
theorem dX5_tryPair_115 : decode cX5_tryPair 115 = .ok (.iaload, 1) := by decide +kernel
theorem dX5_tryPair_116 : decode cX5_tryPair 116 = .ok (.aload_n 0, 1) := by decide +kernel
theorem dX5_tryPair_117 : decode cX5_tryPair 117 = .ok (.getfield 21, 3) := by decide +kernel
theorem dX5_tryPair_120 : decode cX5_tryPair 120 = .ok (.iconst 2, 1) := by decide +kernel
theorem dX5_tryPair_121 : decode cX5_tryPair 121 = .ok (.iaload, 1) := by decide +kernel
theorem dX5_tryPair_122 : decode cX5_tryPair 122 = .ok (.invokestatic 95, 3) := by decide +kernel
theorem dX5_tryPair_125 : decode cX5_tryPair 125 = .ok (.invokestatic 95, 3) := by decide +kernel
theorem dX5_tryPair_128 : decode cX5_tryPair 128 = .ok (.istore 4, 2) := by decide +kernel
theorem dX5_tryPair_130 : decode cX5_tryPair 130 = .ok (.aload_n 0, 1) := by decide +kernel
theorem dX5_tryPair_131 : decode cX5_tryPair 131 = .ok (.getfield 77, 3) := by decide +kernel
theorem dX5_tryPair_134 : decode cX5_tryPair 134 = .ok (.bipush (-6), 2) := by decide +kernel
theorem dX5_tryPair_136 : decode cX5_tryPair 136 = .ok (.if_icmp .eq 12, 3) := by decide +kernel
theorem dX5_tryPair_139 : decode cX5_tryPair 139 = .ok (.iload 4, 2) := by decide +kernel
theorem dX5_tryPair_141 : decode cX5_tryPair 141 = .ok (.aload_n 0, 1) := by decide +kernel
theorem dX5_tryPair_142 : decode cX5_tryPair 142 = .ok (.getfield 80, 3) := by decide +kernel
theorem dX5_tryPair_145 : decode cX5_tryPair 145 = .ok (.if_icmp .ge 19, 3) := by decide +kernel
theorem dX5_tryPair_148 : decode cX5_tryPair 148 = .ok (.aload_n 0, 1) := by decide +kernel
theorem dX5_tryPair_149 : decode cX5_tryPair 149 = .ok (.bipush 10, 2) := by decide +kernel
theorem dX5_tryPair_151 : decode cX5_tryPair 151 = .ok (.iload_n 2, 1) := by decide +kernel
theorem dX5_tryPair_152 : decode cX5_tryPair 152 = .ok (.imul, 1) := by decide +kernel
theorem dX5_tryPair_153 : decode cX5_tryPair 153 = .ok (.iload_n 3, 1) := by decide +kernel
theorem dX5_tryPair_154 : decode cX5_tryPair 154 = .ok (.iadd, 1) := by decide +kernel
theorem dX5_tryPair_155 : decode cX5_tryPair 155 = .ok (.putfield 77, 3) := by decide +kernel
theorem dX5_tryPair_158 : decode cX5_tryPair 158 = .ok (.aload_n 0, 1) := by decide +kernel
theorem dX5_tryPair_159 : decode cX5_tryPair 159 = .ok (.iload 4, 2) := by decide +kernel
theorem dX5_tryPair_161 : decode cX5_tryPair 161 = .ok (.putfield 80, 3) := by decide +kernel
theorem dX5_tryPair_164 : decode cX5_tryPair 164 = .ok (.return_, 1) := by decide +kernel
theorem dX6_init_0 : decode cX6_init 0 = .ok (.aload_n 0, 1) := by decide +kernel
theorem dX6_init_1 : decode cX6_init 1 = .ok (.invokespecial 1, 3) := by decide +kernel
theorem dX6_init_4 : decode cX6_init 4 = .ok (.aload_n 0, 1) := by decide +kernel
theorem dX6_init_5 : decode cX6_init 5 = .ok (.new 7, 3) := by decide +kernel
theorem dX6_init_8 : decode cX6_init 8 = .ok (.dup, 1) := by decide +kernel
theorem dX6_init_9 : decode cX6_init 9 = .ok (.invokespecial 9, 3) := by decide +kernel
theorem dX6_init_12 : decode cX6_init 12 = .ok (.putfield 10, 3) := by decide +kernel
theorem dX6_init_15 : decode cX6_init 15 = .ok (.return_, 1) := by decide +kernel
theorem dX6_pass_0 : decode cX6_pass 0 = .ok (.aload_n 0, 1) := by decide +kernel
theorem dX6_pass_1 : decode cX6_pass 1 = .ok (.getfield 10, 3) := by decide +kernel
theorem dX6_pass_4 : decode cX6_pass 4 = .ok (.aload_n 1, 1) := by decide +kernel
theorem dX6_pass_5 : decode cX6_pass 5 = .ok (.invokevirtual 16, 3) := by decide +kernel
theorem dX6_pass_8 : decode cX6_pass 8 = .ok (.aload_n 0, 1) := by decide +kernel
theorem dX6_pass_9 : decode cX6_pass 9 = .ok (.iconst 0, 1) := by decide +kernel
theorem dX6_pass_10 : decode cX6_pass 10 = .ok (.putfield 20, 3) := by decide +kernel
theorem dX6_pass_13 : decode cX6_pass 13 = .ok (.aload_n 0, 1) := by decide +kernel
theorem dX6_pass_14 : decode cX6_pass 14 = .ok (.iconst 0, 1) := by decide +kernel
theorem dX6_pass_15 : decode cX6_pass 15 = .ok (.putfield 24, 3) := by decide +kernel
theorem dX6_pass_18 : decode cX6_pass 18 = .ok (.aload_n 0, 1) := by decide +kernel
theorem dX6_pass_19 : decode cX6_pass 19 = .ok (.iconst 0, 1) := by decide +kernel
theorem dX6_pass_20 : decode cX6_pass 20 = .ok (.putfield 27, 3) := by decide +kernel
theorem dX6_pass_23 : decode cX6_pass 23 = .ok (.iload_n 2, 1) := by decide +kernel
theorem dX6_pass_24 : decode cX6_pass 24 = .ok (.istore 4, 2) := by decide +kernel
theorem dX6_pass_26 : decode cX6_pass 26 = .ok (.iconst 0, 1) := by decide +kernel
theorem dX6_pass_27 : decode cX6_pass 27 = .ok (.istore 5, 2) := by decide +kernel
theorem dX6_pass_29 : decode cX6_pass 29 = .ok (.iload 5, 2) := by decide +kernel
theorem dX6_pass_31 : decode cX6_pass 31 = .ok (.iload_n 3, 1) := by decide +kernel
theorem dX6_pass_32 : decode cX6_pass 32 = .ok (.if_icmp .ge 64, 3) := by decide +kernel
theorem dX6_pass_35 : decode cX6_pass 35 = .ok (.bipush 75, 2) := by decide +kernel
theorem dX6_pass_37 : decode cX6_pass 37 = .ok (.iload 4, 2) := by decide +kernel
theorem dX6_pass_39 : decode cX6_pass 39 = .ok (.imul, 1) := by decide +kernel
theorem dX6_pass_40 : decode cX6_pass 40 = .ok (.bipush 74, 2) := by decide +kernel
theorem dX6_pass_42 : decode cX6_pass 42 = .ok (.iadd, 1) := by decide +kernel
theorem dX6_pass_43 : decode cX6_pass 43 = .ok (.ldc 30, 2) := by decide +kernel
theorem dX6_pass_45 : decode cX6_pass 45 = .ok (.irem, 1) := by decide +kernel
theorem dX6_pass_46 : decode cX6_pass 46 = .ok (.istore 4, 2) := by decide +kernel
theorem dX6_pass_48 : decode cX6_pass 48 = .ok (.iload 4, 2) := by decide +kernel
theorem dX6_pass_50 : decode cX6_pass 50 = .ok (.bipush 8, 2) := by decide +kernel
theorem dX6_pass_52 : decode cX6_pass 52 = .ok (.idiv, 1) := by decide +kernel
theorem dX6_pass_53 : decode cX6_pass 53 = .ok (.iconst 2, 1) := by decide +kernel
theorem dX6_pass_54 : decode cX6_pass 54 = .ok (.irem, 1) := by decide +kernel
theorem dX6_pass_55 : decode cX6_pass 55 = .ok (.iconst 1, 1) := by decide +kernel
theorem dX6_pass_56 : decode cX6_pass 56 = .ok (.if_icmp .ne 10, 3) := by decide +kernel
theorem dX6_pass_59 : decode cX6_pass 59 = .ok (.aload_n 0, 1) := by decide +kernel
theorem dX6_pass_60 : decode cX6_pass 60 = .ok (.getfield 10, 3) := by decide +kernel
theorem dX6_pass_63 : decode cX6_pass 63 = .ok (.invokevirtual 31, 3) := by decide +kernel
theorem dX6_pass_66 : decode cX6_pass 66 = .ok (.aload_n 0, 1) := by decide +kernel
theorem dX6_pass_67 : decode cX6_pass 67 = .ok (.getfield 10, 3) := by decide +kernel
theorem dX6_pass_70 : decode cX6_pass 70 = .ok (.iload 4, 2) := by decide +kernel
theorem dX6_pass_72 : decode cX6_pass 72 = .ok (.bipush 8, 2) := by decide +kernel
theorem dX6_pass_74 : decode cX6_pass 74 = .ok (.irem, 1) := by decide +kernel
theorem dX6_pass_75 : decode cX6_pass 75 = .ok (.invokevirtual 34, 3) := by decide +kernel
theorem dX6_pass_78 : decode cX6_pass 78 = .ok (.ifCond .eq 12, 3) := by decide +kernel
theorem dX6_pass_81 : decode cX6_pass 81 = .ok (.aload_n 0, 1) := by decide +kernel
theorem dX6_pass_82 : decode cX6_pass 82 = .ok (.iload 4, 2) := by decide +kernel
theorem dX6_pass_84 : decode cX6_pass 84 = .ok (.bipush 8, 2) := by decide +kernel
theorem dX6_pass_86 : decode cX6_pass 86 = .ok (.irem, 1) := by decide +kernel
theorem dX6_pass_87 : decode cX6_pass 87 = .ok (.invokevirtual 38, 3) := by decide +kernel
theorem dX6_pass_90 : decode cX6_pass 90 = .ok (.iinc 5 1, 3) := by decide +kernel
theorem dX6_pass_93 : decode cX6_pass 93 = .ok (.goto (-64), 3) := by decide +kernel
theorem dX6_pass_96 : decode cX6_pass 96 = .ok (.return_, 1) := by decide +kernel
theorem dX6_sell_0 : decode cX6_sell 0 = .ok (.iconst 1, 1) := by decide +kernel
theorem dX6_sell_1 : decode cX6_sell 1 = .ok (.iload_n 1, 1) := by decide +kernel
theorem dX6_sell_2 : decode cX6_sell 2 = .ok (.ishl, 1) := by decide +kernel
theorem dX6_sell_3 : decode cX6_sell 3 = .ok (.aload_n 0, 1) := by decide +kernel
theorem dX6_sell_4 : decode cX6_sell 4 = .ok (.getfield 10, 3) := by decide +kernel
theorem dX6_sell_7 : decode cX6_sell 7 = .ok (.iload_n 1, 1) := by decide +kernel
theorem dX6_sell_8 : decode cX6_sell 8 = .ok (.invokevirtual 42, 3) := by decide +kernel
theorem dX6_sell_11 : decode cX6_sell 11 = .ok (.ior, 1) := by decide +kernel
theorem dX6_sell_12 : decode cX6_sell 12 = .ok (.istore_n 2, 1) := by decide +kernel
theorem dX6_sell_13 : decode cX6_sell 13 = .ok (.aload_n 0, 1) := by decide +kernel
theorem dX6_sell_14 : decode cX6_sell 14 = .ok (.getfield 10, 3) := by decide +kernel
theorem dX6_sell_17 : decode cX6_sell 17 = .ok (.iload_n 2, 1) := by decide +kernel
theorem dX6_sell_18 : decode cX6_sell 18 = .ok (.aload_n 0, 1) := by decide +kernel
theorem dX6_sell_19 : decode cX6_sell 19 = .ok (.getfield 10, 3) := by decide +kernel
theorem dX6_sell_22 : decode cX6_sell 22 = .ok (.getfield 46, 3) := by decide +kernel
theorem dX6_sell_25 : decode cX6_sell 25 = .ok (.invokevirtual 50, 3) := by decide +kernel
theorem dX6_sell_28 : decode cX6_sell 28 = .ok (.istore_n 3, 1) := by decide +kernel
theorem dX6_sell_29 : decode cX6_sell 29 = .ok (.aload_n 0, 1) := by decide +kernel
theorem dX6_sell_30 : decode cX6_sell 30 = .ok (.getfield 10, 3) := by decide +kernel
theorem dX6_sell_33 : decode cX6_sell 33 = .ok (.iload_n 2, 1) := by decide +kernel
theorem dX6_sell_34 : decode cX6_sell 34 = .ok (.invokevirtual 54, 3) := by decide +kernel
theorem dX6_sell_37 : decode cX6_sell 37 = .ok (.istore 4, 2) := by decide +kernel
theorem dX6_sell_39 : decode cX6_sell 39 = .ok (.aload_n 0, 1) := by decide +kernel
theorem dX6_sell_40 : decode cX6_sell 40 = .ok (.dup, 1) := by decide +kernel
theorem dX6_sell_41 : decode cX6_sell 41 = .ok (.getfield 20, 3) := by decide +kernel
theorem dX6_sell_44 : decode cX6_sell 44 = .ok (.iload_n 3, 1) := by decide +kernel
theorem dX6_sell_45 : decode cX6_sell 45 = .ok (.iadd, 1) := by decide +kernel
theorem dX6_sell_46 : decode cX6_sell 46 = .ok (.putfield 20, 3) := by decide +kernel
theorem dX6_sell_49 : decode cX6_sell 49 = .ok (.aload_n 0, 1) := by decide +kernel
theorem dX6_sell_50 : decode cX6_sell 50 = .ok (.dup, 1) := by decide +kernel
theorem dX6_sell_51 : decode cX6_sell 51 = .ok (.getfield 24, 3) := by decide +kernel
theorem dX6_sell_54 : decode cX6_sell 54 = .ok (.iload 4, 2) := by decide +kernel
theorem dX6_sell_56 : decode cX6_sell 56 = .ok (.iadd, 1) := by decide +kernel
theorem dX6_sell_57 : decode cX6_sell 57 = .ok (.putfield 24, 3) := by decide +kernel
theorem dX6_sell_60 : decode cX6_sell 60 = .ok (.iload 4, 2) := by decide +kernel
theorem dX6_sell_62 : decode cX6_sell 62 = .ok (.iload_n 3, 1) := by decide +kernel
theorem dX6_sell_63 : decode cX6_sell 63 = .ok (.isub, 1) := by decide +kernel
theorem dX6_sell_64 : decode cX6_sell 64 = .ok (.invokestatic 57, 3) := by decide +kernel
theorem dX6_sell_67 : decode cX6_sell 67 = .ok (.aload_n 0, 1) := by decide +kernel
theorem dX6_sell_68 : decode cX6_sell 68 = .ok (.getfield 10, 3) := by decide +kernel
theorem dX6_sell_71 : decode cX6_sell 71 = .ok (.getfield 62, 3) := by decide +kernel
theorem dX6_sell_74 : decode cX6_sell 74 = .ok (.if_icmp .le 13, 3) := by decide +kernel
theorem dX6_sell_77 : decode cX6_sell 77 = .ok (.aload_n 0, 1) := by decide +kernel
theorem dX6_sell_78 : decode cX6_sell 78 = .ok (.dup, 1) := by decide +kernel
theorem dX6_sell_79 : decode cX6_sell 79 = .ok (.getfield 27, 3) := by decide +kernel
theorem dX6_sell_82 : decode cX6_sell 82 = .ok (.iconst 1, 1) := by decide +kernel
theorem dX6_sell_83 : decode cX6_sell 83 = .ok (.iadd, 1) := by decide +kernel
theorem dX6_sell_84 : decode cX6_sell 84 = .ok (.putfield 27, 3) := by decide +kernel
theorem dX6_sell_87 : decode cX6_sell 87 = .ok (.return_, 1) := by decide +kernel
theorem dX7_init_0 : decode cX7_init 0 = .ok (.aload_n 0, 1) := by decide +kernel
theorem dX7_init_1 : decode cX7_init 1 = .ok (.invokespecial 1, 3) := by decide +kernel
theorem dX7_init_4 : decode cX7_init 4 = .ok (.aload_n 0, 1) := by decide +kernel
theorem dX7_init_5 : decode cX7_init 5 = .ok (.new 7, 3) := by decide +kernel
theorem dX7_init_8 : decode cX7_init 8 = .ok (.dup, 1) := by decide +kernel
theorem dX7_init_9 : decode cX7_init 9 = .ok (.invokespecial 9, 3) := by decide +kernel
theorem dX7_init_12 : decode cX7_init 12 = .ok (.putfield 10, 3) := by decide +kernel
theorem dX7_init_15 : decode cX7_init 15 = .ok (.aload_n 0, 1) := by decide +kernel
theorem dX7_init_16 : decode cX7_init 16 = .ok (.iconst 2, 1) := by decide +kernel
theorem dX7_init_17 : decode cX7_init 17 = .ok (.anewarray 7, 3) := by decide +kernel
theorem dX7_init_20 : decode cX7_init 20 = .ok (.putfield 16, 3) := by decide +kernel
theorem dX7_init_23 : decode cX7_init 23 = .ok (.iconst 0, 1) := by decide +kernel
theorem dX7_init_24 : decode cX7_init 24 = .ok (.istore_n 1, 1) := by decide +kernel
theorem dX7_init_25 : decode cX7_init 25 = .ok (.iload_n 1, 1) := by decide +kernel
theorem dX7_init_26 : decode cX7_init 26 = .ok (.iconst 2, 1) := by decide +kernel
theorem dX7_init_27 : decode cX7_init 27 = .ok (.if_icmp .ge 22, 3) := by decide +kernel
theorem dX7_init_30 : decode cX7_init 30 = .ok (.aload_n 0, 1) := by decide +kernel
theorem dX7_init_31 : decode cX7_init 31 = .ok (.getfield 16, 3) := by decide +kernel
theorem dX7_init_34 : decode cX7_init 34 = .ok (.iload_n 1, 1) := by decide +kernel
theorem dX7_init_35 : decode cX7_init 35 = .ok (.new 7, 3) := by decide +kernel
theorem dX7_init_38 : decode cX7_init 38 = .ok (.dup, 1) := by decide +kernel
theorem dX7_init_39 : decode cX7_init 39 = .ok (.invokespecial 9, 3) := by decide +kernel
theorem dX7_init_42 : decode cX7_init 42 = .ok (.aastore, 1) := by decide +kernel
theorem dX7_init_43 : decode cX7_init 43 = .ok (.iinc 1 1, 3) := by decide +kernel
theorem dX7_init_46 : decode cX7_init 46 = .ok (.goto (-21), 3) := by decide +kernel
theorem dX7_init_49 : decode cX7_init 49 = .ok (.aload_n 0, 1) := by decide +kernel
theorem dX7_init_50 : decode cX7_init 50 = .ok (.iconst 2, 1) := by decide +kernel
theorem dX7_init_51 : decode cX7_init 51 = .ok (.newarray .boolean, 2) := by decide +kernel
theorem dX7_init_53 : decode cX7_init 53 = .ok (.putfield 20, 3) := by decide +kernel
theorem dX7_init_56 : decode cX7_init 56 = .ok (.aload_n 0, 1) := by decide +kernel
theorem dX7_init_57 : decode cX7_init 57 = .ok (.new 24, 3) := by decide +kernel
theorem dX7_init_60 : decode cX7_init 60 = .ok (.dup, 1) := by decide +kernel
theorem dX7_init_61 : decode cX7_init 61 = .ok (.invokespecial 26, 3) := by decide +kernel
theorem dX7_init_64 : decode cX7_init 64 = .ok (.putfield 27, 3) := by decide +kernel
theorem dX7_init_67 : decode cX7_init 67 = .ok (.aload_n 0, 1) := by decide +kernel
theorem dX7_init_68 : decode cX7_init 68 = .ok (.new 31, 3) := by decide +kernel
theorem dX7_init_71 : decode cX7_init 71 = .ok (.dup, 1) := by decide +kernel
theorem dX7_init_72 : decode cX7_init 72 = .ok (.invokespecial 33, 3) := by decide +kernel
theorem dX7_init_75 : decode cX7_init 75 = .ok (.putfield 34, 3) := by decide +kernel
theorem dX7_init_78 : decode cX7_init 78 = .ok (.aload_n 0, 1) := by decide +kernel
theorem dX7_init_79 : decode cX7_init 79 = .ok (.new 38, 3) := by decide +kernel
theorem dX7_init_82 : decode cX7_init 82 = .ok (.dup, 1) := by decide +kernel
theorem dX7_init_83 : decode cX7_init 83 = .ok (.invokespecial 40, 3) := by decide +kernel
theorem dX7_init_86 : decode cX7_init 86 = .ok (.putfield 41, 3) := by decide +kernel
theorem dX7_init_89 : decode cX7_init 89 = .ok (.aload_n 0, 1) := by decide +kernel
theorem dX7_init_90 : decode cX7_init 90 = .ok (.new 45, 3) := by decide +kernel
theorem dX7_init_93 : decode cX7_init 93 = .ok (.dup, 1) := by decide +kernel
theorem dX7_init_94 : decode cX7_init 94 = .ok (.invokespecial 47, 3) := by decide +kernel
theorem dX7_init_97 : decode cX7_init 97 = .ok (.putfield 48, 3) := by decide +kernel
theorem dX7_init_100 : decode cX7_init 100 = .ok (.aload_n 0, 1) := by decide +kernel
theorem dX7_init_101 : decode cX7_init 101 = .ok (.new 52, 3) := by decide +kernel
theorem dX7_init_104 : decode cX7_init 104 = .ok (.dup, 1) := by decide +kernel
theorem dX7_init_105 : decode cX7_init 105 = .ok (.invokespecial 54, 3) := by decide +kernel
theorem dX7_init_108 : decode cX7_init 108 = .ok (.putfield 55, 3) := by decide +kernel
theorem dX7_init_111 : decode cX7_init 111 = .ok (.aload_n 0, 1) := by decide +kernel
theorem dX7_init_112 : decode cX7_init 112 = .ok (.new 59, 3) := by decide +kernel
theorem dX7_init_115 : decode cX7_init 115 = .ok (.dup, 1) := by decide +kernel
theorem dX7_init_116 : decode cX7_init 116 = .ok (.invokespecial 61, 3) := by decide +kernel
theorem dX7_init_119 : decode cX7_init 119 = .ok (.putfield 62, 3) := by decide +kernel
theorem dX7_init_122 : decode cX7_init 122 = .ok (.return_, 1) := by decide +kernel
theorem dX7_person_0 : decode cX7_person 0 = .ok (.iload_n 1, 1) := by decide +kernel
theorem dX7_person_1 : decode cX7_person 1 = .ok (.iconst 0, 1) := by decide +kernel
theorem dX7_person_2 : decode cX7_person 2 = .ok (.bipush 7, 2) := by decide +kernel
theorem dX7_person_4 : decode cX7_person 4 = .ok (.invokestatic 66, 3) := by decide +kernel
theorem dX7_person_7 : decode cX7_person 7 = .ok (.ifCond .ne 5, 3) := by decide +kernel
theorem dX7_person_10 : decode cX7_person 10 = .ok (.iconst (-1), 1) := by decide +kernel
theorem dX7_person_11 : decode cX7_person 11 = .ok (.ireturn, 1) := by decide +kernel
theorem dX7_person_12 : decode cX7_person 12 = .ok (.iload_n 2, 1) := by decide +kernel
theorem dX7_person_13 : decode cX7_person 13 = .ok (.iconst 1, 1) := by decide +kernel
theorem dX7_person_14 : decode cX7_person 14 = .ok (.sipush 200, 3) := by decide +kernel
theorem dX7_person_17 : decode cX7_person 17 = .ok (.invokestatic 66, 3) := by decide +kernel
theorem dX7_person_20 : decode cX7_person 20 = .ok (.ifCond .eq 26, 3) := by decide +kernel
theorem dX7_person_23 : decode cX7_person 23 = .ok (.iload_n 3, 1) := by decide +kernel
theorem dX7_person_24 : decode cX7_person 24 = .ok (.iconst 1, 1) := by decide +kernel
theorem dX7_person_25 : decode cX7_person 25 = .ok (.sipush 400, 3) := by decide +kernel
theorem dX7_person_28 : decode cX7_person 28 = .ok (.invokestatic 66, 3) := by decide +kernel
theorem dX7_person_31 : decode cX7_person 31 = .ok (.ifCond .eq 15, 3) := by decide +kernel
theorem dX7_person_34 : decode cX7_person 34 = .ok (.iload 4, 2) := by decide +kernel
theorem dX7_person_36 : decode cX7_person 36 = .ok (.bipush (-9), 2) := by decide +kernel
theorem dX7_person_38 : decode cX7_person 38 = .ok (.bipush 9, 2) := by decide +kernel
theorem dX7_person_40 : decode cX7_person 40 = .ok (.invokestatic 66, 3) := by decide +kernel
theorem dX7_person_43 : decode cX7_person 43 = .ok (.ifCond .ne 6, 3) := by decide +kernel
theorem dX7_person_46 : decode cX7_person 46 = .ok (.bipush (-2), 2) := by decide +kernel
theorem dX7_person_48 : decode cX7_person 48 = .ok (.ireturn, 1) := by decide +kernel
theorem dX7_person_49 : decode cX7_person 49 = .ok (.aload_n 0, 1) := by decide +kernel
theorem dX7_person_50 : decode cX7_person 50 = .ok (.getfield 10, 3) := by decide +kernel
theorem dX7_person_53 : decode cX7_person 53 = .ok (.iload_n 1, 1) := by decide +kernel
theorem dX7_person_54 : decode cX7_person 54 = .ok (.iload_n 2, 1) := by decide +kernel
theorem dX7_person_55 : decode cX7_person 55 = .ok (.iload_n 3, 1) := by decide +kernel
theorem dX7_person_56 : decode cX7_person 56 = .ok (.iload 4, 2) := by decide +kernel
theorem dX7_person_58 : decode cX7_person 58 = .ok (.invokevirtual 70, 3) := by decide +kernel
theorem dX7_person_61 : decode cX7_person 61 = .ok (.aload_n 0, 1) := by decide +kernel
theorem dX7_person_62 : decode cX7_person 62 = .ok (.getfield 10, 3) := by decide +kernel
theorem dX7_person_65 : decode cX7_person 65 = .ok (.invokevirtual 74, 3) := by decide +kernel
theorem dX7_person_68 : decode cX7_person 68 = .ok (.ireturn, 1) := by decide +kernel
theorem dX7_leave_0 : decode cX7_leave 0 = .ok (.aload_n 0, 1) := by decide +kernel
theorem dX7_leave_1 : decode cX7_leave 1 = .ok (.getfield 10, 3) := by decide +kernel
theorem dX7_leave_4 : decode cX7_leave 4 = .ok (.iload_n 1, 1) := by decide +kernel
theorem dX7_leave_5 : decode cX7_leave 5 = .ok (.invokevirtual 78, 3) := by decide +kernel
theorem dX7_leave_8 : decode cX7_leave 8 = .ok (.ifCond .ne 5, 3) := by decide +kernel
theorem dX7_leave_11 : decode cX7_leave 11 = .ok (.iconst (-1), 1) := by decide +kernel
theorem dX7_leave_12 : decode cX7_leave 12 = .ok (.ireturn, 1) := by decide +kernel
theorem dX7_leave_13 : decode cX7_leave 13 = .ok (.aload_n 0, 1) := by decide +kernel
theorem dX7_leave_14 : decode cX7_leave 14 = .ok (.getfield 10, 3) := by decide +kernel
theorem dX7_leave_17 : decode cX7_leave 17 = .ok (.iload_n 1, 1) := by decide +kernel
theorem dX7_leave_18 : decode cX7_leave 18 = .ok (.invokevirtual 82, 3) := by decide +kernel
theorem dX7_leave_21 : decode cX7_leave 21 = .ok (.aload_n 0, 1) := by decide +kernel
theorem dX7_leave_22 : decode cX7_leave 22 = .ok (.getfield 10, 3) := by decide +kernel
theorem dX7_leave_25 : decode cX7_leave 25 = .ok (.invokevirtual 74, 3) := by decide +kernel
theorem dX7_leave_28 : decode cX7_leave 28 = .ok (.ireturn, 1) := by decide +kernel
theorem dX7_marry_0 : decode cX7_marry 0 = .ok (.aload_n 0, 1) := by decide +kernel
theorem dX7_marry_1 : decode cX7_marry 1 = .ok (.getfield 10, 3) := by decide +kernel
theorem dX7_marry_4 : decode cX7_marry 4 = .ok (.iload_n 1, 1) := by decide +kernel
theorem dX7_marry_5 : decode cX7_marry 5 = .ok (.iload_n 2, 1) := by decide +kernel
theorem dX7_marry_6 : decode cX7_marry 6 = .ok (.invokevirtual 86, 3) := by decide +kernel
theorem dX7_marry_9 : decode cX7_marry 9 = .ok (.ifCond .ne 5, 3) := by decide +kernel
theorem dX7_marry_12 : decode cX7_marry 12 = .ok (.iconst (-1), 1) := by decide +kernel
theorem dX7_marry_13 : decode cX7_marry 13 = .ok (.ireturn, 1) := by decide +kernel
theorem dX7_marry_14 : decode cX7_marry 14 = .ok (.iload_n 3, 1) := by decide +kernel
theorem dX7_marry_15 : decode cX7_marry 15 = .ok (.ifCond .eq 18, 3) := by decide +kernel
theorem dX7_marry_18 : decode cX7_marry 18 = .ok (.aload_n 0, 1) := by decide +kernel
theorem dX7_marry_19 : decode cX7_marry 19 = .ok (.getfield 10, 3) := by decide +kernel
theorem dX7_marry_22 : decode cX7_marry 22 = .ok (.iload_n 1, 1) := by decide +kernel
theorem dX7_marry_23 : decode cX7_marry 23 = .ok (.iload_n 2, 1) := by decide +kernel
theorem dX7_marry_24 : decode cX7_marry 24 = .ok (.invokevirtual 90, 3) := by decide +kernel
theorem dX7_marry_27 : decode cX7_marry 27 = .ok (.ifCond .ne 21, 3) := by decide +kernel
theorem dX7_marry_30 : decode cX7_marry 30 = .ok (.goto 15, 3) := by decide +kernel
theorem dX7_marry_33 : decode cX7_marry 33 = .ok (.aload_n 0, 1) := by decide +kernel
theorem dX7_marry_34 : decode cX7_marry 34 = .ok (.getfield 10, 3) := by decide +kernel
theorem dX7_marry_37 : decode cX7_marry 37 = .ok (.iload_n 1, 1) := by decide +kernel
theorem dX7_marry_38 : decode cX7_marry 38 = .ok (.iload_n 2, 1) := by decide +kernel
theorem dX7_marry_39 : decode cX7_marry 39 = .ok (.invokevirtual 93, 3) := by decide +kernel
theorem dX7_marry_42 : decode cX7_marry 42 = .ok (.ifCond .ne 6, 3) := by decide +kernel
theorem dX7_marry_45 : decode cX7_marry 45 = .ok (.bipush (-3), 2) := by decide +kernel
theorem dX7_marry_47 : decode cX7_marry 47 = .ok (.ireturn, 1) := by decide +kernel
theorem dX7_marry_48 : decode cX7_marry 48 = .ok (.iload_n 3, 1) := by decide +kernel
theorem dX7_marry_49 : decode cX7_marry 49 = .ok (.ifCond .eq 15, 3) := by decide +kernel
theorem dX7_marry_52 : decode cX7_marry 52 = .ok (.aload_n 0, 1) := by decide +kernel
theorem dX7_marry_53 : decode cX7_marry 53 = .ok (.getfield 10, 3) := by decide +kernel
theorem dX7_marry_56 : decode cX7_marry 56 = .ok (.iload_n 1, 1) := by decide +kernel
theorem dX7_marry_57 : decode cX7_marry 57 = .ok (.iload_n 2, 1) := by decide +kernel
theorem dX7_marry_58 : decode cX7_marry 58 = .ok (.invokevirtual 96, 3) := by decide +kernel
theorem dX7_marry_61 : decode cX7_marry 61 = .ok (.goto 11, 3) := by decide +kernel
theorem dX7_marry_64 : decode cX7_marry 64 = .ok (.aload_n 0, 1) := by decide +kernel
theorem dX7_marry_65 : decode cX7_marry 65 = .ok (.getfield 10, 3) := by decide +kernel
theorem dX7_marry_68 : decode cX7_marry 68 = .ok (.iload_n 1, 1) := by decide +kernel
theorem dX7_marry_69 : decode cX7_marry 69 = .ok (.invokevirtual 100, 3) := by decide +kernel
theorem dX7_marry_72 : decode cX7_marry 72 = .ok (.aload_n 0, 1) := by decide +kernel
theorem dX7_marry_73 : decode cX7_marry 73 = .ok (.getfield 10, 3) := by decide +kernel
theorem dX7_marry_76 : decode cX7_marry 76 = .ok (.invokevirtual 103, 3) := by decide +kernel
theorem dX7_marry_79 : decode cX7_marry 79 = .ok (.ireturn, 1) := by decide +kernel
theorem dX7_limit_0 : decode cX7_limit 0 = .ok (.iload_n 1, 1) := by decide +kernel
theorem dX7_limit_1 : decode cX7_limit 1 = .ok (.iconst 0, 1) := by decide +kernel
theorem dX7_limit_2 : decode cX7_limit 2 = .ok (.bipush 99, 2) := by decide +kernel
theorem dX7_limit_4 : decode cX7_limit 4 = .ok (.invokestatic 66, 3) := by decide +kernel
theorem dX7_limit_7 : decode cX7_limit 7 = .ok (.ifCond .ne 6, 3) := by decide +kernel
theorem dX7_limit_10 : decode cX7_limit 10 = .ok (.bipush (-2), 2) := by decide +kernel
theorem dX7_limit_12 : decode cX7_limit 12 = .ok (.ireturn, 1) := by decide +kernel
theorem dX7_limit_13 : decode cX7_limit 13 = .ok (.aload_n 0, 1) := by decide +kernel
theorem dX7_limit_14 : decode cX7_limit 14 = .ok (.getfield 10, 3) := by decide +kernel
theorem dX7_limit_17 : decode cX7_limit 17 = .ok (.getfield 106, 3) := by decide +kernel
theorem dX7_limit_20 : decode cX7_limit 20 = .ok (.istore_n 2, 1) := by decide +kernel
theorem dX7_limit_21 : decode cX7_limit 21 = .ok (.aload_n 0, 1) := by decide +kernel
theorem dX7_limit_22 : decode cX7_limit 22 = .ok (.getfield 10, 3) := by decide +kernel
theorem dX7_limit_25 : decode cX7_limit 25 = .ok (.iload_n 1, 1) := by decide +kernel
theorem dX7_limit_26 : decode cX7_limit 26 = .ok (.putfield 106, 3) := by decide +kernel
theorem dX7_limit_29 : decode cX7_limit 29 = .ok (.iload_n 2, 1) := by decide +kernel
theorem dX7_limit_30 : decode cX7_limit 30 = .ok (.ireturn, 1) := by decide +kernel
theorem dX7_say_0 : decode cX7_say 0 = .ok (.iload_n 1, 1) := by decide +kernel
theorem dX7_say_1 : decode cX7_say 1 = .ok (.bipush 33, 2) := by decide +kernel
theorem dX7_say_3 : decode cX7_say 3 = .ok (.bipush 126, 2) := by decide +kernel
theorem dX7_say_5 : decode cX7_say 5 = .ok (.invokestatic 66, 3) := by decide +kernel
theorem dX7_say_8 : decode cX7_say 8 = .ok (.ifCond .ne 6, 3) := by decide +kernel
theorem dX7_say_11 : decode cX7_say 11 = .ok (.bipush (-2), 2) := by decide +kernel
theorem dX7_say_13 : decode cX7_say 13 = .ok (.ireturn, 1) := by decide +kernel
theorem dX7_say_14 : decode cX7_say 14 = .ok (.aload_n 0, 1) := by decide +kernel
theorem dX7_say_15 : decode cX7_say 15 = .ok (.getfield 27, 3) := by decide +kernel
theorem dX7_say_18 : decode cX7_say 18 = .ok (.iload_n 1, 1) := by decide +kernel
theorem dX7_say_19 : decode cX7_say 19 = .ok (.invokevirtual 110, 3) := by decide +kernel
theorem dX7_say_22 : decode cX7_say 22 = .ok (.ifCond .eq 13, 3) := by decide +kernel
theorem dX7_say_25 : decode cX7_say 25 = .ok (.aload_n 0, 1) := by decide +kernel
theorem dX7_say_26 : decode cX7_say 26 = .ok (.getfield 27, 3) := by decide +kernel
theorem dX7_say_29 : decode cX7_say 29 = .ok (.getfield 113, 3) := by decide +kernel
theorem dX7_say_32 : decode cX7_say 32 = .ok (.goto 5, 3) := by decide +kernel
theorem dX7_say_35 : decode cX7_say 35 = .ok (.bipush (-4), 2) := by decide +kernel
theorem dX7_say_37 : decode cX7_say 37 = .ok (.ireturn, 1) := by decide +kernel
theorem dX7_wipe_0 : decode cX7_wipe 0 = .ok (.aload_n 0, 1) := by decide +kernel
theorem dX7_wipe_1 : decode cX7_wipe 1 = .ok (.getfield 27, 3) := by decide +kernel
theorem dX7_wipe_4 : decode cX7_wipe 4 = .ok (.getfield 113, 3) := by decide +kernel
theorem dX7_wipe_7 : decode cX7_wipe 7 = .ok (.istore_n 1, 1) := by decide +kernel
theorem dX7_wipe_8 : decode cX7_wipe 8 = .ok (.aload_n 0, 1) := by decide +kernel
theorem dX7_wipe_9 : decode cX7_wipe 9 = .ok (.getfield 27, 3) := by decide +kernel
theorem dX7_wipe_12 : decode cX7_wipe 12 = .ok (.iconst 0, 1) := by decide +kernel
theorem dX7_wipe_13 : decode cX7_wipe 13 = .ok (.putfield 113, 3) := by decide +kernel
theorem dX7_wipe_16 : decode cX7_wipe 16 = .ok (.iload_n 1, 1) := by decide +kernel
theorem dX7_wipe_17 : decode cX7_wipe 17 = .ok (.ireturn, 1) := by decide +kernel
theorem dX7_fault_0 : decode cX7_fault 0 = .ok (.aload_n 0, 1) := by decide +kernel
theorem dX7_fault_1 : decode cX7_fault 1 = .ok (.getfield 27, 3) := by decide +kernel
theorem dX7_fault_4 : decode cX7_fault 4 = .ok (.invokevirtual 116, 3) := by decide +kernel
theorem dX7_fault_7 : decode cX7_fault 7 = .ok (.ireturn, 1) := by decide +kernel
theorem dX7_judge_0 : decode cX7_judge 0 = .ok (.iload_n 1, 1) := by decide +kernel
theorem dX7_judge_1 : decode cX7_judge 1 = .ok (.iconst 0, 1) := by decide +kernel
theorem dX7_judge_2 : decode cX7_judge 2 = .ok (.iconst 5, 1) := by decide +kernel
theorem dX7_judge_3 : decode cX7_judge 3 = .ok (.invokestatic 66, 3) := by decide +kernel
theorem dX7_judge_6 : decode cX7_judge 6 = .ok (.ifCond .ne 6, 3) := by decide +kernel
theorem dX7_judge_9 : decode cX7_judge 9 = .ok (.bipush (-2), 2) := by decide +kernel
theorem dX7_judge_11 : decode cX7_judge 11 = .ok (.ireturn, 1) := by decide +kernel
theorem dX7_judge_12 : decode cX7_judge 12 = .ok (.aload_n 0, 1) := by decide +kernel
theorem dX7_judge_13 : decode cX7_judge 13 = .ok (.invokevirtual 119, 3) := by decide +kernel
theorem dX7_judge_16 : decode cX7_judge 16 = .ok (.istore_n 2, 1) := by decide +kernel
theorem dX7_judge_17 : decode cX7_judge 17 = .ok (.iload_n 2, 1) := by decide +kernel
theorem dX7_judge_18 : decode cX7_judge 18 = .ok (.bipush (-5), 2) := by decide +kernel
theorem dX7_judge_20 : decode cX7_judge 20 = .ok (.if_icmp .eq 14, 3) := by decide +kernel
theorem dX7_judge_23 : decode cX7_judge 23 = .ok (.iload_n 2, 1) := by decide +kernel
theorem dX7_judge_24 : decode cX7_judge 24 = .ok (.bipush (-3), 2) := by decide +kernel
theorem dX7_judge_26 : decode cX7_judge 26 = .ok (.if_icmp .ne 10, 3) := by decide +kernel
theorem dX7_judge_29 : decode cX7_judge 29 = .ok (.iload_n 1, 1) := by decide +kernel
theorem dX7_judge_30 : decode cX7_judge 30 = .ok (.iconst 2, 1) := by decide +kernel
theorem dX7_judge_31 : decode cX7_judge 31 = .ok (.if_icmp .lt 5, 3) := by decide +kernel
theorem dX7_judge_34 : decode cX7_judge 34 = .ok (.iload_n 2, 1) := by decide +kernel
theorem dX7_judge_35 : decode cX7_judge 35 = .ok (.ireturn, 1) := by decide +kernel
theorem dX7_judge_36 : decode cX7_judge 36 = .ok (.aload_n 0, 1) := by decide +kernel
theorem dX7_judge_37 : decode cX7_judge 37 = .ok (.getfield 34, 3) := by decide +kernel
theorem dX7_judge_40 : decode cX7_judge 40 = .ok (.iload_n 1, 1) := by decide +kernel
theorem dX7_judge_41 : decode cX7_judge 41 = .ok (.invokevirtual 122, 3) := by decide +kernel
theorem dX7_judge_44 : decode cX7_judge 44 = .ok (.ireturn, 1) := by decide +kernel
theorem dX7_behind_0 : decode cX7_behind 0 = .ok (.aload_n 0, 1) := by decide +kernel
theorem dX7_behind_1 : decode cX7_behind 1 = .ok (.getfield 10, 3) := by decide +kernel
theorem dX7_behind_4 : decode cX7_behind 4 = .ok (.iload_n 1, 1) := by decide +kernel
theorem dX7_behind_5 : decode cX7_behind 5 = .ok (.invokevirtual 78, 3) := by decide +kernel
theorem dX7_behind_8 : decode cX7_behind 8 = .ok (.ifCond .ne 5, 3) := by decide +kernel
theorem dX7_behind_11 : decode cX7_behind 11 = .ok (.iconst (-1), 1) := by decide +kernel
theorem dX7_behind_12 : decode cX7_behind 12 = .ok (.ireturn, 1) := by decide +kernel
theorem dX7_behind_13 : decode cX7_behind 13 = .ok (.iload_n 2, 1) := by decide +kernel
theorem dX7_behind_14 : decode cX7_behind 14 = .ok (.iconst 0, 1) := by decide +kernel
theorem dX7_behind_15 : decode cX7_behind 15 = .ok (.iconst 2, 1) := by decide +kernel
theorem dX7_behind_16 : decode cX7_behind 16 = .ok (.invokestatic 66, 3) := by decide +kernel
theorem dX7_behind_19 : decode cX7_behind 19 = .ok (.ifCond .ne 6, 3) := by decide +kernel
theorem dX7_behind_22 : decode cX7_behind 22 = .ok (.bipush (-2), 2) := by decide +kernel
theorem dX7_behind_24 : decode cX7_behind 24 = .ok (.ireturn, 1) := by decide +kernel
theorem dX7_behind_25 : decode cX7_behind 25 = .ok (.aload_n 0, 1) := by decide +kernel
theorem dX7_behind_26 : decode cX7_behind 26 = .ok (.invokevirtual 119, 3) := by decide +kernel
theorem dX7_behind_29 : decode cX7_behind 29 = .ok (.istore_n 3, 1) := by decide +kernel
theorem dX7_behind_30 : decode cX7_behind 30 = .ok (.iload_n 3, 1) := by decide +kernel
theorem dX7_behind_31 : decode cX7_behind 31 = .ok (.ifCond .eq 5, 3) := by decide +kernel
theorem dX7_behind_34 : decode cX7_behind 34 = .ok (.iload_n 3, 1) := by decide +kernel
theorem dX7_behind_35 : decode cX7_behind 35 = .ok (.ireturn, 1) := by decide +kernel
theorem dX7_behind_36 : decode cX7_behind 36 = .ok (.aload_n 0, 1) := by decide +kernel
theorem dX7_behind_37 : decode cX7_behind 37 = .ok (.getfield 34, 3) := by decide +kernel
theorem dX7_behind_40 : decode cX7_behind 40 = .ok (.getfield 126, 3) := by decide +kernel
theorem dX7_behind_43 : decode cX7_behind 43 = .ok (.astore 4, 2) := by decide +kernel
theorem dX7_behind_45 : decode cX7_behind 45 = .ok (.iload_n 2, 1) := by decide +kernel
theorem dX7_behind_46 : decode cX7_behind 46 = .ok (.ifCond .ne 12, 3) := by decide +kernel
theorem dX7_behind_49 : decode cX7_behind 49 = .ok (.aload 4, 2) := by decide +kernel
theorem dX7_behind_51 : decode cX7_behind 51 = .ok (.iload_n 1, 1) := by decide +kernel
theorem dX7_behind_52 : decode cX7_behind 52 = .ok (.invokevirtual 129, 3) := by decide +kernel
theorem dX7_behind_55 : decode cX7_behind 55 = .ok (.goto 23, 3) := by decide +kernel
theorem dX7_behind_58 : decode cX7_behind 58 = .ok (.iload_n 2, 1) := by decide +kernel
theorem dX7_behind_59 : decode cX7_behind 59 = .ok (.iconst 1, 1) := by decide +kernel
theorem dX7_behind_60 : decode cX7_behind 60 = .ok (.if_icmp .ne 13, 3) := by decide +kernel
theorem dX7_behind_63 : decode cX7_behind 63 = .ok (.aload 4, 2) := by decide +kernel
theorem dX7_behind_65 : decode cX7_behind 65 = .ok (.getfield 132, 3) := by decide +kernel
theorem dX7_behind_68 : decode cX7_behind 68 = .ok (.iload_n 1, 1) := by decide +kernel
theorem dX7_behind_69 : decode cX7_behind 69 = .ok (.iaload, 1) := by decide +kernel
theorem dX7_behind_70 : decode cX7_behind 70 = .ok (.goto 8, 3) := by decide +kernel
theorem dX7_behind_73 : decode cX7_behind 73 = .ok (.aload 4, 2) := by decide +kernel
theorem dX7_behind_75 : decode cX7_behind 75 = .ok (.getfield 136, 3) := by decide +kernel
theorem dX7_behind_78 : decode cX7_behind 78 = .ok (.ireturn, 1) := by decide +kernel
theorem dX7_done_0 : decode cX7_done 0 = .ok (.aload_n 0, 1) := by decide +kernel
theorem dX7_done_1 : decode cX7_done 1 = .ok (.invokevirtual 119, 3) := by decide +kernel
theorem dX7_done_4 : decode cX7_done 4 = .ok (.istore_n 1, 1) := by decide +kernel
theorem dX7_done_5 : decode cX7_done 5 = .ok (.iload_n 1, 1) := by decide +kernel
theorem dX7_done_6 : decode cX7_done 6 = .ok (.ifCond .eq 5, 3) := by decide +kernel
theorem dX7_done_9 : decode cX7_done 9 = .ok (.iload_n 1, 1) := by decide +kernel
theorem dX7_done_10 : decode cX7_done 10 = .ok (.ireturn, 1) := by decide +kernel
theorem dX7_done_11 : decode cX7_done 11 = .ok (.aload_n 0, 1) := by decide +kernel
theorem dX7_done_12 : decode cX7_done 12 = .ok (.getfield 10, 3) := by decide +kernel
theorem dX7_done_15 : decode cX7_done 15 = .ok (.aload_n 0, 1) := by decide +kernel
theorem dX7_done_16 : decode cX7_done 16 = .ok (.getfield 34, 3) := by decide +kernel
theorem dX7_done_19 : decode cX7_done 19 = .ok (.getfield 126, 3) := by decide +kernel
theorem dX7_done_22 : decode cX7_done 22 = .ok (.invokevirtual 139, 3) := by decide +kernel
theorem dX7_done_25 : decode cX7_done 25 = .ok (.aload_n 0, 1) := by decide +kernel
theorem dX7_done_26 : decode cX7_done 26 = .ok (.getfield 27, 3) := by decide +kernel
theorem dX7_done_29 : decode cX7_done 29 = .ok (.iconst 0, 1) := by decide +kernel
theorem dX7_done_30 : decode cX7_done 30 = .ok (.putfield 113, 3) := by decide +kernel
theorem dX7_done_33 : decode cX7_done 33 = .ok (.aload_n 0, 1) := by decide +kernel
theorem dX7_done_34 : decode cX7_done 34 = .ok (.getfield 34, 3) := by decide +kernel
theorem dX7_done_37 : decode cX7_done 37 = .ok (.getfield 143, 3) := by decide +kernel
theorem dX7_done_40 : decode cX7_done 40 = .ok (.ireturn, 1) := by decide +kernel
theorem dX7_weighs_0 : decode cX7_weighs 0 = .ok (.aload_n 0, 1) := by decide +kernel
theorem dX7_weighs_1 : decode cX7_weighs 1 = .ok (.getfield 10, 3) := by decide +kernel
theorem dX7_weighs_4 : decode cX7_weighs 4 = .ok (.iload_n 1, 1) := by decide +kernel
theorem dX7_weighs_5 : decode cX7_weighs 5 = .ok (.invokevirtual 78, 3) := by decide +kernel
theorem dX7_weighs_8 : decode cX7_weighs 8 = .ok (.ifCond .eq 14, 3) := by decide +kernel
theorem dX7_weighs_11 : decode cX7_weighs 11 = .ok (.aload_n 0, 1) := by decide +kernel
theorem dX7_weighs_12 : decode cX7_weighs 12 = .ok (.getfield 10, 3) := by decide +kernel
theorem dX7_weighs_15 : decode cX7_weighs 15 = .ok (.iload_n 1, 1) := by decide +kernel
theorem dX7_weighs_16 : decode cX7_weighs 16 = .ok (.invokevirtual 129, 3) := by decide +kernel
theorem dX7_weighs_19 : decode cX7_weighs 19 = .ok (.goto 4, 3) := by decide +kernel
theorem dX7_weighs_22 : decode cX7_weighs 22 = .ok (.iconst (-1), 1) := by decide +kernel
theorem dX7_weighs_23 : decode cX7_weighs 23 = .ok (.ireturn, 1) := by decide +kernel
theorem dX7_off_0 : decode cX7_off 0 = .ok (.aload_n 0, 1) := by decide +kernel
theorem dX7_off_1 : decode cX7_off 1 = .ok (.getfield 10, 3) := by decide +kernel
theorem dX7_off_4 : decode cX7_off 4 = .ok (.iload_n 1, 1) := by decide +kernel
theorem dX7_off_5 : decode cX7_off 5 = .ok (.invokevirtual 78, 3) := by decide +kernel
theorem dX7_off_8 : decode cX7_off 8 = .ok (.ifCond .eq 28, 3) := by decide +kernel
theorem dX7_off_11 : decode cX7_off 11 = .ok (.aload_n 0, 1) := by decide +kernel
theorem dX7_off_12 : decode cX7_off 12 = .ok (.getfield 10, 3) := by decide +kernel
theorem dX7_off_15 : decode cX7_off 15 = .ok (.iload_n 1, 1) := by decide +kernel
theorem dX7_off_16 : decode cX7_off 16 = .ok (.invokevirtual 129, 3) := by decide +kernel
theorem dX7_off_19 : decode cX7_off 19 = .ok (.aload_n 0, 1) := by decide +kernel
theorem dX7_off_20 : decode cX7_off 20 = .ok (.getfield 10, 3) := by decide +kernel
theorem dX7_off_23 : decode cX7_off 23 = .ok (.getfield 146, 3) := by decide +kernel
theorem dX7_off_26 : decode cX7_off 26 = .ok (.iload_n 1, 1) := by decide +kernel
theorem dX7_off_27 : decode cX7_off 27 = .ok (.iaload, 1) := by decide +kernel
theorem dX7_off_28 : decode cX7_off 28 = .ok (.isub, 1) := by decide +kernel
theorem dX7_off_29 : decode cX7_off 29 = .ok (.sipush 1000, 3) := by decide +kernel
theorem dX7_off_32 : decode cX7_off 32 = .ok (.iadd, 1) := by decide +kernel
theorem dX7_off_33 : decode cX7_off 33 = .ok (.goto 4, 3) := by decide +kernel
theorem dX7_off_36 : decode cX7_off 36 = .ok (.iconst (-1), 1) := by decide +kernel
theorem dX7_off_37 : decode cX7_off 37 = .ok (.ireturn, 1) := by decide +kernel
theorem dX7_out_0 : decode cX7_out 0 = .ok (.aload_n 0, 1) := by decide +kernel
theorem dX7_out_1 : decode cX7_out 1 = .ok (.getfield 10, 3) := by decide +kernel
theorem dX7_out_4 : decode cX7_out 4 = .ok (.iload_n 1, 1) := by decide +kernel
theorem dX7_out_5 : decode cX7_out 5 = .ok (.invokevirtual 78, 3) := by decide +kernel
theorem dX7_out_8 : decode cX7_out 8 = .ok (.ifCond .eq 14, 3) := by decide +kernel
theorem dX7_out_11 : decode cX7_out 11 = .ok (.aload_n 0, 1) := by decide +kernel
theorem dX7_out_12 : decode cX7_out 12 = .ok (.getfield 10, 3) := by decide +kernel
theorem dX7_out_15 : decode cX7_out 15 = .ok (.iload_n 1, 1) := by decide +kernel
theorem dX7_out_16 : decode cX7_out 16 = .ok (.invokevirtual 149, 3) := by decide +kernel
theorem dX7_out_19 : decode cX7_out 19 = .ok (.goto 4, 3) := by decide +kernel
theorem dX7_out_22 : decode cX7_out 22 = .ok (.iconst (-1), 1) := by decide +kernel
theorem dX7_out_23 : decode cX7_out 23 = .ok (.ireturn, 1) := by decide +kernel
theorem dX7_even_0 : decode cX7_even 0 = .ok (.aload_n 0, 1) := by decide +kernel
theorem dX7_even_1 : decode cX7_even 1 = .ok (.getfield 10, 3) := by decide +kernel
theorem dX7_even_4 : decode cX7_even 4 = .ok (.iload_n 1, 1) := by decide +kernel
theorem dX7_even_5 : decode cX7_even 5 = .ok (.iload_n 2, 1) := by decide +kernel
theorem dX7_even_6 : decode cX7_even 6 = .ok (.invokevirtual 86, 3) := by decide +kernel
theorem dX7_even_9 : decode cX7_even 9 = .ok (.ifCond .eq 15, 3) := by decide +kernel
theorem dX7_even_12 : decode cX7_even 12 = .ok (.aload_n 0, 1) := by decide +kernel
theorem dX7_even_13 : decode cX7_even 13 = .ok (.getfield 10, 3) := by decide +kernel
theorem dX7_even_16 : decode cX7_even 16 = .ok (.iload_n 1, 1) := by decide +kernel
theorem dX7_even_17 : decode cX7_even 17 = .ok (.iload_n 2, 1) := by decide +kernel
theorem dX7_even_18 : decode cX7_even 18 = .ok (.invokevirtual 152, 3) := by decide +kernel
theorem dX7_even_21 : decode cX7_even 21 = .ok (.goto 4, 3) := by decide +kernel
theorem dX7_even_24 : decode cX7_even 24 = .ok (.iconst (-1), 1) := by decide +kernel
theorem dX7_even_25 : decode cX7_even 25 = .ok (.ireturn, 1) := by decide +kernel
theorem dX7_make_0 : decode cX7_make 0 = .ok (.iload_n 1, 1) := by decide +kernel
theorem dX7_make_1 : decode cX7_make 1 = .ok (.iconst 1, 1) := by decide +kernel
theorem dX7_make_2 : decode cX7_make 2 = .ok (.sipush 999, 3) := by decide +kernel
theorem dX7_make_5 : decode cX7_make 5 = .ok (.invokestatic 66, 3) := by decide +kernel
theorem dX7_make_8 : decode cX7_make 8 = .ok (.ifCond .eq 12, 3) := by decide +kernel
theorem dX7_make_11 : decode cX7_make 11 = .ok (.iload_n 3, 1) := by decide +kernel
theorem dX7_make_12 : decode cX7_make 12 = .ok (.iconst 0, 1) := by decide +kernel
theorem dX7_make_13 : decode cX7_make 13 = .ok (.iconst 2, 1) := by decide +kernel
theorem dX7_make_14 : decode cX7_make 14 = .ok (.invokestatic 66, 3) := by decide +kernel
theorem dX7_make_17 : decode cX7_make 17 = .ok (.ifCond .ne 6, 3) := by decide +kernel
theorem dX7_make_20 : decode cX7_make 20 = .ok (.bipush (-2), 2) := by decide +kernel
theorem dX7_make_22 : decode cX7_make 22 = .ok (.ireturn, 1) := by decide +kernel
theorem dX7_make_23 : decode cX7_make 23 = .ok (.aload_n 0, 1) := by decide +kernel
theorem dX7_make_24 : decode cX7_make 24 = .ok (.getfield 41, 3) := by decide +kernel
theorem dX7_make_27 : decode cX7_make 27 = .ok (.aload_n 0, 1) := by decide +kernel
theorem dX7_make_28 : decode cX7_make 28 = .ok (.getfield 10, 3) := by decide +kernel
theorem dX7_make_31 : decode cX7_make 31 = .ok (.iload_n 2, 1) := by decide +kernel
theorem dX7_make_32 : decode cX7_make 32 = .ok (.iload_n 1, 1) := by decide +kernel
theorem dX7_make_33 : decode cX7_make 33 = .ok (.invokevirtual 156, 3) := by decide +kernel
theorem dX7_make_36 : decode cX7_make 36 = .ok (.iload_n 3, 1) := by decide +kernel
theorem dX7_make_37 : decode cX7_make 37 = .ok (.ifCond .ne 13, 3) := by decide +kernel
theorem dX7_make_40 : decode cX7_make 40 = .ok (.aload_n 0, 1) := by decide +kernel
theorem dX7_make_41 : decode cX7_make 41 = .ok (.getfield 41, 3) := by decide +kernel
theorem dX7_make_44 : decode cX7_make 44 = .ok (.getfield 160, 3) := by decide +kernel
theorem dX7_make_47 : decode cX7_make 47 = .ok (.goto 25, 3) := by decide +kernel
theorem dX7_make_50 : decode cX7_make 50 = .ok (.iload_n 3, 1) := by decide +kernel
theorem dX7_make_51 : decode cX7_make 51 = .ok (.iconst 1, 1) := by decide +kernel
theorem dX7_make_52 : decode cX7_make 52 = .ok (.if_icmp .ne 13, 3) := by decide +kernel
theorem dX7_make_55 : decode cX7_make 55 = .ok (.aload_n 0, 1) := by decide +kernel
theorem dX7_make_56 : decode cX7_make 56 = .ok (.getfield 41, 3) := by decide +kernel
theorem dX7_make_59 : decode cX7_make 59 = .ok (.getfield 163, 3) := by decide +kernel
theorem dX7_make_62 : decode cX7_make 62 = .ok (.goto 10, 3) := by decide +kernel
theorem dX7_make_65 : decode cX7_make 65 = .ok (.aload_n 0, 1) := by decide +kernel
theorem dX7_make_66 : decode cX7_make 66 = .ok (.getfield 41, 3) := by decide +kernel
theorem dX7_make_69 : decode cX7_make 69 = .ok (.getfield 166, 3) := by decide +kernel
theorem dX7_make_72 : decode cX7_make 72 = .ok (.ireturn, 1) := by decide +kernel
theorem dX7_near_0 : decode cX7_near 0 = .ok (.iload_n 1, 1) := by decide +kernel
theorem dX7_near_1 : decode cX7_near 1 = .ok (.iconst 1, 1) := by decide +kernel
theorem dX7_near_2 : decode cX7_near 2 = .ok (.sipush 999, 3) := by decide +kernel
theorem dX7_near_5 : decode cX7_near 5 = .ok (.invokestatic 66, 3) := by decide +kernel
theorem dX7_near_8 : decode cX7_near 8 = .ok (.ifCond .ne 6, 3) := by decide +kernel
theorem dX7_near_11 : decode cX7_near 11 = .ok (.bipush (-2), 2) := by decide +kernel
theorem dX7_near_13 : decode cX7_near 13 = .ok (.ireturn, 1) := by decide +kernel
theorem dX7_near_14 : decode cX7_near 14 = .ok (.aload_n 0, 1) := by decide +kernel
theorem dX7_near_15 : decode cX7_near 15 = .ok (.getfield 41, 3) := by decide +kernel
theorem dX7_near_18 : decode cX7_near 18 = .ok (.aload_n 0, 1) := by decide +kernel
theorem dX7_near_19 : decode cX7_near 19 = .ok (.getfield 10, 3) := by decide +kernel
theorem dX7_near_22 : decode cX7_near 22 = .ok (.iload_n 2, 1) := by decide +kernel
theorem dX7_near_23 : decode cX7_near 23 = .ok (.iload_n 1, 1) := by decide +kernel
theorem dX7_near_24 : decode cX7_near 24 = .ok (.invokevirtual 156, 3) := by decide +kernel
theorem dX7_near_27 : decode cX7_near 27 = .ok (.aload_n 0, 1) := by decide +kernel
theorem dX7_near_28 : decode cX7_near 28 = .ok (.getfield 41, 3) := by decide +kernel
theorem dX7_near_31 : decode cX7_near 31 = .ok (.getfield 169, 3) := by decide +kernel
theorem dX7_near_34 : decode cX7_near 34 = .ok (.ireturn, 1) := by decide +kernel
theorem dX7_gap_0 : decode cX7_gap 0 = .ok (.aload_n 0, 1) := by decide +kernel
theorem dX7_gap_1 : decode cX7_gap 1 = .ok (.getfield 41, 3) := by decide +kernel
theorem dX7_gap_4 : decode cX7_gap 4 = .ok (.aload_n 0, 1) := by decide +kernel
theorem dX7_gap_5 : decode cX7_gap 5 = .ok (.getfield 10, 3) := by decide +kernel
theorem dX7_gap_8 : decode cX7_gap 8 = .ok (.iload_n 1, 1) := by decide +kernel
theorem dX7_gap_9 : decode cX7_gap 9 = .ok (.iconst 1, 1) := by decide +kernel
theorem dX7_gap_10 : decode cX7_gap 10 = .ok (.invokevirtual 156, 3) := by decide +kernel
theorem dX7_gap_13 : decode cX7_gap 13 = .ok (.aload_n 0, 1) := by decide +kernel
theorem dX7_gap_14 : decode cX7_gap 14 = .ok (.getfield 41, 3) := by decide +kernel
theorem dX7_gap_17 : decode cX7_gap 17 = .ok (.invokevirtual 172, 3) := by decide +kernel
theorem dX7_gap_20 : decode cX7_gap 20 = .ok (.ireturn, 1) := by decide +kernel
theorem dX7_assize_0 : decode cX7_assize 0 = .ok (.iload_n 1, 1) := by decide +kernel
theorem dX7_assize_1 : decode cX7_assize 1 = .ok (.iconst (-1), 1) := by decide +kernel
theorem dX7_assize_2 : decode cX7_assize 2 = .ok (.if_icmp .ne 13, 3) := by decide +kernel
theorem dX7_assize_5 : decode cX7_assize 5 = .ok (.aload_n 0, 1) := by decide +kernel
theorem dX7_assize_6 : decode cX7_assize 6 = .ok (.getfield 10, 3) := by decide +kernel
theorem dX7_assize_9 : decode cX7_assize 9 = .ok (.invokevirtual 74, 3) := by decide +kernel
theorem dX7_assize_12 : decode cX7_assize 12 = .ok (.goto 11, 3) := by decide +kernel
theorem dX7_assize_15 : decode cX7_assize 15 = .ok (.aload_n 0, 1) := by decide +kernel
theorem dX7_assize_16 : decode cX7_assize 16 = .ok (.getfield 10, 3) := by decide +kernel
theorem dX7_assize_19 : decode cX7_assize 19 = .ok (.iload_n 1, 1) := by decide +kernel
theorem dX7_assize_20 : decode cX7_assize 20 = .ok (.invokevirtual 175, 3) := by decide +kernel
theorem dX7_assize_23 : decode cX7_assize 23 = .ok (.ireturn, 1) := by decide +kernel
theorem dX7_just_0 : decode cX7_just 0 = .ok (.aload_n 0, 1) := by decide +kernel
theorem dX7_just_1 : decode cX7_just 1 = .ok (.getfield 10, 3) := by decide +kernel
theorem dX7_just_4 : decode cX7_just 4 = .ok (.invokevirtual 178, 3) := by decide +kernel
theorem dX7_just_7 : decode cX7_just 7 = .ok (.ireturn, 1) := by decide +kernel
theorem dX7_price_0 : decode cX7_price 0 = .ok (.aload_n 0, 1) := by decide +kernel
theorem dX7_price_1 : decode cX7_price 1 = .ok (.getfield 10, 3) := by decide +kernel
theorem dX7_price_4 : decode cX7_price 4 = .ok (.iload_n 2, 1) := by decide +kernel
theorem dX7_price_5 : decode cX7_price 5 = .ok (.invokevirtual 181, 3) := by decide +kernel
theorem dX7_price_8 : decode cX7_price 8 = .ok (.ifCond .ne 5, 3) := by decide +kernel
theorem dX7_price_11 : decode cX7_price 11 = .ok (.iconst (-1), 1) := by decide +kernel
theorem dX7_price_12 : decode cX7_price 12 = .ok (.ireturn, 1) := by decide +kernel
theorem dX7_price_13 : decode cX7_price 13 = .ok (.iload_n 1, 1) := by decide +kernel
theorem dX7_price_14 : decode cX7_price 14 = .ok (.iconst 1, 1) := by decide +kernel
theorem dX7_price_15 : decode cX7_price 15 = .ok (.sipush 999, 3) := by decide +kernel
theorem dX7_price_18 : decode cX7_price 18 = .ok (.invokestatic 66, 3) := by decide +kernel
theorem dX7_price_21 : decode cX7_price 21 = .ok (.ifCond .eq 12, 3) := by decide +kernel
theorem dX7_price_24 : decode cX7_price 24 = .ok (.iload_n 3, 1) := by decide +kernel
theorem dX7_price_25 : decode cX7_price 25 = .ok (.iconst 0, 1) := by decide +kernel
theorem dX7_price_26 : decode cX7_price 26 = .ok (.iconst 1, 1) := by decide +kernel
theorem dX7_price_27 : decode cX7_price 27 = .ok (.invokestatic 66, 3) := by decide +kernel
theorem dX7_price_30 : decode cX7_price 30 = .ok (.ifCond .ne 6, 3) := by decide +kernel
theorem dX7_price_33 : decode cX7_price 33 = .ok (.bipush (-2), 2) := by decide +kernel
theorem dX7_price_35 : decode cX7_price 35 = .ok (.ireturn, 1) := by decide +kernel
theorem dX7_price_36 : decode cX7_price 36 = .ok (.aload_n 0, 1) := by decide +kernel
theorem dX7_price_37 : decode cX7_price 37 = .ok (.getfield 10, 3) := by decide +kernel
theorem dX7_price_40 : decode cX7_price 40 = .ok (.iload_n 2, 1) := by decide +kernel
theorem dX7_price_41 : decode cX7_price 41 = .ok (.invokevirtual 184, 3) := by decide +kernel
theorem dX7_price_44 : decode cX7_price 44 = .ok (.ifCond .ne 6, 3) := by decide +kernel
theorem dX7_price_47 : decode cX7_price 47 = .ok (.bipush (-3), 2) := by decide +kernel
theorem dX7_price_49 : decode cX7_price 49 = .ok (.ireturn, 1) := by decide +kernel
theorem dX7_price_50 : decode cX7_price 50 = .ok (.aload_n 0, 1) := by decide +kernel
theorem dX7_price_51 : decode cX7_price 51 = .ok (.getfield 41, 3) := by decide +kernel
theorem dX7_price_54 : decode cX7_price 54 = .ok (.aload_n 0, 1) := by decide +kernel
theorem dX7_price_55 : decode cX7_price 55 = .ok (.getfield 10, 3) := by decide +kernel
theorem dX7_price_58 : decode cX7_price 58 = .ok (.iload_n 1, 1) := by decide +kernel
theorem dX7_price_59 : decode cX7_price 59 = .ok (.iload_n 2, 1) := by decide +kernel
theorem dX7_price_60 : decode cX7_price 60 = .ok (.invokevirtual 187, 3) := by decide +kernel
theorem dX7_price_63 : decode cX7_price 63 = .ok (.iload_n 3, 1) := by decide +kernel
theorem dX7_price_64 : decode cX7_price 64 = .ok (.ifCond .ne 13, 3) := by decide +kernel
theorem dX7_price_67 : decode cX7_price 67 = .ok (.aload_n 0, 1) := by decide +kernel
theorem dX7_price_68 : decode cX7_price 68 = .ok (.getfield 41, 3) := by decide +kernel
theorem dX7_price_71 : decode cX7_price 71 = .ok (.getfield 191, 3) := by decide +kernel
theorem dX7_price_74 : decode cX7_price 74 = .ok (.goto 10, 3) := by decide +kernel
theorem dX7_price_77 : decode cX7_price 77 = .ok (.aload_n 0, 1) := by decide +kernel
theorem dX7_price_78 : decode cX7_price 78 = .ok (.getfield 41, 3) := by decide +kernel
theorem dX7_price_81 : decode cX7_price 81 = .ok (.getfield 194, 3) := by decide +kernel
theorem dX7_price_84 : decode cX7_price 84 = .ok (.ireturn, 1) := by decide +kernel
theorem dX7_seen_0 : decode cX7_seen 0 = .ok (.aload_n 0, 1) := by decide +kernel
theorem dX7_seen_1 : decode cX7_seen 1 = .ok (.getfield 10, 3) := by decide +kernel
theorem dX7_seen_4 : decode cX7_seen 4 = .ok (.iload_n 1, 1) := by decide +kernel
theorem dX7_seen_5 : decode cX7_seen 5 = .ok (.iload_n 2, 1) := by decide +kernel
theorem dX7_seen_6 : decode cX7_seen 6 = .ok (.invokevirtual 197, 3) := by decide +kernel
theorem dX7_seen_9 : decode cX7_seen 9 = .ok (.ifCond .ne 5, 3) := by decide +kernel
theorem dX7_seen_12 : decode cX7_seen 12 = .ok (.iconst (-1), 1) := by decide +kernel
theorem dX7_seen_13 : decode cX7_seen 13 = .ok (.ireturn, 1) := by decide +kernel
theorem dX7_seen_14 : decode cX7_seen 14 = .ok (.iload_n 3, 1) := by decide +kernel
theorem dX7_seen_15 : decode cX7_seen 15 = .ok (.iconst 0, 1) := by decide +kernel
theorem dX7_seen_16 : decode cX7_seen 16 = .ok (.iconst 2, 1) := by decide +kernel
theorem dX7_seen_17 : decode cX7_seen 17 = .ok (.invokestatic 66, 3) := by decide +kernel
theorem dX7_seen_20 : decode cX7_seen 20 = .ok (.ifCond .ne 6, 3) := by decide +kernel
theorem dX7_seen_23 : decode cX7_seen 23 = .ok (.bipush (-2), 2) := by decide +kernel
theorem dX7_seen_25 : decode cX7_seen 25 = .ok (.ireturn, 1) := by decide +kernel
theorem dX7_seen_26 : decode cX7_seen 26 = .ok (.aload_n 0, 1) := by decide +kernel
theorem dX7_seen_27 : decode cX7_seen 27 = .ok (.getfield 10, 3) := by decide +kernel
theorem dX7_seen_30 : decode cX7_seen 30 = .ok (.iload_n 1, 1) := by decide +kernel
theorem dX7_seen_31 : decode cX7_seen 31 = .ok (.iload_n 2, 1) := by decide +kernel
theorem dX7_seen_32 : decode cX7_seen 32 = .ok (.iload_n 3, 1) := by decide +kernel
theorem dX7_seen_33 : decode cX7_seen 33 = .ok (.invokevirtual 200, 3) := by decide +kernel
theorem dX7_seen_36 : decode cX7_seen 36 = .ok (.ifCond .eq 13, 3) := by decide +kernel
theorem dX7_seen_39 : decode cX7_seen 39 = .ok (.aload_n 0, 1) := by decide +kernel
theorem dX7_seen_40 : decode cX7_seen 40 = .ok (.getfield 10, 3) := by decide +kernel
theorem dX7_seen_43 : decode cX7_seen 43 = .ok (.getfield 203, 3) := by decide +kernel
theorem dX7_seen_46 : decode cX7_seen 46 = .ok (.goto 5, 3) := by decide +kernel
theorem dX7_seen_49 : decode cX7_seen 49 = .ok (.bipush (-4), 2) := by decide +kernel
theorem dX7_seen_51 : decode cX7_seen 51 = .ok (.ireturn, 1) := by decide +kernel
theorem dX7_forget_0 : decode cX7_forget 0 = .ok (.aload_n 0, 1) := by decide +kernel
theorem dX7_forget_1 : decode cX7_forget 1 = .ok (.getfield 10, 3) := by decide +kernel
theorem dX7_forget_4 : decode cX7_forget 4 = .ok (.getfield 203, 3) := by decide +kernel
theorem dX7_forget_7 : decode cX7_forget 7 = .ok (.istore_n 1, 1) := by decide +kernel
theorem dX7_forget_8 : decode cX7_forget 8 = .ok (.aload_n 0, 1) := by decide +kernel
theorem dX7_forget_9 : decode cX7_forget 9 = .ok (.getfield 10, 3) := by decide +kernel
theorem dX7_forget_12 : decode cX7_forget 12 = .ok (.iconst 0, 1) := by decide +kernel
theorem dX7_forget_13 : decode cX7_forget 13 = .ok (.putfield 203, 3) := by decide +kernel
theorem dX7_forget_16 : decode cX7_forget 16 = .ok (.iload_n 1, 1) := by decide +kernel
theorem dX7_forget_17 : decode cX7_forget 17 = .ok (.ireturn, 1) := by decide +kernel
theorem dX7_airs_0 : decode cX7_airs 0 = .ok (.iload_n 1, 1) := by decide +kernel
theorem dX7_airs_1 : decode cX7_airs 1 = .ok (.iconst 0, 1) := by decide +kernel
theorem dX7_airs_2 : decode cX7_airs 2 = .ok (.iconst 1, 1) := by decide +kernel
theorem dX7_airs_3 : decode cX7_airs 3 = .ok (.invokestatic 66, 3) := by decide +kernel
theorem dX7_airs_6 : decode cX7_airs 6 = .ok (.ifCond .ne 6, 3) := by decide +kernel
theorem dX7_airs_9 : decode cX7_airs 9 = .ok (.bipush (-2), 2) := by decide +kernel
theorem dX7_airs_11 : decode cX7_airs 11 = .ok (.ireturn, 1) := by decide +kernel
theorem dX7_airs_12 : decode cX7_airs 12 = .ok (.aload_n 0, 1) := by decide +kernel
theorem dX7_airs_13 : decode cX7_airs 13 = .ok (.getfield 48, 3) := by decide +kernel
theorem dX7_airs_16 : decode cX7_airs 16 = .ok (.aload_n 0, 1) := by decide +kernel
theorem dX7_airs_17 : decode cX7_airs 17 = .ok (.getfield 10, 3) := by decide +kernel
theorem dX7_airs_20 : decode cX7_airs 20 = .ok (.invokevirtual 206, 3) := by decide +kernel
theorem dX7_airs_23 : decode cX7_airs 23 = .ok (.iload_n 1, 1) := by decide +kernel
theorem dX7_airs_24 : decode cX7_airs 24 = .ok (.ifCond .ne 13, 3) := by decide +kernel
theorem dX7_airs_27 : decode cX7_airs 27 = .ok (.aload_n 0, 1) := by decide +kernel
theorem dX7_airs_28 : decode cX7_airs 28 = .ok (.getfield 48, 3) := by decide +kernel
theorem dX7_airs_31 : decode cX7_airs 31 = .ok (.getfield 209, 3) := by decide +kernel
theorem dX7_airs_34 : decode cX7_airs 34 = .ok (.goto 10, 3) := by decide +kernel
theorem dX7_airs_37 : decode cX7_airs 37 = .ok (.aload_n 0, 1) := by decide +kernel
theorem dX7_airs_38 : decode cX7_airs 38 = .ok (.getfield 48, 3) := by decide +kernel
theorem dX7_airs_41 : decode cX7_airs 41 = .ok (.invokevirtual 210, 3) := by decide +kernel
theorem dX7_airs_44 : decode cX7_airs 44 = .ok (.ireturn, 1) := by decide +kernel
theorem dX7_air_0 : decode cX7_air 0 = .ok (.aload_n 0, 1) := by decide +kernel
theorem dX7_air_1 : decode cX7_air 1 = .ok (.getfield 10, 3) := by decide +kernel
theorem dX7_air_4 : decode cX7_air 4 = .ok (.iload_n 1, 1) := by decide +kernel
theorem dX7_air_5 : decode cX7_air 5 = .ok (.invokevirtual 78, 3) := by decide +kernel
theorem dX7_air_8 : decode cX7_air 8 = .ok (.ifCond .ne 5, 3) := by decide +kernel
theorem dX7_air_11 : decode cX7_air 11 = .ok (.iconst (-1), 1) := by decide +kernel
theorem dX7_air_12 : decode cX7_air 12 = .ok (.ireturn, 1) := by decide +kernel
theorem dX7_air_13 : decode cX7_air 13 = .ok (.aload_n 0, 1) := by decide +kernel
theorem dX7_air_14 : decode cX7_air 14 = .ok (.getfield 48, 3) := by decide +kernel
theorem dX7_air_17 : decode cX7_air 17 = .ok (.aload_n 0, 1) := by decide +kernel
theorem dX7_air_18 : decode cX7_air 18 = .ok (.getfield 10, 3) := by decide +kernel
theorem dX7_air_21 : decode cX7_air 21 = .ok (.invokevirtual 206, 3) := by decide +kernel
theorem dX7_air_24 : decode cX7_air 24 = .ok (.aload_n 0, 1) := by decide +kernel
theorem dX7_air_25 : decode cX7_air 25 = .ok (.getfield 48, 3) := by decide +kernel
theorem dX7_air_28 : decode cX7_air 28 = .ok (.iload_n 1, 1) := by decide +kernel
theorem dX7_air_29 : decode cX7_air 29 = .ok (.invokevirtual 213, 3) := by decide +kernel
theorem dX7_air_32 : decode cX7_air 32 = .ok (.ireturn, 1) := by decide +kernel
theorem dX7_cross_0 : decode cX7_cross 0 = .ok (.iload_n 1, 1) := by decide +kernel
theorem dX7_cross_1 : decode cX7_cross 1 = .ok (.iconst 0, 1) := by decide +kernel
theorem dX7_cross_2 : decode cX7_cross 2 = .ok (.iconst 1, 1) := by decide +kernel
theorem dX7_cross_3 : decode cX7_cross 3 = .ok (.invokestatic 66, 3) := by decide +kernel
theorem dX7_cross_6 : decode cX7_cross 6 = .ok (.ifCond .ne 6, 3) := by decide +kernel
theorem dX7_cross_9 : decode cX7_cross 9 = .ok (.bipush (-2), 2) := by decide +kernel
theorem dX7_cross_11 : decode cX7_cross 11 = .ok (.ireturn, 1) := by decide +kernel
theorem dX7_cross_12 : decode cX7_cross 12 = .ok (.aload_n 0, 1) := by decide +kernel
theorem dX7_cross_13 : decode cX7_cross 13 = .ok (.getfield 48, 3) := by decide +kernel
theorem dX7_cross_16 : decode cX7_cross 16 = .ok (.aload_n 0, 1) := by decide +kernel
theorem dX7_cross_17 : decode cX7_cross 17 = .ok (.getfield 10, 3) := by decide +kernel
theorem dX7_cross_20 : decode cX7_cross 20 = .ok (.invokevirtual 206, 3) := by decide +kernel
theorem dX7_cross_23 : decode cX7_cross 23 = .ok (.aload_n 0, 1) := by decide +kernel
theorem dX7_cross_24 : decode cX7_cross 24 = .ok (.getfield 48, 3) := by decide +kernel
theorem dX7_cross_27 : decode cX7_cross 27 = .ok (.aload_n 0, 1) := by decide +kernel
theorem dX7_cross_28 : decode cX7_cross 28 = .ok (.getfield 10, 3) := by decide +kernel
theorem dX7_cross_31 : decode cX7_cross 31 = .ok (.invokevirtual 216, 3) := by decide +kernel
theorem dX7_cross_34 : decode cX7_cross 34 = .ok (.iload_n 1, 1) := by decide +kernel
theorem dX7_cross_35 : decode cX7_cross 35 = .ok (.ifCond .ne 13, 3) := by decide +kernel
theorem dX7_cross_38 : decode cX7_cross 38 = .ok (.aload_n 0, 1) := by decide +kernel
theorem dX7_cross_39 : decode cX7_cross 39 = .ok (.getfield 48, 3) := by decide +kernel
theorem dX7_cross_42 : decode cX7_cross 42 = .ok (.getfield 219, 3) := by decide +kernel
theorem dX7_cross_45 : decode cX7_cross 45 = .ok (.goto 10, 3) := by decide +kernel
theorem dX7_cross_48 : decode cX7_cross 48 = .ok (.aload_n 0, 1) := by decide +kernel
theorem dX7_cross_49 : decode cX7_cross 49 = .ok (.getfield 48, 3) := by decide +kernel
theorem dX7_cross_52 : decode cX7_cross 52 = .ok (.getfield 222, 3) := by decide +kernel
theorem dX7_cross_55 : decode cX7_cross 55 = .ok (.ireturn, 1) := by decide +kernel
theorem dX7_chance_0 : decode cX7_chance 0 = .ok (.aload_n 0, 1) := by decide +kernel
theorem dX7_chance_1 : decode cX7_chance 1 = .ok (.getfield 10, 3) := by decide +kernel
theorem dX7_chance_4 : decode cX7_chance 4 = .ok (.iload_n 1, 1) := by decide +kernel
theorem dX7_chance_5 : decode cX7_chance 5 = .ok (.iload_n 2, 1) := by decide +kernel
theorem dX7_chance_6 : decode cX7_chance 6 = .ok (.invokevirtual 197, 3) := by decide +kernel
theorem dX7_chance_9 : decode cX7_chance 9 = .ok (.ifCond .ne 7, 3) := by decide +kernel
theorem dX7_chance_12 : decode cX7_chance 12 = .ok (.ldc2_w 225, 3) := by decide +kernel
theorem dX7_chance_15 : decode cX7_chance 15 = .ok (.lreturn, 1) := by decide +kernel
theorem dX7_chance_16 : decode cX7_chance 16 = .ok (.iload_n 3, 1) := by decide +kernel
theorem dX7_chance_17 : decode cX7_chance 17 = .ok (.iconst 0, 1) := by decide +kernel
theorem dX7_chance_18 : decode cX7_chance 18 = .ok (.bipush 10, 2) := by decide +kernel
theorem dX7_chance_20 : decode cX7_chance 20 = .ok (.invokestatic 66, 3) := by decide +kernel
theorem dX7_chance_23 : decode cX7_chance 23 = .ok (.ifCond .eq 34, 3) := by decide +kernel
theorem dX7_chance_26 : decode cX7_chance 26 = .ok (.iload 4, 2) := by decide +kernel
theorem dX7_chance_28 : decode cX7_chance 28 = .ok (.iconst 1, 1) := by decide +kernel
theorem dX7_chance_29 : decode cX7_chance 29 = .ok (.bipush 50, 2) := by decide +kernel
theorem dX7_chance_31 : decode cX7_chance 31 = .ok (.invokestatic 66, 3) := by decide +kernel
theorem dX7_chance_34 : decode cX7_chance 34 = .ok (.ifCond .eq 23, 3) := by decide +kernel
theorem dX7_chance_37 : decode cX7_chance 37 = .ok (.iload 5, 2) := by decide +kernel
theorem dX7_chance_39 : decode cX7_chance 39 = .ok (.iconst 0, 1) := by decide +kernel
theorem dX7_chance_40 : decode cX7_chance 40 = .ok (.iconst 1, 1) := by decide +kernel
theorem dX7_chance_41 : decode cX7_chance 41 = .ok (.invokestatic 66, 3) := by decide +kernel
theorem dX7_chance_44 : decode cX7_chance 44 = .ok (.ifCond .eq 13, 3) := by decide +kernel
theorem dX7_chance_47 : decode cX7_chance 47 = .ok (.iload 6, 2) := by decide +kernel
theorem dX7_chance_49 : decode cX7_chance 49 = .ok (.iconst 0, 1) := by decide +kernel
theorem dX7_chance_50 : decode cX7_chance 50 = .ok (.iconst 1, 1) := by decide +kernel
theorem dX7_chance_51 : decode cX7_chance 51 = .ok (.invokestatic 66, 3) := by decide +kernel
theorem dX7_chance_54 : decode cX7_chance 54 = .ok (.ifCond .ne 7, 3) := by decide +kernel
theorem dX7_chance_57 : decode cX7_chance 57 = .ok (.ldc2_w 227, 3) := by decide +kernel
theorem dX7_chance_60 : decode cX7_chance 60 = .ok (.lreturn, 1) := by decide +kernel
theorem dX7_chance_61 : decode cX7_chance 61 = .ok (.iload 5, 2) := by decide +kernel
theorem dX7_chance_63 : decode cX7_chance 63 = .ok (.ifCond .ne 22, 3) := by decide +kernel
theorem dX7_chance_66 : decode cX7_chance 66 = .ok (.aload_n 0, 1) := by decide +kernel
theorem dX7_chance_67 : decode cX7_chance 67 = .ok (.getfield 55, 3) := by decide +kernel
theorem dX7_chance_70 : decode cX7_chance 70 = .ok (.aload_n 0, 1) := by decide +kernel
theorem dX7_chance_71 : decode cX7_chance 71 = .ok (.getfield 10, 3) := by decide +kernel
theorem dX7_chance_74 : decode cX7_chance 74 = .ok (.iload_n 1, 1) := by decide +kernel
theorem dX7_chance_75 : decode cX7_chance 75 = .ok (.iload_n 2, 1) := by decide +kernel
theorem dX7_chance_76 : decode cX7_chance 76 = .ok (.iload_n 3, 1) := by decide +kernel
theorem dX7_chance_77 : decode cX7_chance 77 = .ok (.iload 4, 2) := by decide +kernel
theorem dX7_chance_79 : decode cX7_chance 79 = .ok (.invokevirtual 229, 3) := by decide +kernel
theorem dX7_chance_82 : decode cX7_chance 82 = .ok (.goto 19, 3) := by decide +kernel
theorem dX7_chance_85 : decode cX7_chance 85 = .ok (.aload_n 0, 1) := by decide +kernel
theorem dX7_chance_86 : decode cX7_chance 86 = .ok (.getfield 55, 3) := by decide +kernel
theorem dX7_chance_89 : decode cX7_chance 89 = .ok (.aload_n 0, 1) := by decide +kernel
theorem dX7_chance_90 : decode cX7_chance 90 = .ok (.getfield 10, 3) := by decide +kernel
theorem dX7_chance_93 : decode cX7_chance 93 = .ok (.iload_n 1, 1) := by decide +kernel
theorem dX7_chance_94 : decode cX7_chance 94 = .ok (.iload_n 2, 1) := by decide +kernel
theorem dX7_chance_95 : decode cX7_chance 95 = .ok (.iload_n 3, 1) := by decide +kernel
theorem dX7_chance_96 : decode cX7_chance 96 = .ok (.iload 4, 2) := by decide +kernel
theorem dX7_chance_98 : decode cX7_chance 98 = .ok (.invokevirtual 233, 3) := by decide +kernel
theorem dX7_chance_101 : decode cX7_chance 101 = .ok (.iload 6, 2) := by decide +kernel
theorem dX7_chance_103 : decode cX7_chance 103 = .ok (.ifCond .ne 13, 3) := by decide +kernel
theorem dX7_chance_106 : decode cX7_chance 106 = .ok (.aload_n 0, 1) := by decide +kernel
theorem dX7_chance_107 : decode cX7_chance 107 = .ok (.getfield 55, 3) := by decide +kernel
theorem dX7_chance_110 : decode cX7_chance 110 = .ok (.getfield 236, 3) := by decide +kernel
theorem dX7_chance_113 : decode cX7_chance 113 = .ok (.goto 10, 3) := by decide +kernel
theorem dX7_chance_116 : decode cX7_chance 116 = .ok (.aload_n 0, 1) := by decide +kernel
theorem dX7_chance_117 : decode cX7_chance 117 = .ok (.getfield 55, 3) := by decide +kernel
theorem dX7_chance_120 : decode cX7_chance 120 = .ok (.getfield 240, 3) := by decide +kernel
theorem dX7_chance_123 : decode cX7_chance 123 = .ok (.lreturn, 1) := by decide +kernel
theorem dX7_year_0 : decode cX7_year 0 = .ok (.iload_n 1, 1) := by decide +kernel
theorem dX7_year_1 : decode cX7_year 1 = .ok (.iconst 0, 1) := by decide +kernel
theorem dX7_year_2 : decode cX7_year 2 = .ok (.sipush 9999, 3) := by decide +kernel
theorem dX7_year_5 : decode cX7_year 5 = .ok (.invokestatic 66, 3) := by decide +kernel
theorem dX7_year_8 : decode cX7_year 8 = .ok (.ifCond .eq 22, 3) := by decide +kernel
theorem dX7_year_11 : decode cX7_year 11 = .ok (.iload_n 2, 1) := by decide +kernel
theorem dX7_year_12 : decode cX7_year 12 = .ok (.iconst 1, 1) := by decide +kernel
theorem dX7_year_13 : decode cX7_year 13 = .ok (.bipush 99, 2) := by decide +kernel
theorem dX7_year_15 : decode cX7_year 15 = .ok (.invokestatic 66, 3) := by decide +kernel
theorem dX7_year_18 : decode cX7_year 18 = .ok (.ifCond .eq 12, 3) := by decide +kernel
theorem dX7_year_21 : decode cX7_year 21 = .ok (.iload_n 3, 1) := by decide +kernel
theorem dX7_year_22 : decode cX7_year 22 = .ok (.iconst 0, 1) := by decide +kernel
theorem dX7_year_23 : decode cX7_year 23 = .ok (.iconst 2, 1) := by decide +kernel
theorem dX7_year_24 : decode cX7_year 24 = .ok (.invokestatic 66, 3) := by decide +kernel
theorem dX7_year_27 : decode cX7_year 27 = .ok (.ifCond .ne 6, 3) := by decide +kernel
theorem dX7_year_30 : decode cX7_year 30 = .ok (.bipush (-2), 2) := by decide +kernel
theorem dX7_year_32 : decode cX7_year 32 = .ok (.ireturn, 1) := by decide +kernel
theorem dX7_year_33 : decode cX7_year 33 = .ok (.aload_n 0, 1) := by decide +kernel
theorem dX7_year_34 : decode cX7_year 34 = .ok (.getfield 62, 3) := by decide +kernel
theorem dX7_year_37 : decode cX7_year 37 = .ok (.aload_n 0, 1) := by decide +kernel
theorem dX7_year_38 : decode cX7_year 38 = .ok (.getfield 10, 3) := by decide +kernel
theorem dX7_year_41 : decode cX7_year 41 = .ok (.iload_n 1, 1) := by decide +kernel
theorem dX7_year_42 : decode cX7_year 42 = .ok (.iload_n 2, 1) := by decide +kernel
theorem dX7_year_43 : decode cX7_year 43 = .ok (.invokevirtual 243, 3) := by decide +kernel
theorem dX7_year_46 : decode cX7_year 46 = .ok (.iload_n 3, 1) := by decide +kernel
theorem dX7_year_47 : decode cX7_year 47 = .ok (.ifCond .ne 13, 3) := by decide +kernel
theorem dX7_year_50 : decode cX7_year 50 = .ok (.aload_n 0, 1) := by decide +kernel
theorem dX7_year_51 : decode cX7_year 51 = .ok (.getfield 62, 3) := by decide +kernel
theorem dX7_year_54 : decode cX7_year 54 = .ok (.getfield 246, 3) := by decide +kernel
theorem dX7_year_57 : decode cX7_year 57 = .ok (.goto 25, 3) := by decide +kernel
theorem dX7_year_60 : decode cX7_year 60 = .ok (.iload_n 3, 1) := by decide +kernel
theorem dX7_year_61 : decode cX7_year 61 = .ok (.iconst 1, 1) := by decide +kernel
theorem dX7_year_62 : decode cX7_year 62 = .ok (.if_icmp .ne 13, 3) := by decide +kernel
theorem dX7_year_65 : decode cX7_year 65 = .ok (.aload_n 0, 1) := by decide +kernel
theorem dX7_year_66 : decode cX7_year 66 = .ok (.getfield 62, 3) := by decide +kernel
theorem dX7_year_69 : decode cX7_year 69 = .ok (.getfield 249, 3) := by decide +kernel
theorem dX7_year_72 : decode cX7_year 72 = .ok (.goto 10, 3) := by decide +kernel
theorem dX7_year_75 : decode cX7_year 75 = .ok (.aload_n 0, 1) := by decide +kernel
theorem dX7_year_76 : decode cX7_year 76 = .ok (.getfield 62, 3) := by decide +kernel
theorem dX7_year_79 : decode cX7_year 79 = .ok (.getfield 252, 3) := by decide +kernel
theorem dX7_year_82 : decode cX7_year 82 = .ok (.ireturn, 1) := by decide +kernel
theorem dX7_image_0 : decode cX7_image 0 = .ok (.iload_n 1, 1) := by decide +kernel
theorem dX7_image_1 : decode cX7_image 1 = .ok (.iconst 0, 1) := by decide +kernel
theorem dX7_image_2 : decode cX7_image 2 = .ok (.iconst 1, 1) := by decide +kernel
theorem dX7_image_3 : decode cX7_image 3 = .ok (.invokestatic 66, 3) := by decide +kernel
theorem dX7_image_6 : decode cX7_image 6 = .ok (.ifCond .ne 6, 3) := by decide +kernel
theorem dX7_image_9 : decode cX7_image 9 = .ok (.bipush (-2), 2) := by decide +kernel
theorem dX7_image_11 : decode cX7_image 11 = .ok (.ireturn, 1) := by decide +kernel
theorem dX7_image_12 : decode cX7_image 12 = .ok (.aload_n 0, 1) := by decide +kernel
theorem dX7_image_13 : decode cX7_image 13 = .ok (.getfield 16, 3) := by decide +kernel
theorem dX7_image_16 : decode cX7_image 16 = .ok (.iload_n 1, 1) := by decide +kernel
theorem dX7_image_17 : decode cX7_image 17 = .ok (.aaload, 1) := by decide +kernel
theorem dX7_image_18 : decode cX7_image 18 = .ok (.aload_n 0, 1) := by decide +kernel
theorem dX7_image_19 : decode cX7_image 19 = .ok (.getfield 10, 3) := by decide +kernel
theorem dX7_image_22 : decode cX7_image 22 = .ok (.invokevirtual 139, 3) := by decide +kernel
theorem dX7_image_25 : decode cX7_image 25 = .ok (.aload_n 0, 1) := by decide +kernel
theorem dX7_image_26 : decode cX7_image 26 = .ok (.getfield 20, 3) := by decide +kernel
theorem dX7_image_29 : decode cX7_image 29 = .ok (.iload_n 1, 1) := by decide +kernel
theorem dX7_image_30 : decode cX7_image 30 = .ok (.iconst 1, 1) := by decide +kernel
theorem dX7_image_31 : decode cX7_image 31 = .ok (.bastore, 1) := by decide +kernel
theorem dX7_image_32 : decode cX7_image 32 = .ok (.iconst 1, 1) := by decide +kernel
theorem dX7_image_33 : decode cX7_image 33 = .ok (.ireturn, 1) := by decide +kernel
theorem dX7_restore_0 : decode cX7_restore 0 = .ok (.iload_n 1, 1) := by decide +kernel
theorem dX7_restore_1 : decode cX7_restore 1 = .ok (.iconst 0, 1) := by decide +kernel
theorem dX7_restore_2 : decode cX7_restore 2 = .ok (.iconst 1, 1) := by decide +kernel
theorem dX7_restore_3 : decode cX7_restore 3 = .ok (.invokestatic 66, 3) := by decide +kernel
theorem dX7_restore_6 : decode cX7_restore 6 = .ok (.ifCond .ne 6, 3) := by decide +kernel
theorem dX7_restore_9 : decode cX7_restore 9 = .ok (.bipush (-2), 2) := by decide +kernel
theorem dX7_restore_11 : decode cX7_restore 11 = .ok (.ireturn, 1) := by decide +kernel
theorem dX7_restore_12 : decode cX7_restore 12 = .ok (.aload_n 0, 1) := by decide +kernel
theorem dX7_restore_13 : decode cX7_restore 13 = .ok (.getfield 20, 3) := by decide +kernel
theorem dX7_restore_16 : decode cX7_restore 16 = .ok (.iload_n 1, 1) := by decide +kernel
theorem dX7_restore_17 : decode cX7_restore 17 = .ok (.baload, 1) := by decide +kernel
theorem dX7_restore_18 : decode cX7_restore 18 = .ok (.ifCond .ne 6, 3) := by decide +kernel
theorem dX7_restore_21 : decode cX7_restore 21 = .ok (.bipush (-3), 2) := by decide +kernel
theorem dX7_restore_23 : decode cX7_restore 23 = .ok (.ireturn, 1) := by decide +kernel
theorem dX7_restore_24 : decode cX7_restore 24 = .ok (.aload_n 0, 1) := by decide +kernel
theorem dX7_restore_25 : decode cX7_restore 25 = .ok (.getfield 10, 3) := by decide +kernel
theorem dX7_restore_28 : decode cX7_restore 28 = .ok (.aload_n 0, 1) := by decide +kernel
theorem dX7_restore_29 : decode cX7_restore 29 = .ok (.getfield 16, 3) := by decide +kernel
theorem dX7_restore_32 : decode cX7_restore 32 = .ok (.iload_n 1, 1) := by decide +kernel
theorem dX7_restore_33 : decode cX7_restore 33 = .ok (.aaload, 1) := by decide +kernel
theorem dX7_restore_34 : decode cX7_restore 34 = .ok (.invokevirtual 139, 3) := by decide +kernel
theorem dX7_restore_37 : decode cX7_restore 37 = .ok (.iconst 1, 1) := by decide +kernel
theorem dX7_restore_38 : decode cX7_restore 38 = .ok (.ireturn, 1) := by decide +kernel
theorem dX7_told_0 : decode cX7_told 0 = .ok (.iload_n 1, 1) := by decide +kernel
theorem dX7_told_1 : decode cX7_told 1 = .ok (.tableswitch 87 0 5 #[39, 47, 55, 63, 71, 79], 39) := by decide +kernel
theorem dX7_told_40 : decode cX7_told 40 = .ok (.aload_n 0, 1) := by decide +kernel
theorem dX7_told_41 : decode cX7_told 41 = .ok (.getfield 27, 3) := by decide +kernel
theorem dX7_told_44 : decode cX7_told 44 = .ok (.getfield 113, 3) := by decide +kernel
theorem dX7_told_47 : decode cX7_told 47 = .ok (.ireturn, 1) := by decide +kernel
theorem dX7_told_48 : decode cX7_told 48 = .ok (.aload_n 0, 1) := by decide +kernel
theorem dX7_told_49 : decode cX7_told 49 = .ok (.getfield 10, 3) := by decide +kernel
theorem dX7_told_52 : decode cX7_told 52 = .ok (.getfield 255, 3) := by decide +kernel
theorem dX7_told_55 : decode cX7_told 55 = .ok (.ireturn, 1) := by decide +kernel
theorem dX7_told_56 : decode cX7_told 56 = .ok (.aload_n 0, 1) := by decide +kernel
theorem dX7_told_57 : decode cX7_told 57 = .ok (.getfield 10, 3) := by decide +kernel
theorem dX7_told_60 : decode cX7_told 60 = .ok (.getfield 258, 3) := by decide +kernel
theorem dX7_told_63 : decode cX7_told 63 = .ok (.ireturn, 1) := by decide +kernel
theorem dX7_told_64 : decode cX7_told 64 = .ok (.aload_n 0, 1) := by decide +kernel
theorem dX7_told_65 : decode cX7_told 65 = .ok (.getfield 10, 3) := by decide +kernel
theorem dX7_told_68 : decode cX7_told 68 = .ok (.getfield 106, 3) := by decide +kernel
theorem dX7_told_71 : decode cX7_told 71 = .ok (.ireturn, 1) := by decide +kernel
theorem dX7_told_72 : decode cX7_told 72 = .ok (.aload_n 0, 1) := by decide +kernel
theorem dX7_told_73 : decode cX7_told 73 = .ok (.getfield 10, 3) := by decide +kernel
theorem dX7_told_76 : decode cX7_told 76 = .ok (.getfield 136, 3) := by decide +kernel
theorem dX7_told_79 : decode cX7_told 79 = .ok (.ireturn, 1) := by decide +kernel
theorem dX7_told_80 : decode cX7_told 80 = .ok (.aload_n 0, 1) := by decide +kernel
theorem dX7_told_81 : decode cX7_told 81 = .ok (.getfield 10, 3) := by decide +kernel
theorem dX7_told_84 : decode cX7_told 84 = .ok (.getfield 203, 3) := by decide +kernel
theorem dX7_told_87 : decode cX7_told 87 = .ok (.ireturn, 1) := by decide +kernel
theorem dX7_told_88 : decode cX7_told 88 = .ok (.iload_n 1, 1) := by decide +kernel
theorem dX7_told_89 : decode cX7_told 89 = .ok (.bipush 10, 2) := by decide +kernel
theorem dX7_told_91 : decode cX7_told 91 = .ok (.if_icmp .ge 8, 3) := by decide +kernel
theorem dX7_told_94 : decode cX7_told 94 = .ok (.bipush (-2), 2) := by decide +kernel
theorem dX7_told_96 : decode cX7_told 96 = .ok (.goto 17, 3) := by decide +kernel
theorem dX7_told_99 : decode cX7_told 99 = .ok (.aload_n 0, 1) := by decide +kernel
theorem dX7_told_100 : decode cX7_told 100 = .ok (.iload_n 1, 1) := by decide +kernel
theorem dX7_told_101 : decode cX7_told 101 = .ok (.bipush 10, 2) := by decide +kernel
theorem dX7_told_103 : decode cX7_told 103 = .ok (.idiv, 1) := by decide +kernel
theorem dX7_told_104 : decode cX7_told 104 = .ok (.iconst 1, 1) := by decide +kernel
theorem dX7_told_105 : decode cX7_told 105 = .ok (.isub, 1) := by decide +kernel
theorem dX7_told_106 : decode cX7_told 106 = .ok (.iload_n 1, 1) := by decide +kernel
theorem dX7_told_107 : decode cX7_told 107 = .ok (.bipush 10, 2) := by decide +kernel
theorem dX7_told_109 : decode cX7_told 109 = .ok (.irem, 1) := by decide +kernel
theorem dX7_told_110 : decode cX7_told 110 = .ok (.invokevirtual 261, 3) := by decide +kernel
theorem dX7_told_113 : decode cX7_told 113 = .ok (.ireturn, 1) := by decide +kernel
theorem dX7_tellPerson_0 : decode cX7_tellPerson 0 = .ok (.aload_n 0, 1) := by decide +kernel
theorem dX7_tellPerson_1 : decode cX7_tellPerson 1 = .ok (.getfield 10, 3) := by decide +kernel
theorem dX7_tellPerson_4 : decode cX7_tellPerson 4 = .ok (.iload_n 1, 1) := by decide +kernel
theorem dX7_tellPerson_5 : decode cX7_tellPerson 5 = .ok (.invokevirtual 78, 3) := by decide +kernel
theorem dX7_tellPerson_8 : decode cX7_tellPerson 8 = .ok (.ifCond .ne 6, 3) := by decide +kernel
theorem dX7_tellPerson_11 : decode cX7_tellPerson 11 = .ok (.bipush (-2), 2) := by decide +kernel
theorem dX7_tellPerson_13 : decode cX7_tellPerson 13 = .ok (.ireturn, 1) := by decide +kernel
theorem dX7_tellPerson_14 : decode cX7_tellPerson 14 = .ok (.iload_n 2, 1) := by decide +kernel
theorem dX7_tellPerson_15 : decode cX7_tellPerson 15 = .ok (.tableswitch 72 0 3 #[29, 39, 49, 62], 29) := by decide +kernel
theorem dX7_tellPerson_44 : decode cX7_tellPerson 44 = .ok (.aload_n 0, 1) := by decide +kernel
theorem dX7_tellPerson_45 : decode cX7_tellPerson 45 = .ok (.getfield 10, 3) := by decide +kernel
theorem dX7_tellPerson_48 : decode cX7_tellPerson 48 = .ok (.getfield 146, 3) := by decide +kernel
theorem dX7_tellPerson_51 : decode cX7_tellPerson 51 = .ok (.iload_n 1, 1) := by decide +kernel
theorem dX7_tellPerson_52 : decode cX7_tellPerson 52 = .ok (.iaload, 1) := by decide +kernel
theorem dX7_tellPerson_53 : decode cX7_tellPerson 53 = .ok (.ireturn, 1) := by decide +kernel
theorem dX7_tellPerson_54 : decode cX7_tellPerson 54 = .ok (.aload_n 0, 1) := by decide +kernel
theorem dX7_tellPerson_55 : decode cX7_tellPerson 55 = .ok (.getfield 10, 3) := by decide +kernel
theorem dX7_tellPerson_58 : decode cX7_tellPerson 58 = .ok (.getfield 132, 3) := by decide +kernel
theorem dX7_tellPerson_61 : decode cX7_tellPerson 61 = .ok (.iload_n 1, 1) := by decide +kernel
theorem dX7_tellPerson_62 : decode cX7_tellPerson 62 = .ok (.iaload, 1) := by decide +kernel
theorem dX7_tellPerson_63 : decode cX7_tellPerson 63 = .ok (.ireturn, 1) := by decide +kernel
theorem dX7_tellPerson_64 : decode cX7_tellPerson 64 = .ok (.aload_n 0, 1) := by decide +kernel
theorem dX7_tellPerson_65 : decode cX7_tellPerson 65 = .ok (.getfield 10, 3) := by decide +kernel
theorem dX7_tellPerson_68 : decode cX7_tellPerson 68 = .ok (.getfield 264, 3) := by decide +kernel
theorem dX7_tellPerson_71 : decode cX7_tellPerson 71 = .ok (.iload_n 1, 1) := by decide +kernel
theorem dX7_tellPerson_72 : decode cX7_tellPerson 72 = .ok (.iaload, 1) := by decide +kernel
theorem dX7_tellPerson_73 : decode cX7_tellPerson 73 = .ok (.bipush 9, 2) := by decide +kernel
theorem dX7_tellPerson_75 : decode cX7_tellPerson 75 = .ok (.iadd, 1) := by decide +kernel
theorem dX7_tellPerson_76 : decode cX7_tellPerson 76 = .ok (.ireturn, 1) := by decide +kernel
theorem dX7_tellPerson_77 : decode cX7_tellPerson 77 = .ok (.aload_n 0, 1) := by decide +kernel
theorem dX7_tellPerson_78 : decode cX7_tellPerson 78 = .ok (.getfield 10, 3) := by decide +kernel
theorem dX7_tellPerson_81 : decode cX7_tellPerson 81 = .ok (.getfield 267, 3) := by decide +kernel
theorem dX7_tellPerson_84 : decode cX7_tellPerson 84 = .ok (.iload_n 1, 1) := by decide +kernel
theorem dX7_tellPerson_85 : decode cX7_tellPerson 85 = .ok (.iaload, 1) := by decide +kernel
theorem dX7_tellPerson_86 : decode cX7_tellPerson 86 = .ok (.ireturn, 1) := by decide +kernel
theorem dX7_tellPerson_87 : decode cX7_tellPerson 87 = .ok (.bipush (-2), 2) := by decide +kernel
theorem dX7_tellPerson_89 : decode cX7_tellPerson 89 = .ok (.ireturn, 1) := by decide +kernel
theorem dX7_holdMarket_0 : decode cX7_holdMarket 0 = .ok (.aload_n 0, 1) := by decide +kernel
theorem dX7_holdMarket_1 : decode cX7_holdMarket 1 = .ok (.getfield 27, 3) := by decide +kernel
theorem dX7_holdMarket_4 : decode cX7_holdMarket 4 = .ok (.invokevirtual 116, 3) := by decide +kernel
theorem dX7_holdMarket_7 : decode cX7_holdMarket 7 = .ok (.bipush (-6), 2) := by decide +kernel
theorem dX7_holdMarket_9 : decode cX7_holdMarket 9 = .ok (.if_icmp .eq 6, 3) := by decide +kernel
theorem dX7_holdMarket_12 : decode cX7_holdMarket 12 = .ok (.bipush (-5), 2) := by decide +kernel
theorem dX7_holdMarket_14 : decode cX7_holdMarket 14 = .ok (.ireturn, 1) := by decide +kernel
theorem dX7_holdMarket_15 : decode cX7_holdMarket 15 = .ok (.aload_n 0, 1) := by decide +kernel
theorem dX7_holdMarket_16 : decode cX7_holdMarket 16 = .ok (.getfield 34, 3) := by decide +kernel
theorem dX7_holdMarket_19 : decode cX7_holdMarket 19 = .ok (.aload_n 0, 1) := by decide +kernel
theorem dX7_holdMarket_20 : decode cX7_holdMarket 20 = .ok (.getfield 27, 3) := by decide +kernel
theorem dX7_holdMarket_23 : decode cX7_holdMarket 23 = .ok (.aload_n 0, 1) := by decide +kernel
theorem dX7_holdMarket_24 : decode cX7_holdMarket 24 = .ok (.getfield 10, 3) := by decide +kernel
theorem dX7_holdMarket_27 : decode cX7_holdMarket 27 = .ok (.invokevirtual 270, 3) := by decide +kernel
theorem dX7_holdMarket_30 : decode cX7_holdMarket 30 = .ok (.aload_n 0, 1) := by decide +kernel
theorem dX7_holdMarket_31 : decode cX7_holdMarket 31 = .ok (.getfield 34, 3) := by decide +kernel
theorem dX7_holdMarket_34 : decode cX7_holdMarket 34 = .ok (.getfield 274, 3) := by decide +kernel
theorem dX7_holdMarket_37 : decode cX7_holdMarket 37 = .ok (.bipush (-6), 2) := by decide +kernel
theorem dX7_holdMarket_39 : decode cX7_holdMarket 39 = .ok (.if_icmp .ne 7, 3) := by decide +kernel
theorem dX7_holdMarket_42 : decode cX7_holdMarket 42 = .ok (.iconst 0, 1) := by decide +kernel
theorem dX7_holdMarket_43 : decode cX7_holdMarket 43 = .ok (.goto 5, 3) := by decide +kernel
theorem dX7_holdMarket_46 : decode cX7_holdMarket 46 = .ok (.bipush (-3), 2) := by decide +kernel
theorem dX7_holdMarket_48 : decode cX7_holdMarket 48 = .ok (.ireturn, 1) := by decide +kernel
theorem dX7_within_0 : decode cX7_within 0 = .ok (.iload_n 1, 1) := by decide +kernel
theorem dX7_within_1 : decode cX7_within 1 = .ok (.iload_n 0, 1) := by decide +kernel
theorem dX7_within_2 : decode cX7_within 2 = .ok (.if_icmp .gt 12, 3) := by decide +kernel
theorem dX7_within_5 : decode cX7_within 5 = .ok (.iload_n 0, 1) := by decide +kernel
theorem dX7_within_6 : decode cX7_within 6 = .ok (.iload_n 2, 1) := by decide +kernel
theorem dX7_within_7 : decode cX7_within 7 = .ok (.if_icmp .gt 7, 3) := by decide +kernel
theorem dX7_within_10 : decode cX7_within 10 = .ok (.iconst 1, 1) := by decide +kernel
theorem dX7_within_11 : decode cX7_within 11 = .ok (.goto 4, 3) := by decide +kernel
theorem dX7_within_14 : decode cX7_within 14 = .ok (.iconst 0, 1) := by decide +kernel
theorem dX7_within_15 : decode cX7_within 15 = .ok (.ireturn, 1) := by decide +kernel
theorem dX7_holds_0 : decode cX7_holds 0 = .ok (.iload_n 1, 1) := by decide +kernel
theorem dX7_holds_1 : decode cX7_holds 1 = .ok (.ifCond .lt 22, 3) := by decide +kernel
theorem dX7_holds_4 : decode cX7_holds 4 = .ok (.iload_n 1, 1) := by decide +kernel
theorem dX7_holds_5 : decode cX7_holds 5 = .ok (.bipush 8, 2) := by decide +kernel
theorem dX7_holds_7 : decode cX7_holds 7 = .ok (.if_icmp .ge 16, 3) := by decide +kernel
theorem dX7_holds_10 : decode cX7_holds 10 = .ok (.iload_n 0, 1) := by decide +kernel
theorem dX7_holds_11 : decode cX7_holds 11 = .ok (.iload_n 1, 1) := by decide +kernel
theorem dX7_holds_12 : decode cX7_holds 12 = .ok (.ishr, 1) := by decide +kernel
theorem dX7_holds_13 : decode cX7_holds 13 = .ok (.iconst 1, 1) := by decide +kernel
theorem dX7_holds_14 : decode cX7_holds 14 = .ok (.iand, 1) := by decide +kernel
theorem dX7_holds_15 : decode cX7_holds 15 = .ok (.iconst 1, 1) := by decide +kernel
theorem dX7_holds_16 : decode cX7_holds 16 = .ok (.if_icmp .ne 7, 3) := by decide +kernel
theorem dX7_holds_19 : decode cX7_holds 19 = .ok (.iconst 1, 1) := by decide +kernel
theorem dX7_holds_20 : decode cX7_holds 20 = .ok (.goto 4, 3) := by decide +kernel
theorem dX7_holds_23 : decode cX7_holds 23 = .ok (.iconst 0, 1) := by decide +kernel
theorem dX7_holds_24 : decode cX7_holds 24 = .ok (.ireturn, 1) := by decide +kernel
theorem dX7_nextSubset_0 : decode cX7_nextSubset 0 = .ok (.iload_n 0, 1) := by decide +kernel
theorem dX7_nextSubset_1 : decode cX7_nextSubset 1 = .ok (.iload_n 1, 1) := by decide +kernel
theorem dX7_nextSubset_2 : decode cX7_nextSubset 2 = .ok (.isub, 1) := by decide +kernel
theorem dX7_nextSubset_3 : decode cX7_nextSubset 3 = .ok (.iload_n 1, 1) := by decide +kernel
theorem dX7_nextSubset_4 : decode cX7_nextSubset 4 = .ok (.iand, 1) := by decide +kernel
theorem dX7_nextSubset_5 : decode cX7_nextSubset 5 = .ok (.ireturn, 1) := by decide +kernel
theorem dX7_subsetsOf_0 : decode cX7_subsetsOf 0 = .ok (.iconst 1, 1) := by decide +kernel
theorem dX7_subsetsOf_1 : decode cX7_subsetsOf 1 = .ok (.iload_n 0, 1) := by decide +kernel
theorem dX7_subsetsOf_2 : decode cX7_subsetsOf 2 = .ok (.sipush 255, 3) := by decide +kernel
theorem dX7_subsetsOf_5 : decode cX7_subsetsOf 5 = .ok (.iand, 1) := by decide +kernel
theorem dX7_subsetsOf_6 : decode cX7_subsetsOf 6 = .ok (.invokestatic 277, 3) := by decide +kernel
theorem dX7_subsetsOf_9 : decode cX7_subsetsOf 9 = .ok (.ishl, 1) := by decide +kernel
theorem dX7_subsetsOf_10 : decode cX7_subsetsOf 10 = .ok (.ireturn, 1) := by decide +kernel
theorem dX7_balance_0 : decode cX7_balance 0 = .ok (.iload_n 0, 1) := by decide +kernel
theorem dX7_balance_1 : decode cX7_balance 1 = .ok (.iload_n 1, 1) := by decide +kernel
theorem dX7_balance_2 : decode cX7_balance 2 = .ok (.if_icmp .ge 7, 3) := by decide +kernel
theorem dX7_balance_5 : decode cX7_balance 5 = .ok (.iconst 0, 1) := by decide +kernel
theorem dX7_balance_6 : decode cX7_balance 6 = .ok (.goto 13, 3) := by decide +kernel
theorem dX7_balance_9 : decode cX7_balance 9 = .ok (.iload_n 0, 1) := by decide +kernel
theorem dX7_balance_10 : decode cX7_balance 10 = .ok (.iload_n 1, 1) := by decide +kernel
theorem dX7_balance_11 : decode cX7_balance 11 = .ok (.if_icmp .ne 7, 3) := by decide +kernel
theorem dX7_balance_14 : decode cX7_balance 14 = .ok (.iconst 1, 1) := by decide +kernel
theorem dX7_balance_15 : decode cX7_balance 15 = .ok (.goto 4, 3) := by decide +kernel
theorem dX7_balance_18 : decode cX7_balance 18 = .ok (.iconst 2, 1) := by decide +kernel
theorem dX7_balance_19 : decode cX7_balance 19 = .ok (.ireturn, 1) := by decide +kernel
theorem dX8_init_0 : decode cX8_init 0 = .ok (.aload_n 0, 1) := by decide +kernel
theorem dX8_init_1 : decode cX8_init 1 = .ok (.invokespecial 1, 3) := by decide +kernel
theorem dX8_init_4 : decode cX8_init 4 = .ok (.aload_n 0, 1) := by decide +kernel
theorem dX8_init_5 : decode cX8_init 5 = .ok (.bipush 8, 2) := by decide +kernel
theorem dX8_init_7 : decode cX8_init 7 = .ok (.newarray .int, 2) := by decide +kernel
theorem dX8_init_9 : decode cX8_init 9 = .ok (.putfield 7, 3) := by decide +kernel
theorem dX8_init_12 : decode cX8_init 12 = .ok (.aload_n 0, 1) := by decide +kernel
theorem dX8_init_13 : decode cX8_init 13 = .ok (.bipush 8, 2) := by decide +kernel
theorem dX8_init_15 : decode cX8_init 15 = .ok (.newarray .int, 2) := by decide +kernel
theorem dX8_init_17 : decode cX8_init 17 = .ok (.putfield 13, 3) := by decide +kernel
theorem dX8_init_20 : decode cX8_init 20 = .ok (.aload_n 0, 1) := by decide +kernel
theorem dX8_init_21 : decode cX8_init 21 = .ok (.bipush 8, 2) := by decide +kernel
theorem dX8_init_23 : decode cX8_init 23 = .ok (.newarray .int, 2) := by decide +kernel
theorem dX8_init_25 : decode cX8_init 25 = .ok (.putfield 16, 3) := by decide +kernel
theorem dX8_init_28 : decode cX8_init 28 = .ok (.aload_n 0, 1) := by decide +kernel
theorem dX8_init_29 : decode cX8_init 29 = .ok (.bipush 8, 2) := by decide +kernel
theorem dX8_init_31 : decode cX8_init 31 = .ok (.newarray .int, 2) := by decide +kernel
theorem dX8_init_33 : decode cX8_init 33 = .ok (.putfield 19, 3) := by decide +kernel
theorem dX8_init_36 : decode cX8_init 36 = .ok (.aload_n 0, 1) := by decide +kernel
theorem dX8_init_37 : decode cX8_init 37 = .ok (.bipush 8, 2) := by decide +kernel
theorem dX8_init_39 : decode cX8_init 39 = .ok (.newarray .int, 2) := by decide +kernel
theorem dX8_init_41 : decode cX8_init 41 = .ok (.putfield 22, 3) := by decide +kernel
theorem dX8_init_44 : decode cX8_init 44 = .ok (.aload_n 0, 1) := by decide +kernel
theorem dX8_init_45 : decode cX8_init 45 = .ok (.bipush 8, 2) := by decide +kernel
theorem dX8_init_47 : decode cX8_init 47 = .ok (.newarray .int, 2) := by decide +kernel
theorem dX8_init_49 : decode cX8_init 49 = .ok (.putfield 25, 3) := by decide +kernel
theorem dX8_init_52 : decode cX8_init 52 = .ok (.aload_n 0, 1) := by decide +kernel
theorem dX8_init_53 : decode cX8_init 53 = .ok (.bipush 8, 2) := by decide +kernel
theorem dX8_init_55 : decode cX8_init 55 = .ok (.newarray .int, 2) := by decide +kernel
theorem dX8_init_57 : decode cX8_init 57 = .ok (.putfield 28, 3) := by decide +kernel
theorem dX8_init_60 : decode cX8_init 60 = .ok (.aload_n 0, 1) := by decide +kernel
theorem dX8_init_61 : decode cX8_init 61 = .ok (.bipush 60, 2) := by decide +kernel
theorem dX8_init_63 : decode cX8_init 63 = .ok (.newarray .int, 2) := by decide +kernel
theorem dX8_init_65 : decode cX8_init 65 = .ok (.putfield 31, 3) := by decide +kernel
theorem dX8_init_68 : decode cX8_init 68 = .ok (.aload_n 0, 1) := by decide +kernel
theorem dX8_init_69 : decode cX8_init 69 = .ok (.bipush 60, 2) := by decide +kernel
theorem dX8_init_71 : decode cX8_init 71 = .ok (.newarray .int, 2) := by decide +kernel
theorem dX8_init_73 : decode cX8_init 73 = .ok (.putfield 34, 3) := by decide +kernel
theorem dX8_init_76 : decode cX8_init 76 = .ok (.aload_n 0, 1) := by decide +kernel
theorem dX8_init_77 : decode cX8_init 77 = .ok (.bipush 60, 2) := by decide +kernel
theorem dX8_init_79 : decode cX8_init 79 = .ok (.newarray .int, 2) := by decide +kernel
theorem dX8_init_81 : decode cX8_init 81 = .ok (.putfield 37, 3) := by decide +kernel
theorem dX8_init_84 : decode cX8_init 84 = .ok (.aload_n 0, 1) := by decide +kernel
theorem dX8_init_85 : decode cX8_init 85 = .ok (.bipush 60, 2) := by decide +kernel
theorem dX8_init_87 : decode cX8_init 87 = .ok (.newarray .int, 2) := by decide +kernel
theorem dX8_init_89 : decode cX8_init 89 = .ok (.putfield 40, 3) := by decide +kernel
theorem dX8_init_92 : decode cX8_init 92 = .ok (.aload_n 0, 1) := by decide +kernel
theorem dX8_init_93 : decode cX8_init 93 = .ok (.bipush 60, 2) := by decide +kernel
theorem dX8_init_95 : decode cX8_init 95 = .ok (.newarray .int, 2) := by decide +kernel
theorem dX8_init_97 : decode cX8_init 97 = .ok (.putfield 43, 3) := by decide +kernel
theorem dX8_init_100 : decode cX8_init 100 = .ok (.aload_n 0, 1) := by decide +kernel
theorem dX8_init_101 : decode cX8_init 101 = .ok (.bipush 8, 2) := by decide +kernel
theorem dX8_init_103 : decode cX8_init 103 = .ok (.newarray .int, 2) := by decide +kernel
theorem dX8_init_105 : decode cX8_init 105 = .ok (.putfield 46, 3) := by decide +kernel
theorem dX8_init_108 : decode cX8_init 108 = .ok (.aload_n 0, 1) := by decide +kernel
theorem dX8_init_109 : decode cX8_init 109 = .ok (.bipush 8, 2) := by decide +kernel
theorem dX8_init_111 : decode cX8_init 111 = .ok (.newarray .int, 2) := by decide +kernel
theorem dX8_init_113 : decode cX8_init 113 = .ok (.putfield 49, 3) := by decide +kernel
theorem dX8_init_116 : decode cX8_init 116 = .ok (.aload_n 0, 1) := by decide +kernel
theorem dX8_init_117 : decode cX8_init 117 = .ok (.bipush 8, 2) := by decide +kernel
theorem dX8_init_119 : decode cX8_init 119 = .ok (.newarray .int, 2) := by decide +kernel
theorem dX8_init_121 : decode cX8_init 121 = .ok (.putfield 52, 3) := by decide +kernel
theorem dX8_init_124 : decode cX8_init 124 = .ok (.aload_n 0, 1) := by decide +kernel
theorem dX8_init_125 : decode cX8_init 125 = .ok (.sipush 3201, 3) := by decide +kernel
theorem dX8_init_128 : decode cX8_init 128 = .ok (.newarray .boolean, 2) := by decide +kernel
theorem dX8_init_130 : decode cX8_init 130 = .ok (.putfield 55, 3) := by decide +kernel
theorem dX8_init_133 : decode cX8_init 133 = .ok (.aload_n 0, 1) := by decide +kernel
theorem dX8_init_134 : decode cX8_init 134 = .ok (.sipush 145, 3) := by decide +kernel
theorem dX8_init_137 : decode cX8_init 137 = .ok (.newarray .int, 2) := by decide +kernel
theorem dX8_init_139 : decode cX8_init 139 = .ok (.putfield 59, 3) := by decide +kernel
theorem dX8_init_142 : decode cX8_init 142 = .ok (.aload_n 0, 1) := by decide +kernel
theorem dX8_init_143 : decode cX8_init 143 = .ok (.sipush 145, 3) := by decide +kernel
theorem dX8_init_146 : decode cX8_init 146 = .ok (.newarray .int, 2) := by decide +kernel
theorem dX8_init_148 : decode cX8_init 148 = .ok (.putfield 62, 3) := by decide +kernel
theorem dX8_init_151 : decode cX8_init 151 = .ok (.aload_n 0, 1) := by decide +kernel
theorem dX8_init_152 : decode cX8_init 152 = .ok (.sipush 160, 3) := by decide +kernel
theorem dX8_init_155 : decode cX8_init 155 = .ok (.newarray .int, 2) := by decide +kernel
theorem dX8_init_157 : decode cX8_init 157 = .ok (.putfield 65, 3) := by decide +kernel
theorem dX8_init_160 : decode cX8_init 160 = .ok (.aload_n 0, 1) := by decide +kernel
theorem dX8_init_161 : decode cX8_init 161 = .ok (.iconst 2, 1) := by decide +kernel
theorem dX8_init_162 : decode cX8_init 162 = .ok (.newarray .boolean, 2) := by decide +kernel
theorem dX8_init_164 : decode cX8_init 164 = .ok (.putfield 68, 3) := by decide +kernel
theorem dX8_init_167 : decode cX8_init 167 = .ok (.aload_n 0, 1) := by decide +kernel
theorem dX8_init_168 : decode cX8_init 168 = .ok (.iconst 5, 1) := by decide +kernel
theorem dX8_init_169 : decode cX8_init 169 = .ok (.putfield 71, 3) := by decide +kernel
theorem dX8_init_172 : decode cX8_init 172 = .ok (.iconst 0, 1) := by decide +kernel
theorem dX8_init_173 : decode cX8_init 173 = .ok (.istore_n 1, 1) := by decide +kernel
theorem dX8_init_174 : decode cX8_init 174 = .ok (.iload_n 1, 1) := by decide +kernel
theorem dX8_init_175 : decode cX8_init 175 = .ok (.bipush 8, 2) := by decide +kernel
theorem dX8_init_177 : decode cX8_init 177 = .ok (.if_icmp .ge 17, 3) := by decide +kernel
theorem dX8_init_180 : decode cX8_init 180 = .ok (.aload_n 0, 1) := by decide +kernel
theorem dX8_init_181 : decode cX8_init 181 = .ok (.getfield 19, 3) := by decide +kernel
theorem dX8_init_184 : decode cX8_init 184 = .ok (.iload_n 1, 1) := by decide +kernel
theorem dX8_init_185 : decode cX8_init 185 = .ok (.bipush (-6), 2) := by decide +kernel
theorem dX8_init_187 : decode cX8_init 187 = .ok (.iastore, 1) := by decide +kernel
theorem dX8_init_188 : decode cX8_init 188 = .ok (.iinc 1 1, 3) := by decide +kernel
theorem dX8_init_191 : decode cX8_init 191 = .ok (.goto (-17), 3) := by decide +kernel
theorem dX8_init_194 : decode cX8_init 194 = .ok (.return_, 1) := by decide +kernel
theorem dX8_in_0 : decode cX8_in 0 = .ok (.lload_n 0, 1) := by decide +kernel
theorem dX8_in_1 : decode cX8_in 1 = .ok (.lload_n 2, 1) := by decide +kernel
theorem dX8_in_2 : decode cX8_in 2 = .ok (.lcmp, 1) := by decide +kernel
theorem dX8_in_3 : decode cX8_in 3 = .ok (.ifCond .lt 14, 3) := by decide +kernel
theorem dX8_in_6 : decode cX8_in 6 = .ok (.lload_n 0, 1) := by decide +kernel
theorem dX8_in_7 : decode cX8_in 7 = .ok (.lload 4, 2) := by decide +kernel
theorem dX8_in_9 : decode cX8_in 9 = .ok (.lcmp, 1) := by decide +kernel
theorem dX8_in_10 : decode cX8_in 10 = .ok (.ifCond .gt 7, 3) := by decide +kernel
theorem dX8_in_13 : decode cX8_in 13 = .ok (.iconst 1, 1) := by decide +kernel
theorem dX8_in_14 : decode cX8_in 14 = .ok (.goto 4, 3) := by decide +kernel
theorem dX8_in_17 : decode cX8_in 17 = .ok (.iconst 0, 1) := by decide +kernel
theorem dX8_in_18 : decode cX8_in 18 = .ok (.ireturn, 1) := by decide +kernel
theorem dX8_ones_0 : decode cX8_ones 0 = .ok (.iconst 0, 1) := by decide +kernel
theorem dX8_ones_1 : decode cX8_ones 1 = .ok (.istore_n 1, 1) := by decide +kernel
theorem dX8_ones_2 : decode cX8_ones 2 = .ok (.iload_n 0, 1) := by decide +kernel
theorem dX8_ones_3 : decode cX8_ones 3 = .ok (.istore_n 2, 1) := by decide +kernel
theorem dX8_ones_4 : decode cX8_ones 4 = .ok (.iload_n 2, 1) := by decide +kernel
theorem dX8_ones_5 : decode cX8_ones 5 = .ok (.ifCond .eq 15, 3) := by decide +kernel
theorem dX8_ones_8 : decode cX8_ones 8 = .ok (.iinc 1 1, 3) := by decide +kernel
theorem dX8_ones_11 : decode cX8_ones 11 = .ok (.iload_n 2, 1) := by decide +kernel
theorem dX8_ones_12 : decode cX8_ones 12 = .ok (.iload_n 2, 1) := by decide +kernel
theorem dX8_ones_13 : decode cX8_ones 13 = .ok (.iconst 1, 1) := by decide +kernel
theorem dX8_ones_14 : decode cX8_ones 14 = .ok (.isub, 1) := by decide +kernel
theorem dX8_ones_15 : decode cX8_ones 15 = .ok (.iand, 1) := by decide +kernel
theorem dX8_ones_16 : decode cX8_ones 16 = .ok (.istore_n 2, 1) := by decide +kernel
theorem dX8_ones_17 : decode cX8_ones 17 = .ok (.goto (-13), 3) := by decide +kernel
theorem dX8_ones_20 : decode cX8_ones 20 = .ok (.iload_n 1, 1) := by decide +kernel
theorem dX8_ones_21 : decode cX8_ones 21 = .ok (.ireturn, 1) := by decide +kernel
theorem dX8_size_0 : decode cX8_size 0 = .ok (.iload_n 0, 1) := by decide +kernel
theorem dX8_size_1 : decode cX8_size 1 = .ok (.ifCond .ge 8, 3) := by decide +kernel
theorem dX8_size_4 : decode cX8_size 4 = .ok (.iload_n 0, 1) := by decide +kernel
theorem dX8_size_5 : decode cX8_size 5 = .ok (.ineg, 1) := by decide +kernel
theorem dX8_size_6 : decode cX8_size 6 = .ok (.goto 4, 3) := by decide +kernel
theorem dX8_size_9 : decode cX8_size 9 = .ok (.iload_n 0, 1) := by decide +kernel
theorem dX8_size_10 : decode cX8_size 10 = .ok (.ireturn, 1) := by decide +kernel
theorem dX8_isPerson_0 : decode cX8_isPerson 0 = .ok (.iload_n 1, 1) := by decide +kernel
theorem dX8_isPerson_1 : decode cX8_isPerson 1 = .ok (.i2l, 1) := by decide +kernel
theorem dX8_isPerson_2 : decode cX8_isPerson 2 = .ok (.lconst 0, 1) := by decide +kernel
theorem dX8_isPerson_3 : decode cX8_isPerson 3 = .ok (.ldc2_w 75, 3) := by decide +kernel
theorem dX8_isPerson_6 : decode cX8_isPerson 6 = .ok (.invokestatic 77, 3) := by decide +kernel
theorem dX8_isPerson_9 : decode cX8_isPerson 9 = .ok (.ifCond .eq 19, 3) := by decide +kernel
theorem dX8_isPerson_12 : decode cX8_isPerson 12 = .ok (.aload_n 0, 1) := by decide +kernel
theorem dX8_isPerson_13 : decode cX8_isPerson 13 = .ok (.getfield 81, 3) := by decide +kernel
theorem dX8_isPerson_16 : decode cX8_isPerson 16 = .ok (.iload_n 1, 1) := by decide +kernel
theorem dX8_isPerson_17 : decode cX8_isPerson 17 = .ok (.ishr, 1) := by decide +kernel
theorem dX8_isPerson_18 : decode cX8_isPerson 18 = .ok (.iconst 1, 1) := by decide +kernel
theorem dX8_isPerson_19 : decode cX8_isPerson 19 = .ok (.iand, 1) := by decide +kernel
theorem dX8_isPerson_20 : decode cX8_isPerson 20 = .ok (.iconst 1, 1) := by decide +kernel
theorem dX8_isPerson_21 : decode cX8_isPerson 21 = .ok (.if_icmp .ne 7, 3) := by decide +kernel
theorem dX8_isPerson_24 : decode cX8_isPerson 24 = .ok (.iconst 1, 1) := by decide +kernel
theorem dX8_isPerson_25 : decode cX8_isPerson 25 = .ok (.goto 4, 3) := by decide +kernel
theorem dX8_isPerson_28 : decode cX8_isPerson 28 = .ok (.iconst 0, 1) := by decide +kernel
theorem dX8_isPerson_29 : decode cX8_isPerson 29 = .ok (.ireturn, 1) := by decide +kernel
theorem dX8_areTwo_0 : decode cX8_areTwo 0 = .ok (.aload_n 0, 1) := by decide +kernel
theorem dX8_areTwo_1 : decode cX8_areTwo 1 = .ok (.iload_n 1, 1) := by decide +kernel
theorem dX8_areTwo_2 : decode cX8_areTwo 2 = .ok (.invokevirtual 84, 3) := by decide +kernel
theorem dX8_areTwo_5 : decode cX8_areTwo 5 = .ok (.ifCond .eq 20, 3) := by decide +kernel
theorem dX8_areTwo_8 : decode cX8_areTwo 8 = .ok (.aload_n 0, 1) := by decide +kernel
theorem dX8_areTwo_9 : decode cX8_areTwo 9 = .ok (.iload_n 2, 1) := by decide +kernel
theorem dX8_areTwo_10 : decode cX8_areTwo 10 = .ok (.invokevirtual 84, 3) := by decide +kernel
theorem dX8_areTwo_13 : decode cX8_areTwo 13 = .ok (.ifCond .eq 12, 3) := by decide +kernel
theorem dX8_areTwo_16 : decode cX8_areTwo 16 = .ok (.iload_n 1, 1) := by decide +kernel
theorem dX8_areTwo_17 : decode cX8_areTwo 17 = .ok (.iload_n 2, 1) := by decide +kernel
theorem dX8_areTwo_18 : decode cX8_areTwo 18 = .ok (.if_icmp .eq 7, 3) := by decide +kernel
theorem dX8_areTwo_21 : decode cX8_areTwo 21 = .ok (.iconst 1, 1) := by decide +kernel
theorem dX8_areTwo_22 : decode cX8_areTwo 22 = .ok (.goto 4, 3) := by decide +kernel
theorem dX8_areTwo_25 : decode cX8_areTwo 25 = .ok (.iconst 0, 1) := by decide +kernel
theorem dX8_areTwo_26 : decode cX8_areTwo 26 = .ok (.ireturn, 1) := by decide +kernel
theorem dX8_pounds_0 : decode cX8_pounds 0 = .ok (.aload_n 0, 1) := by decide +kernel
theorem dX8_pounds_1 : decode cX8_pounds 1 = .ok (.getfield 13, 3) := by decide +kernel
theorem dX8_pounds_4 : decode cX8_pounds 4 = .ok (.iload_n 1, 1) := by decide +kernel
theorem dX8_pounds_5 : decode cX8_pounds 5 = .ok (.iaload, 1) := by decide +kernel
theorem dX8_pounds_6 : decode cX8_pounds 6 = .ok (.aload_n 0, 1) := by decide +kernel
theorem dX8_pounds_7 : decode cX8_pounds 7 = .ok (.getfield 88, 3) := by decide +kernel
theorem dX8_pounds_10 : decode cX8_pounds 10 = .ok (.iload_n 1, 1) := by decide +kernel
theorem dX8_pounds_11 : decode cX8_pounds 11 = .ok (.ishr, 1) := by decide +kernel
theorem dX8_pounds_12 : decode cX8_pounds 12 = .ok (.iconst 1, 1) := by decide +kernel
theorem dX8_pounds_13 : decode cX8_pounds 13 = .ok (.iand, 1) := by decide +kernel
theorem dX8_pounds_14 : decode cX8_pounds 14 = .ok (.iconst 1, 1) := by decide +kernel
theorem dX8_pounds_15 : decode cX8_pounds 15 = .ok (.if_icmp .ne 15, 3) := by decide +kernel
theorem dX8_pounds_18 : decode cX8_pounds 18 = .ok (.aload_n 0, 1) := by decide +kernel
theorem dX8_pounds_19 : decode cX8_pounds 19 = .ok (.getfield 13, 3) := by decide +kernel
theorem dX8_pounds_22 : decode cX8_pounds 22 = .ok (.iload_n 1, 1) := by decide +kernel
theorem dX8_pounds_23 : decode cX8_pounds 23 = .ok (.iaload, 1) := by decide +kernel
theorem dX8_pounds_24 : decode cX8_pounds 24 = .ok (.bipush 10, 2) := by decide +kernel
theorem dX8_pounds_26 : decode cX8_pounds 26 = .ok (.idiv, 1) := by decide +kernel
theorem dX8_pounds_27 : decode cX8_pounds 27 = .ok (.goto 4, 3) := by decide +kernel
theorem dX8_pounds_30 : decode cX8_pounds 30 = .ok (.iconst 0, 1) := by decide +kernel
theorem dX8_pounds_31 : decode cX8_pounds 31 = .ok (.isub, 1) := by decide +kernel
theorem dX8_pounds_32 : decode cX8_pounds 32 = .ok (.ireturn, 1) := by decide +kernel
theorem dX8_person_0 : decode cX8_person 0 = .ok (.iload_n 1, 1) := by decide +kernel
theorem dX8_person_1 : decode cX8_person 1 = .ok (.i2l, 1) := by decide +kernel
theorem dX8_person_2 : decode cX8_person 2 = .ok (.lconst 0, 1) := by decide +kernel
theorem dX8_person_3 : decode cX8_person 3 = .ok (.ldc2_w 75, 3) := by decide +kernel
theorem dX8_person_6 : decode cX8_person 6 = .ok (.invokestatic 77, 3) := by decide +kernel
theorem dX8_person_9 : decode cX8_person 9 = .ok (.ifCond .ne 5, 3) := by decide +kernel
theorem dX8_person_12 : decode cX8_person 12 = .ok (.iconst (-1), 1) := by decide +kernel
theorem dX8_person_13 : decode cX8_person 13 = .ok (.ireturn, 1) := by decide +kernel
theorem dX8_person_14 : decode cX8_person 14 = .ok (.iload_n 2, 1) := by decide +kernel
theorem dX8_person_15 : decode cX8_person 15 = .ok (.i2l, 1) := by decide +kernel
theorem dX8_person_16 : decode cX8_person 16 = .ok (.lconst 1, 1) := by decide +kernel
theorem dX8_person_17 : decode cX8_person 17 = .ok (.ldc2_w 91, 3) := by decide +kernel
theorem dX8_person_20 : decode cX8_person 20 = .ok (.invokestatic 77, 3) := by decide +kernel
theorem dX8_person_23 : decode cX8_person 23 = .ok (.ifCond .eq 30, 3) := by decide +kernel
theorem dX8_person_26 : decode cX8_person 26 = .ok (.iload_n 3, 1) := by decide +kernel
theorem dX8_person_27 : decode cX8_person 27 = .ok (.i2l, 1) := by decide +kernel
theorem dX8_person_28 : decode cX8_person 28 = .ok (.lconst 1, 1) := by decide +kernel
theorem dX8_person_29 : decode cX8_person 29 = .ok (.ldc2_w 93, 3) := by decide +kernel
theorem dX8_person_32 : decode cX8_person 32 = .ok (.invokestatic 77, 3) := by decide +kernel
theorem dX8_person_35 : decode cX8_person 35 = .ok (.ifCond .eq 18, 3) := by decide +kernel
theorem dX8_person_38 : decode cX8_person 38 = .ok (.iload 4, 2) := by decide +kernel
theorem dX8_person_40 : decode cX8_person 40 = .ok (.i2l, 1) := by decide +kernel
theorem dX8_person_41 : decode cX8_person 41 = .ok (.ldc2_w 95, 3) := by decide +kernel
theorem dX8_person_44 : decode cX8_person 44 = .ok (.ldc2_w 97, 3) := by decide +kernel
theorem dX8_person_47 : decode cX8_person 47 = .ok (.invokestatic 77, 3) := by decide +kernel
theorem dX8_person_50 : decode cX8_person 50 = .ok (.ifCond .ne 6, 3) := by decide +kernel
theorem dX8_person_53 : decode cX8_person 53 = .ok (.bipush (-2), 2) := by decide +kernel
theorem dX8_person_55 : decode cX8_person 55 = .ok (.ireturn, 1) := by decide +kernel
theorem dX8_person_56 : decode cX8_person 56 = .ok (.aload_n 0, 1) := by decide +kernel
theorem dX8_person_57 : decode cX8_person 57 = .ok (.getfield 7, 3) := by decide +kernel
theorem dX8_person_60 : decode cX8_person 60 = .ok (.iload_n 1, 1) := by decide +kernel
theorem dX8_person_61 : decode cX8_person 61 = .ok (.iload_n 2, 1) := by decide +kernel
theorem dX8_person_62 : decode cX8_person 62 = .ok (.iastore, 1) := by decide +kernel
theorem dX8_person_63 : decode cX8_person 63 = .ok (.aload_n 0, 1) := by decide +kernel
theorem dX8_person_64 : decode cX8_person 64 = .ok (.getfield 13, 3) := by decide +kernel
theorem dX8_person_67 : decode cX8_person 67 = .ok (.iload_n 1, 1) := by decide +kernel
theorem dX8_person_68 : decode cX8_person 68 = .ok (.iload_n 3, 1) := by decide +kernel
theorem dX8_person_69 : decode cX8_person 69 = .ok (.iastore, 1) := by decide +kernel
theorem dX8_person_70 : decode cX8_person 70 = .ok (.aload_n 0, 1) := by decide +kernel
theorem dX8_person_71 : decode cX8_person 71 = .ok (.getfield 16, 3) := by decide +kernel
theorem dX8_person_74 : decode cX8_person 74 = .ok (.iload_n 1, 1) := by decide +kernel
theorem dX8_person_75 : decode cX8_person 75 = .ok (.iload 4, 2) := by decide +kernel
theorem dX8_person_77 : decode cX8_person 77 = .ok (.iastore, 1) := by decide +kernel
theorem dX8_person_78 : decode cX8_person 78 = .ok (.aload_n 0, 1) := by decide +kernel
theorem dX8_person_79 : decode cX8_person 79 = .ok (.dup, 1) := by decide +kernel
theorem dX8_person_80 : decode cX8_person 80 = .ok (.getfield 81, 3) := by decide +kernel
theorem dX8_person_83 : decode cX8_person 83 = .ok (.iconst 1, 1) := by decide +kernel
theorem dX8_person_84 : decode cX8_person 84 = .ok (.iload_n 1, 1) := by decide +kernel
theorem dX8_person_85 : decode cX8_person 85 = .ok (.ishl, 1) := by decide +kernel
theorem dX8_person_86 : decode cX8_person 86 = .ok (.ior, 1) := by decide +kernel
theorem dX8_person_87 : decode cX8_person 87 = .ok (.putfield 81, 3) := by decide +kernel
theorem dX8_person_90 : decode cX8_person 90 = .ok (.aload_n 0, 1) := by decide +kernel
theorem dX8_person_91 : decode cX8_person 91 = .ok (.dup, 1) := by decide +kernel
theorem dX8_person_92 : decode cX8_person 92 = .ok (.getfield 88, 3) := by decide +kernel
theorem dX8_person_95 : decode cX8_person 95 = .ok (.iconst 1, 1) := by decide +kernel
theorem dX8_person_96 : decode cX8_person 96 = .ok (.iload_n 1, 1) := by decide +kernel
theorem dX8_person_97 : decode cX8_person 97 = .ok (.ishl, 1) := by decide +kernel
theorem dX8_person_98 : decode cX8_person 98 = .ok (.iconst (-1), 1) := by decide +kernel
theorem dX8_person_99 : decode cX8_person 99 = .ok (.ixor, 1) := by decide +kernel
theorem dX8_person_100 : decode cX8_person 100 = .ok (.iand, 1) := by decide +kernel
theorem dX8_person_101 : decode cX8_person 101 = .ok (.putfield 88, 3) := by decide +kernel
theorem dX8_person_104 : decode cX8_person 104 = .ok (.aload_n 0, 1) := by decide +kernel
theorem dX8_person_105 : decode cX8_person 105 = .ok (.getfield 81, 3) := by decide +kernel
theorem dX8_person_108 : decode cX8_person 108 = .ok (.invokestatic 99, 3) := by decide +kernel
theorem dX8_person_111 : decode cX8_person 111 = .ok (.ireturn, 1) := by decide +kernel
theorem dX8_part_0 : decode cX8_part 0 = .ok (.aload_n 0, 1) := by decide +kernel
theorem dX8_part_1 : decode cX8_part 1 = .ok (.getfield 19, 3) := by decide +kernel
theorem dX8_part_4 : decode cX8_part 4 = .ok (.iload_n 1, 1) := by decide +kernel
theorem dX8_part_5 : decode cX8_part 5 = .ok (.iaload, 1) := by decide +kernel
theorem dX8_part_6 : decode cX8_part 6 = .ok (.ifCond .lt 16, 3) := by decide +kernel
theorem dX8_part_9 : decode cX8_part 9 = .ok (.aload_n 0, 1) := by decide +kernel
theorem dX8_part_10 : decode cX8_part 10 = .ok (.getfield 19, 3) := by decide +kernel
theorem dX8_part_13 : decode cX8_part 13 = .ok (.aload_n 0, 1) := by decide +kernel
theorem dX8_part_14 : decode cX8_part 14 = .ok (.getfield 19, 3) := by decide +kernel
theorem dX8_part_17 : decode cX8_part 17 = .ok (.iload_n 1, 1) := by decide +kernel
theorem dX8_part_18 : decode cX8_part 18 = .ok (.iaload, 1) := by decide +kernel
theorem dX8_part_19 : decode cX8_part 19 = .ok (.bipush (-6), 2) := by decide +kernel
theorem dX8_part_21 : decode cX8_part 21 = .ok (.iastore, 1) := by decide +kernel
theorem dX8_part_22 : decode cX8_part 22 = .ok (.aload_n 0, 1) := by decide +kernel
theorem dX8_part_23 : decode cX8_part 23 = .ok (.getfield 19, 3) := by decide +kernel
theorem dX8_part_26 : decode cX8_part 26 = .ok (.iload_n 1, 1) := by decide +kernel
theorem dX8_part_27 : decode cX8_part 27 = .ok (.bipush (-6), 2) := by decide +kernel
theorem dX8_part_29 : decode cX8_part 29 = .ok (.iastore, 1) := by decide +kernel
theorem dX8_part_30 : decode cX8_part 30 = .ok (.return_, 1) := by decide +kernel
theorem dX8_leave_0 : decode cX8_leave 0 = .ok (.aload_n 0, 1) := by decide +kernel
theorem dX8_leave_1 : decode cX8_leave 1 = .ok (.iload_n 1, 1) := by decide +kernel
theorem dX8_leave_2 : decode cX8_leave 2 = .ok (.invokevirtual 84, 3) := by decide +kernel
theorem dX8_leave_5 : decode cX8_leave 5 = .ok (.ifCond .ne 5, 3) := by decide +kernel
theorem dX8_leave_8 : decode cX8_leave 8 = .ok (.iconst (-1), 1) := by decide +kernel
theorem dX8_leave_9 : decode cX8_leave 9 = .ok (.ireturn, 1) := by decide +kernel
theorem dX8_leave_10 : decode cX8_leave 10 = .ok (.aload_n 0, 1) := by decide +kernel
theorem dX8_leave_11 : decode cX8_leave 11 = .ok (.iload_n 1, 1) := by decide +kernel
theorem dX8_leave_12 : decode cX8_leave 12 = .ok (.invokevirtual 103, 3) := by decide +kernel
theorem dX8_leave_15 : decode cX8_leave 15 = .ok (.aload_n 0, 1) := by decide +kernel
theorem dX8_leave_16 : decode cX8_leave 16 = .ok (.dup, 1) := by decide +kernel
theorem dX8_leave_17 : decode cX8_leave 17 = .ok (.getfield 81, 3) := by decide +kernel
theorem dX8_leave_20 : decode cX8_leave 20 = .ok (.iconst 1, 1) := by decide +kernel
theorem dX8_leave_21 : decode cX8_leave 21 = .ok (.iload_n 1, 1) := by decide +kernel
theorem dX8_leave_22 : decode cX8_leave 22 = .ok (.ishl, 1) := by decide +kernel
theorem dX8_leave_23 : decode cX8_leave 23 = .ok (.iconst (-1), 1) := by decide +kernel
theorem dX8_leave_24 : decode cX8_leave 24 = .ok (.ixor, 1) := by decide +kernel
theorem dX8_leave_25 : decode cX8_leave 25 = .ok (.iand, 1) := by decide +kernel
theorem dX8_leave_26 : decode cX8_leave 26 = .ok (.putfield 81, 3) := by decide +kernel
theorem dX8_leave_29 : decode cX8_leave 29 = .ok (.aload_n 0, 1) := by decide +kernel
theorem dX8_leave_30 : decode cX8_leave 30 = .ok (.dup, 1) := by decide +kernel
theorem dX8_leave_31 : decode cX8_leave 31 = .ok (.getfield 88, 3) := by decide +kernel
theorem dX8_leave_34 : decode cX8_leave 34 = .ok (.iconst 1, 1) := by decide +kernel
theorem dX8_leave_35 : decode cX8_leave 35 = .ok (.iload_n 1, 1) := by decide +kernel
theorem dX8_leave_36 : decode cX8_leave 36 = .ok (.ishl, 1) := by decide +kernel
theorem dX8_leave_37 : decode cX8_leave 37 = .ok (.iconst (-1), 1) := by decide +kernel
theorem dX8_leave_38 : decode cX8_leave 38 = .ok (.ixor, 1) := by decide +kernel
theorem dX8_leave_39 : decode cX8_leave 39 = .ok (.iand, 1) := by decide +kernel
theorem dX8_leave_40 : decode cX8_leave 40 = .ok (.putfield 88, 3) := by decide +kernel
theorem dX8_leave_43 : decode cX8_leave 43 = .ok (.aload_n 0, 1) := by decide +kernel
theorem dX8_leave_44 : decode cX8_leave 44 = .ok (.getfield 81, 3) := by decide +kernel
theorem dX8_leave_47 : decode cX8_leave 47 = .ok (.invokestatic 99, 3) := by decide +kernel
theorem dX8_leave_50 : decode cX8_leave 50 = .ok (.ireturn, 1) := by decide +kernel
theorem dX8_marriages_0 : decode cX8_marriages 0 = .ok (.iconst 0, 1) := by decide +kernel
theorem dX8_marriages_1 : decode cX8_marriages 1 = .ok (.istore_n 1, 1) := by decide +kernel
theorem dX8_marriages_2 : decode cX8_marriages 2 = .ok (.iconst 0, 1) := by decide +kernel
theorem dX8_marriages_3 : decode cX8_marriages 3 = .ok (.istore_n 2, 1) := by decide +kernel
theorem dX8_marriages_4 : decode cX8_marriages 4 = .ok (.iload_n 2, 1) := by decide +kernel
theorem dX8_marriages_5 : decode cX8_marriages 5 = .ok (.bipush 8, 2) := by decide +kernel
theorem dX8_marriages_7 : decode cX8_marriages 7 = .ok (.if_icmp .ge 27, 3) := by decide +kernel
theorem dX8_marriages_10 : decode cX8_marriages 10 = .ok (.iload_n 1, 1) := by decide +kernel
theorem dX8_marriages_11 : decode cX8_marriages 11 = .ok (.aload_n 0, 1) := by decide +kernel
theorem dX8_marriages_12 : decode cX8_marriages 12 = .ok (.getfield 19, 3) := by decide +kernel
theorem dX8_marriages_15 : decode cX8_marriages 15 = .ok (.iload_n 2, 1) := by decide +kernel
theorem dX8_marriages_16 : decode cX8_marriages 16 = .ok (.iaload, 1) := by decide +kernel
theorem dX8_marriages_17 : decode cX8_marriages 17 = .ok (.iload_n 2, 1) := by decide +kernel
theorem dX8_marriages_18 : decode cX8_marriages 18 = .ok (.if_icmp .le 7, 3) := by decide +kernel
theorem dX8_marriages_21 : decode cX8_marriages 21 = .ok (.iconst 1, 1) := by decide +kernel
theorem dX8_marriages_22 : decode cX8_marriages 22 = .ok (.goto 4, 3) := by decide +kernel
theorem dX8_marriages_25 : decode cX8_marriages 25 = .ok (.iconst 0, 1) := by decide +kernel
theorem dX8_marriages_26 : decode cX8_marriages 26 = .ok (.iadd, 1) := by decide +kernel
theorem dX8_marriages_27 : decode cX8_marriages 27 = .ok (.istore_n 1, 1) := by decide +kernel
theorem dX8_marriages_28 : decode cX8_marriages 28 = .ok (.iinc 2 1, 3) := by decide +kernel
theorem dX8_marriages_31 : decode cX8_marriages 31 = .ok (.goto (-27), 3) := by decide +kernel
theorem dX8_marriages_34 : decode cX8_marriages 34 = .ok (.iload_n 1, 1) := by decide +kernel
theorem dX8_marriages_35 : decode cX8_marriages 35 = .ok (.ireturn, 1) := by decide +kernel
theorem dX8_marry_0 : decode cX8_marry 0 = .ok (.aload_n 0, 1) := by decide +kernel
theorem dX8_marry_1 : decode cX8_marry 1 = .ok (.iload_n 1, 1) := by decide +kernel
theorem dX8_marry_2 : decode cX8_marry 2 = .ok (.iload_n 2, 1) := by decide +kernel
theorem dX8_marry_3 : decode cX8_marry 3 = .ok (.invokevirtual 107, 3) := by decide +kernel
theorem dX8_marry_6 : decode cX8_marry 6 = .ok (.ifCond .ne 5, 3) := by decide +kernel
theorem dX8_marry_9 : decode cX8_marry 9 = .ok (.iconst (-1), 1) := by decide +kernel
theorem dX8_marry_10 : decode cX8_marry 10 = .ok (.ireturn, 1) := by decide +kernel
theorem dX8_marry_11 : decode cX8_marry 11 = .ok (.aload_n 0, 1) := by decide +kernel
theorem dX8_marry_12 : decode cX8_marry 12 = .ok (.getfield 19, 3) := by decide +kernel
theorem dX8_marry_15 : decode cX8_marry 15 = .ok (.iload_n 1, 1) := by decide +kernel
theorem dX8_marry_16 : decode cX8_marry 16 = .ok (.iaload, 1) := by decide +kernel
theorem dX8_marry_17 : decode cX8_marry 17 = .ok (.iload_n 2, 1) := by decide +kernel
theorem dX8_marry_18 : decode cX8_marry 18 = .ok (.if_icmp .ne 7, 3) := by decide +kernel
theorem dX8_marry_21 : decode cX8_marry 21 = .ok (.iconst 1, 1) := by decide +kernel
theorem dX8_marry_22 : decode cX8_marry 22 = .ok (.goto 4, 3) := by decide +kernel
theorem dX8_marry_25 : decode cX8_marry 25 = .ok (.iconst 0, 1) := by decide +kernel
theorem dX8_marry_26 : decode cX8_marry 26 = .ok (.istore 4, 2) := by decide +kernel
theorem dX8_marry_28 : decode cX8_marry 28 = .ok (.aload_n 0, 1) := by decide +kernel
theorem dX8_marry_29 : decode cX8_marry 29 = .ok (.getfield 19, 3) := by decide +kernel
theorem dX8_marry_32 : decode cX8_marry 32 = .ok (.iload_n 1, 1) := by decide +kernel
theorem dX8_marry_33 : decode cX8_marry 33 = .ok (.iaload, 1) := by decide +kernel
theorem dX8_marry_34 : decode cX8_marry 34 = .ok (.ifCond .ge 16, 3) := by decide +kernel
theorem dX8_marry_37 : decode cX8_marry 37 = .ok (.aload_n 0, 1) := by decide +kernel
theorem dX8_marry_38 : decode cX8_marry 38 = .ok (.getfield 19, 3) := by decide +kernel
theorem dX8_marry_41 : decode cX8_marry 41 = .ok (.iload_n 2, 1) := by decide +kernel
theorem dX8_marry_42 : decode cX8_marry 42 = .ok (.iaload, 1) := by decide +kernel
theorem dX8_marry_43 : decode cX8_marry 43 = .ok (.ifCond .ge 7, 3) := by decide +kernel
theorem dX8_marry_46 : decode cX8_marry 46 = .ok (.iconst 1, 1) := by decide +kernel
theorem dX8_marry_47 : decode cX8_marry 47 = .ok (.goto 4, 3) := by decide +kernel
theorem dX8_marry_50 : decode cX8_marry 50 = .ok (.iconst 0, 1) := by decide +kernel
theorem dX8_marry_51 : decode cX8_marry 51 = .ok (.istore 5, 2) := by decide +kernel
theorem dX8_marry_53 : decode cX8_marry 53 = .ok (.iload 4, 2) := by decide +kernel
theorem dX8_marry_55 : decode cX8_marry 55 = .ok (.ifCond .ne 15, 3) := by decide +kernel
theorem dX8_marry_58 : decode cX8_marry 58 = .ok (.iload_n 3, 1) := by decide +kernel
theorem dX8_marry_59 : decode cX8_marry 59 = .ok (.ifCond .eq 8, 3) := by decide +kernel
theorem dX8_marry_62 : decode cX8_marry 62 = .ok (.iload 5, 2) := by decide +kernel
theorem dX8_marry_64 : decode cX8_marry 64 = .ok (.ifCond .ne 6, 3) := by decide +kernel
theorem dX8_marry_67 : decode cX8_marry 67 = .ok (.bipush (-3), 2) := by decide +kernel
theorem dX8_marry_69 : decode cX8_marry 69 = .ok (.ireturn, 1) := by decide +kernel
theorem dX8_marry_70 : decode cX8_marry 70 = .ok (.aload_n 0, 1) := by decide +kernel
theorem dX8_marry_71 : decode cX8_marry 71 = .ok (.iload_n 1, 1) := by decide +kernel
theorem dX8_marry_72 : decode cX8_marry 72 = .ok (.invokevirtual 103, 3) := by decide +kernel
theorem dX8_marry_75 : decode cX8_marry 75 = .ok (.aload_n 0, 1) := by decide +kernel
theorem dX8_marry_76 : decode cX8_marry 76 = .ok (.getfield 19, 3) := by decide +kernel
theorem dX8_marry_79 : decode cX8_marry 79 = .ok (.iload_n 1, 1) := by decide +kernel
theorem dX8_marry_80 : decode cX8_marry 80 = .ok (.iload_n 3, 1) := by decide +kernel
theorem dX8_marry_81 : decode cX8_marry 81 = .ok (.ifCond .eq 7, 3) := by decide +kernel
theorem dX8_marry_84 : decode cX8_marry 84 = .ok (.iload_n 2, 1) := by decide +kernel
theorem dX8_marry_85 : decode cX8_marry 85 = .ok (.goto 5, 3) := by decide +kernel
theorem dX8_marry_88 : decode cX8_marry 88 = .ok (.bipush (-6), 2) := by decide +kernel
theorem dX8_marry_90 : decode cX8_marry 90 = .ok (.iastore, 1) := by decide +kernel
theorem dX8_marry_91 : decode cX8_marry 91 = .ok (.aload_n 0, 1) := by decide +kernel
theorem dX8_marry_92 : decode cX8_marry 92 = .ok (.getfield 19, 3) := by decide +kernel
theorem dX8_marry_95 : decode cX8_marry 95 = .ok (.iload_n 2, 1) := by decide +kernel
theorem dX8_marry_96 : decode cX8_marry 96 = .ok (.iload_n 3, 1) := by decide +kernel
theorem dX8_marry_97 : decode cX8_marry 97 = .ok (.ifCond .eq 7, 3) := by decide +kernel
theorem dX8_marry_100 : decode cX8_marry 100 = .ok (.iload_n 1, 1) := by decide +kernel
theorem dX8_marry_101 : decode cX8_marry 101 = .ok (.goto 5, 3) := by decide +kernel
theorem dX8_marry_104 : decode cX8_marry 104 = .ok (.bipush (-6), 2) := by decide +kernel
theorem dX8_marry_106 : decode cX8_marry 106 = .ok (.iastore, 1) := by decide +kernel
theorem dX8_marry_107 : decode cX8_marry 107 = .ok (.aload_n 0, 1) := by decide +kernel
theorem dX8_marry_108 : decode cX8_marry 108 = .ok (.invokevirtual 111, 3) := by decide +kernel
theorem dX8_marry_111 : decode cX8_marry 111 = .ok (.ireturn, 1) := by decide +kernel
theorem dX8_limit_0 : decode cX8_limit 0 = .ok (.iload_n 1, 1) := by decide +kernel
theorem dX8_limit_1 : decode cX8_limit 1 = .ok (.i2l, 1) := by decide +kernel
theorem dX8_limit_2 : decode cX8_limit 2 = .ok (.lconst 0, 1) := by decide +kernel
theorem dX8_limit_3 : decode cX8_limit 3 = .ok (.ldc2_w 115, 3) := by decide +kernel
theorem dX8_limit_6 : decode cX8_limit 6 = .ok (.invokestatic 77, 3) := by decide +kernel
theorem dX8_limit_9 : decode cX8_limit 9 = .ok (.ifCond .ne 6, 3) := by decide +kernel
theorem dX8_limit_12 : decode cX8_limit 12 = .ok (.bipush (-2), 2) := by decide +kernel
theorem dX8_limit_14 : decode cX8_limit 14 = .ok (.ireturn, 1) := by decide +kernel
theorem dX8_limit_15 : decode cX8_limit 15 = .ok (.aload_n 0, 1) := by decide +kernel
theorem dX8_limit_16 : decode cX8_limit 16 = .ok (.getfield 71, 3) := by decide +kernel
theorem dX8_limit_19 : decode cX8_limit 19 = .ok (.istore_n 2, 1) := by decide +kernel
theorem dX8_limit_20 : decode cX8_limit 20 = .ok (.aload_n 0, 1) := by decide +kernel
theorem dX8_limit_21 : decode cX8_limit 21 = .ok (.iload_n 1, 1) := by decide +kernel
theorem dX8_limit_22 : decode cX8_limit 22 = .ok (.putfield 71, 3) := by decide +kernel
theorem dX8_limit_25 : decode cX8_limit 25 = .ok (.iload_n 2, 1) := by decide +kernel
theorem dX8_limit_26 : decode cX8_limit 26 = .ok (.ireturn, 1) := by decide +kernel
theorem dX8_say_0 : decode cX8_say 0 = .ok (.iload_n 1, 1) := by decide +kernel
theorem dX8_say_1 : decode cX8_say 1 = .ok (.i2l, 1) := by decide +kernel
theorem dX8_say_2 : decode cX8_say 2 = .ok (.ldc2_w 117, 3) := by decide +kernel
theorem dX8_say_5 : decode cX8_say 5 = .ok (.ldc2_w 119, 3) := by decide +kernel
theorem dX8_say_8 : decode cX8_say 8 = .ok (.invokestatic 77, 3) := by decide +kernel
theorem dX8_say_11 : decode cX8_say 11 = .ok (.ifCond .ne 6, 3) := by decide +kernel
theorem dX8_say_14 : decode cX8_say 14 = .ok (.bipush (-2), 2) := by decide +kernel
theorem dX8_say_16 : decode cX8_say 16 = .ok (.ireturn, 1) := by decide +kernel
theorem dX8_say_17 : decode cX8_say 17 = .ok (.aload_n 0, 1) := by decide +kernel
theorem dX8_say_18 : decode cX8_say 18 = .ok (.getfield 121, 3) := by decide +kernel
theorem dX8_say_21 : decode cX8_say 21 = .ok (.bipush 60, 2) := by decide +kernel
theorem dX8_say_23 : decode cX8_say 23 = .ok (.if_icmp .ne 6, 3) := by decide +kernel
theorem dX8_say_26 : decode cX8_say 26 = .ok (.bipush (-4), 2) := by decide +kernel
theorem dX8_say_28 : decode cX8_say 28 = .ok (.ireturn, 1) := by decide +kernel
theorem dX8_say_29 : decode cX8_say 29 = .ok (.aload_n 0, 1) := by decide +kernel
theorem dX8_say_30 : decode cX8_say 30 = .ok (.getfield 31, 3) := by decide +kernel
theorem dX8_say_33 : decode cX8_say 33 = .ok (.aload_n 0, 1) := by decide +kernel
theorem dX8_say_34 : decode cX8_say 34 = .ok (.getfield 121, 3) := by decide +kernel
theorem dX8_say_37 : decode cX8_say 37 = .ok (.iload_n 1, 1) := by decide +kernel
theorem dX8_say_38 : decode cX8_say 38 = .ok (.iastore, 1) := by decide +kernel
theorem dX8_say_39 : decode cX8_say 39 = .ok (.aload_n 0, 1) := by decide +kernel
theorem dX8_say_40 : decode cX8_say 40 = .ok (.dup, 1) := by decide +kernel
theorem dX8_say_41 : decode cX8_say 41 = .ok (.getfield 121, 3) := by decide +kernel
theorem dX8_say_44 : decode cX8_say 44 = .ok (.iconst 1, 1) := by decide +kernel
theorem dX8_say_45 : decode cX8_say 45 = .ok (.iadd, 1) := by decide +kernel
theorem dX8_say_46 : decode cX8_say 46 = .ok (.putfield 121, 3) := by decide +kernel
theorem dX8_say_49 : decode cX8_say 49 = .ok (.aload_n 0, 1) := by decide +kernel
theorem dX8_say_50 : decode cX8_say 50 = .ok (.getfield 121, 3) := by decide +kernel
theorem dX8_say_53 : decode cX8_say 53 = .ok (.ireturn, 1) := by decide +kernel
theorem dX8_wipe_0 : decode cX8_wipe 0 = .ok (.aload_n 0, 1) := by decide +kernel
theorem dX8_wipe_1 : decode cX8_wipe 1 = .ok (.getfield 121, 3) := by decide +kernel
theorem dX8_wipe_4 : decode cX8_wipe 4 = .ok (.istore_n 1, 1) := by decide +kernel
theorem dX8_wipe_5 : decode cX8_wipe 5 = .ok (.aload_n 0, 1) := by decide +kernel
theorem dX8_wipe_6 : decode cX8_wipe 6 = .ok (.iconst 0, 1) := by decide +kernel
theorem dX8_wipe_7 : decode cX8_wipe 7 = .ok (.putfield 121, 3) := by decide +kernel
theorem dX8_wipe_10 : decode cX8_wipe 10 = .ok (.iload_n 1, 1) := by decide +kernel
theorem dX8_wipe_11 : decode cX8_wipe 11 = .ok (.ireturn, 1) := by decide +kernel
theorem dX8_beginAct_0 : decode cX8_beginAct 0 = .ok (.aload_n 0, 1) := by decide +kernel
theorem dX8_beginAct_1 : decode cX8_beginAct 1 = .ok (.getfield 34, 3) := by decide +kernel
theorem dX8_beginAct_4 : decode cX8_beginAct 4 = .ok (.aload_n 0, 1) := by decide +kernel
theorem dX8_beginAct_5 : decode cX8_beginAct 5 = .ok (.getfield 124, 3) := by decide +kernel
theorem dX8_beginAct_8 : decode cX8_beginAct 8 = .ok (.iload_n 1, 1) := by decide +kernel
theorem dX8_beginAct_9 : decode cX8_beginAct 9 = .ok (.bipush 46, 2) := by decide +kernel
theorem dX8_beginAct_11 : decode cX8_beginAct 11 = .ok (.if_icmp .ne 7, 3) := by decide +kernel
theorem dX8_beginAct_14 : decode cX8_beginAct 14 = .ok (.iconst 1, 1) := by decide +kernel
theorem dX8_beginAct_15 : decode cX8_beginAct 15 = .ok (.goto 24, 3) := by decide +kernel
theorem dX8_beginAct_18 : decode cX8_beginAct 18 = .ok (.iload_n 1, 1) := by decide +kernel
theorem dX8_beginAct_19 : decode cX8_beginAct 19 = .ok (.bipush 42, 2) := by decide +kernel
theorem dX8_beginAct_21 : decode cX8_beginAct 21 = .ok (.if_icmp .ne 7, 3) := by decide +kernel
theorem dX8_beginAct_24 : decode cX8_beginAct 24 = .ok (.iconst 2, 1) := by decide +kernel
theorem dX8_beginAct_25 : decode cX8_beginAct 25 = .ok (.goto 14, 3) := by decide +kernel
theorem dX8_beginAct_28 : decode cX8_beginAct 28 = .ok (.iload_n 1, 1) := by decide +kernel
theorem dX8_beginAct_29 : decode cX8_beginAct 29 = .ok (.bipush 94, 2) := by decide +kernel
theorem dX8_beginAct_31 : decode cX8_beginAct 31 = .ok (.if_icmp .ne 7, 3) := by decide +kernel
theorem dX8_beginAct_34 : decode cX8_beginAct 34 = .ok (.iconst 3, 1) := by decide +kernel
theorem dX8_beginAct_35 : decode cX8_beginAct 35 = .ok (.goto 4, 3) := by decide +kernel
theorem dX8_beginAct_38 : decode cX8_beginAct 38 = .ok (.iconst 0, 1) := by decide +kernel
theorem dX8_beginAct_39 : decode cX8_beginAct 39 = .ok (.iastore, 1) := by decide +kernel
theorem dX8_beginAct_40 : decode cX8_beginAct 40 = .ok (.aload_n 0, 1) := by decide +kernel
theorem dX8_beginAct_41 : decode cX8_beginAct 41 = .ok (.getfield 37, 3) := by decide +kernel
theorem dX8_beginAct_44 : decode cX8_beginAct 44 = .ok (.aload_n 0, 1) := by decide +kernel
theorem dX8_beginAct_45 : decode cX8_beginAct 45 = .ok (.getfield 124, 3) := by decide +kernel
theorem dX8_beginAct_48 : decode cX8_beginAct 48 = .ok (.iconst 0, 1) := by decide +kernel
theorem dX8_beginAct_49 : decode cX8_beginAct 49 = .ok (.iastore, 1) := by decide +kernel
theorem dX8_beginAct_50 : decode cX8_beginAct 50 = .ok (.aload_n 0, 1) := by decide +kernel
theorem dX8_beginAct_51 : decode cX8_beginAct 51 = .ok (.getfield 40, 3) := by decide +kernel
theorem dX8_beginAct_54 : decode cX8_beginAct 54 = .ok (.aload_n 0, 1) := by decide +kernel
theorem dX8_beginAct_55 : decode cX8_beginAct 55 = .ok (.getfield 124, 3) := by decide +kernel
theorem dX8_beginAct_58 : decode cX8_beginAct 58 = .ok (.iconst 0, 1) := by decide +kernel
theorem dX8_beginAct_59 : decode cX8_beginAct 59 = .ok (.iastore, 1) := by decide +kernel
theorem dX8_beginAct_60 : decode cX8_beginAct 60 = .ok (.aload_n 0, 1) := by decide +kernel
theorem dX8_beginAct_61 : decode cX8_beginAct 61 = .ok (.getfield 43, 3) := by decide +kernel
theorem dX8_beginAct_64 : decode cX8_beginAct 64 = .ok (.aload_n 0, 1) := by decide +kernel
theorem dX8_beginAct_65 : decode cX8_beginAct 65 = .ok (.getfield 124, 3) := by decide +kernel
theorem dX8_beginAct_68 : decode cX8_beginAct 68 = .ok (.iconst 0, 1) := by decide +kernel
theorem dX8_beginAct_69 : decode cX8_beginAct 69 = .ok (.iastore, 1) := by decide +kernel
theorem dX8_beginAct_70 : decode cX8_beginAct 70 = .ok (.aload_n 0, 1) := by decide +kernel
theorem dX8_beginAct_71 : decode cX8_beginAct 71 = .ok (.getfield 34, 3) := by decide +kernel
theorem dX8_beginAct_74 : decode cX8_beginAct 74 = .ok (.aload_n 0, 1) := by decide +kernel
theorem dX8_beginAct_75 : decode cX8_beginAct 75 = .ok (.getfield 124, 3) := by decide +kernel
theorem dX8_beginAct_78 : decode cX8_beginAct 78 = .ok (.iaload, 1) := by decide +kernel
theorem dX8_beginAct_79 : decode cX8_beginAct 79 = .ok (.ifCond .ne 9, 3) := by decide +kernel
theorem dX8_beginAct_82 : decode cX8_beginAct 82 = .ok (.aload_n 0, 1) := by decide +kernel
theorem dX8_beginAct_83 : decode cX8_beginAct 83 = .ok (.iload_n 1, 1) := by decide +kernel
theorem dX8_beginAct_84 : decode cX8_beginAct 84 = .ok (.invokevirtual 127, 3) := by decide +kernel
theorem dX8_beginAct_87 : decode cX8_beginAct 87 = .ok (.ireturn, 1) := by decide +kernel
theorem dX8_beginAct_88 : decode cX8_beginAct 88 = .ok (.aload_n 0, 1) := by decide +kernel
theorem dX8_beginAct_89 : decode cX8_beginAct 89 = .ok (.dup, 1) := by decide +kernel
theorem dX8_beginAct_90 : decode cX8_beginAct 90 = .ok (.getfield 124, 3) := by decide +kernel
theorem dX8_beginAct_93 : decode cX8_beginAct 93 = .ok (.iload_n 1, 1) := by decide +kernel
theorem dX8_beginAct_94 : decode cX8_beginAct 94 = .ok (.bipush 94, 2) := by decide +kernel
theorem dX8_beginAct_96 : decode cX8_beginAct 96 = .ok (.if_icmp .ne 7, 3) := by decide +kernel
theorem dX8_beginAct_99 : decode cX8_beginAct 99 = .ok (.iconst 0, 1) := by decide +kernel
theorem dX8_beginAct_100 : decode cX8_beginAct 100 = .ok (.goto 4, 3) := by decide +kernel
theorem dX8_beginAct_103 : decode cX8_beginAct 103 = .ok (.iconst 1, 1) := by decide +kernel
theorem dX8_beginAct_104 : decode cX8_beginAct 104 = .ok (.iadd, 1) := by decide +kernel
theorem dX8_beginAct_105 : decode cX8_beginAct 105 = .ok (.putfield 124, 3) := by decide +kernel
theorem dX8_beginAct_108 : decode cX8_beginAct 108 = .ok (.iload_n 1, 1) := by decide +kernel
theorem dX8_beginAct_109 : decode cX8_beginAct 109 = .ok (.bipush 94, 2) := by decide +kernel
theorem dX8_beginAct_111 : decode cX8_beginAct 111 = .ok (.if_icmp .ne 7, 3) := by decide +kernel
theorem dX8_beginAct_114 : decode cX8_beginAct 114 = .ok (.iconst 4, 1) := by decide +kernel
theorem dX8_beginAct_115 : decode cX8_beginAct 115 = .ok (.goto 4, 3) := by decide +kernel
theorem dX8_beginAct_118 : decode cX8_beginAct 118 = .ok (.iconst 0, 1) := by decide +kernel
theorem dX8_beginAct_119 : decode cX8_beginAct 119 = .ok (.ireturn, 1) := by decide +kernel
theorem dX8_isLetter_0 : decode cX8_isLetter 0 = .ok (.iload_n 0, 1) := by decide +kernel
theorem dX8_isLetter_1 : decode cX8_isLetter 1 = .ok (.i2l, 1) := by decide +kernel
theorem dX8_isLetter_2 : decode cX8_isLetter 2 = .ok (.ldc2_w 130, 3) := by decide +kernel
theorem dX8_isLetter_5 : decode cX8_isLetter 5 = .ok (.ldc2_w 132, 3) := by decide +kernel
theorem dX8_isLetter_8 : decode cX8_isLetter 8 = .ok (.invokestatic 77, 3) := by decide +kernel
theorem dX8_isLetter_11 : decode cX8_isLetter 11 = .ok (.ireturn, 1) := by decide +kernel
theorem dX8_sit_0 : decode cX8_sit 0 = .ok (.iconst 1, 1) := by decide +kernel
theorem dX8_sit_1 : decode cX8_sit 1 = .ok (.iload_n 1, 1) := by decide +kernel
theorem dX8_sit_2 : decode cX8_sit 2 = .ok (.bipush 65, 2) := by decide +kernel
theorem dX8_sit_4 : decode cX8_sit 4 = .ok (.isub, 1) := by decide +kernel
theorem dX8_sit_5 : decode cX8_sit 5 = .ok (.ishl, 1) := by decide +kernel
theorem dX8_sit_6 : decode cX8_sit 6 = .ok (.istore_n 2, 1) := by decide +kernel
theorem dX8_sit_7 : decode cX8_sit 7 = .ok (.aload_n 0, 1) := by decide +kernel
theorem dX8_sit_8 : decode cX8_sit 8 = .ok (.getfield 43, 3) := by decide +kernel
theorem dX8_sit_11 : decode cX8_sit 11 = .ok (.aload_n 0, 1) := by decide +kernel
theorem dX8_sit_12 : decode cX8_sit 12 = .ok (.getfield 124, 3) := by decide +kernel
theorem dX8_sit_15 : decode cX8_sit 15 = .ok (.dup2, 1) := by decide +kernel
theorem dX8_sit_16 : decode cX8_sit 16 = .ok (.iaload, 1) := by decide +kernel
theorem dX8_sit_17 : decode cX8_sit 17 = .ok (.aload_n 0, 1) := by decide +kernel
theorem dX8_sit_18 : decode cX8_sit 18 = .ok (.getfield 37, 3) := by decide +kernel
theorem dX8_sit_21 : decode cX8_sit 21 = .ok (.aload_n 0, 1) := by decide +kernel
theorem dX8_sit_22 : decode cX8_sit 22 = .ok (.getfield 124, 3) := by decide +kernel
theorem dX8_sit_25 : decode cX8_sit 25 = .ok (.iaload, 1) := by decide +kernel
theorem dX8_sit_26 : decode cX8_sit 26 = .ok (.aload_n 0, 1) := by decide +kernel
theorem dX8_sit_27 : decode cX8_sit 27 = .ok (.getfield 40, 3) := by decide +kernel
theorem dX8_sit_30 : decode cX8_sit 30 = .ok (.aload_n 0, 1) := by decide +kernel
theorem dX8_sit_31 : decode cX8_sit 31 = .ok (.getfield 124, 3) := by decide +kernel
theorem dX8_sit_34 : decode cX8_sit 34 = .ok (.iaload, 1) := by decide +kernel
theorem dX8_sit_35 : decode cX8_sit 35 = .ok (.ior, 1) := by decide +kernel
theorem dX8_sit_36 : decode cX8_sit 36 = .ok (.iload_n 2, 1) := by decide +kernel
theorem dX8_sit_37 : decode cX8_sit 37 = .ok (.iand, 1) := by decide +kernel
theorem dX8_sit_38 : decode cX8_sit 38 = .ok (.ior, 1) := by decide +kernel
theorem dX8_sit_39 : decode cX8_sit 39 = .ok (.iastore, 1) := by decide +kernel
theorem dX8_sit_40 : decode cX8_sit 40 = .ok (.return_, 1) := by decide +kernel
theorem dX8_readNear_0 : decode cX8_readNear 0 = .ok (.iload_n 1, 1) := by decide +kernel
theorem dX8_readNear_1 : decode cX8_readNear 1 = .ok (.bipush 124, 2) := by decide +kernel
theorem dX8_readNear_3 : decode cX8_readNear 3 = .ok (.if_icmp .ne 5, 3) := by decide +kernel
theorem dX8_readNear_6 : decode cX8_readNear 6 = .ok (.iconst 2, 1) := by decide +kernel
theorem dX8_readNear_7 : decode cX8_readNear 7 = .ok (.ireturn, 1) := by decide +kernel
theorem dX8_readNear_8 : decode cX8_readNear 8 = .ok (.iload_n 1, 1) := by decide +kernel
theorem dX8_readNear_9 : decode cX8_readNear 9 = .ok (.invokestatic 134, 3) := by decide +kernel
theorem dX8_readNear_12 : decode cX8_readNear 12 = .ok (.ifCond .ne 6, 3) := by decide +kernel
theorem dX8_readNear_15 : decode cX8_readNear 15 = .ok (.bipush (-6), 2) := by decide +kernel
theorem dX8_readNear_17 : decode cX8_readNear 17 = .ok (.ireturn, 1) := by decide +kernel
theorem dX8_readNear_18 : decode cX8_readNear 18 = .ok (.aload_n 0, 1) := by decide +kernel
theorem dX8_readNear_19 : decode cX8_readNear 19 = .ok (.iload_n 1, 1) := by decide +kernel
theorem dX8_readNear_20 : decode cX8_readNear 20 = .ok (.invokevirtual 137, 3) := by decide +kernel
theorem dX8_readNear_23 : decode cX8_readNear 23 = .ok (.aload_n 0, 1) := by decide +kernel
theorem dX8_readNear_24 : decode cX8_readNear 24 = .ok (.getfield 37, 3) := by decide +kernel
theorem dX8_readNear_27 : decode cX8_readNear 27 = .ok (.aload_n 0, 1) := by decide +kernel
theorem dX8_readNear_28 : decode cX8_readNear 28 = .ok (.getfield 124, 3) := by decide +kernel
theorem dX8_readNear_31 : decode cX8_readNear 31 = .ok (.dup2, 1) := by decide +kernel
theorem dX8_readNear_32 : decode cX8_readNear 32 = .ok (.iaload, 1) := by decide +kernel
theorem dX8_readNear_33 : decode cX8_readNear 33 = .ok (.iconst 1, 1) := by decide +kernel
theorem dX8_readNear_34 : decode cX8_readNear 34 = .ok (.iload_n 1, 1) := by decide +kernel
theorem dX8_readNear_35 : decode cX8_readNear 35 = .ok (.bipush 65, 2) := by decide +kernel
theorem dX8_readNear_37 : decode cX8_readNear 37 = .ok (.isub, 1) := by decide +kernel
theorem dX8_readNear_38 : decode cX8_readNear 38 = .ok (.ishl, 1) := by decide +kernel
theorem dX8_readNear_39 : decode cX8_readNear 39 = .ok (.ior, 1) := by decide +kernel
theorem dX8_readNear_40 : decode cX8_readNear 40 = .ok (.iastore, 1) := by decide +kernel
theorem dX8_readNear_41 : decode cX8_readNear 41 = .ok (.iconst 1, 1) := by decide +kernel
theorem dX8_readNear_42 : decode cX8_readNear 42 = .ok (.ireturn, 1) := by decide +kernel
theorem dX8_readAcross_0 : decode cX8_readAcross 0 = .ok (.iload_n 1, 1) := by decide +kernel
theorem dX8_readAcross_1 : decode cX8_readAcross 1 = .ok (.iconst 3, 1) := by decide +kernel
theorem dX8_readAcross_2 : decode cX8_readAcross 2 = .ok (.if_icmp .ne 21, 3) := by decide +kernel
theorem dX8_readAcross_5 : decode cX8_readAcross 5 = .ok (.iload_n 2, 1) := by decide +kernel
theorem dX8_readAcross_6 : decode cX8_readAcross 6 = .ok (.bipush 59, 2) := by decide +kernel
theorem dX8_readAcross_8 : decode cX8_readAcross 8 = .ok (.if_icmp .ne 15, 3) := by decide +kernel
theorem dX8_readAcross_11 : decode cX8_readAcross 11 = .ok (.aload_n 0, 1) := by decide +kernel
theorem dX8_readAcross_12 : decode cX8_readAcross 12 = .ok (.dup, 1) := by decide +kernel
theorem dX8_readAcross_13 : decode cX8_readAcross 13 = .ok (.getfield 124, 3) := by decide +kernel
theorem dX8_readAcross_16 : decode cX8_readAcross 16 = .ok (.iconst 1, 1) := by decide +kernel
theorem dX8_readAcross_17 : decode cX8_readAcross 17 = .ok (.iadd, 1) := by decide +kernel
theorem dX8_readAcross_18 : decode cX8_readAcross 18 = .ok (.putfield 124, 3) := by decide +kernel
theorem dX8_readAcross_21 : decode cX8_readAcross 21 = .ok (.iconst 0, 1) := by decide +kernel
theorem dX8_readAcross_22 : decode cX8_readAcross 22 = .ok (.ireturn, 1) := by decide +kernel
theorem dX8_readAcross_23 : decode cX8_readAcross 23 = .ok (.iload_n 2, 1) := by decide +kernel
theorem dX8_readAcross_24 : decode cX8_readAcross 24 = .ok (.invokestatic 134, 3) := by decide +kernel
theorem dX8_readAcross_27 : decode cX8_readAcross 27 = .ok (.ifCond .ne 6, 3) := by decide +kernel
theorem dX8_readAcross_30 : decode cX8_readAcross 30 = .ok (.bipush (-6), 2) := by decide +kernel
theorem dX8_readAcross_32 : decode cX8_readAcross 32 = .ok (.ireturn, 1) := by decide +kernel
theorem dX8_readAcross_33 : decode cX8_readAcross 33 = .ok (.aload_n 0, 1) := by decide +kernel
theorem dX8_readAcross_34 : decode cX8_readAcross 34 = .ok (.iload_n 2, 1) := by decide +kernel
theorem dX8_readAcross_35 : decode cX8_readAcross 35 = .ok (.invokevirtual 137, 3) := by decide +kernel
theorem dX8_readAcross_38 : decode cX8_readAcross 38 = .ok (.aload_n 0, 1) := by decide +kernel
theorem dX8_readAcross_39 : decode cX8_readAcross 39 = .ok (.getfield 40, 3) := by decide +kernel
theorem dX8_readAcross_42 : decode cX8_readAcross 42 = .ok (.aload_n 0, 1) := by decide +kernel
theorem dX8_readAcross_43 : decode cX8_readAcross 43 = .ok (.getfield 124, 3) := by decide +kernel
theorem dX8_readAcross_46 : decode cX8_readAcross 46 = .ok (.dup2, 1) := by decide +kernel
theorem dX8_readAcross_47 : decode cX8_readAcross 47 = .ok (.iaload, 1) := by decide +kernel
theorem dX8_readAcross_48 : decode cX8_readAcross 48 = .ok (.iconst 1, 1) := by decide +kernel
theorem dX8_readAcross_49 : decode cX8_readAcross 49 = .ok (.iload_n 2, 1) := by decide +kernel
theorem dX8_readAcross_50 : decode cX8_readAcross 50 = .ok (.bipush 65, 2) := by decide +kernel
theorem dX8_readAcross_52 : decode cX8_readAcross 52 = .ok (.isub, 1) := by decide +kernel
theorem dX8_readAcross_53 : decode cX8_readAcross 53 = .ok (.ishl, 1) := by decide +kernel
theorem dX8_readAcross_54 : decode cX8_readAcross 54 = .ok (.ior, 1) := by decide +kernel
theorem dX8_readAcross_55 : decode cX8_readAcross 55 = .ok (.iastore, 1) := by decide +kernel
theorem dX8_readAcross_56 : decode cX8_readAcross 56 = .ok (.iconst 3, 1) := by decide +kernel
theorem dX8_readAcross_57 : decode cX8_readAcross 57 = .ok (.ireturn, 1) := by decide +kernel
theorem dX8_readCold_0 : decode cX8_readCold 0 = .ok (.iload_n 1, 1) := by decide +kernel
theorem dX8_readCold_1 : decode cX8_readCold 1 = .ok (.invokestatic 134, 3) := by decide +kernel
theorem dX8_readCold_4 : decode cX8_readCold 4 = .ok (.ifCond .ne 6, 3) := by decide +kernel
theorem dX8_readCold_7 : decode cX8_readCold 7 = .ok (.bipush (-6), 2) := by decide +kernel
theorem dX8_readCold_9 : decode cX8_readCold 9 = .ok (.ireturn, 1) := by decide +kernel
theorem dX8_readCold_10 : decode cX8_readCold 10 = .ok (.aload_n 0, 1) := by decide +kernel
theorem dX8_readCold_11 : decode cX8_readCold 11 = .ok (.getfield 40, 3) := by decide +kernel
theorem dX8_readCold_14 : decode cX8_readCold 14 = .ok (.aload_n 0, 1) := by decide +kernel
theorem dX8_readCold_15 : decode cX8_readCold 15 = .ok (.getfield 124, 3) := by decide +kernel
theorem dX8_readCold_18 : decode cX8_readCold 18 = .ok (.iconst 1, 1) := by decide +kernel
theorem dX8_readCold_19 : decode cX8_readCold 19 = .ok (.iload_n 1, 1) := by decide +kernel
theorem dX8_readCold_20 : decode cX8_readCold 20 = .ok (.bipush 65, 2) := by decide +kernel
theorem dX8_readCold_22 : decode cX8_readCold 22 = .ok (.isub, 1) := by decide +kernel
theorem dX8_readCold_23 : decode cX8_readCold 23 = .ok (.ishl, 1) := by decide +kernel
theorem dX8_readCold_24 : decode cX8_readCold 24 = .ok (.iastore, 1) := by decide +kernel
theorem dX8_readCold_25 : decode cX8_readCold 25 = .ok (.aload_n 0, 1) := by decide +kernel
theorem dX8_readCold_26 : decode cX8_readCold 26 = .ok (.dup, 1) := by decide +kernel
theorem dX8_readCold_27 : decode cX8_readCold 27 = .ok (.getfield 124, 3) := by decide +kernel
theorem dX8_readCold_30 : decode cX8_readCold 30 = .ok (.iconst 1, 1) := by decide +kernel
theorem dX8_readCold_31 : decode cX8_readCold 31 = .ok (.iadd, 1) := by decide +kernel
theorem dX8_readCold_32 : decode cX8_readCold 32 = .ok (.putfield 124, 3) := by decide +kernel
theorem dX8_readCold_35 : decode cX8_readCold 35 = .ok (.iconst 0, 1) := by decide +kernel
theorem dX8_readCold_36 : decode cX8_readCold 36 = .ok (.ireturn, 1) := by decide +kernel
theorem dX8_fault_0 : decode cX8_fault 0 = .ok (.aload_n 0, 1) := by decide +kernel
theorem dX8_fault_1 : decode cX8_fault 1 = .ok (.iconst 0, 1) := by decide +kernel
theorem dX8_fault_2 : decode cX8_fault 2 = .ok (.putfield 124, 3) := by decide +kernel
theorem dX8_fault_5 : decode cX8_fault 5 = .ok (.iconst 0, 1) := by decide +kernel
theorem dX8_fault_6 : decode cX8_fault 6 = .ok (.istore_n 1, 1) := by decide +kernel
theorem dX8_fault_7 : decode cX8_fault 7 = .ok (.iconst 0, 1) := by decide +kernel
theorem dX8_fault_8 : decode cX8_fault 8 = .ok (.istore_n 2, 1) := by decide +kernel
theorem dX8_fault_9 : decode cX8_fault 9 = .ok (.iload_n 2, 1) := by decide +kernel
theorem dX8_fault_10 : decode cX8_fault 10 = .ok (.aload_n 0, 1) := by decide +kernel
theorem dX8_fault_11 : decode cX8_fault 11 = .ok (.getfield 121, 3) := by decide +kernel
theorem dX8_fault_14 : decode cX8_fault 14 = .ok (.if_icmp .ge 67, 3) := by decide +kernel
theorem dX8_fault_17 : decode cX8_fault 17 = .ok (.aload_n 0, 1) := by decide +kernel
theorem dX8_fault_18 : decode cX8_fault 18 = .ok (.getfield 31, 3) := by decide +kernel
theorem dX8_fault_21 : decode cX8_fault 21 = .ok (.iload_n 2, 1) := by decide +kernel
theorem dX8_fault_22 : decode cX8_fault 22 = .ok (.iaload, 1) := by decide +kernel
theorem dX8_fault_23 : decode cX8_fault 23 = .ok (.istore_n 3, 1) := by decide +kernel
theorem dX8_fault_24 : decode cX8_fault 24 = .ok (.iload_n 1, 1) := by decide +kernel
theorem dX8_fault_25 : decode cX8_fault 25 = .ok (.ifCond .ne 11, 3) := by decide +kernel
theorem dX8_fault_28 : decode cX8_fault 28 = .ok (.aload_n 0, 1) := by decide +kernel
theorem dX8_fault_29 : decode cX8_fault 29 = .ok (.iload_n 3, 1) := by decide +kernel
theorem dX8_fault_30 : decode cX8_fault 30 = .ok (.invokevirtual 140, 3) := by decide +kernel
theorem dX8_fault_33 : decode cX8_fault 33 = .ok (.goto 35, 3) := by decide +kernel
theorem dX8_fault_36 : decode cX8_fault 36 = .ok (.iload_n 1, 1) := by decide +kernel
theorem dX8_fault_37 : decode cX8_fault 37 = .ok (.iconst 1, 1) := by decide +kernel
theorem dX8_fault_38 : decode cX8_fault 38 = .ok (.if_icmp .ne 11, 3) := by decide +kernel
theorem dX8_fault_41 : decode cX8_fault 41 = .ok (.aload_n 0, 1) := by decide +kernel
theorem dX8_fault_42 : decode cX8_fault 42 = .ok (.iload_n 3, 1) := by decide +kernel
theorem dX8_fault_43 : decode cX8_fault 43 = .ok (.invokevirtual 127, 3) := by decide +kernel
theorem dX8_fault_46 : decode cX8_fault 46 = .ok (.goto 22, 3) := by decide +kernel
theorem dX8_fault_49 : decode cX8_fault 49 = .ok (.iload_n 1, 1) := by decide +kernel
theorem dX8_fault_50 : decode cX8_fault 50 = .ok (.iconst 4, 1) := by decide +kernel
theorem dX8_fault_51 : decode cX8_fault 51 = .ok (.if_icmp .ne 11, 3) := by decide +kernel
theorem dX8_fault_54 : decode cX8_fault 54 = .ok (.aload_n 0, 1) := by decide +kernel
theorem dX8_fault_55 : decode cX8_fault 55 = .ok (.iload_n 3, 1) := by decide +kernel
theorem dX8_fault_56 : decode cX8_fault 56 = .ok (.invokevirtual 143, 3) := by decide +kernel
theorem dX8_fault_59 : decode cX8_fault 59 = .ok (.goto 9, 3) := by decide +kernel
theorem dX8_fault_62 : decode cX8_fault 62 = .ok (.aload_n 0, 1) := by decide +kernel
theorem dX8_fault_63 : decode cX8_fault 63 = .ok (.iload_n 1, 1) := by decide +kernel
theorem dX8_fault_64 : decode cX8_fault 64 = .ok (.iload_n 3, 1) := by decide +kernel
theorem dX8_fault_65 : decode cX8_fault 65 = .ok (.invokevirtual 146, 3) := by decide +kernel
theorem dX8_fault_68 : decode cX8_fault 68 = .ok (.istore_n 1, 1) := by decide +kernel
theorem dX8_fault_69 : decode cX8_fault 69 = .ok (.iload_n 1, 1) := by decide +kernel
theorem dX8_fault_70 : decode cX8_fault 70 = .ok (.ifCond .ge 5, 3) := by decide +kernel
theorem dX8_fault_73 : decode cX8_fault 73 = .ok (.iload_n 2, 1) := by decide +kernel
theorem dX8_fault_74 : decode cX8_fault 74 = .ok (.ireturn, 1) := by decide +kernel
theorem dX8_fault_75 : decode cX8_fault 75 = .ok (.iinc 2 1, 3) := by decide +kernel
theorem dX8_fault_78 : decode cX8_fault 78 = .ok (.goto (-69), 3) := by decide +kernel
theorem dX8_fault_81 : decode cX8_fault 81 = .ok (.iload_n 1, 1) := by decide +kernel
theorem dX8_fault_82 : decode cX8_fault 82 = .ok (.ifCond .ne 8, 3) := by decide +kernel
theorem dX8_fault_85 : decode cX8_fault 85 = .ok (.bipush (-6), 2) := by decide +kernel
theorem dX8_fault_87 : decode cX8_fault 87 = .ok (.goto 7, 3) := by decide +kernel
theorem dX8_fault_90 : decode cX8_fault 90 = .ok (.aload_n 0, 1) := by decide +kernel
theorem dX8_fault_91 : decode cX8_fault 91 = .ok (.getfield 121, 3) := by decide +kernel
theorem dX8_fault_94 : decode cX8_fault 94 = .ok (.ireturn, 1) := by decide +kernel
theorem dX8_areTogether_0 : decode cX8_areTogether 0 = .ok (.iconst 1, 1) := by decide +kernel
theorem dX8_areTogether_1 : decode cX8_areTogether 1 = .ok (.istore_n 2, 1) := by decide +kernel
theorem dX8_areTogether_2 : decode cX8_areTogether 2 = .ok (.iconst 0, 1) := by decide +kernel
theorem dX8_areTogether_3 : decode cX8_areTogether 3 = .ok (.istore_n 3, 1) := by decide +kernel
theorem dX8_areTogether_4 : decode cX8_areTogether 4 = .ok (.iload_n 3, 1) := by decide +kernel
theorem dX8_areTogether_5 : decode cX8_areTogether 5 = .ok (.bipush 8, 2) := by decide +kernel
theorem dX8_areTogether_7 : decode cX8_areTogether 7 = .ok (.if_icmp .ge 50, 3) := by decide +kernel
theorem dX8_areTogether_10 : decode cX8_areTogether 10 = .ok (.iload_n 2, 1) := by decide +kernel
theorem dX8_areTogether_11 : decode cX8_areTogether 11 = .ok (.ifCond .eq 38, 3) := by decide +kernel
theorem dX8_areTogether_14 : decode cX8_areTogether 14 = .ok (.iload_n 1, 1) := by decide +kernel
theorem dX8_areTogether_15 : decode cX8_areTogether 15 = .ok (.iload_n 3, 1) := by decide +kernel
theorem dX8_areTogether_16 : decode cX8_areTogether 16 = .ok (.ishr, 1) := by decide +kernel
theorem dX8_areTogether_17 : decode cX8_areTogether 17 = .ok (.iconst 1, 1) := by decide +kernel
theorem dX8_areTogether_18 : decode cX8_areTogether 18 = .ok (.iand, 1) := by decide +kernel
theorem dX8_areTogether_19 : decode cX8_areTogether 19 = .ok (.ifCond .eq 26, 3) := by decide +kernel
theorem dX8_areTogether_22 : decode cX8_areTogether 22 = .ok (.aload_n 0, 1) := by decide +kernel
theorem dX8_areTogether_23 : decode cX8_areTogether 23 = .ok (.getfield 19, 3) := by decide +kernel
theorem dX8_areTogether_26 : decode cX8_areTogether 26 = .ok (.iload_n 3, 1) := by decide +kernel
theorem dX8_areTogether_27 : decode cX8_areTogether 27 = .ok (.iaload, 1) := by decide +kernel
theorem dX8_areTogether_28 : decode cX8_areTogether 28 = .ok (.ifCond .lt 17, 3) := by decide +kernel
theorem dX8_areTogether_31 : decode cX8_areTogether 31 = .ok (.iload_n 1, 1) := by decide +kernel
theorem dX8_areTogether_32 : decode cX8_areTogether 32 = .ok (.aload_n 0, 1) := by decide +kernel
theorem dX8_areTogether_33 : decode cX8_areTogether 33 = .ok (.getfield 19, 3) := by decide +kernel
theorem dX8_areTogether_36 : decode cX8_areTogether 36 = .ok (.iload_n 3, 1) := by decide +kernel
theorem dX8_areTogether_37 : decode cX8_areTogether 37 = .ok (.iaload, 1) := by decide +kernel
theorem dX8_areTogether_38 : decode cX8_areTogether 38 = .ok (.ishr, 1) := by decide +kernel
theorem dX8_areTogether_39 : decode cX8_areTogether 39 = .ok (.iconst 1, 1) := by decide +kernel
theorem dX8_areTogether_40 : decode cX8_areTogether 40 = .ok (.iand, 1) := by decide +kernel
theorem dX8_areTogether_41 : decode cX8_areTogether 41 = .ok (.iconst 1, 1) := by decide +kernel
theorem dX8_areTogether_42 : decode cX8_areTogether 42 = .ok (.if_icmp .ne 7, 3) := by decide +kernel
theorem dX8_areTogether_45 : decode cX8_areTogether 45 = .ok (.iconst 1, 1) := by decide +kernel
theorem dX8_areTogether_46 : decode cX8_areTogether 46 = .ok (.goto 4, 3) := by decide +kernel
theorem dX8_areTogether_49 : decode cX8_areTogether 49 = .ok (.iconst 0, 1) := by decide +kernel
theorem dX8_areTogether_50 : decode cX8_areTogether 50 = .ok (.istore_n 2, 1) := by decide +kernel
theorem dX8_areTogether_51 : decode cX8_areTogether 51 = .ok (.iinc 3 1, 3) := by decide +kernel
theorem dX8_areTogether_54 : decode cX8_areTogether 54 = .ok (.goto (-50), 3) := by decide +kernel
theorem dX8_areTogether_57 : decode cX8_areTogether 57 = .ok (.iload_n 2, 1) := by decide +kernel
theorem dX8_areTogether_58 : decode cX8_areTogether 58 = .ok (.ireturn, 1) := by decide +kernel
theorem dX8_swornOf_0 : decode cX8_swornOf 0 = .ok (.iconst 0, 1) := by decide +kernel
theorem dX8_swornOf_1 : decode cX8_swornOf 1 = .ok (.istore_n 2, 1) := by decide +kernel
theorem dX8_swornOf_2 : decode cX8_swornOf 2 = .ok (.iconst 0, 1) := by decide +kernel
theorem dX8_swornOf_3 : decode cX8_swornOf 3 = .ok (.istore_n 3, 1) := by decide +kernel
theorem dX8_swornOf_4 : decode cX8_swornOf 4 = .ok (.iload_n 3, 1) := by decide +kernel
theorem dX8_swornOf_5 : decode cX8_swornOf 5 = .ok (.bipush 8, 2) := by decide +kernel
theorem dX8_swornOf_7 : decode cX8_swornOf 7 = .ok (.if_icmp .ge 31, 3) := by decide +kernel
theorem dX8_swornOf_10 : decode cX8_swornOf 10 = .ok (.iload_n 2, 1) := by decide +kernel
theorem dX8_swornOf_11 : decode cX8_swornOf 11 = .ok (.iload_n 1, 1) := by decide +kernel
theorem dX8_swornOf_12 : decode cX8_swornOf 12 = .ok (.iload_n 3, 1) := by decide +kernel
theorem dX8_swornOf_13 : decode cX8_swornOf 13 = .ok (.ishr, 1) := by decide +kernel
theorem dX8_swornOf_14 : decode cX8_swornOf 14 = .ok (.iconst 1, 1) := by decide +kernel
theorem dX8_swornOf_15 : decode cX8_swornOf 15 = .ok (.iand, 1) := by decide +kernel
theorem dX8_swornOf_16 : decode cX8_swornOf 16 = .ok (.iconst 1, 1) := by decide +kernel
theorem dX8_swornOf_17 : decode cX8_swornOf 17 = .ok (.if_icmp .ne 12, 3) := by decide +kernel
theorem dX8_swornOf_20 : decode cX8_swornOf 20 = .ok (.aload_n 0, 1) := by decide +kernel
theorem dX8_swornOf_21 : decode cX8_swornOf 21 = .ok (.getfield 7, 3) := by decide +kernel
theorem dX8_swornOf_24 : decode cX8_swornOf 24 = .ok (.iload_n 3, 1) := by decide +kernel
theorem dX8_swornOf_25 : decode cX8_swornOf 25 = .ok (.iaload, 1) := by decide +kernel
theorem dX8_swornOf_26 : decode cX8_swornOf 26 = .ok (.goto 4, 3) := by decide +kernel
theorem dX8_swornOf_29 : decode cX8_swornOf 29 = .ok (.iconst 0, 1) := by decide +kernel
theorem dX8_swornOf_30 : decode cX8_swornOf 30 = .ok (.iadd, 1) := by decide +kernel
theorem dX8_swornOf_31 : decode cX8_swornOf 31 = .ok (.istore_n 2, 1) := by decide +kernel
theorem dX8_swornOf_32 : decode cX8_swornOf 32 = .ok (.iinc 3 1, 3) := by decide +kernel
theorem dX8_swornOf_35 : decode cX8_swornOf 35 = .ok (.goto (-31), 3) := by decide +kernel
theorem dX8_swornOf_38 : decode cX8_swornOf 38 = .ok (.iload_n 2, 1) := by decide +kernel
theorem dX8_swornOf_39 : decode cX8_swornOf 39 = .ok (.ireturn, 1) := by decide +kernel
theorem dX8_poundsOf_0 : decode cX8_poundsOf 0 = .ok (.iconst 0, 1) := by decide +kernel
theorem dX8_poundsOf_1 : decode cX8_poundsOf 1 = .ok (.istore_n 2, 1) := by decide +kernel
theorem dX8_poundsOf_2 : decode cX8_poundsOf 2 = .ok (.iconst 0, 1) := by decide +kernel
theorem dX8_poundsOf_3 : decode cX8_poundsOf 3 = .ok (.istore_n 3, 1) := by decide +kernel
theorem dX8_poundsOf_4 : decode cX8_poundsOf 4 = .ok (.iload_n 3, 1) := by decide +kernel
theorem dX8_poundsOf_5 : decode cX8_poundsOf 5 = .ok (.bipush 8, 2) := by decide +kernel
theorem dX8_poundsOf_7 : decode cX8_poundsOf 7 = .ok (.if_icmp .ge 30, 3) := by decide +kernel
theorem dX8_poundsOf_10 : decode cX8_poundsOf 10 = .ok (.iload_n 2, 1) := by decide +kernel
theorem dX8_poundsOf_11 : decode cX8_poundsOf 11 = .ok (.iload_n 1, 1) := by decide +kernel
theorem dX8_poundsOf_12 : decode cX8_poundsOf 12 = .ok (.iload_n 3, 1) := by decide +kernel
theorem dX8_poundsOf_13 : decode cX8_poundsOf 13 = .ok (.ishr, 1) := by decide +kernel
theorem dX8_poundsOf_14 : decode cX8_poundsOf 14 = .ok (.iconst 1, 1) := by decide +kernel
theorem dX8_poundsOf_15 : decode cX8_poundsOf 15 = .ok (.iand, 1) := by decide +kernel
theorem dX8_poundsOf_16 : decode cX8_poundsOf 16 = .ok (.iconst 1, 1) := by decide +kernel
theorem dX8_poundsOf_17 : decode cX8_poundsOf 17 = .ok (.if_icmp .ne 11, 3) := by decide +kernel
theorem dX8_poundsOf_20 : decode cX8_poundsOf 20 = .ok (.aload_n 0, 1) := by decide +kernel
theorem dX8_poundsOf_21 : decode cX8_poundsOf 21 = .ok (.iload_n 3, 1) := by decide +kernel
theorem dX8_poundsOf_22 : decode cX8_poundsOf 22 = .ok (.invokevirtual 150, 3) := by decide +kernel
theorem dX8_poundsOf_25 : decode cX8_poundsOf 25 = .ok (.goto 4, 3) := by decide +kernel
theorem dX8_poundsOf_28 : decode cX8_poundsOf 28 = .ok (.iconst 0, 1) := by decide +kernel
theorem dX8_poundsOf_29 : decode cX8_poundsOf 29 = .ok (.iadd, 1) := by decide +kernel
theorem dX8_poundsOf_30 : decode cX8_poundsOf 30 = .ok (.istore_n 2, 1) := by decide +kernel
theorem dX8_poundsOf_31 : decode cX8_poundsOf 31 = .ok (.iinc 3 1, 3) := by decide +kernel
theorem dX8_poundsOf_34 : decode cX8_poundsOf 34 = .ok (.goto (-30), 3) := by decide +kernel
theorem dX8_poundsOf_37 : decode cX8_poundsOf 37 = .ok (.iload_n 2, 1) := by decide +kernel
theorem dX8_poundsOf_38 : decode cX8_poundsOf 38 = .ok (.ireturn, 1) := by decide +kernel
theorem dX8_whyNot_0 : decode cX8_whyNot 0 = .ok (.aload_n 0, 1) := by decide +kernel
theorem dX8_whyNot_1 : decode cX8_whyNot 1 = .ok (.getfield 34, 3) := by decide +kernel
theorem dX8_whyNot_4 : decode cX8_whyNot 4 = .ok (.iload_n 1, 1) := by decide +kernel
theorem dX8_whyNot_5 : decode cX8_whyNot 5 = .ok (.iaload, 1) := by decide +kernel
theorem dX8_whyNot_6 : decode cX8_whyNot 6 = .ok (.iconst 1, 1) := by decide +kernel
theorem dX8_whyNot_7 : decode cX8_whyNot 7 = .ok (.if_icmp .eq 13, 3) := by decide +kernel
theorem dX8_whyNot_10 : decode cX8_whyNot 10 = .ok (.aload_n 0, 1) := by decide +kernel
theorem dX8_whyNot_11 : decode cX8_whyNot 11 = .ok (.getfield 34, 3) := by decide +kernel
theorem dX8_whyNot_14 : decode cX8_whyNot 14 = .ok (.iload_n 1, 1) := by decide +kernel
theorem dX8_whyNot_15 : decode cX8_whyNot 15 = .ok (.iaload, 1) := by decide +kernel
theorem dX8_whyNot_16 : decode cX8_whyNot 16 = .ok (.iconst 2, 1) := by decide +kernel
theorem dX8_whyNot_17 : decode cX8_whyNot 17 = .ok (.if_icmp .ne 5, 3) := by decide +kernel
theorem dX8_whyNot_20 : decode cX8_whyNot 20 = .ok (.iconst 0, 1) := by decide +kernel
theorem dX8_whyNot_21 : decode cX8_whyNot 21 = .ok (.ireturn, 1) := by decide +kernel
theorem dX8_whyNot_22 : decode cX8_whyNot 22 = .ok (.aload_n 0, 1) := by decide +kernel
theorem dX8_whyNot_23 : decode cX8_whyNot 23 = .ok (.getfield 37, 3) := by decide +kernel
theorem dX8_whyNot_26 : decode cX8_whyNot 26 = .ok (.iload_n 1, 1) := by decide +kernel
theorem dX8_whyNot_27 : decode cX8_whyNot 27 = .ok (.iaload, 1) := by decide +kernel
theorem dX8_whyNot_28 : decode cX8_whyNot 28 = .ok (.aload_n 0, 1) := by decide +kernel
theorem dX8_whyNot_29 : decode cX8_whyNot 29 = .ok (.getfield 40, 3) := by decide +kernel
theorem dX8_whyNot_32 : decode cX8_whyNot 32 = .ok (.iload_n 1, 1) := by decide +kernel
theorem dX8_whyNot_33 : decode cX8_whyNot 33 = .ok (.iaload, 1) := by decide +kernel
theorem dX8_whyNot_34 : decode cX8_whyNot 34 = .ok (.ior, 1) := by decide +kernel
theorem dX8_whyNot_35 : decode cX8_whyNot 35 = .ok (.aload_n 0, 1) := by decide +kernel
theorem dX8_whyNot_36 : decode cX8_whyNot 36 = .ok (.getfield 81, 3) := by decide +kernel
theorem dX8_whyNot_39 : decode cX8_whyNot 39 = .ok (.iconst (-1), 1) := by decide +kernel
theorem dX8_whyNot_40 : decode cX8_whyNot 40 = .ok (.ixor, 1) := by decide +kernel
theorem dX8_whyNot_41 : decode cX8_whyNot 41 = .ok (.iand, 1) := by decide +kernel
theorem dX8_whyNot_42 : decode cX8_whyNot 42 = .ok (.ifCond .eq 5, 3) := by decide +kernel
theorem dX8_whyNot_45 : decode cX8_whyNot 45 = .ok (.iconst 1, 1) := by decide +kernel
theorem dX8_whyNot_46 : decode cX8_whyNot 46 = .ok (.ireturn, 1) := by decide +kernel
theorem dX8_whyNot_47 : decode cX8_whyNot 47 = .ok (.aload_n 0, 1) := by decide +kernel
theorem dX8_whyNot_48 : decode cX8_whyNot 48 = .ok (.getfield 34, 3) := by decide +kernel
theorem dX8_whyNot_51 : decode cX8_whyNot 51 = .ok (.iload_n 1, 1) := by decide +kernel
theorem dX8_whyNot_52 : decode cX8_whyNot 52 = .ok (.iaload, 1) := by decide +kernel
theorem dX8_whyNot_53 : decode cX8_whyNot 53 = .ok (.iconst 3, 1) := by decide +kernel
theorem dX8_whyNot_54 : decode cX8_whyNot 54 = .ok (.if_icmp .ne 5, 3) := by decide +kernel
theorem dX8_whyNot_57 : decode cX8_whyNot 57 = .ok (.iconst 0, 1) := by decide +kernel
theorem dX8_whyNot_58 : decode cX8_whyNot 58 = .ok (.ireturn, 1) := by decide +kernel
theorem dX8_whyNot_59 : decode cX8_whyNot 59 = .ok (.aload_n 0, 1) := by decide +kernel
theorem dX8_whyNot_60 : decode cX8_whyNot 60 = .ok (.getfield 43, 3) := by decide +kernel
theorem dX8_whyNot_63 : decode cX8_whyNot 63 = .ok (.iload_n 1, 1) := by decide +kernel
theorem dX8_whyNot_64 : decode cX8_whyNot 64 = .ok (.iaload, 1) := by decide +kernel
theorem dX8_whyNot_65 : decode cX8_whyNot 65 = .ok (.ifCond .eq 5, 3) := by decide +kernel
theorem dX8_whyNot_68 : decode cX8_whyNot 68 = .ok (.iconst 2, 1) := by decide +kernel
theorem dX8_whyNot_69 : decode cX8_whyNot 69 = .ok (.ireturn, 1) := by decide +kernel
theorem dX8_whyNot_70 : decode cX8_whyNot 70 = .ok (.aload_n 0, 1) := by decide +kernel
theorem dX8_whyNot_71 : decode cX8_whyNot 71 = .ok (.aload_n 0, 1) := by decide +kernel
theorem dX8_whyNot_72 : decode cX8_whyNot 72 = .ok (.getfield 37, 3) := by decide +kernel
theorem dX8_whyNot_75 : decode cX8_whyNot 75 = .ok (.iload_n 1, 1) := by decide +kernel
theorem dX8_whyNot_76 : decode cX8_whyNot 76 = .ok (.iaload, 1) := by decide +kernel
theorem dX8_whyNot_77 : decode cX8_whyNot 77 = .ok (.invokevirtual 153, 3) := by decide +kernel
theorem dX8_whyNot_80 : decode cX8_whyNot 80 = .ok (.ifCond .eq 16, 3) := by decide +kernel
theorem dX8_whyNot_83 : decode cX8_whyNot 83 = .ok (.aload_n 0, 1) := by decide +kernel
theorem dX8_whyNot_84 : decode cX8_whyNot 84 = .ok (.aload_n 0, 1) := by decide +kernel
theorem dX8_whyNot_85 : decode cX8_whyNot 85 = .ok (.getfield 40, 3) := by decide +kernel
theorem dX8_whyNot_88 : decode cX8_whyNot 88 = .ok (.iload_n 1, 1) := by decide +kernel
theorem dX8_whyNot_89 : decode cX8_whyNot 89 = .ok (.iaload, 1) := by decide +kernel
theorem dX8_whyNot_90 : decode cX8_whyNot 90 = .ok (.invokevirtual 153, 3) := by decide +kernel
theorem dX8_whyNot_93 : decode cX8_whyNot 93 = .ok (.ifCond .ne 5, 3) := by decide +kernel
theorem dX8_whyNot_96 : decode cX8_whyNot 96 = .ok (.iconst 3, 1) := by decide +kernel
theorem dX8_whyNot_97 : decode cX8_whyNot 97 = .ok (.ireturn, 1) := by decide +kernel
theorem dX8_whyNot_98 : decode cX8_whyNot 98 = .ok (.aload_n 0, 1) := by decide +kernel
theorem dX8_whyNot_99 : decode cX8_whyNot 99 = .ok (.aload_n 0, 1) := by decide +kernel
theorem dX8_whyNot_100 : decode cX8_whyNot 100 = .ok (.getfield 40, 3) := by decide +kernel
theorem dX8_whyNot_103 : decode cX8_whyNot 103 = .ok (.iload_n 1, 1) := by decide +kernel
theorem dX8_whyNot_104 : decode cX8_whyNot 104 = .ok (.iaload, 1) := by decide +kernel
theorem dX8_whyNot_105 : decode cX8_whyNot 105 = .ok (.invokevirtual 156, 3) := by decide +kernel
theorem dX8_whyNot_108 : decode cX8_whyNot 108 = .ok (.aload_n 0, 1) := by decide +kernel
theorem dX8_whyNot_109 : decode cX8_whyNot 109 = .ok (.aload_n 0, 1) := by decide +kernel
theorem dX8_whyNot_110 : decode cX8_whyNot 110 = .ok (.getfield 37, 3) := by decide +kernel
theorem dX8_whyNot_113 : decode cX8_whyNot 113 = .ok (.iload_n 1, 1) := by decide +kernel
theorem dX8_whyNot_114 : decode cX8_whyNot 114 = .ok (.iaload, 1) := by decide +kernel
theorem dX8_whyNot_115 : decode cX8_whyNot 115 = .ok (.invokevirtual 156, 3) := by decide +kernel
theorem dX8_whyNot_118 : decode cX8_whyNot 118 = .ok (.if_icmp .gt 7, 3) := by decide +kernel
theorem dX8_whyNot_121 : decode cX8_whyNot 121 = .ok (.iconst 4, 1) := by decide +kernel
theorem dX8_whyNot_122 : decode cX8_whyNot 122 = .ok (.goto 4, 3) := by decide +kernel
theorem dX8_whyNot_125 : decode cX8_whyNot 125 = .ok (.iconst 0, 1) := by decide +kernel
theorem dX8_whyNot_126 : decode cX8_whyNot 126 = .ok (.ireturn, 1) := by decide +kernel
theorem dX8_bounded_0 : decode cX8_bounded 0 = .ok (.iload_n 0, 1) := by decide +kernel
theorem dX8_bounded_1 : decode cX8_bounded 1 = .ok (.iconst 1, 1) := by decide +kernel
theorem dX8_bounded_2 : decode cX8_bounded 2 = .ok (.if_icmp .ge 7, 3) := by decide +kernel
theorem dX8_bounded_5 : decode cX8_bounded 5 = .ok (.iconst 1, 1) := by decide +kernel
theorem dX8_bounded_6 : decode cX8_bounded 6 = .ok (.goto 17, 3) := by decide +kernel
theorem dX8_bounded_9 : decode cX8_bounded 9 = .ok (.iload_n 0, 1) := by decide +kernel
theorem dX8_bounded_10 : decode cX8_bounded 10 = .ok (.sipush 400, 3) := by decide +kernel
theorem dX8_bounded_13 : decode cX8_bounded 13 = .ok (.if_icmp .le 9, 3) := by decide +kernel
theorem dX8_bounded_16 : decode cX8_bounded 16 = .ok (.sipush 400, 3) := by decide +kernel
theorem dX8_bounded_19 : decode cX8_bounded 19 = .ok (.goto 4, 3) := by decide +kernel
theorem dX8_bounded_22 : decode cX8_bounded 22 = .ok (.iload_n 0, 1) := by decide +kernel
theorem dX8_bounded_23 : decode cX8_bounded 23 = .ok (.ireturn, 1) := by decide +kernel
theorem dX8_passDay_0 : decode cX8_passDay 0 = .ok (.iconst 0, 1) := by decide +kernel
theorem dX8_passDay_1 : decode cX8_passDay 1 = .ok (.istore_n 1, 1) := by decide +kernel
theorem dX8_passDay_2 : decode cX8_passDay 2 = .ok (.iload_n 1, 1) := by decide +kernel
theorem dX8_passDay_3 : decode cX8_passDay 3 = .ok (.bipush 8, 2) := by decide +kernel
theorem dX8_passDay_5 : decode cX8_passDay 5 = .ok (.if_icmp .ge 31, 3) := by decide +kernel
theorem dX8_passDay_8 : decode cX8_passDay 8 = .ok (.aload_n 0, 1) := by decide +kernel
theorem dX8_passDay_9 : decode cX8_passDay 9 = .ok (.getfield 13, 3) := by decide +kernel
theorem dX8_passDay_12 : decode cX8_passDay 12 = .ok (.iload_n 1, 1) := by decide +kernel
theorem dX8_passDay_13 : decode cX8_passDay 13 = .ok (.aload_n 0, 1) := by decide +kernel
theorem dX8_passDay_14 : decode cX8_passDay 14 = .ok (.getfield 13, 3) := by decide +kernel
theorem dX8_passDay_17 : decode cX8_passDay 17 = .ok (.iload_n 1, 1) := by decide +kernel
theorem dX8_passDay_18 : decode cX8_passDay 18 = .ok (.iaload, 1) := by decide +kernel
theorem dX8_passDay_19 : decode cX8_passDay 19 = .ok (.aload_n 0, 1) := by decide +kernel
theorem dX8_passDay_20 : decode cX8_passDay 20 = .ok (.getfield 16, 3) := by decide +kernel
theorem dX8_passDay_23 : decode cX8_passDay 23 = .ok (.iload_n 1, 1) := by decide +kernel
theorem dX8_passDay_24 : decode cX8_passDay 24 = .ok (.iaload, 1) := by decide +kernel
theorem dX8_passDay_25 : decode cX8_passDay 25 = .ok (.iadd, 1) := by decide +kernel
theorem dX8_passDay_26 : decode cX8_passDay 26 = .ok (.invokestatic 159, 3) := by decide +kernel
theorem dX8_passDay_29 : decode cX8_passDay 29 = .ok (.iastore, 1) := by decide +kernel
theorem dX8_passDay_30 : decode cX8_passDay 30 = .ok (.iinc 1 1, 3) := by decide +kernel
theorem dX8_passDay_33 : decode cX8_passDay 33 = .ok (.goto (-31), 3) := by decide +kernel
theorem dX8_passDay_36 : decode cX8_passDay 36 = .ok (.aload_n 0, 1) := by decide +kernel
theorem dX8_passDay_37 : decode cX8_passDay 37 = .ok (.dup, 1) := by decide +kernel
theorem dX8_passDay_38 : decode cX8_passDay 38 = .ok (.getfield 162, 3) := by decide +kernel
theorem dX8_passDay_41 : decode cX8_passDay 41 = .ok (.iconst 1, 1) := by decide +kernel
theorem dX8_passDay_42 : decode cX8_passDay 42 = .ok (.iadd, 1) := by decide +kernel
theorem dX8_passDay_43 : decode cX8_passDay 43 = .ok (.putfield 162, 3) := by decide +kernel
theorem dX8_passDay_46 : decode cX8_passDay 46 = .ok (.return_, 1) := by decide +kernel
theorem dX8_feast_0 : decode cX8_feast 0 = .ok (.iconst 0, 1) := by decide +kernel
theorem dX8_feast_1 : decode cX8_feast 1 = .ok (.istore_n 1, 1) := by decide +kernel
theorem dX8_feast_2 : decode cX8_feast 2 = .ok (.iload_n 1, 1) := by decide +kernel
theorem dX8_feast_3 : decode cX8_feast 3 = .ok (.bipush 8, 2) := by decide +kernel
theorem dX8_feast_5 : decode cX8_feast 5 = .ok (.if_icmp .ge 26, 3) := by decide +kernel
theorem dX8_feast_8 : decode cX8_feast 8 = .ok (.aload_n 0, 1) := by decide +kernel
theorem dX8_feast_9 : decode cX8_feast 9 = .ok (.getfield 13, 3) := by decide +kernel
theorem dX8_feast_12 : decode cX8_feast 12 = .ok (.iload_n 1, 1) := by decide +kernel
theorem dX8_feast_13 : decode cX8_feast 13 = .ok (.aload_n 0, 1) := by decide +kernel
theorem dX8_feast_14 : decode cX8_feast 14 = .ok (.getfield 13, 3) := by decide +kernel
theorem dX8_feast_17 : decode cX8_feast 17 = .ok (.iload_n 1, 1) := by decide +kernel
theorem dX8_feast_18 : decode cX8_feast 18 = .ok (.iaload, 1) := by decide +kernel
theorem dX8_feast_19 : decode cX8_feast 19 = .ok (.iconst 5, 1) := by decide +kernel
theorem dX8_feast_20 : decode cX8_feast 20 = .ok (.iadd, 1) := by decide +kernel
theorem dX8_feast_21 : decode cX8_feast 21 = .ok (.invokestatic 159, 3) := by decide +kernel
theorem dX8_feast_24 : decode cX8_feast 24 = .ok (.iastore, 1) := by decide +kernel
theorem dX8_feast_25 : decode cX8_feast 25 = .ok (.iinc 1 1, 3) := by decide +kernel
theorem dX8_feast_28 : decode cX8_feast 28 = .ok (.goto (-26), 3) := by decide +kernel
theorem dX8_feast_31 : decode cX8_feast 31 = .ok (.return_, 1) := by decide +kernel
theorem dX8_sell_0 : decode cX8_sell 0 = .ok (.aload_n 0, 1) := by decide +kernel
theorem dX8_sell_1 : decode cX8_sell 1 = .ok (.aload_n 0, 1) := by decide +kernel
theorem dX8_sell_2 : decode cX8_sell 2 = .ok (.getfield 40, 3) := by decide +kernel
theorem dX8_sell_5 : decode cX8_sell 5 = .ok (.iload_n 1, 1) := by decide +kernel
theorem dX8_sell_6 : decode cX8_sell 6 = .ok (.iaload, 1) := by decide +kernel
theorem dX8_sell_7 : decode cX8_sell 7 = .ok (.invokevirtual 156, 3) := by decide +kernel
theorem dX8_sell_10 : decode cX8_sell 10 = .ok (.aload_n 0, 1) := by decide +kernel
theorem dX8_sell_11 : decode cX8_sell 11 = .ok (.aload_n 0, 1) := by decide +kernel
theorem dX8_sell_12 : decode cX8_sell 12 = .ok (.getfield 37, 3) := by decide +kernel
theorem dX8_sell_15 : decode cX8_sell 15 = .ok (.iload_n 1, 1) := by decide +kernel
theorem dX8_sell_16 : decode cX8_sell 16 = .ok (.iaload, 1) := by decide +kernel
theorem dX8_sell_17 : decode cX8_sell 17 = .ok (.invokevirtual 156, 3) := by decide +kernel
theorem dX8_sell_20 : decode cX8_sell 20 = .ok (.isub, 1) := by decide +kernel
theorem dX8_sell_21 : decode cX8_sell 21 = .ok (.istore_n 2, 1) := by decide +kernel
theorem dX8_sell_22 : decode cX8_sell 22 = .ok (.aload_n 0, 1) := by decide +kernel
theorem dX8_sell_23 : decode cX8_sell 23 = .ok (.aload_n 0, 1) := by decide +kernel
theorem dX8_sell_24 : decode cX8_sell 24 = .ok (.getfield 40, 3) := by decide +kernel
theorem dX8_sell_27 : decode cX8_sell 27 = .ok (.iload_n 1, 1) := by decide +kernel
theorem dX8_sell_28 : decode cX8_sell 28 = .ok (.iaload, 1) := by decide +kernel
theorem dX8_sell_29 : decode cX8_sell 29 = .ok (.invokevirtual 165, 3) := by decide +kernel
theorem dX8_sell_32 : decode cX8_sell 32 = .ok (.aload_n 0, 1) := by decide +kernel
theorem dX8_sell_33 : decode cX8_sell 33 = .ok (.aload_n 0, 1) := by decide +kernel
theorem dX8_sell_34 : decode cX8_sell 34 = .ok (.getfield 37, 3) := by decide +kernel
theorem dX8_sell_37 : decode cX8_sell 37 = .ok (.iload_n 1, 1) := by decide +kernel
theorem dX8_sell_38 : decode cX8_sell 38 = .ok (.iaload, 1) := by decide +kernel
theorem dX8_sell_39 : decode cX8_sell 39 = .ok (.invokevirtual 165, 3) := by decide +kernel
theorem dX8_sell_42 : decode cX8_sell 42 = .ok (.isub, 1) := by decide +kernel
theorem dX8_sell_43 : decode cX8_sell 43 = .ok (.istore_n 3, 1) := by decide +kernel
theorem dX8_sell_44 : decode cX8_sell 44 = .ok (.iload_n 3, 1) := by decide +kernel
theorem dX8_sell_45 : decode cX8_sell 45 = .ok (.ifCond .ge 7, 3) := by decide +kernel
theorem dX8_sell_48 : decode cX8_sell 48 = .ok (.iconst 0, 1) := by decide +kernel
theorem dX8_sell_49 : decode cX8_sell 49 = .ok (.goto 4, 3) := by decide +kernel
theorem dX8_sell_52 : decode cX8_sell 52 = .ok (.iload_n 3, 1) := by decide +kernel
theorem dX8_sell_53 : decode cX8_sell 53 = .ok (.istore_n 3, 1) := by decide +kernel
theorem dX8_sell_54 : decode cX8_sell 54 = .ok (.aload_n 0, 1) := by decide +kernel
theorem dX8_sell_55 : decode cX8_sell 55 = .ok (.dup, 1) := by decide +kernel
theorem dX8_sell_56 : decode cX8_sell 56 = .ok (.getfield 168, 3) := by decide +kernel
theorem dX8_sell_59 : decode cX8_sell 59 = .ok (.iconst 1, 1) := by decide +kernel
theorem dX8_sell_60 : decode cX8_sell 60 = .ok (.iadd, 1) := by decide +kernel
theorem dX8_sell_61 : decode cX8_sell 61 = .ok (.putfield 168, 3) := by decide +kernel
theorem dX8_sell_64 : decode cX8_sell 64 = .ok (.aload_n 0, 1) := by decide +kernel
theorem dX8_sell_65 : decode cX8_sell 65 = .ok (.dup, 1) := by decide +kernel
theorem dX8_sell_66 : decode cX8_sell 66 = .ok (.getfield 171, 3) := by decide +kernel
theorem dX8_sell_69 : decode cX8_sell 69 = .ok (.iload_n 2, 1) := by decide +kernel
theorem dX8_sell_70 : decode cX8_sell 70 = .ok (.iadd, 1) := by decide +kernel
theorem dX8_sell_71 : decode cX8_sell 71 = .ok (.putfield 171, 3) := by decide +kernel
theorem dX8_sell_74 : decode cX8_sell 74 = .ok (.aload_n 0, 1) := by decide +kernel
theorem dX8_sell_75 : decode cX8_sell 75 = .ok (.dup, 1) := by decide +kernel
theorem dX8_sell_76 : decode cX8_sell 76 = .ok (.getfield 174, 3) := by decide +kernel
theorem dX8_sell_79 : decode cX8_sell 79 = .ok (.iload_n 3, 1) := by decide +kernel
theorem dX8_sell_80 : decode cX8_sell 80 = .ok (.iadd, 1) := by decide +kernel
theorem dX8_sell_81 : decode cX8_sell 81 = .ok (.putfield 174, 3) := by decide +kernel
theorem dX8_sell_84 : decode cX8_sell 84 = .ok (.aload_n 0, 1) := by decide +kernel
theorem dX8_sell_85 : decode cX8_sell 85 = .ok (.aload_n 0, 1) := by decide +kernel
theorem dX8_sell_86 : decode cX8_sell 86 = .ok (.getfield 177, 3) := by decide +kernel
theorem dX8_sell_89 : decode cX8_sell 89 = .ok (.ifCond .ge 20, 3) := by decide +kernel
theorem dX8_sell_92 : decode cX8_sell 92 = .ok (.iload_n 2, 1) := by decide +kernel
theorem dX8_sell_93 : decode cX8_sell 93 = .ok (.iload_n 3, 1) := by decide +kernel
theorem dX8_sell_94 : decode cX8_sell 94 = .ok (.isub, 1) := by decide +kernel
theorem dX8_sell_95 : decode cX8_sell 95 = .ok (.invokestatic 180, 3) := by decide +kernel
theorem dX8_sell_98 : decode cX8_sell 98 = .ok (.aload_n 0, 1) := by decide +kernel
theorem dX8_sell_99 : decode cX8_sell 99 = .ok (.getfield 71, 3) := by decide +kernel
theorem dX8_sell_102 : decode cX8_sell 102 = .ok (.if_icmp .le 7, 3) := by decide +kernel
theorem dX8_sell_105 : decode cX8_sell 105 = .ok (.iload_n 1, 1) := by decide +kernel
theorem dX8_sell_106 : decode cX8_sell 106 = .ok (.goto 7, 3) := by decide +kernel
theorem dX8_sell_109 : decode cX8_sell 109 = .ok (.aload_n 0, 1) := by decide +kernel
theorem dX8_sell_110 : decode cX8_sell 110 = .ok (.getfield 177, 3) := by decide +kernel
theorem dX8_sell_113 : decode cX8_sell 113 = .ok (.putfield 177, 3) := by decide +kernel
theorem dX8_sell_116 : decode cX8_sell 116 = .ok (.return_, 1) := by decide +kernel
theorem dX8_happen_0 : decode cX8_happen 0 = .ok (.aload_n 0, 1) := by decide +kernel
theorem dX8_happen_1 : decode cX8_happen 1 = .ok (.getfield 34, 3) := by decide +kernel
theorem dX8_happen_4 : decode cX8_happen 4 = .ok (.iload_n 1, 1) := by decide +kernel
theorem dX8_happen_5 : decode cX8_happen 5 = .ok (.iaload, 1) := by decide +kernel
theorem dX8_happen_6 : decode cX8_happen 6 = .ok (.tableswitch 48 0 2 #[26, 34, 41], 26) := by decide +kernel
theorem dX8_happen_32 : decode cX8_happen 32 = .ok (.aload_n 0, 1) := by decide +kernel
theorem dX8_happen_33 : decode cX8_happen 33 = .ok (.iload_n 1, 1) := by decide +kernel
theorem dX8_happen_34 : decode cX8_happen 34 = .ok (.invokevirtual 183, 3) := by decide +kernel
theorem dX8_happen_37 : decode cX8_happen 37 = .ok (.goto 32, 3) := by decide +kernel
theorem dX8_happen_40 : decode cX8_happen 40 = .ok (.aload_n 0, 1) := by decide +kernel
theorem dX8_happen_41 : decode cX8_happen 41 = .ok (.invokevirtual 186, 3) := by decide +kernel
theorem dX8_happen_44 : decode cX8_happen 44 = .ok (.goto 25, 3) := by decide +kernel
theorem dX8_happen_47 : decode cX8_happen 47 = .ok (.aload_n 0, 1) := by decide +kernel
theorem dX8_happen_48 : decode cX8_happen 48 = .ok (.invokevirtual 189, 3) := by decide +kernel
theorem dX8_happen_51 : decode cX8_happen 51 = .ok (.goto 18, 3) := by decide +kernel
theorem dX8_happen_54 : decode cX8_happen 54 = .ok (.aload_n 0, 1) := by decide +kernel
theorem dX8_happen_55 : decode cX8_happen 55 = .ok (.dup, 1) := by decide +kernel
theorem dX8_happen_56 : decode cX8_happen 56 = .ok (.getfield 88, 3) := by decide +kernel
theorem dX8_happen_59 : decode cX8_happen 59 = .ok (.aload_n 0, 1) := by decide +kernel
theorem dX8_happen_60 : decode cX8_happen 60 = .ok (.getfield 40, 3) := by decide +kernel
theorem dX8_happen_63 : decode cX8_happen 63 = .ok (.iload_n 1, 1) := by decide +kernel
theorem dX8_happen_64 : decode cX8_happen 64 = .ok (.iaload, 1) := by decide +kernel
theorem dX8_happen_65 : decode cX8_happen 65 = .ok (.ixor, 1) := by decide +kernel
theorem dX8_happen_66 : decode cX8_happen 66 = .ok (.putfield 88, 3) := by decide +kernel
theorem dX8_happen_69 : decode cX8_happen 69 = .ok (.return_, 1) := by decide +kernel
theorem dX8_keepNow_0 : decode cX8_keepNow 0 = .ok (.iconst 0, 1) := by decide +kernel
theorem dX8_keepNow_1 : decode cX8_keepNow 1 = .ok (.istore_n 1, 1) := by decide +kernel
theorem dX8_keepNow_2 : decode cX8_keepNow 2 = .ok (.iload_n 1, 1) := by decide +kernel
theorem dX8_keepNow_3 : decode cX8_keepNow 3 = .ok (.bipush 8, 2) := by decide +kernel
theorem dX8_keepNow_5 : decode cX8_keepNow 5 = .ok (.if_icmp .ge 21, 3) := by decide +kernel
theorem dX8_keepNow_8 : decode cX8_keepNow 8 = .ok (.aload_n 0, 1) := by decide +kernel
theorem dX8_keepNow_9 : decode cX8_keepNow 9 = .ok (.getfield 46, 3) := by decide +kernel
theorem dX8_keepNow_12 : decode cX8_keepNow 12 = .ok (.iload_n 1, 1) := by decide +kernel
theorem dX8_keepNow_13 : decode cX8_keepNow 13 = .ok (.aload_n 0, 1) := by decide +kernel
theorem dX8_keepNow_14 : decode cX8_keepNow 14 = .ok (.getfield 13, 3) := by decide +kernel
theorem dX8_keepNow_17 : decode cX8_keepNow 17 = .ok (.iload_n 1, 1) := by decide +kernel
theorem dX8_keepNow_18 : decode cX8_keepNow 18 = .ok (.iaload, 1) := by decide +kernel
theorem dX8_keepNow_19 : decode cX8_keepNow 19 = .ok (.iastore, 1) := by decide +kernel
theorem dX8_keepNow_20 : decode cX8_keepNow 20 = .ok (.iinc 1 1, 3) := by decide +kernel
theorem dX8_keepNow_23 : decode cX8_keepNow 23 = .ok (.goto (-21), 3) := by decide +kernel
theorem dX8_keepNow_26 : decode cX8_keepNow 26 = .ok (.aload_n 0, 1) := by decide +kernel
theorem dX8_keepNow_27 : decode cX8_keepNow 27 = .ok (.aload_n 0, 1) := by decide +kernel
theorem dX8_keepNow_28 : decode cX8_keepNow 28 = .ok (.getfield 88, 3) := by decide +kernel
theorem dX8_keepNow_31 : decode cX8_keepNow 31 = .ok (.putfield 192, 3) := by decide +kernel
theorem dX8_keepNow_34 : decode cX8_keepNow 34 = .ok (.aload_n 0, 1) := by decide +kernel
theorem dX8_keepNow_35 : decode cX8_keepNow 35 = .ok (.aload_n 0, 1) := by decide +kernel
theorem dX8_keepNow_36 : decode cX8_keepNow 36 = .ok (.getfield 162, 3) := by decide +kernel
theorem dX8_keepNow_39 : decode cX8_keepNow 39 = .ok (.putfield 195, 3) := by decide +kernel
theorem dX8_keepNow_42 : decode cX8_keepNow 42 = .ok (.return_, 1) := by decide +kernel
theorem dX8_putBack_0 : decode cX8_putBack 0 = .ok (.iconst 0, 1) := by decide +kernel
theorem dX8_putBack_1 : decode cX8_putBack 1 = .ok (.istore_n 1, 1) := by decide +kernel
theorem dX8_putBack_2 : decode cX8_putBack 2 = .ok (.iload_n 1, 1) := by decide +kernel
theorem dX8_putBack_3 : decode cX8_putBack 3 = .ok (.bipush 8, 2) := by decide +kernel
theorem dX8_putBack_5 : decode cX8_putBack 5 = .ok (.if_icmp .ge 21, 3) := by decide +kernel
theorem dX8_putBack_8 : decode cX8_putBack 8 = .ok (.aload_n 0, 1) := by decide +kernel
theorem dX8_putBack_9 : decode cX8_putBack 9 = .ok (.getfield 13, 3) := by decide +kernel
theorem dX8_putBack_12 : decode cX8_putBack 12 = .ok (.iload_n 1, 1) := by decide +kernel
theorem dX8_putBack_13 : decode cX8_putBack 13 = .ok (.aload_n 0, 1) := by decide +kernel
theorem dX8_putBack_14 : decode cX8_putBack 14 = .ok (.getfield 46, 3) := by decide +kernel
theorem dX8_putBack_17 : decode cX8_putBack 17 = .ok (.iload_n 1, 1) := by decide +kernel
theorem dX8_putBack_18 : decode cX8_putBack 18 = .ok (.iaload, 1) := by decide +kernel
theorem dX8_putBack_19 : decode cX8_putBack 19 = .ok (.iastore, 1) := by decide +kernel
theorem dX8_putBack_20 : decode cX8_putBack 20 = .ok (.iinc 1 1, 3) := by decide +kernel
theorem dX8_putBack_23 : decode cX8_putBack 23 = .ok (.goto (-21), 3) := by decide +kernel
theorem dX8_putBack_26 : decode cX8_putBack 26 = .ok (.aload_n 0, 1) := by decide +kernel
theorem dX8_putBack_27 : decode cX8_putBack 27 = .ok (.aload_n 0, 1) := by decide +kernel
theorem dX8_putBack_28 : decode cX8_putBack 28 = .ok (.getfield 192, 3) := by decide +kernel
theorem dX8_putBack_31 : decode cX8_putBack 31 = .ok (.putfield 88, 3) := by decide +kernel
theorem dX8_putBack_34 : decode cX8_putBack 34 = .ok (.aload_n 0, 1) := by decide +kernel
theorem dX8_putBack_35 : decode cX8_putBack 35 = .ok (.aload_n 0, 1) := by decide +kernel
theorem dX8_putBack_36 : decode cX8_putBack 36 = .ok (.getfield 195, 3) := by decide +kernel
theorem dX8_putBack_39 : decode cX8_putBack 39 = .ok (.putfield 162, 3) := by decide +kernel
theorem dX8_putBack_42 : decode cX8_putBack 42 = .ok (.return_, 1) := by decide +kernel
theorem dX8_goMarket_0 : decode cX8_goMarket 0 = .ok (.aload_n 0, 1) := by decide +kernel
theorem dX8_goMarket_1 : decode cX8_goMarket 1 = .ok (.bipush (-6), 2) := by decide +kernel
theorem dX8_goMarket_3 : decode cX8_goMarket 3 = .ok (.putfield 198, 3) := by decide +kernel
theorem dX8_goMarket_6 : decode cX8_goMarket 6 = .ok (.aload_n 0, 1) := by decide +kernel
theorem dX8_goMarket_7 : decode cX8_goMarket 7 = .ok (.bipush (-6), 2) := by decide +kernel
theorem dX8_goMarket_9 : decode cX8_goMarket 9 = .ok (.putfield 201, 3) := by decide +kernel
theorem dX8_goMarket_12 : decode cX8_goMarket 12 = .ok (.aload_n 0, 1) := by decide +kernel
theorem dX8_goMarket_13 : decode cX8_goMarket 13 = .ok (.iconst 0, 1) := by decide +kernel
theorem dX8_goMarket_14 : decode cX8_goMarket 14 = .ok (.putfield 168, 3) := by decide +kernel
theorem dX8_goMarket_17 : decode cX8_goMarket 17 = .ok (.aload_n 0, 1) := by decide +kernel
theorem dX8_goMarket_18 : decode cX8_goMarket 18 = .ok (.iconst 0, 1) := by decide +kernel
theorem dX8_goMarket_19 : decode cX8_goMarket 19 = .ok (.putfield 171, 3) := by decide +kernel
theorem dX8_goMarket_22 : decode cX8_goMarket 22 = .ok (.aload_n 0, 1) := by decide +kernel
theorem dX8_goMarket_23 : decode cX8_goMarket 23 = .ok (.iconst 0, 1) := by decide +kernel
theorem dX8_goMarket_24 : decode cX8_goMarket 24 = .ok (.putfield 174, 3) := by decide +kernel
theorem dX8_goMarket_27 : decode cX8_goMarket 27 = .ok (.aload_n 0, 1) := by decide +kernel
theorem dX8_goMarket_28 : decode cX8_goMarket 28 = .ok (.bipush (-6), 2) := by decide +kernel
theorem dX8_goMarket_30 : decode cX8_goMarket 30 = .ok (.putfield 177, 3) := by decide +kernel
theorem dX8_goMarket_33 : decode cX8_goMarket 33 = .ok (.iconst 0, 1) := by decide +kernel
theorem dX8_goMarket_34 : decode cX8_goMarket 34 = .ok (.istore_n 1, 1) := by decide +kernel
theorem dX8_goMarket_35 : decode cX8_goMarket 35 = .ok (.iload_n 1, 1) := by decide +kernel
theorem dX8_goMarket_36 : decode cX8_goMarket 36 = .ok (.aload_n 0, 1) := by decide +kernel
theorem dX8_goMarket_37 : decode cX8_goMarket 37 = .ok (.getfield 124, 3) := by decide +kernel
theorem dX8_goMarket_40 : decode cX8_goMarket 40 = .ok (.if_icmp .ge 59, 3) := by decide +kernel
theorem dX8_goMarket_43 : decode cX8_goMarket 43 = .ok (.aload_n 0, 1) := by decide +kernel
theorem dX8_goMarket_44 : decode cX8_goMarket 44 = .ok (.getfield 198, 3) := by decide +kernel
theorem dX8_goMarket_47 : decode cX8_goMarket 47 = .ok (.ifCond .ge 52, 3) := by decide +kernel
theorem dX8_goMarket_50 : decode cX8_goMarket 50 = .ok (.aload_n 0, 1) := by decide +kernel
theorem dX8_goMarket_51 : decode cX8_goMarket 51 = .ok (.iload_n 1, 1) := by decide +kernel
theorem dX8_goMarket_52 : decode cX8_goMarket 52 = .ok (.invokevirtual 204, 3) := by decide +kernel
theorem dX8_goMarket_55 : decode cX8_goMarket 55 = .ok (.istore_n 2, 1) := by decide +kernel
theorem dX8_goMarket_56 : decode cX8_goMarket 56 = .ok (.aload_n 0, 1) := by decide +kernel
theorem dX8_goMarket_57 : decode cX8_goMarket 57 = .ok (.iload_n 2, 1) := by decide +kernel
theorem dX8_goMarket_58 : decode cX8_goMarket 58 = .ok (.ifCond .le 7, 3) := by decide +kernel
theorem dX8_goMarket_61 : decode cX8_goMarket 61 = .ok (.iload_n 1, 1) := by decide +kernel
theorem dX8_goMarket_62 : decode cX8_goMarket 62 = .ok (.goto 5, 3) := by decide +kernel
theorem dX8_goMarket_65 : decode cX8_goMarket 65 = .ok (.bipush (-6), 2) := by decide +kernel
theorem dX8_goMarket_67 : decode cX8_goMarket 67 = .ok (.putfield 198, 3) := by decide +kernel
theorem dX8_goMarket_70 : decode cX8_goMarket 70 = .ok (.aload_n 0, 1) := by decide +kernel
theorem dX8_goMarket_71 : decode cX8_goMarket 71 = .ok (.iload_n 2, 1) := by decide +kernel
theorem dX8_goMarket_72 : decode cX8_goMarket 72 = .ok (.ifCond .le 7, 3) := by decide +kernel
theorem dX8_goMarket_75 : decode cX8_goMarket 75 = .ok (.iload_n 2, 1) := by decide +kernel
theorem dX8_goMarket_76 : decode cX8_goMarket 76 = .ok (.goto 5, 3) := by decide +kernel
theorem dX8_goMarket_79 : decode cX8_goMarket 79 = .ok (.bipush (-6), 2) := by decide +kernel
theorem dX8_goMarket_81 : decode cX8_goMarket 81 = .ok (.putfield 201, 3) := by decide +kernel
theorem dX8_goMarket_84 : decode cX8_goMarket 84 = .ok (.iload_n 2, 1) := by decide +kernel
theorem dX8_goMarket_85 : decode cX8_goMarket 85 = .ok (.ifCond .ne 8, 3) := by decide +kernel
theorem dX8_goMarket_88 : decode cX8_goMarket 88 = .ok (.aload_n 0, 1) := by decide +kernel
theorem dX8_goMarket_89 : decode cX8_goMarket 89 = .ok (.iload_n 1, 1) := by decide +kernel
theorem dX8_goMarket_90 : decode cX8_goMarket 90 = .ok (.invokevirtual 207, 3) := by decide +kernel
theorem dX8_goMarket_93 : decode cX8_goMarket 93 = .ok (.iinc 1 1, 3) := by decide +kernel
theorem dX8_goMarket_96 : decode cX8_goMarket 96 = .ok (.goto (-61), 3) := by decide +kernel
theorem dX8_goMarket_99 : decode cX8_goMarket 99 = .ok (.return_, 1) := by decide +kernel
theorem dX8_refusal_0 : decode cX8_refusal 0 = .ok (.aload_n 0, 1) := by decide +kernel
theorem dX8_refusal_1 : decode cX8_refusal 1 = .ok (.invokevirtual 210, 3) := by decide +kernel
theorem dX8_refusal_4 : decode cX8_refusal 4 = .ok (.ifCond .lt 6, 3) := by decide +kernel
theorem dX8_refusal_7 : decode cX8_refusal 7 = .ok (.bipush (-5), 2) := by decide +kernel
theorem dX8_refusal_9 : decode cX8_refusal 9 = .ok (.ireturn, 1) := by decide +kernel
theorem dX8_refusal_10 : decode cX8_refusal 10 = .ok (.aload_n 0, 1) := by decide +kernel
theorem dX8_refusal_11 : decode cX8_refusal 11 = .ok (.invokevirtual 213, 3) := by decide +kernel
theorem dX8_refusal_14 : decode cX8_refusal 14 = .ok (.aload_n 0, 1) := by decide +kernel
theorem dX8_refusal_15 : decode cX8_refusal 15 = .ok (.invokevirtual 216, 3) := by decide +kernel
theorem dX8_refusal_18 : decode cX8_refusal 18 = .ok (.iconst 0, 1) := by decide +kernel
theorem dX8_refusal_19 : decode cX8_refusal 19 = .ok (.istore_n 1, 1) := by decide +kernel
theorem dX8_refusal_20 : decode cX8_refusal 20 = .ok (.iload_n 1, 1) := by decide +kernel
theorem dX8_refusal_21 : decode cX8_refusal 21 = .ok (.bipush 8, 2) := by decide +kernel
theorem dX8_refusal_23 : decode cX8_refusal 23 = .ok (.if_icmp .ge 32, 3) := by decide +kernel
theorem dX8_refusal_26 : decode cX8_refusal 26 = .ok (.aload_n 0, 1) := by decide +kernel
theorem dX8_refusal_27 : decode cX8_refusal 27 = .ok (.getfield 49, 3) := by decide +kernel
theorem dX8_refusal_30 : decode cX8_refusal 30 = .ok (.iload_n 1, 1) := by decide +kernel
theorem dX8_refusal_31 : decode cX8_refusal 31 = .ok (.aload_n 0, 1) := by decide +kernel
theorem dX8_refusal_32 : decode cX8_refusal 32 = .ok (.iload_n 1, 1) := by decide +kernel
theorem dX8_refusal_33 : decode cX8_refusal 33 = .ok (.invokevirtual 150, 3) := by decide +kernel
theorem dX8_refusal_36 : decode cX8_refusal 36 = .ok (.iastore, 1) := by decide +kernel
theorem dX8_refusal_37 : decode cX8_refusal 37 = .ok (.aload_n 0, 1) := by decide +kernel
theorem dX8_refusal_38 : decode cX8_refusal 38 = .ok (.getfield 52, 3) := by decide +kernel
theorem dX8_refusal_41 : decode cX8_refusal 41 = .ok (.iload_n 1, 1) := by decide +kernel
theorem dX8_refusal_42 : decode cX8_refusal 42 = .ok (.aload_n 0, 1) := by decide +kernel
theorem dX8_refusal_43 : decode cX8_refusal 43 = .ok (.getfield 13, 3) := by decide +kernel
theorem dX8_refusal_46 : decode cX8_refusal 46 = .ok (.iload_n 1, 1) := by decide +kernel
theorem dX8_refusal_47 : decode cX8_refusal 47 = .ok (.iaload, 1) := by decide +kernel
theorem dX8_refusal_48 : decode cX8_refusal 48 = .ok (.iastore, 1) := by decide +kernel
theorem dX8_refusal_49 : decode cX8_refusal 49 = .ok (.iinc 1 1, 3) := by decide +kernel
theorem dX8_refusal_52 : decode cX8_refusal 52 = .ok (.goto (-32), 3) := by decide +kernel
theorem dX8_refusal_55 : decode cX8_refusal 55 = .ok (.aload_n 0, 1) := by decide +kernel
theorem dX8_refusal_56 : decode cX8_refusal 56 = .ok (.aload_n 0, 1) := by decide +kernel
theorem dX8_refusal_57 : decode cX8_refusal 57 = .ok (.getfield 162, 3) := by decide +kernel
theorem dX8_refusal_60 : decode cX8_refusal 60 = .ok (.putfield 219, 3) := by decide +kernel
theorem dX8_refusal_63 : decode cX8_refusal 63 = .ok (.aload_n 0, 1) := by decide +kernel
theorem dX8_refusal_64 : decode cX8_refusal 64 = .ok (.invokevirtual 222, 3) := by decide +kernel
theorem dX8_refusal_67 : decode cX8_refusal 67 = .ok (.aload_n 0, 1) := by decide +kernel
theorem dX8_refusal_68 : decode cX8_refusal 68 = .ok (.getfield 198, 3) := by decide +kernel
theorem dX8_refusal_71 : decode cX8_refusal 71 = .ok (.ifCond .lt 8, 3) := by decide +kernel
theorem dX8_refusal_74 : decode cX8_refusal 74 = .ok (.bipush (-3), 2) := by decide +kernel
theorem dX8_refusal_76 : decode cX8_refusal 76 = .ok (.goto 5, 3) := by decide +kernel
theorem dX8_refusal_79 : decode cX8_refusal 79 = .ok (.bipush (-6), 2) := by decide +kernel
theorem dX8_refusal_81 : decode cX8_refusal 81 = .ok (.ireturn, 1) := by decide +kernel
theorem dX8_judge_0 : decode cX8_judge 0 = .ok (.iload_n 1, 1) := by decide +kernel
theorem dX8_judge_1 : decode cX8_judge 1 = .ok (.i2l, 1) := by decide +kernel
theorem dX8_judge_2 : decode cX8_judge 2 = .ok (.lconst 0, 1) := by decide +kernel
theorem dX8_judge_3 : decode cX8_judge 3 = .ok (.ldc2_w 225, 3) := by decide +kernel
theorem dX8_judge_6 : decode cX8_judge 6 = .ok (.invokestatic 77, 3) := by decide +kernel
theorem dX8_judge_9 : decode cX8_judge 9 = .ok (.ifCond .ne 6, 3) := by decide +kernel
theorem dX8_judge_12 : decode cX8_judge 12 = .ok (.bipush (-2), 2) := by decide +kernel
theorem dX8_judge_14 : decode cX8_judge 14 = .ok (.ireturn, 1) := by decide +kernel
theorem dX8_judge_15 : decode cX8_judge 15 = .ok (.aload_n 0, 1) := by decide +kernel
theorem dX8_judge_16 : decode cX8_judge 16 = .ok (.invokevirtual 227, 3) := by decide +kernel
theorem dX8_judge_19 : decode cX8_judge 19 = .ok (.istore_n 2, 1) := by decide +kernel
theorem dX8_judge_20 : decode cX8_judge 20 = .ok (.iload_n 2, 1) := by decide +kernel
theorem dX8_judge_21 : decode cX8_judge 21 = .ok (.bipush (-5), 2) := by decide +kernel
theorem dX8_judge_23 : decode cX8_judge 23 = .ok (.if_icmp .eq 14, 3) := by decide +kernel
theorem dX8_judge_26 : decode cX8_judge 26 = .ok (.iload_n 1, 1) := by decide +kernel
theorem dX8_judge_27 : decode cX8_judge 27 = .ok (.iconst 1, 1) := by decide +kernel
theorem dX8_judge_28 : decode cX8_judge 28 = .ok (.if_icmp .le 11, 3) := by decide +kernel
theorem dX8_judge_31 : decode cX8_judge 31 = .ok (.iload_n 2, 1) := by decide +kernel
theorem dX8_judge_32 : decode cX8_judge 32 = .ok (.bipush (-3), 2) := by decide +kernel
theorem dX8_judge_34 : decode cX8_judge 34 = .ok (.if_icmp .ne 5, 3) := by decide +kernel
theorem dX8_judge_37 : decode cX8_judge 37 = .ok (.iload_n 2, 1) := by decide +kernel
theorem dX8_judge_38 : decode cX8_judge 38 = .ok (.ireturn, 1) := by decide +kernel
theorem dX8_judge_39 : decode cX8_judge 39 = .ok (.iload_n 1, 1) := by decide +kernel
theorem dX8_judge_40 : decode cX8_judge 40 = .ok (.tableswitch 61 0 4 #[36, 41, 46, 51, 56], 36) := by decide +kernel
theorem dX8_judge_76 : decode cX8_judge 76 = .ok (.aload_n 0, 1) := by decide +kernel
theorem dX8_judge_77 : decode cX8_judge 77 = .ok (.getfield 198, 3) := by decide +kernel
theorem dX8_judge_80 : decode cX8_judge 80 = .ok (.ireturn, 1) := by decide +kernel
theorem dX8_judge_81 : decode cX8_judge 81 = .ok (.aload_n 0, 1) := by decide +kernel
theorem dX8_judge_82 : decode cX8_judge 82 = .ok (.getfield 201, 3) := by decide +kernel
theorem dX8_judge_85 : decode cX8_judge 85 = .ok (.ireturn, 1) := by decide +kernel
theorem dX8_judge_86 : decode cX8_judge 86 = .ok (.aload_n 0, 1) := by decide +kernel
theorem dX8_judge_87 : decode cX8_judge 87 = .ok (.getfield 168, 3) := by decide +kernel
theorem dX8_judge_90 : decode cX8_judge 90 = .ok (.ireturn, 1) := by decide +kernel
theorem dX8_judge_91 : decode cX8_judge 91 = .ok (.aload_n 0, 1) := by decide +kernel
theorem dX8_judge_92 : decode cX8_judge 92 = .ok (.getfield 171, 3) := by decide +kernel
theorem dX8_judge_95 : decode cX8_judge 95 = .ok (.ireturn, 1) := by decide +kernel
theorem dX8_judge_96 : decode cX8_judge 96 = .ok (.aload_n 0, 1) := by decide +kernel
theorem dX8_judge_97 : decode cX8_judge 97 = .ok (.getfield 174, 3) := by decide +kernel
theorem dX8_judge_100 : decode cX8_judge 100 = .ok (.ireturn, 1) := by decide +kernel
theorem dX8_judge_101 : decode cX8_judge 101 = .ok (.aload_n 0, 1) := by decide +kernel
theorem dX8_judge_102 : decode cX8_judge 102 = .ok (.getfield 177, 3) := by decide +kernel
theorem dX8_judge_105 : decode cX8_judge 105 = .ok (.ireturn, 1) := by decide +kernel
theorem dX8_behind_0 : decode cX8_behind 0 = .ok (.aload_n 0, 1) := by decide +kernel
theorem dX8_behind_1 : decode cX8_behind 1 = .ok (.iload_n 1, 1) := by decide +kernel
theorem dX8_behind_2 : decode cX8_behind 2 = .ok (.invokevirtual 84, 3) := by decide +kernel
theorem dX8_behind_5 : decode cX8_behind 5 = .ok (.ifCond .ne 5, 3) := by decide +kernel
theorem dX8_behind_8 : decode cX8_behind 8 = .ok (.iconst (-1), 1) := by decide +kernel
theorem dX8_behind_9 : decode cX8_behind 9 = .ok (.ireturn, 1) := by decide +kernel
theorem dX8_behind_10 : decode cX8_behind 10 = .ok (.iload_n 2, 1) := by decide +kernel
theorem dX8_behind_11 : decode cX8_behind 11 = .ok (.i2l, 1) := by decide +kernel
theorem dX8_behind_12 : decode cX8_behind 12 = .ok (.lconst 0, 1) := by decide +kernel
theorem dX8_behind_13 : decode cX8_behind 13 = .ok (.ldc2_w 230, 3) := by decide +kernel
theorem dX8_behind_16 : decode cX8_behind 16 = .ok (.invokestatic 77, 3) := by decide +kernel
theorem dX8_behind_19 : decode cX8_behind 19 = .ok (.ifCond .ne 6, 3) := by decide +kernel
theorem dX8_behind_22 : decode cX8_behind 22 = .ok (.bipush (-2), 2) := by decide +kernel
theorem dX8_behind_24 : decode cX8_behind 24 = .ok (.ireturn, 1) := by decide +kernel
theorem dX8_behind_25 : decode cX8_behind 25 = .ok (.aload_n 0, 1) := by decide +kernel
theorem dX8_behind_26 : decode cX8_behind 26 = .ok (.invokevirtual 227, 3) := by decide +kernel
theorem dX8_behind_29 : decode cX8_behind 29 = .ok (.istore_n 3, 1) := by decide +kernel
theorem dX8_behind_30 : decode cX8_behind 30 = .ok (.iload_n 3, 1) := by decide +kernel
theorem dX8_behind_31 : decode cX8_behind 31 = .ok (.bipush (-6), 2) := by decide +kernel
theorem dX8_behind_33 : decode cX8_behind 33 = .ok (.if_icmp .eq 5, 3) := by decide +kernel
theorem dX8_behind_36 : decode cX8_behind 36 = .ok (.iload_n 3, 1) := by decide +kernel
theorem dX8_behind_37 : decode cX8_behind 37 = .ok (.ireturn, 1) := by decide +kernel
theorem dX8_behind_38 : decode cX8_behind 38 = .ok (.iload_n 2, 1) := by decide +kernel
theorem dX8_behind_39 : decode cX8_behind 39 = .ok (.ifCond .ne 12, 3) := by decide +kernel
theorem dX8_behind_42 : decode cX8_behind 42 = .ok (.aload_n 0, 1) := by decide +kernel
theorem dX8_behind_43 : decode cX8_behind 43 = .ok (.getfield 49, 3) := by decide +kernel
theorem dX8_behind_46 : decode cX8_behind 46 = .ok (.iload_n 1, 1) := by decide +kernel
theorem dX8_behind_47 : decode cX8_behind 47 = .ok (.iaload, 1) := by decide +kernel
theorem dX8_behind_48 : decode cX8_behind 48 = .ok (.goto 21, 3) := by decide +kernel
theorem dX8_behind_51 : decode cX8_behind 51 = .ok (.iload_n 2, 1) := by decide +kernel
theorem dX8_behind_52 : decode cX8_behind 52 = .ok (.iconst 1, 1) := by decide +kernel
theorem dX8_behind_53 : decode cX8_behind 53 = .ok (.if_icmp .ne 12, 3) := by decide +kernel
theorem dX8_behind_56 : decode cX8_behind 56 = .ok (.aload_n 0, 1) := by decide +kernel
theorem dX8_behind_57 : decode cX8_behind 57 = .ok (.getfield 52, 3) := by decide +kernel
theorem dX8_behind_60 : decode cX8_behind 60 = .ok (.iload_n 1, 1) := by decide +kernel
theorem dX8_behind_61 : decode cX8_behind 61 = .ok (.iaload, 1) := by decide +kernel
theorem dX8_behind_62 : decode cX8_behind 62 = .ok (.goto 7, 3) := by decide +kernel
theorem dX8_behind_65 : decode cX8_behind 65 = .ok (.aload_n 0, 1) := by decide +kernel
theorem dX8_behind_66 : decode cX8_behind 66 = .ok (.getfield 219, 3) := by decide +kernel
theorem dX8_behind_69 : decode cX8_behind 69 = .ok (.ireturn, 1) := by decide +kernel
theorem dX8_done_0 : decode cX8_done 0 = .ok (.aload_n 0, 1) := by decide +kernel
theorem dX8_done_1 : decode cX8_done 1 = .ok (.invokevirtual 227, 3) := by decide +kernel
theorem dX8_done_4 : decode cX8_done 4 = .ok (.istore_n 1, 1) := by decide +kernel
theorem dX8_done_5 : decode cX8_done 5 = .ok (.iload_n 1, 1) := by decide +kernel
theorem dX8_done_6 : decode cX8_done 6 = .ok (.bipush (-6), 2) := by decide +kernel
theorem dX8_done_8 : decode cX8_done 8 = .ok (.if_icmp .eq 5, 3) := by decide +kernel
theorem dX8_done_11 : decode cX8_done 11 = .ok (.iload_n 1, 1) := by decide +kernel
theorem dX8_done_12 : decode cX8_done 12 = .ok (.ireturn, 1) := by decide +kernel
theorem dX8_done_13 : decode cX8_done 13 = .ok (.aload_n 0, 1) := by decide +kernel
theorem dX8_done_14 : decode cX8_done 14 = .ok (.invokevirtual 216, 3) := by decide +kernel
theorem dX8_done_17 : decode cX8_done 17 = .ok (.aload_n 0, 1) := by decide +kernel
theorem dX8_done_18 : decode cX8_done 18 = .ok (.iconst 0, 1) := by decide +kernel
theorem dX8_done_19 : decode cX8_done 19 = .ok (.putfield 121, 3) := by decide +kernel
theorem dX8_done_22 : decode cX8_done 22 = .ok (.aload_n 0, 1) := by decide +kernel
theorem dX8_done_23 : decode cX8_done 23 = .ok (.getfield 124, 3) := by decide +kernel
theorem dX8_done_26 : decode cX8_done 26 = .ok (.ireturn, 1) := by decide +kernel
theorem dX8_weighs_0 : decode cX8_weighs 0 = .ok (.aload_n 0, 1) := by decide +kernel
theorem dX8_weighs_1 : decode cX8_weighs 1 = .ok (.iload_n 1, 1) := by decide +kernel
theorem dX8_weighs_2 : decode cX8_weighs 2 = .ok (.invokevirtual 84, 3) := by decide +kernel
theorem dX8_weighs_5 : decode cX8_weighs 5 = .ok (.ifCond .eq 11, 3) := by decide +kernel
theorem dX8_weighs_8 : decode cX8_weighs 8 = .ok (.aload_n 0, 1) := by decide +kernel
theorem dX8_weighs_9 : decode cX8_weighs 9 = .ok (.iload_n 1, 1) := by decide +kernel
theorem dX8_weighs_10 : decode cX8_weighs 10 = .ok (.invokevirtual 150, 3) := by decide +kernel
theorem dX8_weighs_13 : decode cX8_weighs 13 = .ok (.goto 4, 3) := by decide +kernel
theorem dX8_weighs_16 : decode cX8_weighs 16 = .ok (.iconst (-1), 1) := by decide +kernel
theorem dX8_weighs_17 : decode cX8_weighs 17 = .ok (.ireturn, 1) := by decide +kernel
theorem dX8_off_0 : decode cX8_off 0 = .ok (.aload_n 0, 1) := by decide +kernel
theorem dX8_off_1 : decode cX8_off 1 = .ok (.iload_n 1, 1) := by decide +kernel
theorem dX8_off_2 : decode cX8_off 2 = .ok (.invokevirtual 84, 3) := by decide +kernel
theorem dX8_off_5 : decode cX8_off 5 = .ok (.ifCond .eq 22, 3) := by decide +kernel
theorem dX8_off_8 : decode cX8_off 8 = .ok (.aload_n 0, 1) := by decide +kernel
theorem dX8_off_9 : decode cX8_off 9 = .ok (.iload_n 1, 1) := by decide +kernel
theorem dX8_off_10 : decode cX8_off 10 = .ok (.invokevirtual 150, 3) := by decide +kernel
theorem dX8_off_13 : decode cX8_off 13 = .ok (.aload_n 0, 1) := by decide +kernel
theorem dX8_off_14 : decode cX8_off 14 = .ok (.getfield 7, 3) := by decide +kernel
theorem dX8_off_17 : decode cX8_off 17 = .ok (.iload_n 1, 1) := by decide +kernel
theorem dX8_off_18 : decode cX8_off 18 = .ok (.iaload, 1) := by decide +kernel
theorem dX8_off_19 : decode cX8_off 19 = .ok (.isub, 1) := by decide +kernel
theorem dX8_off_20 : decode cX8_off 20 = .ok (.sipush 1000, 3) := by decide +kernel
theorem dX8_off_23 : decode cX8_off 23 = .ok (.iadd, 1) := by decide +kernel
theorem dX8_off_24 : decode cX8_off 24 = .ok (.goto 4, 3) := by decide +kernel
theorem dX8_off_27 : decode cX8_off 27 = .ok (.iconst (-1), 1) := by decide +kernel
theorem dX8_off_28 : decode cX8_off 28 = .ok (.ireturn, 1) := by decide +kernel
theorem dX8_out_0 : decode cX8_out 0 = .ok (.aload_n 0, 1) := by decide +kernel
theorem dX8_out_1 : decode cX8_out 1 = .ok (.iload_n 1, 1) := by decide +kernel
theorem dX8_out_2 : decode cX8_out 2 = .ok (.invokevirtual 84, 3) := by decide +kernel
theorem dX8_out_5 : decode cX8_out 5 = .ok (.ifCond .ne 5, 3) := by decide +kernel
theorem dX8_out_8 : decode cX8_out 8 = .ok (.iconst (-1), 1) := by decide +kernel
theorem dX8_out_9 : decode cX8_out 9 = .ok (.ireturn, 1) := by decide +kernel
theorem dX8_out_10 : decode cX8_out 10 = .ok (.aload_n 0, 1) := by decide +kernel
theorem dX8_out_11 : decode cX8_out 11 = .ok (.invokevirtual 213, 3) := by decide +kernel
theorem dX8_out_14 : decode cX8_out 14 = .ok (.bipush (-6), 2) := by decide +kernel
theorem dX8_out_16 : decode cX8_out 16 = .ok (.istore_n 2, 1) := by decide +kernel
theorem dX8_out_17 : decode cX8_out 17 = .ok (.iconst 0, 1) := by decide +kernel
theorem dX8_out_18 : decode cX8_out 18 = .ok (.istore_n 3, 1) := by decide +kernel
theorem dX8_out_19 : decode cX8_out 19 = .ok (.iload_n 3, 1) := by decide +kernel
theorem dX8_out_20 : decode cX8_out 20 = .ok (.bipush 99, 2) := by decide +kernel
theorem dX8_out_22 : decode cX8_out 22 = .ok (.if_icmp .gt 46, 3) := by decide +kernel
theorem dX8_out_25 : decode cX8_out 25 = .ok (.iload_n 2, 1) := by decide +kernel
theorem dX8_out_26 : decode cX8_out 26 = .ok (.ifCond .ge 42, 3) := by decide +kernel
theorem dX8_out_29 : decode cX8_out 29 = .ok (.aload_n 0, 1) := by decide +kernel
theorem dX8_out_30 : decode cX8_out 30 = .ok (.iload_n 1, 1) := by decide +kernel
theorem dX8_out_31 : decode cX8_out 31 = .ok (.invokevirtual 150, 3) := by decide +kernel
theorem dX8_out_34 : decode cX8_out 34 = .ok (.aload_n 0, 1) := by decide +kernel
theorem dX8_out_35 : decode cX8_out 35 = .ok (.getfield 7, 3) := by decide +kernel
theorem dX8_out_38 : decode cX8_out 38 = .ok (.iload_n 1, 1) := by decide +kernel
theorem dX8_out_39 : decode cX8_out 39 = .ok (.iaload, 1) := by decide +kernel
theorem dX8_out_40 : decode cX8_out 40 = .ok (.isub, 1) := by decide +kernel
theorem dX8_out_41 : decode cX8_out 41 = .ok (.invokestatic 180, 3) := by decide +kernel
theorem dX8_out_44 : decode cX8_out 44 = .ok (.aload_n 0, 1) := by decide +kernel
theorem dX8_out_45 : decode cX8_out 45 = .ok (.getfield 71, 3) := by decide +kernel
theorem dX8_out_48 : decode cX8_out 48 = .ok (.if_icmp .le 7, 3) := by decide +kernel
theorem dX8_out_51 : decode cX8_out 51 = .ok (.iload_n 3, 1) := by decide +kernel
theorem dX8_out_52 : decode cX8_out 52 = .ok (.goto 5, 3) := by decide +kernel
theorem dX8_out_55 : decode cX8_out 55 = .ok (.bipush (-6), 2) := by decide +kernel
theorem dX8_out_57 : decode cX8_out 57 = .ok (.istore_n 2, 1) := by decide +kernel
theorem dX8_out_58 : decode cX8_out 58 = .ok (.aload_n 0, 1) := by decide +kernel
theorem dX8_out_59 : decode cX8_out 59 = .ok (.invokevirtual 186, 3) := by decide +kernel
theorem dX8_out_62 : decode cX8_out 62 = .ok (.iinc 3 1, 3) := by decide +kernel
theorem dX8_out_65 : decode cX8_out 65 = .ok (.goto (-46), 3) := by decide +kernel
theorem dX8_out_68 : decode cX8_out 68 = .ok (.aload_n 0, 1) := by decide +kernel
theorem dX8_out_69 : decode cX8_out 69 = .ok (.invokevirtual 222, 3) := by decide +kernel
theorem dX8_out_72 : decode cX8_out 72 = .ok (.iload_n 2, 1) := by decide +kernel
theorem dX8_out_73 : decode cX8_out 73 = .ok (.ireturn, 1) := by decide +kernel
theorem dX8_even_0 : decode cX8_even 0 = .ok (.aload_n 0, 1) := by decide +kernel
theorem dX8_even_1 : decode cX8_even 1 = .ok (.iload_n 1, 1) := by decide +kernel
theorem dX8_even_2 : decode cX8_even 2 = .ok (.iload_n 2, 1) := by decide +kernel
theorem dX8_even_3 : decode cX8_even 3 = .ok (.invokevirtual 107, 3) := by decide +kernel
theorem dX8_even_6 : decode cX8_even 6 = .ok (.ifCond .ne 5, 3) := by decide +kernel
theorem dX8_even_9 : decode cX8_even 9 = .ok (.iconst (-1), 1) := by decide +kernel
theorem dX8_even_10 : decode cX8_even 10 = .ok (.ireturn, 1) := by decide +kernel
theorem dX8_even_11 : decode cX8_even 11 = .ok (.aload_n 0, 1) := by decide +kernel
theorem dX8_even_12 : decode cX8_even 12 = .ok (.invokevirtual 213, 3) := by decide +kernel
theorem dX8_even_15 : decode cX8_even 15 = .ok (.bipush (-6), 2) := by decide +kernel
theorem dX8_even_17 : decode cX8_even 17 = .ok (.istore_n 3, 1) := by decide +kernel
theorem dX8_even_18 : decode cX8_even 18 = .ok (.iconst 0, 1) := by decide +kernel
theorem dX8_even_19 : decode cX8_even 19 = .ok (.istore 4, 2) := by decide +kernel
theorem dX8_even_21 : decode cX8_even 21 = .ok (.iload 4, 2) := by decide +kernel
theorem dX8_even_23 : decode cX8_even 23 = .ok (.bipush 99, 2) := by decide +kernel
theorem dX8_even_25 : decode cX8_even 25 = .ok (.if_icmp .gt 38, 3) := by decide +kernel
theorem dX8_even_28 : decode cX8_even 28 = .ok (.iload_n 3, 1) := by decide +kernel
theorem dX8_even_29 : decode cX8_even 29 = .ok (.ifCond .ge 34, 3) := by decide +kernel
theorem dX8_even_32 : decode cX8_even 32 = .ok (.aload_n 0, 1) := by decide +kernel
theorem dX8_even_33 : decode cX8_even 33 = .ok (.iload_n 1, 1) := by decide +kernel
theorem dX8_even_34 : decode cX8_even 34 = .ok (.invokevirtual 150, 3) := by decide +kernel
theorem dX8_even_37 : decode cX8_even 37 = .ok (.aload_n 0, 1) := by decide +kernel
theorem dX8_even_38 : decode cX8_even 38 = .ok (.iload_n 2, 1) := by decide +kernel
theorem dX8_even_39 : decode cX8_even 39 = .ok (.invokevirtual 150, 3) := by decide +kernel
theorem dX8_even_42 : decode cX8_even 42 = .ok (.if_icmp .ne 8, 3) := by decide +kernel
theorem dX8_even_45 : decode cX8_even 45 = .ok (.iload 4, 2) := by decide +kernel
theorem dX8_even_47 : decode cX8_even 47 = .ok (.goto 5, 3) := by decide +kernel
theorem dX8_even_50 : decode cX8_even 50 = .ok (.bipush (-6), 2) := by decide +kernel
theorem dX8_even_52 : decode cX8_even 52 = .ok (.istore_n 3, 1) := by decide +kernel
theorem dX8_even_53 : decode cX8_even 53 = .ok (.aload_n 0, 1) := by decide +kernel
theorem dX8_even_54 : decode cX8_even 54 = .ok (.invokevirtual 186, 3) := by decide +kernel
theorem dX8_even_57 : decode cX8_even 57 = .ok (.iinc 4 1, 3) := by decide +kernel
theorem dX8_even_60 : decode cX8_even 60 = .ok (.goto (-39), 3) := by decide +kernel
theorem dX8_even_63 : decode cX8_even 63 = .ok (.aload_n 0, 1) := by decide +kernel
theorem dX8_even_64 : decode cX8_even 64 = .ok (.invokevirtual 222, 3) := by decide +kernel
theorem dX8_even_67 : decode cX8_even 67 = .ok (.iload_n 3, 1) := by decide +kernel
theorem dX8_even_68 : decode cX8_even 68 = .ok (.ireturn, 1) := by decide +kernel
theorem dX8_seat_0 : decode cX8_seat 0 = .ok (.aload_n 0, 1) := by decide +kernel
theorem dX8_seat_1 : decode cX8_seat 1 = .ok (.iconst 0, 1) := by decide +kernel
theorem dX8_seat_2 : decode cX8_seat 2 = .ok (.putfield 232, 3) := by decide +kernel
theorem dX8_seat_5 : decode cX8_seat 5 = .ok (.aload_n 0, 1) := by decide +kernel
theorem dX8_seat_6 : decode cX8_seat 6 = .ok (.iconst 0, 1) := by decide +kernel
theorem dX8_seat_7 : decode cX8_seat 7 = .ok (.putfield 235, 3) := by decide +kernel
theorem dX8_seat_10 : decode cX8_seat 10 = .ok (.iload_n 1, 1) := by decide +kernel
theorem dX8_seat_11 : decode cX8_seat 11 = .ok (.istore_n 2, 1) := by decide +kernel
theorem dX8_seat_12 : decode cX8_seat 12 = .ok (.iconst 0, 1) := by decide +kernel
theorem dX8_seat_13 : decode cX8_seat 13 = .ok (.istore_n 3, 1) := by decide +kernel
theorem dX8_seat_14 : decode cX8_seat 14 = .ok (.iload_n 3, 1) := by decide +kernel
theorem dX8_seat_15 : decode cX8_seat 15 = .ok (.bipush 8, 2) := by decide +kernel
theorem dX8_seat_17 : decode cX8_seat 17 = .ok (.if_icmp .ge 59, 3) := by decide +kernel
theorem dX8_seat_20 : decode cX8_seat 20 = .ok (.aload_n 0, 1) := by decide +kernel
theorem dX8_seat_21 : decode cX8_seat 21 = .ok (.dup, 1) := by decide +kernel
theorem dX8_seat_22 : decode cX8_seat 22 = .ok (.getfield 232, 3) := by decide +kernel
theorem dX8_seat_25 : decode cX8_seat 25 = .ok (.iload_n 2, 1) := by decide +kernel
theorem dX8_seat_26 : decode cX8_seat 26 = .ok (.iconst 3, 1) := by decide +kernel
theorem dX8_seat_27 : decode cX8_seat 27 = .ok (.irem, 1) := by decide +kernel
theorem dX8_seat_28 : decode cX8_seat 28 = .ok (.iconst 1, 1) := by decide +kernel
theorem dX8_seat_29 : decode cX8_seat 29 = .ok (.if_icmp .ne 9, 3) := by decide +kernel
theorem dX8_seat_32 : decode cX8_seat 32 = .ok (.iconst 1, 1) := by decide +kernel
theorem dX8_seat_33 : decode cX8_seat 33 = .ok (.iload_n 3, 1) := by decide +kernel
theorem dX8_seat_34 : decode cX8_seat 34 = .ok (.ishl, 1) := by decide +kernel
theorem dX8_seat_35 : decode cX8_seat 35 = .ok (.goto 4, 3) := by decide +kernel
theorem dX8_seat_38 : decode cX8_seat 38 = .ok (.iconst 0, 1) := by decide +kernel
theorem dX8_seat_39 : decode cX8_seat 39 = .ok (.ior, 1) := by decide +kernel
theorem dX8_seat_40 : decode cX8_seat 40 = .ok (.putfield 232, 3) := by decide +kernel
theorem dX8_seat_43 : decode cX8_seat 43 = .ok (.aload_n 0, 1) := by decide +kernel
theorem dX8_seat_44 : decode cX8_seat 44 = .ok (.dup, 1) := by decide +kernel
theorem dX8_seat_45 : decode cX8_seat 45 = .ok (.getfield 235, 3) := by decide +kernel
theorem dX8_seat_48 : decode cX8_seat 48 = .ok (.iload_n 2, 1) := by decide +kernel
theorem dX8_seat_49 : decode cX8_seat 49 = .ok (.iconst 3, 1) := by decide +kernel
theorem dX8_seat_50 : decode cX8_seat 50 = .ok (.irem, 1) := by decide +kernel
theorem dX8_seat_51 : decode cX8_seat 51 = .ok (.iconst 2, 1) := by decide +kernel
theorem dX8_seat_52 : decode cX8_seat 52 = .ok (.if_icmp .ne 9, 3) := by decide +kernel
theorem dX8_seat_55 : decode cX8_seat 55 = .ok (.iconst 1, 1) := by decide +kernel
theorem dX8_seat_56 : decode cX8_seat 56 = .ok (.iload_n 3, 1) := by decide +kernel
theorem dX8_seat_57 : decode cX8_seat 57 = .ok (.ishl, 1) := by decide +kernel
theorem dX8_seat_58 : decode cX8_seat 58 = .ok (.goto 4, 3) := by decide +kernel
theorem dX8_seat_61 : decode cX8_seat 61 = .ok (.iconst 0, 1) := by decide +kernel
theorem dX8_seat_62 : decode cX8_seat 62 = .ok (.ior, 1) := by decide +kernel
theorem dX8_seat_63 : decode cX8_seat 63 = .ok (.putfield 235, 3) := by decide +kernel
theorem dX8_seat_66 : decode cX8_seat 66 = .ok (.iload_n 2, 1) := by decide +kernel
theorem dX8_seat_67 : decode cX8_seat 67 = .ok (.iconst 3, 1) := by decide +kernel
theorem dX8_seat_68 : decode cX8_seat 68 = .ok (.idiv, 1) := by decide +kernel
theorem dX8_seat_69 : decode cX8_seat 69 = .ok (.istore_n 2, 1) := by decide +kernel
theorem dX8_seat_70 : decode cX8_seat 70 = .ok (.iinc 3 1, 3) := by decide +kernel
theorem dX8_seat_73 : decode cX8_seat 73 = .ok (.goto (-59), 3) := by decide +kernel
theorem dX8_seat_76 : decode cX8_seat 76 = .ok (.aload_n 0, 1) := by decide +kernel
theorem dX8_seat_77 : decode cX8_seat 77 = .ok (.getfield 232, 3) := by decide +kernel
theorem dX8_seat_80 : decode cX8_seat 80 = .ok (.aload_n 0, 1) := by decide +kernel
theorem dX8_seat_81 : decode cX8_seat 81 = .ok (.getfield 235, 3) := by decide +kernel
theorem dX8_seat_84 : decode cX8_seat 84 = .ok (.ior, 1) := by decide +kernel
theorem dX8_seat_85 : decode cX8_seat 85 = .ok (.aload_n 0, 1) := by decide +kernel
theorem dX8_seat_86 : decode cX8_seat 86 = .ok (.getfield 81, 3) := by decide +kernel
theorem dX8_seat_89 : decode cX8_seat 89 = .ok (.iconst (-1), 1) := by decide +kernel
theorem dX8_seat_90 : decode cX8_seat 90 = .ok (.ixor, 1) := by decide +kernel
theorem dX8_seat_91 : decode cX8_seat 91 = .ok (.iand, 1) := by decide +kernel
theorem dX8_seat_92 : decode cX8_seat 92 = .ok (.ifCond .ne 29, 3) := by decide +kernel
theorem dX8_seat_95 : decode cX8_seat 95 = .ok (.aload_n 0, 1) := by decide +kernel
theorem dX8_seat_96 : decode cX8_seat 96 = .ok (.aload_n 0, 1) := by decide +kernel
theorem dX8_seat_97 : decode cX8_seat 97 = .ok (.getfield 232, 3) := by decide +kernel
theorem dX8_seat_100 : decode cX8_seat 100 = .ok (.invokevirtual 153, 3) := by decide +kernel
theorem dX8_seat_103 : decode cX8_seat 103 = .ok (.ifCond .eq 18, 3) := by decide +kernel
theorem dX8_seat_106 : decode cX8_seat 106 = .ok (.aload_n 0, 1) := by decide +kernel
theorem dX8_seat_107 : decode cX8_seat 107 = .ok (.aload_n 0, 1) := by decide +kernel
theorem dX8_seat_108 : decode cX8_seat 108 = .ok (.getfield 235, 3) := by decide +kernel
theorem dX8_seat_111 : decode cX8_seat 111 = .ok (.invokevirtual 153, 3) := by decide +kernel
theorem dX8_seat_114 : decode cX8_seat 114 = .ok (.ifCond .eq 7, 3) := by decide +kernel
theorem dX8_seat_117 : decode cX8_seat 117 = .ok (.iconst 1, 1) := by decide +kernel
theorem dX8_seat_118 : decode cX8_seat 118 = .ok (.goto 4, 3) := by decide +kernel
theorem dX8_seat_121 : decode cX8_seat 121 = .ok (.iconst 0, 1) := by decide +kernel
theorem dX8_seat_122 : decode cX8_seat 122 = .ok (.ireturn, 1) := by decide +kernel
theorem dX8_difference_0 : decode cX8_difference 0 = .ok (.iload_n 1, 1) := by decide +kernel
theorem dX8_difference_1 : decode cX8_difference 1 = .ok (.ifCond .eq 23, 3) := by decide +kernel
theorem dX8_difference_4 : decode cX8_difference 4 = .ok (.aload_n 0, 1) := by decide +kernel
theorem dX8_difference_5 : decode cX8_difference 5 = .ok (.aload_n 0, 1) := by decide +kernel
theorem dX8_difference_6 : decode cX8_difference 6 = .ok (.getfield 232, 3) := by decide +kernel
theorem dX8_difference_9 : decode cX8_difference 9 = .ok (.invokevirtual 156, 3) := by decide +kernel
theorem dX8_difference_12 : decode cX8_difference 12 = .ok (.aload_n 0, 1) := by decide +kernel
theorem dX8_difference_13 : decode cX8_difference 13 = .ok (.aload_n 0, 1) := by decide +kernel
theorem dX8_difference_14 : decode cX8_difference 14 = .ok (.getfield 235, 3) := by decide +kernel
theorem dX8_difference_17 : decode cX8_difference 17 = .ok (.invokevirtual 156, 3) := by decide +kernel
theorem dX8_difference_20 : decode cX8_difference 20 = .ok (.isub, 1) := by decide +kernel
theorem dX8_difference_21 : decode cX8_difference 21 = .ok (.goto 20, 3) := by decide +kernel
theorem dX8_difference_24 : decode cX8_difference 24 = .ok (.aload_n 0, 1) := by decide +kernel
theorem dX8_difference_25 : decode cX8_difference 25 = .ok (.aload_n 0, 1) := by decide +kernel
theorem dX8_difference_26 : decode cX8_difference 26 = .ok (.getfield 232, 3) := by decide +kernel
theorem dX8_difference_29 : decode cX8_difference 29 = .ok (.invokevirtual 165, 3) := by decide +kernel
theorem dX8_difference_32 : decode cX8_difference 32 = .ok (.aload_n 0, 1) := by decide +kernel
theorem dX8_difference_33 : decode cX8_difference 33 = .ok (.aload_n 0, 1) := by decide +kernel
theorem dX8_difference_34 : decode cX8_difference 34 = .ok (.getfield 235, 3) := by decide +kernel
theorem dX8_difference_37 : decode cX8_difference 37 = .ok (.invokevirtual 165, 3) := by decide +kernel
theorem dX8_difference_40 : decode cX8_difference 40 = .ok (.isub, 1) := by decide +kernel
theorem dX8_difference_41 : decode cX8_difference 41 = .ok (.ireturn, 1) := by decide +kernel
theorem dX8_make_0 : decode cX8_make 0 = .ok (.iload_n 1, 1) := by decide +kernel
theorem dX8_make_1 : decode cX8_make 1 = .ok (.i2l, 1) := by decide +kernel
theorem dX8_make_2 : decode cX8_make 2 = .ok (.lconst 1, 1) := by decide +kernel
theorem dX8_make_3 : decode cX8_make 3 = .ok (.ldc2_w 238, 3) := by decide +kernel
theorem dX8_make_6 : decode cX8_make 6 = .ok (.invokestatic 77, 3) := by decide +kernel
theorem dX8_make_9 : decode cX8_make 9 = .ok (.ifCond .eq 15, 3) := by decide +kernel
theorem dX8_make_12 : decode cX8_make 12 = .ok (.iload_n 3, 1) := by decide +kernel
theorem dX8_make_13 : decode cX8_make 13 = .ok (.i2l, 1) := by decide +kernel
theorem dX8_make_14 : decode cX8_make 14 = .ok (.lconst 0, 1) := by decide +kernel
theorem dX8_make_15 : decode cX8_make 15 = .ok (.ldc2_w 230, 3) := by decide +kernel
theorem dX8_make_18 : decode cX8_make 18 = .ok (.invokestatic 77, 3) := by decide +kernel
theorem dX8_make_21 : decode cX8_make 21 = .ok (.ifCond .ne 6, 3) := by decide +kernel
theorem dX8_make_24 : decode cX8_make 24 = .ok (.bipush (-2), 2) := by decide +kernel
theorem dX8_make_26 : decode cX8_make 26 = .ok (.ireturn, 1) := by decide +kernel
theorem dX8_make_27 : decode cX8_make 27 = .ok (.bipush (-6), 2) := by decide +kernel
theorem dX8_make_29 : decode cX8_make 29 = .ok (.istore 4, 2) := by decide +kernel
theorem dX8_make_31 : decode cX8_make 31 = .ok (.iconst 0, 1) := by decide +kernel
theorem dX8_make_32 : decode cX8_make 32 = .ok (.istore 5, 2) := by decide +kernel
theorem dX8_make_34 : decode cX8_make 34 = .ok (.iconst 0, 1) := by decide +kernel
theorem dX8_make_35 : decode cX8_make 35 = .ok (.istore 6, 2) := by decide +kernel
theorem dX8_make_37 : decode cX8_make 37 = .ok (.iconst 0, 1) := by decide +kernel
theorem dX8_make_38 : decode cX8_make 38 = .ok (.istore 7, 2) := by decide +kernel
theorem dX8_make_40 : decode cX8_make 40 = .ok (.iload 7, 2) := by decide +kernel
theorem dX8_make_42 : decode cX8_make 42 = .ok (.sipush 6561, 3) := by decide +kernel
theorem dX8_make_45 : decode cX8_make 45 = .ok (.if_icmp .ge 115, 3) := by decide +kernel
theorem dX8_make_48 : decode cX8_make 48 = .ok (.aload_n 0, 1) := by decide +kernel
theorem dX8_make_49 : decode cX8_make 49 = .ok (.iload 7, 2) := by decide +kernel
theorem dX8_make_51 : decode cX8_make 51 = .ok (.invokevirtual 240, 3) := by decide +kernel
theorem dX8_make_54 : decode cX8_make 54 = .ok (.ifCond .eq 100, 3) := by decide +kernel
theorem dX8_make_57 : decode cX8_make 57 = .ok (.aload_n 0, 1) := by decide +kernel
theorem dX8_make_58 : decode cX8_make 58 = .ok (.iload_n 2, 1) := by decide +kernel
theorem dX8_make_59 : decode cX8_make 59 = .ok (.invokevirtual 243, 3) := by decide +kernel
theorem dX8_make_62 : decode cX8_make 62 = .ok (.iload_n 1, 1) := by decide +kernel
theorem dX8_make_63 : decode cX8_make 63 = .ok (.if_icmp .ne 91, 3) := by decide +kernel
theorem dX8_make_66 : decode cX8_make 66 = .ok (.aload_n 0, 1) := by decide +kernel
theorem dX8_make_67 : decode cX8_make 67 = .ok (.getfield 232, 3) := by decide +kernel
theorem dX8_make_70 : decode cX8_make 70 = .ok (.aload_n 0, 1) := by decide +kernel
theorem dX8_make_71 : decode cX8_make 71 = .ok (.getfield 235, 3) := by decide +kernel
theorem dX8_make_74 : decode cX8_make 74 = .ok (.ior, 1) := by decide +kernel
theorem dX8_make_75 : decode cX8_make 75 = .ok (.invokestatic 99, 3) := by decide +kernel
theorem dX8_make_78 : decode cX8_make 78 = .ok (.istore 8, 2) := by decide +kernel
theorem dX8_make_80 : decode cX8_make 80 = .ok (.aload_n 0, 1) := by decide +kernel
theorem dX8_make_81 : decode cX8_make 81 = .ok (.getfield 232, 3) := by decide +kernel
theorem dX8_make_84 : decode cX8_make 84 = .ok (.iload 5, 2) := by decide +kernel
theorem dX8_make_86 : decode cX8_make 86 = .ok (.if_icmp .lt 21, 3) := by decide +kernel
theorem dX8_make_89 : decode cX8_make 89 = .ok (.aload_n 0, 1) := by decide +kernel
theorem dX8_make_90 : decode cX8_make 90 = .ok (.getfield 232, 3) := by decide +kernel
theorem dX8_make_93 : decode cX8_make 93 = .ok (.iload 5, 2) := by decide +kernel
theorem dX8_make_95 : decode cX8_make 95 = .ok (.if_icmp .ne 16, 3) := by decide +kernel
theorem dX8_make_98 : decode cX8_make 98 = .ok (.aload_n 0, 1) := by decide +kernel
theorem dX8_make_99 : decode cX8_make 99 = .ok (.getfield 235, 3) := by decide +kernel
theorem dX8_make_102 : decode cX8_make 102 = .ok (.iload 6, 2) := by decide +kernel
theorem dX8_make_104 : decode cX8_make 104 = .ok (.if_icmp .ge 7, 3) := by decide +kernel
theorem dX8_make_107 : decode cX8_make 107 = .ok (.iconst 1, 1) := by decide +kernel
theorem dX8_make_108 : decode cX8_make 108 = .ok (.goto 4, 3) := by decide +kernel
theorem dX8_make_111 : decode cX8_make 111 = .ok (.iconst 0, 1) := by decide +kernel
theorem dX8_make_112 : decode cX8_make 112 = .ok (.istore 9, 2) := by decide +kernel
theorem dX8_make_114 : decode cX8_make 114 = .ok (.iload 4, 2) := by decide +kernel
theorem dX8_make_116 : decode cX8_make 116 = .ok (.ifCond .lt 22, 3) := by decide +kernel
theorem dX8_make_119 : decode cX8_make 119 = .ok (.iload 8, 2) := by decide +kernel
theorem dX8_make_121 : decode cX8_make 121 = .ok (.iload 4, 2) := by decide +kernel
theorem dX8_make_123 : decode cX8_make 123 = .ok (.if_icmp .lt 15, 3) := by decide +kernel
theorem dX8_make_126 : decode cX8_make 126 = .ok (.iload 8, 2) := by decide +kernel
theorem dX8_make_128 : decode cX8_make 128 = .ok (.iload 4, 2) := by decide +kernel
theorem dX8_make_130 : decode cX8_make 130 = .ok (.if_icmp .ne 24, 3) := by decide +kernel
theorem dX8_make_133 : decode cX8_make 133 = .ok (.iload 9, 2) := by decide +kernel
theorem dX8_make_135 : decode cX8_make 135 = .ok (.ifCond .eq 19, 3) := by decide +kernel
theorem dX8_make_138 : decode cX8_make 138 = .ok (.iload 8, 2) := by decide +kernel
theorem dX8_make_140 : decode cX8_make 140 = .ok (.istore 4, 2) := by decide +kernel
theorem dX8_make_142 : decode cX8_make 142 = .ok (.aload_n 0, 1) := by decide +kernel
theorem dX8_make_143 : decode cX8_make 143 = .ok (.getfield 232, 3) := by decide +kernel
theorem dX8_make_146 : decode cX8_make 146 = .ok (.istore 5, 2) := by decide +kernel
theorem dX8_make_148 : decode cX8_make 148 = .ok (.aload_n 0, 1) := by decide +kernel
theorem dX8_make_149 : decode cX8_make 149 = .ok (.getfield 235, 3) := by decide +kernel
theorem dX8_make_152 : decode cX8_make 152 = .ok (.istore 6, 2) := by decide +kernel
theorem dX8_make_154 : decode cX8_make 154 = .ok (.iinc 7 1, 3) := by decide +kernel
theorem dX8_make_157 : decode cX8_make 157 = .ok (.goto (-117), 3) := by decide +kernel
theorem dX8_make_160 : decode cX8_make 160 = .ok (.iload 4, 2) := by decide +kernel
theorem dX8_make_162 : decode cX8_make 162 = .ok (.ifCond .lt 7, 3) := by decide +kernel
theorem dX8_make_165 : decode cX8_make 165 = .ok (.iload_n 3, 1) := by decide +kernel
theorem dX8_make_166 : decode cX8_make 166 = .ok (.ifCond .ne 8, 3) := by decide +kernel
theorem dX8_make_169 : decode cX8_make 169 = .ok (.iload 4, 2) := by decide +kernel
theorem dX8_make_171 : decode cX8_make 171 = .ok (.goto 15, 3) := by decide +kernel
theorem dX8_make_174 : decode cX8_make 174 = .ok (.iload_n 3, 1) := by decide +kernel
theorem dX8_make_175 : decode cX8_make 175 = .ok (.iconst 1, 1) := by decide +kernel
theorem dX8_make_176 : decode cX8_make 176 = .ok (.if_icmp .ne 8, 3) := by decide +kernel
theorem dX8_make_179 : decode cX8_make 179 = .ok (.iload 5, 2) := by decide +kernel
theorem dX8_make_181 : decode cX8_make 181 = .ok (.goto 5, 3) := by decide +kernel
theorem dX8_make_184 : decode cX8_make 184 = .ok (.iload 6, 2) := by decide +kernel
theorem dX8_make_186 : decode cX8_make 186 = .ok (.ireturn, 1) := by decide +kernel
theorem dX8_near_0 : decode cX8_near 0 = .ok (.iload_n 1, 1) := by decide +kernel
theorem dX8_near_1 : decode cX8_near 1 = .ok (.i2l, 1) := by decide +kernel
theorem dX8_near_2 : decode cX8_near 2 = .ok (.lconst 1, 1) := by decide +kernel
theorem dX8_near_3 : decode cX8_near 3 = .ok (.ldc2_w 238, 3) := by decide +kernel
theorem dX8_near_6 : decode cX8_near 6 = .ok (.invokestatic 77, 3) := by decide +kernel
theorem dX8_near_9 : decode cX8_near 9 = .ok (.ifCond .ne 6, 3) := by decide +kernel
theorem dX8_near_12 : decode cX8_near 12 = .ok (.bipush (-2), 2) := by decide +kernel
theorem dX8_near_14 : decode cX8_near 14 = .ok (.ireturn, 1) := by decide +kernel
theorem dX8_near_15 : decode cX8_near 15 = .ok (.iload_n 1, 1) := by decide +kernel
theorem dX8_near_16 : decode cX8_near 16 = .ok (.istore_n 3, 1) := by decide +kernel
theorem dX8_near_17 : decode cX8_near 17 = .ok (.iconst 0, 1) := by decide +kernel
theorem dX8_near_18 : decode cX8_near 18 = .ok (.istore 4, 2) := by decide +kernel
theorem dX8_near_20 : decode cX8_near 20 = .ok (.iload 4, 2) := by decide +kernel
theorem dX8_near_22 : decode cX8_near 22 = .ok (.sipush 6561, 3) := by decide +kernel
theorem dX8_near_25 : decode cX8_near 25 = .ok (.if_icmp .ge 43, 3) := by decide +kernel
theorem dX8_near_28 : decode cX8_near 28 = .ok (.aload_n 0, 1) := by decide +kernel
theorem dX8_near_29 : decode cX8_near 29 = .ok (.iload 4, 2) := by decide +kernel
theorem dX8_near_31 : decode cX8_near 31 = .ok (.invokevirtual 240, 3) := by decide +kernel
theorem dX8_near_34 : decode cX8_near 34 = .ok (.ifCond .eq 28, 3) := by decide +kernel
theorem dX8_near_37 : decode cX8_near 37 = .ok (.aload_n 0, 1) := by decide +kernel
theorem dX8_near_38 : decode cX8_near 38 = .ok (.iload_n 2, 1) := by decide +kernel
theorem dX8_near_39 : decode cX8_near 39 = .ok (.invokevirtual 243, 3) := by decide +kernel
theorem dX8_near_42 : decode cX8_near 42 = .ok (.iload_n 1, 1) := by decide +kernel
theorem dX8_near_43 : decode cX8_near 43 = .ok (.isub, 1) := by decide +kernel
theorem dX8_near_44 : decode cX8_near 44 = .ok (.invokestatic 180, 3) := by decide +kernel
theorem dX8_near_47 : decode cX8_near 47 = .ok (.istore 5, 2) := by decide +kernel
theorem dX8_near_49 : decode cX8_near 49 = .ok (.iload 5, 2) := by decide +kernel
theorem dX8_near_51 : decode cX8_near 51 = .ok (.iload_n 3, 1) := by decide +kernel
theorem dX8_near_52 : decode cX8_near 52 = .ok (.if_icmp .ge 8, 3) := by decide +kernel
theorem dX8_near_55 : decode cX8_near 55 = .ok (.iload 5, 2) := by decide +kernel
theorem dX8_near_57 : decode cX8_near 57 = .ok (.goto 4, 3) := by decide +kernel
theorem dX8_near_60 : decode cX8_near 60 = .ok (.iload_n 3, 1) := by decide +kernel
theorem dX8_near_61 : decode cX8_near 61 = .ok (.istore_n 3, 1) := by decide +kernel
theorem dX8_near_62 : decode cX8_near 62 = .ok (.iinc 4 1, 3) := by decide +kernel
theorem dX8_near_65 : decode cX8_near 65 = .ok (.goto (-45), 3) := by decide +kernel
theorem dX8_near_68 : decode cX8_near 68 = .ok (.iload_n 3, 1) := by decide +kernel
theorem dX8_near_69 : decode cX8_near 69 = .ok (.ireturn, 1) := by decide +kernel
theorem dX8_gap_0 : decode cX8_gap 0 = .ok (.iconst 0, 1) := by decide +kernel
theorem dX8_gap_1 : decode cX8_gap 1 = .ok (.istore_n 2, 1) := by decide +kernel
theorem dX8_gap_2 : decode cX8_gap 2 = .ok (.iload_n 2, 1) := by decide +kernel
theorem dX8_gap_3 : decode cX8_gap 3 = .ok (.sipush 3201, 3) := by decide +kernel
theorem dX8_gap_6 : decode cX8_gap 6 = .ok (.if_icmp .ge 16, 3) := by decide +kernel
theorem dX8_gap_9 : decode cX8_gap 9 = .ok (.aload_n 0, 1) := by decide +kernel
theorem dX8_gap_10 : decode cX8_gap 10 = .ok (.getfield 55, 3) := by decide +kernel
theorem dX8_gap_13 : decode cX8_gap 13 = .ok (.iload_n 2, 1) := by decide +kernel
theorem dX8_gap_14 : decode cX8_gap 14 = .ok (.iconst 0, 1) := by decide +kernel
theorem dX8_gap_15 : decode cX8_gap 15 = .ok (.bastore, 1) := by decide +kernel
theorem dX8_gap_16 : decode cX8_gap 16 = .ok (.iinc 2 1, 3) := by decide +kernel
theorem dX8_gap_19 : decode cX8_gap 19 = .ok (.goto (-17), 3) := by decide +kernel
theorem dX8_gap_22 : decode cX8_gap 22 = .ok (.iconst 0, 1) := by decide +kernel
theorem dX8_gap_23 : decode cX8_gap 23 = .ok (.istore_n 2, 1) := by decide +kernel
theorem dX8_gap_24 : decode cX8_gap 24 = .ok (.iload_n 2, 1) := by decide +kernel
theorem dX8_gap_25 : decode cX8_gap 25 = .ok (.sipush 6561, 3) := by decide +kernel
theorem dX8_gap_28 : decode cX8_gap 28 = .ok (.if_icmp .ge 36, 3) := by decide +kernel
theorem dX8_gap_31 : decode cX8_gap 31 = .ok (.aload_n 0, 1) := by decide +kernel
theorem dX8_gap_32 : decode cX8_gap 32 = .ok (.iload_n 2, 1) := by decide +kernel
theorem dX8_gap_33 : decode cX8_gap 33 = .ok (.invokevirtual 240, 3) := by decide +kernel
theorem dX8_gap_36 : decode cX8_gap 36 = .ok (.ifCond .eq 22, 3) := by decide +kernel
theorem dX8_gap_39 : decode cX8_gap 39 = .ok (.aload_n 0, 1) := by decide +kernel
theorem dX8_gap_40 : decode cX8_gap 40 = .ok (.iload_n 1, 1) := by decide +kernel
theorem dX8_gap_41 : decode cX8_gap 41 = .ok (.invokevirtual 243, 3) := by decide +kernel
theorem dX8_gap_44 : decode cX8_gap 44 = .ok (.ifCond .le 14, 3) := by decide +kernel
theorem dX8_gap_47 : decode cX8_gap 47 = .ok (.aload_n 0, 1) := by decide +kernel
theorem dX8_gap_48 : decode cX8_gap 48 = .ok (.getfield 55, 3) := by decide +kernel
theorem dX8_gap_51 : decode cX8_gap 51 = .ok (.aload_n 0, 1) := by decide +kernel
theorem dX8_gap_52 : decode cX8_gap 52 = .ok (.iload_n 1, 1) := by decide +kernel
theorem dX8_gap_53 : decode cX8_gap 53 = .ok (.invokevirtual 243, 3) := by decide +kernel
theorem dX8_gap_56 : decode cX8_gap 56 = .ok (.iconst 1, 1) := by decide +kernel
theorem dX8_gap_57 : decode cX8_gap 57 = .ok (.bastore, 1) := by decide +kernel
theorem dX8_gap_58 : decode cX8_gap 58 = .ok (.iinc 2 1, 3) := by decide +kernel
theorem dX8_gap_61 : decode cX8_gap 61 = .ok (.goto (-37), 3) := by decide +kernel
theorem dX8_gap_64 : decode cX8_gap 64 = .ok (.iconst 1, 1) := by decide +kernel
theorem dX8_gap_65 : decode cX8_gap 65 = .ok (.istore_n 2, 1) := by decide +kernel
theorem dX8_gap_66 : decode cX8_gap 66 = .ok (.iload_n 2, 1) := by decide +kernel
theorem dX8_gap_67 : decode cX8_gap 67 = .ok (.sipush 3201, 3) := by decide +kernel
theorem dX8_gap_70 : decode cX8_gap 70 = .ok (.if_icmp .ge 18, 3) := by decide +kernel
theorem dX8_gap_73 : decode cX8_gap 73 = .ok (.aload_n 0, 1) := by decide +kernel
theorem dX8_gap_74 : decode cX8_gap 74 = .ok (.getfield 55, 3) := by decide +kernel
theorem dX8_gap_77 : decode cX8_gap 77 = .ok (.iload_n 2, 1) := by decide +kernel
theorem dX8_gap_78 : decode cX8_gap 78 = .ok (.baload, 1) := by decide +kernel
theorem dX8_gap_79 : decode cX8_gap 79 = .ok (.ifCond .eq 9, 3) := by decide +kernel
theorem dX8_gap_82 : decode cX8_gap 82 = .ok (.iinc 2 1, 3) := by decide +kernel
theorem dX8_gap_85 : decode cX8_gap 85 = .ok (.goto (-19), 3) := by decide +kernel
theorem dX8_gap_88 : decode cX8_gap 88 = .ok (.iload_n 2, 1) := by decide +kernel
theorem dX8_gap_89 : decode cX8_gap 89 = .ok (.ireturn, 1) := by decide +kernel
theorem dX8_assize_0 : decode cX8_assize 0 = .ok (.iconst 0, 1) := by decide +kernel
theorem dX8_assize_1 : decode cX8_assize 1 = .ok (.istore_n 2, 1) := by decide +kernel
theorem dX8_assize_2 : decode cX8_assize 2 = .ok (.sipush 400, 3) := by decide +kernel
theorem dX8_assize_5 : decode cX8_assize 5 = .ok (.istore_n 3, 1) := by decide +kernel
theorem dX8_assize_6 : decode cX8_assize 6 = .ok (.iload_n 3, 1) := by decide +kernel
theorem dX8_assize_7 : decode cX8_assize 7 = .ok (.ifCond .le 55, 3) := by decide +kernel
theorem dX8_assize_10 : decode cX8_assize 10 = .ok (.iconst 0, 1) := by decide +kernel
theorem dX8_assize_11 : decode cX8_assize 11 = .ok (.istore 4, 2) := by decide +kernel
theorem dX8_assize_13 : decode cX8_assize 13 = .ok (.iload 4, 2) := by decide +kernel
theorem dX8_assize_15 : decode cX8_assize 15 = .ok (.bipush 8, 2) := by decide +kernel
theorem dX8_assize_17 : decode cX8_assize 17 = .ok (.if_icmp .ge 39, 3) := by decide +kernel
theorem dX8_assize_20 : decode cX8_assize 20 = .ok (.aload_n 0, 1) := by decide +kernel
theorem dX8_assize_21 : decode cX8_assize 21 = .ok (.iload 4, 2) := by decide +kernel
theorem dX8_assize_23 : decode cX8_assize 23 = .ok (.invokevirtual 84, 3) := by decide +kernel
theorem dX8_assize_26 : decode cX8_assize 26 = .ok (.ifCond .eq 24, 3) := by decide +kernel
theorem dX8_assize_29 : decode cX8_assize 29 = .ok (.aload_n 0, 1) := by decide +kernel
theorem dX8_assize_30 : decode cX8_assize 30 = .ok (.iload 4, 2) := by decide +kernel
theorem dX8_assize_32 : decode cX8_assize 32 = .ok (.invokevirtual 150, 3) := by decide +kernel
theorem dX8_assize_35 : decode cX8_assize 35 = .ok (.iload_n 3, 1) := by decide +kernel
theorem dX8_assize_36 : decode cX8_assize 36 = .ok (.if_icmp .ne 14, 3) := by decide +kernel
theorem dX8_assize_39 : decode cX8_assize 39 = .ok (.iload_n 2, 1) := by decide +kernel
theorem dX8_assize_40 : decode cX8_assize 40 = .ok (.iload_n 1, 1) := by decide +kernel
theorem dX8_assize_41 : decode cX8_assize 41 = .ok (.if_icmp .ne 6, 3) := by decide +kernel
theorem dX8_assize_44 : decode cX8_assize 44 = .ok (.iload 4, 2) := by decide +kernel
theorem dX8_assize_46 : decode cX8_assize 46 = .ok (.ireturn, 1) := by decide +kernel
theorem dX8_assize_47 : decode cX8_assize 47 = .ok (.iinc 2 1, 3) := by decide +kernel
theorem dX8_assize_50 : decode cX8_assize 50 = .ok (.iinc 4 1, 3) := by decide +kernel
theorem dX8_assize_53 : decode cX8_assize 53 = .ok (.goto (-40), 3) := by decide +kernel
theorem dX8_assize_56 : decode cX8_assize 56 = .ok (.iinc 3 (-1), 3) := by decide +kernel
theorem dX8_assize_59 : decode cX8_assize 59 = .ok (.goto (-53), 3) := by decide +kernel
theorem dX8_assize_62 : decode cX8_assize 62 = .ok (.iload_n 1, 1) := by decide +kernel
theorem dX8_assize_63 : decode cX8_assize 63 = .ok (.iconst (-1), 1) := by decide +kernel
theorem dX8_assize_64 : decode cX8_assize 64 = .ok (.if_icmp .ne 7, 3) := by decide +kernel
theorem dX8_assize_67 : decode cX8_assize 67 = .ok (.iload_n 2, 1) := by decide +kernel
theorem dX8_assize_68 : decode cX8_assize 68 = .ok (.goto 5, 3) := by decide +kernel
theorem dX8_assize_71 : decode cX8_assize 71 = .ok (.bipush (-6), 2) := by decide +kernel
theorem dX8_assize_73 : decode cX8_assize 73 = .ok (.ireturn, 1) := by decide +kernel
theorem dX8_just_0 : decode cX8_just 0 = .ok (.iconst 0, 1) := by decide +kernel
theorem dX8_just_1 : decode cX8_just 1 = .ok (.istore_n 1, 1) := by decide +kernel
theorem dX8_just_2 : decode cX8_just 2 = .ok (.iconst 0, 1) := by decide +kernel
theorem dX8_just_3 : decode cX8_just 3 = .ok (.istore_n 2, 1) := by decide +kernel
theorem dX8_just_4 : decode cX8_just 4 = .ok (.iload_n 2, 1) := by decide +kernel
theorem dX8_just_5 : decode cX8_just 5 = .ok (.bipush 8, 2) := by decide +kernel
theorem dX8_just_7 : decode cX8_just 7 = .ok (.if_icmp .ge 77, 3) := by decide +kernel
theorem dX8_just_10 : decode cX8_just 10 = .ok (.iconst 0, 1) := by decide +kernel
theorem dX8_just_11 : decode cX8_just 11 = .ok (.istore_n 3, 1) := by decide +kernel
theorem dX8_just_12 : decode cX8_just 12 = .ok (.iconst 0, 1) := by decide +kernel
theorem dX8_just_13 : decode cX8_just 13 = .ok (.istore 4, 2) := by decide +kernel
theorem dX8_just_15 : decode cX8_just 15 = .ok (.iload 4, 2) := by decide +kernel
theorem dX8_just_17 : decode cX8_just 17 = .ok (.bipush 8, 2) := by decide +kernel
theorem dX8_just_19 : decode cX8_just 19 = .ok (.if_icmp .ge 48, 3) := by decide +kernel
theorem dX8_just_22 : decode cX8_just 22 = .ok (.iload_n 3, 1) := by decide +kernel
theorem dX8_just_23 : decode cX8_just 23 = .ok (.aload_n 0, 1) := by decide +kernel
theorem dX8_just_24 : decode cX8_just 24 = .ok (.iload_n 2, 1) := by decide +kernel
theorem dX8_just_25 : decode cX8_just 25 = .ok (.invokevirtual 84, 3) := by decide +kernel
theorem dX8_just_28 : decode cX8_just 28 = .ok (.ifCond .eq 30, 3) := by decide +kernel
theorem dX8_just_31 : decode cX8_just 31 = .ok (.aload_n 0, 1) := by decide +kernel
theorem dX8_just_32 : decode cX8_just 32 = .ok (.iload 4, 2) := by decide +kernel
theorem dX8_just_34 : decode cX8_just 34 = .ok (.invokevirtual 84, 3) := by decide +kernel
theorem dX8_just_37 : decode cX8_just 37 = .ok (.ifCond .eq 21, 3) := by decide +kernel
theorem dX8_just_40 : decode cX8_just 40 = .ok (.aload_n 0, 1) := by decide +kernel
theorem dX8_just_41 : decode cX8_just 41 = .ok (.iload_n 2, 1) := by decide +kernel
theorem dX8_just_42 : decode cX8_just 42 = .ok (.invokevirtual 150, 3) := by decide +kernel
theorem dX8_just_45 : decode cX8_just 45 = .ok (.aload_n 0, 1) := by decide +kernel
theorem dX8_just_46 : decode cX8_just 46 = .ok (.iload 4, 2) := by decide +kernel
theorem dX8_just_48 : decode cX8_just 48 = .ok (.invokevirtual 150, 3) := by decide +kernel
theorem dX8_just_51 : decode cX8_just 51 = .ok (.if_icmp .ne 7, 3) := by decide +kernel
theorem dX8_just_54 : decode cX8_just 54 = .ok (.iconst 1, 1) := by decide +kernel
theorem dX8_just_55 : decode cX8_just 55 = .ok (.goto 4, 3) := by decide +kernel
theorem dX8_just_58 : decode cX8_just 58 = .ok (.iconst 0, 1) := by decide +kernel
theorem dX8_just_59 : decode cX8_just 59 = .ok (.iadd, 1) := by decide +kernel
theorem dX8_just_60 : decode cX8_just 60 = .ok (.istore_n 3, 1) := by decide +kernel
theorem dX8_just_61 : decode cX8_just 61 = .ok (.iinc 4 1, 3) := by decide +kernel
theorem dX8_just_64 : decode cX8_just 64 = .ok (.goto (-49), 3) := by decide +kernel
theorem dX8_just_67 : decode cX8_just 67 = .ok (.iload_n 3, 1) := by decide +kernel
theorem dX8_just_68 : decode cX8_just 68 = .ok (.iload_n 1, 1) := by decide +kernel
theorem dX8_just_69 : decode cX8_just 69 = .ok (.if_icmp .le 7, 3) := by decide +kernel
theorem dX8_just_72 : decode cX8_just 72 = .ok (.iload_n 3, 1) := by decide +kernel
theorem dX8_just_73 : decode cX8_just 73 = .ok (.goto 4, 3) := by decide +kernel
theorem dX8_just_76 : decode cX8_just 76 = .ok (.iload_n 1, 1) := by decide +kernel
theorem dX8_just_77 : decode cX8_just 77 = .ok (.istore_n 1, 1) := by decide +kernel
theorem dX8_just_78 : decode cX8_just 78 = .ok (.iinc 2 1, 3) := by decide +kernel
theorem dX8_just_81 : decode cX8_just 81 = .ok (.goto (-77), 3) := by decide +kernel
theorem dX8_just_84 : decode cX8_just 84 = .ok (.iload_n 1, 1) := by decide +kernel
theorem dX8_just_85 : decode cX8_just 85 = .ok (.ireturn, 1) := by decide +kernel
theorem dX8_price_0 : decode cX8_price 0 = .ok (.iload_n 2, 1) := by decide +kernel
theorem dX8_price_1 : decode cX8_price 1 = .ok (.i2l, 1) := by decide +kernel
theorem dX8_price_2 : decode cX8_price 2 = .ok (.lconst 0, 1) := by decide +kernel
theorem dX8_price_3 : decode cX8_price 3 = .ok (.ldc2_w 247, 3) := by decide +kernel
theorem dX8_price_6 : decode cX8_price 6 = .ok (.invokestatic 77, 3) := by decide +kernel
theorem dX8_price_9 : decode cX8_price 9 = .ok (.ifCond .eq 14, 3) := by decide +kernel
theorem dX8_price_12 : decode cX8_price 12 = .ok (.iload_n 2, 1) := by decide +kernel
theorem dX8_price_13 : decode cX8_price 13 = .ok (.aload_n 0, 1) := by decide +kernel
theorem dX8_price_14 : decode cX8_price 14 = .ok (.getfield 81, 3) := by decide +kernel
theorem dX8_price_17 : decode cX8_price 17 = .ok (.iconst (-1), 1) := by decide +kernel
theorem dX8_price_18 : decode cX8_price 18 = .ok (.ixor, 1) := by decide +kernel
theorem dX8_price_19 : decode cX8_price 19 = .ok (.iand, 1) := by decide +kernel
theorem dX8_price_20 : decode cX8_price 20 = .ok (.ifCond .eq 5, 3) := by decide +kernel
theorem dX8_price_23 : decode cX8_price 23 = .ok (.iconst (-1), 1) := by decide +kernel
theorem dX8_price_24 : decode cX8_price 24 = .ok (.ireturn, 1) := by decide +kernel
theorem dX8_price_25 : decode cX8_price 25 = .ok (.iload_n 1, 1) := by decide +kernel
theorem dX8_price_26 : decode cX8_price 26 = .ok (.i2l, 1) := by decide +kernel
theorem dX8_price_27 : decode cX8_price 27 = .ok (.lconst 1, 1) := by decide +kernel
theorem dX8_price_28 : decode cX8_price 28 = .ok (.ldc2_w 238, 3) := by decide +kernel
theorem dX8_price_31 : decode cX8_price 31 = .ok (.invokestatic 77, 3) := by decide +kernel
theorem dX8_price_34 : decode cX8_price 34 = .ok (.ifCond .eq 13, 3) := by decide +kernel
theorem dX8_price_37 : decode cX8_price 37 = .ok (.iload_n 3, 1) := by decide +kernel
theorem dX8_price_38 : decode cX8_price 38 = .ok (.i2l, 1) := by decide +kernel
theorem dX8_price_39 : decode cX8_price 39 = .ok (.lconst 0, 1) := by decide +kernel
theorem dX8_price_40 : decode cX8_price 40 = .ok (.lconst 1, 1) := by decide +kernel
theorem dX8_price_41 : decode cX8_price 41 = .ok (.invokestatic 77, 3) := by decide +kernel
theorem dX8_price_44 : decode cX8_price 44 = .ok (.ifCond .ne 6, 3) := by decide +kernel
theorem dX8_price_47 : decode cX8_price 47 = .ok (.bipush (-2), 2) := by decide +kernel
theorem dX8_price_49 : decode cX8_price 49 = .ok (.ireturn, 1) := by decide +kernel
theorem dX8_price_50 : decode cX8_price 50 = .ok (.aload_n 0, 1) := by decide +kernel
theorem dX8_price_51 : decode cX8_price 51 = .ok (.iload_n 2, 1) := by decide +kernel
theorem dX8_price_52 : decode cX8_price 52 = .ok (.invokevirtual 153, 3) := by decide +kernel
theorem dX8_price_55 : decode cX8_price 55 = .ok (.ifCond .ne 6, 3) := by decide +kernel
theorem dX8_price_58 : decode cX8_price 58 = .ok (.bipush (-3), 2) := by decide +kernel
theorem dX8_price_60 : decode cX8_price 60 = .ok (.ireturn, 1) := by decide +kernel
theorem dX8_price_61 : decode cX8_price 61 = .ok (.iconst 0, 1) := by decide +kernel
theorem dX8_price_62 : decode cX8_price 62 = .ok (.istore 4, 2) := by decide +kernel
theorem dX8_price_64 : decode cX8_price 64 = .ok (.bipush (-6), 2) := by decide +kernel
theorem dX8_price_66 : decode cX8_price 66 = .ok (.istore 5, 2) := by decide +kernel
theorem dX8_price_68 : decode cX8_price 68 = .ok (.iconst 0, 1) := by decide +kernel
theorem dX8_price_69 : decode cX8_price 69 = .ok (.istore 6, 2) := by decide +kernel
theorem dX8_price_71 : decode cX8_price 71 = .ok (.iload 6, 2) := by decide +kernel
theorem dX8_price_73 : decode cX8_price 73 = .ok (.sipush 256, 3) := by decide +kernel
theorem dX8_price_76 : decode cX8_price 76 = .ok (.if_icmp .ge 89, 3) := by decide +kernel
theorem dX8_price_79 : decode cX8_price 79 = .ok (.iload 6, 2) := by decide +kernel
theorem dX8_price_81 : decode cX8_price 81 = .ok (.iload_n 2, 1) := by decide +kernel
theorem dX8_price_82 : decode cX8_price 82 = .ok (.aload_n 0, 1) := by decide +kernel
theorem dX8_price_83 : decode cX8_price 83 = .ok (.getfield 81, 3) := by decide +kernel
theorem dX8_price_86 : decode cX8_price 86 = .ok (.iconst (-1), 1) := by decide +kernel
theorem dX8_price_87 : decode cX8_price 87 = .ok (.ixor, 1) := by decide +kernel
theorem dX8_price_88 : decode cX8_price 88 = .ok (.ior, 1) := by decide +kernel
theorem dX8_price_89 : decode cX8_price 89 = .ok (.iand, 1) := by decide +kernel
theorem dX8_price_90 : decode cX8_price 90 = .ok (.ifCond .ne 16, 3) := by decide +kernel
theorem dX8_price_93 : decode cX8_price 93 = .ok (.aload_n 0, 1) := by decide +kernel
theorem dX8_price_94 : decode cX8_price 94 = .ok (.iload 6, 2) := by decide +kernel
theorem dX8_price_96 : decode cX8_price 96 = .ok (.invokevirtual 153, 3) := by decide +kernel
theorem dX8_price_99 : decode cX8_price 99 = .ok (.ifCond .eq 7, 3) := by decide +kernel
theorem dX8_price_102 : decode cX8_price 102 = .ok (.iconst 1, 1) := by decide +kernel
theorem dX8_price_103 : decode cX8_price 103 = .ok (.goto 4, 3) := by decide +kernel
theorem dX8_price_106 : decode cX8_price 106 = .ok (.iconst 0, 1) := by decide +kernel
theorem dX8_price_107 : decode cX8_price 107 = .ok (.istore 7, 2) := by decide +kernel
theorem dX8_price_109 : decode cX8_price 109 = .ok (.aload_n 0, 1) := by decide +kernel
theorem dX8_price_110 : decode cX8_price 110 = .ok (.iload 6, 2) := by decide +kernel
theorem dX8_price_112 : decode cX8_price 112 = .ok (.invokevirtual 156, 3) := by decide +kernel
theorem dX8_price_115 : decode cX8_price 115 = .ok (.aload_n 0, 1) := by decide +kernel
theorem dX8_price_116 : decode cX8_price 116 = .ok (.iload_n 2, 1) := by decide +kernel
theorem dX8_price_117 : decode cX8_price 117 = .ok (.invokevirtual 156, 3) := by decide +kernel
theorem dX8_price_120 : decode cX8_price 120 = .ok (.isub, 1) := by decide +kernel
theorem dX8_price_121 : decode cX8_price 121 = .ok (.istore 8, 2) := by decide +kernel
theorem dX8_price_123 : decode cX8_price 123 = .ok (.iload 7, 2) := by decide +kernel
theorem dX8_price_125 : decode cX8_price 125 = .ok (.ifCond .eq 34, 3) := by decide +kernel
theorem dX8_price_128 : decode cX8_price 128 = .ok (.aload_n 0, 1) := by decide +kernel
theorem dX8_price_129 : decode cX8_price 129 = .ok (.iload 6, 2) := by decide +kernel
theorem dX8_price_131 : decode cX8_price 131 = .ok (.invokevirtual 165, 3) := by decide +kernel
theorem dX8_price_134 : decode cX8_price 134 = .ok (.iload_n 1, 1) := by decide +kernel
theorem dX8_price_135 : decode cX8_price 135 = .ok (.aload_n 0, 1) := by decide +kernel
theorem dX8_price_136 : decode cX8_price 136 = .ok (.iload_n 2, 1) := by decide +kernel
theorem dX8_price_137 : decode cX8_price 137 = .ok (.invokevirtual 165, 3) := by decide +kernel
theorem dX8_price_140 : decode cX8_price 140 = .ok (.iadd, 1) := by decide +kernel
theorem dX8_price_141 : decode cX8_price 141 = .ok (.if_icmp .gt 18, 3) := by decide +kernel
theorem dX8_price_144 : decode cX8_price 144 = .ok (.iload 8, 2) := by decide +kernel
theorem dX8_price_146 : decode cX8_price 146 = .ok (.iload 4, 2) := by decide +kernel
theorem dX8_price_148 : decode cX8_price 148 = .ok (.if_icmp .le 11, 3) := by decide +kernel
theorem dX8_price_151 : decode cX8_price 151 = .ok (.iload 8, 2) := by decide +kernel
theorem dX8_price_153 : decode cX8_price 153 = .ok (.istore 4, 2) := by decide +kernel
theorem dX8_price_155 : decode cX8_price 155 = .ok (.iload 6, 2) := by decide +kernel
theorem dX8_price_157 : decode cX8_price 157 = .ok (.istore 5, 2) := by decide +kernel
theorem dX8_price_159 : decode cX8_price 159 = .ok (.iinc 6 1, 3) := by decide +kernel
theorem dX8_price_162 : decode cX8_price 162 = .ok (.goto (-91), 3) := by decide +kernel
theorem dX8_price_165 : decode cX8_price 165 = .ok (.iload 5, 2) := by decide +kernel
theorem dX8_price_167 : decode cX8_price 167 = .ok (.ifCond .lt 8, 3) := by decide +kernel
theorem dX8_price_170 : decode cX8_price 170 = .ok (.iload_n 3, 1) := by decide +kernel
theorem dX8_price_171 : decode cX8_price 171 = .ok (.iconst 1, 1) := by decide +kernel
theorem dX8_price_172 : decode cX8_price 172 = .ok (.if_icmp .ne 8, 3) := by decide +kernel
theorem dX8_price_175 : decode cX8_price 175 = .ok (.iload 5, 2) := by decide +kernel
theorem dX8_price_177 : decode cX8_price 177 = .ok (.goto 5, 3) := by decide +kernel
theorem dX8_price_180 : decode cX8_price 180 = .ok (.iload 4, 2) := by decide +kernel
theorem dX8_price_182 : decode cX8_price 182 = .ok (.ireturn, 1) := by decide +kernel
theorem dX8_areSides_0 : decode cX8_areSides 0 = .ok (.iload_n 1, 1) := by decide +kernel
theorem dX8_areSides_1 : decode cX8_areSides 1 = .ok (.i2l, 1) := by decide +kernel
theorem dX8_areSides_2 : decode cX8_areSides 2 = .ok (.lconst 1, 1) := by decide +kernel
theorem dX8_areSides_3 : decode cX8_areSides 3 = .ok (.ldc2_w 247, 3) := by decide +kernel
theorem dX8_areSides_6 : decode cX8_areSides 6 = .ok (.invokestatic 77, 3) := by decide +kernel
theorem dX8_areSides_9 : decode cX8_areSides 9 = .ok (.ifCond .eq 38, 3) := by decide +kernel
theorem dX8_areSides_12 : decode cX8_areSides 12 = .ok (.iload_n 2, 1) := by decide +kernel
theorem dX8_areSides_13 : decode cX8_areSides 13 = .ok (.i2l, 1) := by decide +kernel
theorem dX8_areSides_14 : decode cX8_areSides 14 = .ok (.lconst 1, 1) := by decide +kernel
theorem dX8_areSides_15 : decode cX8_areSides 15 = .ok (.ldc2_w 247, 3) := by decide +kernel
theorem dX8_areSides_18 : decode cX8_areSides 18 = .ok (.invokestatic 77, 3) := by decide +kernel
theorem dX8_areSides_21 : decode cX8_areSides 21 = .ok (.ifCond .eq 26, 3) := by decide +kernel
theorem dX8_areSides_24 : decode cX8_areSides 24 = .ok (.iload_n 1, 1) := by decide +kernel
theorem dX8_areSides_25 : decode cX8_areSides 25 = .ok (.iload_n 2, 1) := by decide +kernel
theorem dX8_areSides_26 : decode cX8_areSides 26 = .ok (.ior, 1) := by decide +kernel
theorem dX8_areSides_27 : decode cX8_areSides 27 = .ok (.aload_n 0, 1) := by decide +kernel
theorem dX8_areSides_28 : decode cX8_areSides 28 = .ok (.getfield 81, 3) := by decide +kernel
theorem dX8_areSides_31 : decode cX8_areSides 31 = .ok (.iconst (-1), 1) := by decide +kernel
theorem dX8_areSides_32 : decode cX8_areSides 32 = .ok (.ixor, 1) := by decide +kernel
theorem dX8_areSides_33 : decode cX8_areSides 33 = .ok (.iand, 1) := by decide +kernel
theorem dX8_areSides_34 : decode cX8_areSides 34 = .ok (.ifCond .ne 13, 3) := by decide +kernel
theorem dX8_areSides_37 : decode cX8_areSides 37 = .ok (.iload_n 1, 1) := by decide +kernel
theorem dX8_areSides_38 : decode cX8_areSides 38 = .ok (.iload_n 2, 1) := by decide +kernel
theorem dX8_areSides_39 : decode cX8_areSides 39 = .ok (.iand, 1) := by decide +kernel
theorem dX8_areSides_40 : decode cX8_areSides 40 = .ok (.ifCond .ne 7, 3) := by decide +kernel
theorem dX8_areSides_43 : decode cX8_areSides 43 = .ok (.iconst 1, 1) := by decide +kernel
theorem dX8_areSides_44 : decode cX8_areSides 44 = .ok (.goto 4, 3) := by decide +kernel
theorem dX8_areSides_47 : decode cX8_areSides 47 = .ok (.iconst 0, 1) := by decide +kernel
theorem dX8_areSides_48 : decode cX8_areSides 48 = .ok (.ireturn, 1) := by decide +kernel
theorem dX8_seen_0 : decode cX8_seen 0 = .ok (.aload_n 0, 1) := by decide +kernel
theorem dX8_seen_1 : decode cX8_seen 1 = .ok (.iload_n 1, 1) := by decide +kernel
theorem dX8_seen_2 : decode cX8_seen 2 = .ok (.iload_n 2, 1) := by decide +kernel
theorem dX8_seen_3 : decode cX8_seen 3 = .ok (.invokevirtual 249, 3) := by decide +kernel
theorem dX8_seen_6 : decode cX8_seen 6 = .ok (.ifCond .ne 5, 3) := by decide +kernel
theorem dX8_seen_9 : decode cX8_seen 9 = .ok (.iconst (-1), 1) := by decide +kernel
theorem dX8_seen_10 : decode cX8_seen 10 = .ok (.ireturn, 1) := by decide +kernel
theorem dX8_seen_11 : decode cX8_seen 11 = .ok (.iload_n 3, 1) := by decide +kernel
theorem dX8_seen_12 : decode cX8_seen 12 = .ok (.i2l, 1) := by decide +kernel
theorem dX8_seen_13 : decode cX8_seen 13 = .ok (.lconst 0, 1) := by decide +kernel
theorem dX8_seen_14 : decode cX8_seen 14 = .ok (.ldc2_w 230, 3) := by decide +kernel
theorem dX8_seen_17 : decode cX8_seen 17 = .ok (.invokestatic 77, 3) := by decide +kernel
theorem dX8_seen_20 : decode cX8_seen 20 = .ok (.ifCond .ne 6, 3) := by decide +kernel
theorem dX8_seen_23 : decode cX8_seen 23 = .ok (.bipush (-2), 2) := by decide +kernel
theorem dX8_seen_25 : decode cX8_seen 25 = .ok (.ireturn, 1) := by decide +kernel
theorem dX8_seen_26 : decode cX8_seen 26 = .ok (.aload_n 0, 1) := by decide +kernel
theorem dX8_seen_27 : decode cX8_seen 27 = .ok (.getfield 252, 3) := by decide +kernel
theorem dX8_seen_30 : decode cX8_seen 30 = .ok (.bipush 8, 2) := by decide +kernel
theorem dX8_seen_32 : decode cX8_seen 32 = .ok (.if_icmp .ne 6, 3) := by decide +kernel
theorem dX8_seen_35 : decode cX8_seen 35 = .ok (.bipush (-4), 2) := by decide +kernel
theorem dX8_seen_37 : decode cX8_seen 37 = .ok (.ireturn, 1) := by decide +kernel
theorem dX8_seen_38 : decode cX8_seen 38 = .ok (.aload_n 0, 1) := by decide +kernel
theorem dX8_seen_39 : decode cX8_seen 39 = .ok (.getfield 22, 3) := by decide +kernel
theorem dX8_seen_42 : decode cX8_seen 42 = .ok (.aload_n 0, 1) := by decide +kernel
theorem dX8_seen_43 : decode cX8_seen 43 = .ok (.getfield 252, 3) := by decide +kernel
theorem dX8_seen_46 : decode cX8_seen 46 = .ok (.iload_n 1, 1) := by decide +kernel
theorem dX8_seen_47 : decode cX8_seen 47 = .ok (.iastore, 1) := by decide +kernel
theorem dX8_seen_48 : decode cX8_seen 48 = .ok (.aload_n 0, 1) := by decide +kernel
theorem dX8_seen_49 : decode cX8_seen 49 = .ok (.getfield 25, 3) := by decide +kernel
theorem dX8_seen_52 : decode cX8_seen 52 = .ok (.aload_n 0, 1) := by decide +kernel
theorem dX8_seen_53 : decode cX8_seen 53 = .ok (.getfield 252, 3) := by decide +kernel
theorem dX8_seen_56 : decode cX8_seen 56 = .ok (.iload_n 2, 1) := by decide +kernel
theorem dX8_seen_57 : decode cX8_seen 57 = .ok (.iastore, 1) := by decide +kernel
theorem dX8_seen_58 : decode cX8_seen 58 = .ok (.aload_n 0, 1) := by decide +kernel
theorem dX8_seen_59 : decode cX8_seen 59 = .ok (.getfield 28, 3) := by decide +kernel
theorem dX8_seen_62 : decode cX8_seen 62 = .ok (.aload_n 0, 1) := by decide +kernel
theorem dX8_seen_63 : decode cX8_seen 63 = .ok (.getfield 252, 3) := by decide +kernel
theorem dX8_seen_66 : decode cX8_seen 66 = .ok (.iload_n 3, 1) := by decide +kernel
theorem dX8_seen_67 : decode cX8_seen 67 = .ok (.iastore, 1) := by decide +kernel
theorem dX8_seen_68 : decode cX8_seen 68 = .ok (.aload_n 0, 1) := by decide +kernel
theorem dX8_seen_69 : decode cX8_seen 69 = .ok (.dup, 1) := by decide +kernel
theorem dX8_seen_70 : decode cX8_seen 70 = .ok (.getfield 252, 3) := by decide +kernel
theorem dX8_seen_73 : decode cX8_seen 73 = .ok (.iconst 1, 1) := by decide +kernel
theorem dX8_seen_74 : decode cX8_seen 74 = .ok (.iadd, 1) := by decide +kernel
theorem dX8_seen_75 : decode cX8_seen 75 = .ok (.putfield 252, 3) := by decide +kernel
theorem dX8_seen_78 : decode cX8_seen 78 = .ok (.aload_n 0, 1) := by decide +kernel
theorem dX8_seen_79 : decode cX8_seen 79 = .ok (.getfield 252, 3) := by decide +kernel
theorem dX8_seen_82 : decode cX8_seen 82 = .ok (.ireturn, 1) := by decide +kernel
theorem dX8_forget_0 : decode cX8_forget 0 = .ok (.aload_n 0, 1) := by decide +kernel
theorem dX8_forget_1 : decode cX8_forget 1 = .ok (.getfield 252, 3) := by decide +kernel
theorem dX8_forget_4 : decode cX8_forget 4 = .ok (.istore_n 1, 1) := by decide +kernel
theorem dX8_forget_5 : decode cX8_forget 5 = .ok (.aload_n 0, 1) := by decide +kernel
theorem dX8_forget_6 : decode cX8_forget 6 = .ok (.iconst 0, 1) := by decide +kernel
theorem dX8_forget_7 : decode cX8_forget 7 = .ok (.putfield 252, 3) := by decide +kernel
theorem dX8_forget_10 : decode cX8_forget 10 = .ok (.iload_n 1, 1) := by decide +kernel
theorem dX8_forget_11 : decode cX8_forget 11 = .ok (.ireturn, 1) := by decide +kernel
theorem dX8_airyOf_0 : decode cX8_airyOf 0 = .ok (.iconst 0, 1) := by decide +kernel
theorem dX8_airyOf_1 : decode cX8_airyOf 1 = .ok (.istore 4, 2) := by decide +kernel
theorem dX8_airyOf_3 : decode cX8_airyOf 3 = .ok (.iconst 0, 1) := by decide +kernel
theorem dX8_airyOf_4 : decode cX8_airyOf 4 = .ok (.istore 5, 2) := by decide +kernel
theorem dX8_airyOf_6 : decode cX8_airyOf 6 = .ok (.iload 5, 2) := by decide +kernel
theorem dX8_airyOf_8 : decode cX8_airyOf 8 = .ok (.bipush 8, 2) := by decide +kernel
theorem dX8_airyOf_10 : decode cX8_airyOf 10 = .ok (.if_icmp .ge 56, 3) := by decide +kernel
theorem dX8_airyOf_13 : decode cX8_airyOf 13 = .ok (.aload_n 0, 1) := by decide +kernel
theorem dX8_airyOf_14 : decode cX8_airyOf 14 = .ok (.getfield 7, 3) := by decide +kernel
theorem dX8_airyOf_17 : decode cX8_airyOf 17 = .ok (.iload 5, 2) := by decide +kernel
theorem dX8_airyOf_19 : decode cX8_airyOf 19 = .ok (.iaload, 1) := by decide +kernel
theorem dX8_airyOf_20 : decode cX8_airyOf 20 = .ok (.iload 5, 2) := by decide +kernel
theorem dX8_airyOf_22 : decode cX8_airyOf 22 = .ok (.iload_n 2, 1) := by decide +kernel
theorem dX8_airyOf_23 : decode cX8_airyOf 23 = .ok (.if_icmp .ne 7, 3) := by decide +kernel
theorem dX8_airyOf_26 : decode cX8_airyOf 26 = .ok (.iload_n 3, 1) := by decide +kernel
theorem dX8_airyOf_27 : decode cX8_airyOf 27 = .ok (.goto 4, 3) := by decide +kernel
theorem dX8_airyOf_30 : decode cX8_airyOf 30 = .ok (.iconst 0, 1) := by decide +kernel
theorem dX8_airyOf_31 : decode cX8_airyOf 31 = .ok (.iadd, 1) := by decide +kernel
theorem dX8_airyOf_32 : decode cX8_airyOf 32 = .ok (.istore 6, 2) := by decide +kernel
theorem dX8_airyOf_34 : decode cX8_airyOf 34 = .ok (.iload 4, 2) := by decide +kernel
theorem dX8_airyOf_36 : decode cX8_airyOf 36 = .ok (.iload_n 1, 1) := by decide +kernel
theorem dX8_airyOf_37 : decode cX8_airyOf 37 = .ok (.aload_n 0, 1) := by decide +kernel
theorem dX8_airyOf_38 : decode cX8_airyOf 38 = .ok (.getfield 81, 3) := by decide +kernel
theorem dX8_airyOf_41 : decode cX8_airyOf 41 = .ok (.iand, 1) := by decide +kernel
theorem dX8_airyOf_42 : decode cX8_airyOf 42 = .ok (.iload 5, 2) := by decide +kernel
theorem dX8_airyOf_44 : decode cX8_airyOf 44 = .ok (.ishr, 1) := by decide +kernel
theorem dX8_airyOf_45 : decode cX8_airyOf 45 = .ok (.iconst 1, 1) := by decide +kernel
theorem dX8_airyOf_46 : decode cX8_airyOf 46 = .ok (.iand, 1) := by decide +kernel
theorem dX8_airyOf_47 : decode cX8_airyOf 47 = .ok (.iconst 1, 1) := by decide +kernel
theorem dX8_airyOf_48 : decode cX8_airyOf 48 = .ok (.if_icmp .ne 8, 3) := by decide +kernel
theorem dX8_airyOf_51 : decode cX8_airyOf 51 = .ok (.iload 6, 2) := by decide +kernel
theorem dX8_airyOf_53 : decode cX8_airyOf 53 = .ok (.goto 4, 3) := by decide +kernel
theorem dX8_airyOf_56 : decode cX8_airyOf 56 = .ok (.iconst 0, 1) := by decide +kernel
theorem dX8_airyOf_57 : decode cX8_airyOf 57 = .ok (.iadd, 1) := by decide +kernel
theorem dX8_airyOf_58 : decode cX8_airyOf 58 = .ok (.istore 4, 2) := by decide +kernel
theorem dX8_airyOf_60 : decode cX8_airyOf 60 = .ok (.iinc 5 1, 3) := by decide +kernel
theorem dX8_airyOf_63 : decode cX8_airyOf 63 = .ok (.goto (-57), 3) := by decide +kernel
theorem dX8_airyOf_66 : decode cX8_airyOf 66 = .ok (.iload 4, 2) := by decide +kernel
theorem dX8_airyOf_68 : decode cX8_airyOf 68 = .ok (.ireturn, 1) := by decide +kernel
theorem dX8_howAcross_0 : decode cX8_howAcross 0 = .ok (.aload_n 0, 1) := by decide +kernel
theorem dX8_howAcross_1 : decode cX8_howAcross 1 = .ok (.iload_n 1, 1) := by decide +kernel
theorem dX8_howAcross_2 : decode cX8_howAcross 2 = .ok (.iload_n 3, 1) := by decide +kernel
theorem dX8_howAcross_3 : decode cX8_howAcross 3 = .ok (.iload 4, 2) := by decide +kernel
theorem dX8_howAcross_5 : decode cX8_howAcross 5 = .ok (.invokevirtual 255, 3) := by decide +kernel
theorem dX8_howAcross_8 : decode cX8_howAcross 8 = .ok (.aload_n 0, 1) := by decide +kernel
theorem dX8_howAcross_9 : decode cX8_howAcross 9 = .ok (.iload_n 2, 1) := by decide +kernel
theorem dX8_howAcross_10 : decode cX8_howAcross 10 = .ok (.iload_n 3, 1) := by decide +kernel
theorem dX8_howAcross_11 : decode cX8_howAcross 11 = .ok (.iload 4, 2) := by decide +kernel
theorem dX8_howAcross_13 : decode cX8_howAcross 13 = .ok (.invokevirtual 255, 3) := by decide +kernel
theorem dX8_howAcross_16 : decode cX8_howAcross 16 = .ok (.isub, 1) := by decide +kernel
theorem dX8_howAcross_17 : decode cX8_howAcross 17 = .ok (.istore 5, 2) := by decide +kernel
theorem dX8_howAcross_19 : decode cX8_howAcross 19 = .ok (.iload 5, 2) := by decide +kernel
theorem dX8_howAcross_21 : decode cX8_howAcross 21 = .ok (.ifCond .ge 7, 3) := by decide +kernel
theorem dX8_howAcross_24 : decode cX8_howAcross 24 = .ok (.iconst 0, 1) := by decide +kernel
theorem dX8_howAcross_25 : decode cX8_howAcross 25 = .ok (.goto 13, 3) := by decide +kernel
theorem dX8_howAcross_28 : decode cX8_howAcross 28 = .ok (.iload 5, 2) := by decide +kernel
theorem dX8_howAcross_30 : decode cX8_howAcross 30 = .ok (.ifCond .ne 7, 3) := by decide +kernel
theorem dX8_howAcross_33 : decode cX8_howAcross 33 = .ok (.iconst 1, 1) := by decide +kernel
theorem dX8_howAcross_34 : decode cX8_howAcross 34 = .ok (.goto 4, 3) := by decide +kernel
theorem dX8_howAcross_37 : decode cX8_howAcross 37 = .ok (.iconst 2, 1) := by decide +kernel
theorem dX8_howAcross_38 : decode cX8_howAcross 38 = .ok (.ireturn, 1) := by decide +kernel
theorem dX8_isWorld_0 : decode cX8_isWorld 0 = .ok (.iconst 1, 1) := by decide +kernel
theorem dX8_isWorld_1 : decode cX8_isWorld 1 = .ok (.istore_n 3, 1) := by decide +kernel
theorem dX8_isWorld_2 : decode cX8_isWorld 2 = .ok (.iconst 0, 1) := by decide +kernel
theorem dX8_isWorld_3 : decode cX8_isWorld 3 = .ok (.istore 4, 2) := by decide +kernel
theorem dX8_isWorld_5 : decode cX8_isWorld 5 = .ok (.iload 4, 2) := by decide +kernel
theorem dX8_isWorld_7 : decode cX8_isWorld 7 = .ok (.aload_n 0, 1) := by decide +kernel
theorem dX8_isWorld_8 : decode cX8_isWorld 8 = .ok (.getfield 252, 3) := by decide +kernel
theorem dX8_isWorld_11 : decode cX8_isWorld 11 = .ok (.if_icmp .ge 49, 3) := by decide +kernel
theorem dX8_isWorld_14 : decode cX8_isWorld 14 = .ok (.iload_n 3, 1) := by decide +kernel
theorem dX8_isWorld_15 : decode cX8_isWorld 15 = .ok (.ifCond .eq 37, 3) := by decide +kernel
theorem dX8_isWorld_18 : decode cX8_isWorld 18 = .ok (.aload_n 0, 1) := by decide +kernel
theorem dX8_isWorld_19 : decode cX8_isWorld 19 = .ok (.aload_n 0, 1) := by decide +kernel
theorem dX8_isWorld_20 : decode cX8_isWorld 20 = .ok (.getfield 22, 3) := by decide +kernel
theorem dX8_isWorld_23 : decode cX8_isWorld 23 = .ok (.iload 4, 2) := by decide +kernel
theorem dX8_isWorld_25 : decode cX8_isWorld 25 = .ok (.iaload, 1) := by decide +kernel
theorem dX8_isWorld_26 : decode cX8_isWorld 26 = .ok (.aload_n 0, 1) := by decide +kernel
theorem dX8_isWorld_27 : decode cX8_isWorld 27 = .ok (.getfield 25, 3) := by decide +kernel
theorem dX8_isWorld_30 : decode cX8_isWorld 30 = .ok (.iload 4, 2) := by decide +kernel
theorem dX8_isWorld_32 : decode cX8_isWorld 32 = .ok (.iaload, 1) := by decide +kernel
theorem dX8_isWorld_33 : decode cX8_isWorld 33 = .ok (.iload_n 1, 1) := by decide +kernel
theorem dX8_isWorld_34 : decode cX8_isWorld 34 = .ok (.iload_n 2, 1) := by decide +kernel
theorem dX8_isWorld_35 : decode cX8_isWorld 35 = .ok (.invokevirtual 259, 3) := by decide +kernel
theorem dX8_isWorld_38 : decode cX8_isWorld 38 = .ok (.aload_n 0, 1) := by decide +kernel
theorem dX8_isWorld_39 : decode cX8_isWorld 39 = .ok (.getfield 28, 3) := by decide +kernel
theorem dX8_isWorld_42 : decode cX8_isWorld 42 = .ok (.iload 4, 2) := by decide +kernel
theorem dX8_isWorld_44 : decode cX8_isWorld 44 = .ok (.iaload, 1) := by decide +kernel
theorem dX8_isWorld_45 : decode cX8_isWorld 45 = .ok (.if_icmp .ne 7, 3) := by decide +kernel
theorem dX8_isWorld_48 : decode cX8_isWorld 48 = .ok (.iconst 1, 1) := by decide +kernel
theorem dX8_isWorld_49 : decode cX8_isWorld 49 = .ok (.goto 4, 3) := by decide +kernel
theorem dX8_isWorld_52 : decode cX8_isWorld 52 = .ok (.iconst 0, 1) := by decide +kernel
theorem dX8_isWorld_53 : decode cX8_isWorld 53 = .ok (.istore_n 3, 1) := by decide +kernel
theorem dX8_isWorld_54 : decode cX8_isWorld 54 = .ok (.iinc 4 1, 3) := by decide +kernel
theorem dX8_isWorld_57 : decode cX8_isWorld 57 = .ok (.goto (-52), 3) := by decide +kernel
theorem dX8_isWorld_60 : decode cX8_isWorld 60 = .ok (.iload_n 3, 1) := by decide +kernel
theorem dX8_isWorld_61 : decode cX8_isWorld 61 = .ok (.ireturn, 1) := by decide +kernel
theorem dX8_addWorld_0 : decode cX8_addWorld 0 = .ok (.aload_n 0, 1) := by decide +kernel
theorem dX8_addWorld_1 : decode cX8_addWorld 1 = .ok (.getfield 59, 3) := by decide +kernel
theorem dX8_addWorld_4 : decode cX8_addWorld 4 = .ok (.aload_n 0, 1) := by decide +kernel
theorem dX8_addWorld_5 : decode cX8_addWorld 5 = .ok (.getfield 263, 3) := by decide +kernel
theorem dX8_addWorld_8 : decode cX8_addWorld 8 = .ok (.iload_n 1, 1) := by decide +kernel
theorem dX8_addWorld_9 : decode cX8_addWorld 9 = .ok (.iastore, 1) := by decide +kernel
theorem dX8_addWorld_10 : decode cX8_addWorld 10 = .ok (.aload_n 0, 1) := by decide +kernel
theorem dX8_addWorld_11 : decode cX8_addWorld 11 = .ok (.getfield 62, 3) := by decide +kernel
theorem dX8_addWorld_14 : decode cX8_addWorld 14 = .ok (.aload_n 0, 1) := by decide +kernel
theorem dX8_addWorld_15 : decode cX8_addWorld 15 = .ok (.getfield 263, 3) := by decide +kernel
theorem dX8_addWorld_18 : decode cX8_addWorld 18 = .ok (.iload_n 2, 1) := by decide +kernel
theorem dX8_addWorld_19 : decode cX8_addWorld 19 = .ok (.iastore, 1) := by decide +kernel
theorem dX8_addWorld_20 : decode cX8_addWorld 20 = .ok (.aload_n 0, 1) := by decide +kernel
theorem dX8_addWorld_21 : decode cX8_addWorld 21 = .ok (.dup, 1) := by decide +kernel
theorem dX8_addWorld_22 : decode cX8_addWorld 22 = .ok (.getfield 263, 3) := by decide +kernel
theorem dX8_addWorld_25 : decode cX8_addWorld 25 = .ok (.iconst 1, 1) := by decide +kernel
theorem dX8_addWorld_26 : decode cX8_addWorld 26 = .ok (.iadd, 1) := by decide +kernel
theorem dX8_addWorld_27 : decode cX8_addWorld 27 = .ok (.putfield 263, 3) := by decide +kernel
theorem dX8_addWorld_30 : decode cX8_addWorld 30 = .ok (.return_, 1) := by decide +kernel
theorem dX8_findWorlds_0 : decode cX8_findWorlds 0 = .ok (.aload_n 0, 1) := by decide +kernel
theorem dX8_findWorlds_1 : decode cX8_findWorlds 1 = .ok (.iconst 0, 1) := by decide +kernel
theorem dX8_findWorlds_2 : decode cX8_findWorlds 2 = .ok (.putfield 263, 3) := by decide +kernel
theorem dX8_findWorlds_5 : decode cX8_findWorlds 5 = .ok (.aload_n 0, 1) := by decide +kernel
theorem dX8_findWorlds_6 : decode cX8_findWorlds 6 = .ok (.bipush (-6), 2) := by decide +kernel
theorem dX8_findWorlds_8 : decode cX8_findWorlds 8 = .ok (.iconst 0, 1) := by decide +kernel
theorem dX8_findWorlds_9 : decode cX8_findWorlds 9 = .ok (.invokevirtual 266, 3) := by decide +kernel
theorem dX8_findWorlds_12 : decode cX8_findWorlds 12 = .ok (.ifCond .eq 10, 3) := by decide +kernel
theorem dX8_findWorlds_15 : decode cX8_findWorlds 15 = .ok (.aload_n 0, 1) := by decide +kernel
theorem dX8_findWorlds_16 : decode cX8_findWorlds 16 = .ok (.bipush (-6), 2) := by decide +kernel
theorem dX8_findWorlds_18 : decode cX8_findWorlds 18 = .ok (.iconst 0, 1) := by decide +kernel
theorem dX8_findWorlds_19 : decode cX8_findWorlds 19 = .ok (.invokevirtual 269, 3) := by decide +kernel
theorem dX8_findWorlds_22 : decode cX8_findWorlds 22 = .ok (.iconst 0, 1) := by decide +kernel
theorem dX8_findWorlds_23 : decode cX8_findWorlds 23 = .ok (.istore_n 1, 1) := by decide +kernel
theorem dX8_findWorlds_24 : decode cX8_findWorlds 24 = .ok (.iload_n 1, 1) := by decide +kernel
theorem dX8_findWorlds_25 : decode cX8_findWorlds 25 = .ok (.bipush 8, 2) := by decide +kernel
theorem dX8_findWorlds_27 : decode cX8_findWorlds 27 = .ok (.if_icmp .ge 62, 3) := by decide +kernel
theorem dX8_findWorlds_30 : decode cX8_findWorlds 30 = .ok (.bipush (-9), 2) := by decide +kernel
theorem dX8_findWorlds_32 : decode cX8_findWorlds 32 = .ok (.istore_n 2, 1) := by decide +kernel
theorem dX8_findWorlds_33 : decode cX8_findWorlds 33 = .ok (.iload_n 2, 1) := by decide +kernel
theorem dX8_findWorlds_34 : decode cX8_findWorlds 34 = .ok (.bipush 9, 2) := by decide +kernel
theorem dX8_findWorlds_36 : decode cX8_findWorlds 36 = .ok (.if_icmp .gt 47, 3) := by decide +kernel
theorem dX8_findWorlds_39 : decode cX8_findWorlds 39 = .ok (.aload_n 0, 1) := by decide +kernel
theorem dX8_findWorlds_40 : decode cX8_findWorlds 40 = .ok (.iload_n 1, 1) := by decide +kernel
theorem dX8_findWorlds_41 : decode cX8_findWorlds 41 = .ok (.invokevirtual 84, 3) := by decide +kernel
theorem dX8_findWorlds_44 : decode cX8_findWorlds 44 = .ok (.ifCond .eq 33, 3) := by decide +kernel
theorem dX8_findWorlds_47 : decode cX8_findWorlds 47 = .ok (.iload_n 2, 1) := by decide +kernel
theorem dX8_findWorlds_48 : decode cX8_findWorlds 48 = .ok (.ifCond .eq 29, 3) := by decide +kernel
theorem dX8_findWorlds_51 : decode cX8_findWorlds 51 = .ok (.aload_n 0, 1) := by decide +kernel
theorem dX8_findWorlds_52 : decode cX8_findWorlds 52 = .ok (.getfield 7, 3) := by decide +kernel
theorem dX8_findWorlds_55 : decode cX8_findWorlds 55 = .ok (.iload_n 1, 1) := by decide +kernel
theorem dX8_findWorlds_56 : decode cX8_findWorlds 56 = .ok (.iaload, 1) := by decide +kernel
theorem dX8_findWorlds_57 : decode cX8_findWorlds 57 = .ok (.iload_n 2, 1) := by decide +kernel
theorem dX8_findWorlds_58 : decode cX8_findWorlds 58 = .ok (.iadd, 1) := by decide +kernel
theorem dX8_findWorlds_59 : decode cX8_findWorlds 59 = .ok (.ifCond .le 18, 3) := by decide +kernel
theorem dX8_findWorlds_62 : decode cX8_findWorlds 62 = .ok (.aload_n 0, 1) := by decide +kernel
theorem dX8_findWorlds_63 : decode cX8_findWorlds 63 = .ok (.iload_n 1, 1) := by decide +kernel
theorem dX8_findWorlds_64 : decode cX8_findWorlds 64 = .ok (.iload_n 2, 1) := by decide +kernel
theorem dX8_findWorlds_65 : decode cX8_findWorlds 65 = .ok (.invokevirtual 266, 3) := by decide +kernel
theorem dX8_findWorlds_68 : decode cX8_findWorlds 68 = .ok (.ifCond .eq 9, 3) := by decide +kernel
theorem dX8_findWorlds_71 : decode cX8_findWorlds 71 = .ok (.aload_n 0, 1) := by decide +kernel
theorem dX8_findWorlds_72 : decode cX8_findWorlds 72 = .ok (.iload_n 1, 1) := by decide +kernel
theorem dX8_findWorlds_73 : decode cX8_findWorlds 73 = .ok (.iload_n 2, 1) := by decide +kernel
theorem dX8_findWorlds_74 : decode cX8_findWorlds 74 = .ok (.invokevirtual 269, 3) := by decide +kernel
theorem dX8_findWorlds_77 : decode cX8_findWorlds 77 = .ok (.iinc 2 1, 3) := by decide +kernel
theorem dX8_findWorlds_80 : decode cX8_findWorlds 80 = .ok (.goto (-47), 3) := by decide +kernel
theorem dX8_findWorlds_83 : decode cX8_findWorlds 83 = .ok (.iinc 1 1, 3) := by decide +kernel
theorem dX8_findWorlds_86 : decode cX8_findWorlds 86 = .ok (.goto (-62), 3) := by decide +kernel
theorem dX8_findWorlds_89 : decode cX8_findWorlds 89 = .ok (.return_, 1) := by decide +kernel
theorem dX8_airs_0 : decode cX8_airs 0 = .ok (.iload_n 1, 1) := by decide +kernel
theorem dX8_airs_1 : decode cX8_airs 1 = .ok (.i2l, 1) := by decide +kernel
theorem dX8_airs_2 : decode cX8_airs 2 = .ok (.lconst 0, 1) := by decide +kernel
theorem dX8_airs_3 : decode cX8_airs 3 = .ok (.lconst 1, 1) := by decide +kernel
theorem dX8_airs_4 : decode cX8_airs 4 = .ok (.invokestatic 77, 3) := by decide +kernel
theorem dX8_airs_7 : decode cX8_airs 7 = .ok (.ifCond .ne 6, 3) := by decide +kernel
theorem dX8_airs_10 : decode cX8_airs 10 = .ok (.bipush (-2), 2) := by decide +kernel
theorem dX8_airs_12 : decode cX8_airs 12 = .ok (.ireturn, 1) := by decide +kernel
theorem dX8_airs_13 : decode cX8_airs 13 = .ok (.aload_n 0, 1) := by decide +kernel
theorem dX8_airs_14 : decode cX8_airs 14 = .ok (.invokevirtual 273, 3) := by decide +kernel
theorem dX8_airs_17 : decode cX8_airs 17 = .ok (.iconst 0, 1) := by decide +kernel
theorem dX8_airs_18 : decode cX8_airs 18 = .ok (.istore_n 2, 1) := by decide +kernel
theorem dX8_airs_19 : decode cX8_airs 19 = .ok (.iconst 0, 1) := by decide +kernel
theorem dX8_airs_20 : decode cX8_airs 20 = .ok (.istore_n 3, 1) := by decide +kernel
theorem dX8_airs_21 : decode cX8_airs 21 = .ok (.iload_n 3, 1) := by decide +kernel
theorem dX8_airs_22 : decode cX8_airs 22 = .ok (.aload_n 0, 1) := by decide +kernel
theorem dX8_airs_23 : decode cX8_airs 23 = .ok (.getfield 263, 3) := by decide +kernel
theorem dX8_airs_26 : decode cX8_airs 26 = .ok (.if_icmp .ge 33, 3) := by decide +kernel
theorem dX8_airs_29 : decode cX8_airs 29 = .ok (.iload_n 2, 1) := by decide +kernel
theorem dX8_airs_30 : decode cX8_airs 30 = .ok (.aload_n 0, 1) := by decide +kernel
theorem dX8_airs_31 : decode cX8_airs 31 = .ok (.getfield 59, 3) := by decide +kernel
theorem dX8_airs_34 : decode cX8_airs 34 = .ok (.iload_n 3, 1) := by decide +kernel
theorem dX8_airs_35 : decode cX8_airs 35 = .ok (.iaload, 1) := by decide +kernel
theorem dX8_airs_36 : decode cX8_airs 36 = .ok (.ifCond .lt 14, 3) := by decide +kernel
theorem dX8_airs_39 : decode cX8_airs 39 = .ok (.iconst 1, 1) := by decide +kernel
theorem dX8_airs_40 : decode cX8_airs 40 = .ok (.aload_n 0, 1) := by decide +kernel
theorem dX8_airs_41 : decode cX8_airs 41 = .ok (.getfield 59, 3) := by decide +kernel
theorem dX8_airs_44 : decode cX8_airs 44 = .ok (.iload_n 3, 1) := by decide +kernel
theorem dX8_airs_45 : decode cX8_airs 45 = .ok (.iaload, 1) := by decide +kernel
theorem dX8_airs_46 : decode cX8_airs 46 = .ok (.ishl, 1) := by decide +kernel
theorem dX8_airs_47 : decode cX8_airs 47 = .ok (.goto 4, 3) := by decide +kernel
theorem dX8_airs_50 : decode cX8_airs 50 = .ok (.iconst 0, 1) := by decide +kernel
theorem dX8_airs_51 : decode cX8_airs 51 = .ok (.ior, 1) := by decide +kernel
theorem dX8_airs_52 : decode cX8_airs 52 = .ok (.istore_n 2, 1) := by decide +kernel
theorem dX8_airs_53 : decode cX8_airs 53 = .ok (.iinc 3 1, 3) := by decide +kernel
theorem dX8_airs_56 : decode cX8_airs 56 = .ok (.goto (-35), 3) := by decide +kernel
theorem dX8_airs_59 : decode cX8_airs 59 = .ok (.iload_n 1, 1) := by decide +kernel
theorem dX8_airs_60 : decode cX8_airs 60 = .ok (.ifCond .ne 10, 3) := by decide +kernel
theorem dX8_airs_63 : decode cX8_airs 63 = .ok (.aload_n 0, 1) := by decide +kernel
theorem dX8_airs_64 : decode cX8_airs 64 = .ok (.getfield 263, 3) := by decide +kernel
theorem dX8_airs_67 : decode cX8_airs 67 = .ok (.goto 4, 3) := by decide +kernel
theorem dX8_airs_70 : decode cX8_airs 70 = .ok (.iload_n 2, 1) := by decide +kernel
theorem dX8_airs_71 : decode cX8_airs 71 = .ok (.ireturn, 1) := by decide +kernel
theorem dX8_air_0 : decode cX8_air 0 = .ok (.aload_n 0, 1) := by decide +kernel
theorem dX8_air_1 : decode cX8_air 1 = .ok (.iload_n 1, 1) := by decide +kernel
theorem dX8_air_2 : decode cX8_air 2 = .ok (.invokevirtual 84, 3) := by decide +kernel
theorem dX8_air_5 : decode cX8_air 5 = .ok (.ifCond .ne 5, 3) := by decide +kernel
theorem dX8_air_8 : decode cX8_air 8 = .ok (.iconst (-1), 1) := by decide +kernel
theorem dX8_air_9 : decode cX8_air 9 = .ok (.ireturn, 1) := by decide +kernel
theorem dX8_air_10 : decode cX8_air 10 = .ok (.aload_n 0, 1) := by decide +kernel
theorem dX8_air_11 : decode cX8_air 11 = .ok (.invokevirtual 273, 3) := by decide +kernel
theorem dX8_air_14 : decode cX8_air 14 = .ok (.iconst 0, 1) := by decide +kernel
theorem dX8_air_15 : decode cX8_air 15 = .ok (.istore_n 2, 1) := by decide +kernel
theorem dX8_air_16 : decode cX8_air 16 = .ok (.iload_n 2, 1) := by decide +kernel
theorem dX8_air_17 : decode cX8_air 17 = .ok (.aload_n 0, 1) := by decide +kernel
theorem dX8_air_18 : decode cX8_air 18 = .ok (.getfield 263, 3) := by decide +kernel
theorem dX8_air_21 : decode cX8_air 21 = .ok (.if_icmp .ge 29, 3) := by decide +kernel
theorem dX8_air_24 : decode cX8_air 24 = .ok (.aload_n 0, 1) := by decide +kernel
theorem dX8_air_25 : decode cX8_air 25 = .ok (.getfield 59, 3) := by decide +kernel
theorem dX8_air_28 : decode cX8_air 28 = .ok (.iload_n 2, 1) := by decide +kernel
theorem dX8_air_29 : decode cX8_air 29 = .ok (.iaload, 1) := by decide +kernel
theorem dX8_air_30 : decode cX8_air 30 = .ok (.iload_n 1, 1) := by decide +kernel
theorem dX8_air_31 : decode cX8_air 31 = .ok (.if_icmp .ne 13, 3) := by decide +kernel
theorem dX8_air_34 : decode cX8_air 34 = .ok (.aload_n 0, 1) := by decide +kernel
theorem dX8_air_35 : decode cX8_air 35 = .ok (.getfield 62, 3) := by decide +kernel
theorem dX8_air_38 : decode cX8_air 38 = .ok (.iload_n 2, 1) := by decide +kernel
theorem dX8_air_39 : decode cX8_air 39 = .ok (.iaload, 1) := by decide +kernel
theorem dX8_air_40 : decode cX8_air 40 = .ok (.bipush 100, 2) := by decide +kernel
theorem dX8_air_42 : decode cX8_air 42 = .ok (.iadd, 1) := by decide +kernel
theorem dX8_air_43 : decode cX8_air 43 = .ok (.ireturn, 1) := by decide +kernel
theorem dX8_air_44 : decode cX8_air 44 = .ok (.iinc 2 1, 3) := by decide +kernel
theorem dX8_air_47 : decode cX8_air 47 = .ok (.goto (-31), 3) := by decide +kernel
theorem dX8_air_50 : decode cX8_air 50 = .ok (.bipush (-6), 2) := by decide +kernel
theorem dX8_air_52 : decode cX8_air 52 = .ok (.ireturn, 1) := by decide +kernel
theorem dX8_mostLeft_0 : decode cX8_mostLeft 0 = .ok (.iconst 0, 1) := by decide +kernel
theorem dX8_mostLeft_1 : decode cX8_mostLeft 1 = .ok (.istore_n 3, 1) := by decide +kernel
theorem dX8_mostLeft_2 : decode cX8_mostLeft 2 = .ok (.iconst 0, 1) := by decide +kernel
theorem dX8_mostLeft_3 : decode cX8_mostLeft 3 = .ok (.istore 4, 2) := by decide +kernel
theorem dX8_mostLeft_5 : decode cX8_mostLeft 5 = .ok (.iconst 0, 1) := by decide +kernel
theorem dX8_mostLeft_6 : decode cX8_mostLeft 6 = .ok (.istore 5, 2) := by decide +kernel
theorem dX8_mostLeft_8 : decode cX8_mostLeft 8 = .ok (.iload 5, 2) := by decide +kernel
theorem dX8_mostLeft_10 : decode cX8_mostLeft 10 = .ok (.aload_n 0, 1) := by decide +kernel
theorem dX8_mostLeft_11 : decode cX8_mostLeft 11 = .ok (.getfield 263, 3) := by decide +kernel
theorem dX8_mostLeft_14 : decode cX8_mostLeft 14 = .ok (.if_icmp .ge 64, 3) := by decide +kernel
theorem dX8_mostLeft_17 : decode cX8_mostLeft 17 = .ok (.aload_n 0, 1) := by decide +kernel
theorem dX8_mostLeft_18 : decode cX8_mostLeft 18 = .ok (.iconst 1, 1) := by decide +kernel
theorem dX8_mostLeft_19 : decode cX8_mostLeft 19 = .ok (.iload_n 1, 1) := by decide +kernel
theorem dX8_mostLeft_20 : decode cX8_mostLeft 20 = .ok (.ishl, 1) := by decide +kernel
theorem dX8_mostLeft_21 : decode cX8_mostLeft 21 = .ok (.iconst 1, 1) := by decide +kernel
theorem dX8_mostLeft_22 : decode cX8_mostLeft 22 = .ok (.iload_n 2, 1) := by decide +kernel
theorem dX8_mostLeft_23 : decode cX8_mostLeft 23 = .ok (.ishl, 1) := by decide +kernel
theorem dX8_mostLeft_24 : decode cX8_mostLeft 24 = .ok (.aload_n 0, 1) := by decide +kernel
theorem dX8_mostLeft_25 : decode cX8_mostLeft 25 = .ok (.getfield 59, 3) := by decide +kernel
theorem dX8_mostLeft_28 : decode cX8_mostLeft 28 = .ok (.iload 5, 2) := by decide +kernel
theorem dX8_mostLeft_30 : decode cX8_mostLeft 30 = .ok (.iaload, 1) := by decide +kernel
theorem dX8_mostLeft_31 : decode cX8_mostLeft 31 = .ok (.aload_n 0, 1) := by decide +kernel
theorem dX8_mostLeft_32 : decode cX8_mostLeft 32 = .ok (.getfield 62, 3) := by decide +kernel
theorem dX8_mostLeft_35 : decode cX8_mostLeft 35 = .ok (.iload 5, 2) := by decide +kernel
theorem dX8_mostLeft_37 : decode cX8_mostLeft 37 = .ok (.iaload, 1) := by decide +kernel
theorem dX8_mostLeft_38 : decode cX8_mostLeft 38 = .ok (.invokevirtual 259, 3) := by decide +kernel
theorem dX8_mostLeft_41 : decode cX8_mostLeft 41 = .ok (.istore 6, 2) := by decide +kernel
theorem dX8_mostLeft_43 : decode cX8_mostLeft 43 = .ok (.iload_n 3, 1) := by decide +kernel
theorem dX8_mostLeft_44 : decode cX8_mostLeft 44 = .ok (.iload 6, 2) := by decide +kernel
theorem dX8_mostLeft_46 : decode cX8_mostLeft 46 = .ok (.ifCond .ne 7, 3) := by decide +kernel
theorem dX8_mostLeft_49 : decode cX8_mostLeft 49 = .ok (.iconst 1, 1) := by decide +kernel
theorem dX8_mostLeft_50 : decode cX8_mostLeft 50 = .ok (.goto 4, 3) := by decide +kernel
theorem dX8_mostLeft_53 : decode cX8_mostLeft 53 = .ok (.iconst 0, 1) := by decide +kernel
theorem dX8_mostLeft_54 : decode cX8_mostLeft 54 = .ok (.iadd, 1) := by decide +kernel
theorem dX8_mostLeft_55 : decode cX8_mostLeft 55 = .ok (.istore_n 3, 1) := by decide +kernel
theorem dX8_mostLeft_56 : decode cX8_mostLeft 56 = .ok (.iload 4, 2) := by decide +kernel
theorem dX8_mostLeft_58 : decode cX8_mostLeft 58 = .ok (.iload 6, 2) := by decide +kernel
theorem dX8_mostLeft_60 : decode cX8_mostLeft 60 = .ok (.iconst 1, 1) := by decide +kernel
theorem dX8_mostLeft_61 : decode cX8_mostLeft 61 = .ok (.if_icmp .ne 7, 3) := by decide +kernel
theorem dX8_mostLeft_64 : decode cX8_mostLeft 64 = .ok (.iconst 1, 1) := by decide +kernel
theorem dX8_mostLeft_65 : decode cX8_mostLeft 65 = .ok (.goto 4, 3) := by decide +kernel
theorem dX8_mostLeft_68 : decode cX8_mostLeft 68 = .ok (.iconst 0, 1) := by decide +kernel
theorem dX8_mostLeft_69 : decode cX8_mostLeft 69 = .ok (.iadd, 1) := by decide +kernel
theorem dX8_mostLeft_70 : decode cX8_mostLeft 70 = .ok (.istore 4, 2) := by decide +kernel
theorem dX8_mostLeft_72 : decode cX8_mostLeft 72 = .ok (.iinc 5 1, 3) := by decide +kernel
theorem dX8_mostLeft_75 : decode cX8_mostLeft 75 = .ok (.goto (-67), 3) := by decide +kernel
theorem dX8_mostLeft_78 : decode cX8_mostLeft 78 = .ok (.aload_n 0, 1) := by decide +kernel
theorem dX8_mostLeft_79 : decode cX8_mostLeft 79 = .ok (.getfield 263, 3) := by decide +kernel
theorem dX8_mostLeft_82 : decode cX8_mostLeft 82 = .ok (.iload_n 3, 1) := by decide +kernel
theorem dX8_mostLeft_83 : decode cX8_mostLeft 83 = .ok (.isub, 1) := by decide +kernel
theorem dX8_mostLeft_84 : decode cX8_mostLeft 84 = .ok (.iload 4, 2) := by decide +kernel
theorem dX8_mostLeft_86 : decode cX8_mostLeft 86 = .ok (.isub, 1) := by decide +kernel
theorem dX8_mostLeft_87 : decode cX8_mostLeft 87 = .ok (.istore 5, 2) := by decide +kernel
theorem dX8_mostLeft_89 : decode cX8_mostLeft 89 = .ok (.iload_n 3, 1) := by decide +kernel
theorem dX8_mostLeft_90 : decode cX8_mostLeft 90 = .ok (.iload 4, 2) := by decide +kernel
theorem dX8_mostLeft_92 : decode cX8_mostLeft 92 = .ok (.if_icmp .le 7, 3) := by decide +kernel
theorem dX8_mostLeft_95 : decode cX8_mostLeft 95 = .ok (.iload_n 3, 1) := by decide +kernel
theorem dX8_mostLeft_96 : decode cX8_mostLeft 96 = .ok (.goto 5, 3) := by decide +kernel
theorem dX8_mostLeft_99 : decode cX8_mostLeft 99 = .ok (.iload 4, 2) := by decide +kernel
theorem dX8_mostLeft_101 : decode cX8_mostLeft 101 = .ok (.istore 6, 2) := by decide +kernel
theorem dX8_mostLeft_103 : decode cX8_mostLeft 103 = .ok (.iload 5, 2) := by decide +kernel
theorem dX8_mostLeft_105 : decode cX8_mostLeft 105 = .ok (.iload 6, 2) := by decide +kernel
theorem dX8_mostLeft_107 : decode cX8_mostLeft 107 = .ok (.if_icmp .le 8, 3) := by decide +kernel
theorem dX8_mostLeft_110 : decode cX8_mostLeft 110 = .ok (.iload 5, 2) := by decide +kernel
theorem dX8_mostLeft_112 : decode cX8_mostLeft 112 = .ok (.goto 5, 3) := by decide +kernel
theorem dX8_mostLeft_115 : decode cX8_mostLeft 115 = .ok (.iload 6, 2) := by decide +kernel
theorem dX8_mostLeft_117 : decode cX8_mostLeft 117 = .ok (.ireturn, 1) := by decide +kernel
theorem dX8_cross_0 : decode cX8_cross 0 = .ok (.iload_n 1, 1) := by decide +kernel
theorem dX8_cross_1 : decode cX8_cross 1 = .ok (.i2l, 1) := by decide +kernel
theorem dX8_cross_2 : decode cX8_cross 2 = .ok (.lconst 0, 1) := by decide +kernel
theorem dX8_cross_3 : decode cX8_cross 3 = .ok (.lconst 1, 1) := by decide +kernel
theorem dX8_cross_4 : decode cX8_cross 4 = .ok (.invokestatic 77, 3) := by decide +kernel
theorem dX8_cross_7 : decode cX8_cross 7 = .ok (.ifCond .ne 6, 3) := by decide +kernel
theorem dX8_cross_10 : decode cX8_cross 10 = .ok (.bipush (-2), 2) := by decide +kernel
theorem dX8_cross_12 : decode cX8_cross 12 = .ok (.ireturn, 1) := by decide +kernel
theorem dX8_cross_13 : decode cX8_cross 13 = .ok (.aload_n 0, 1) := by decide +kernel
theorem dX8_cross_14 : decode cX8_cross 14 = .ok (.invokevirtual 273, 3) := by decide +kernel
theorem dX8_cross_17 : decode cX8_cross 17 = .ok (.bipush (-6), 2) := by decide +kernel
theorem dX8_cross_19 : decode cX8_cross 19 = .ok (.istore_n 2, 1) := by decide +kernel
theorem dX8_cross_20 : decode cX8_cross 20 = .ok (.iconst 0, 1) := by decide +kernel
theorem dX8_cross_21 : decode cX8_cross 21 = .ok (.istore_n 3, 1) := by decide +kernel
theorem dX8_cross_22 : decode cX8_cross 22 = .ok (.iconst 0, 1) := by decide +kernel
theorem dX8_cross_23 : decode cX8_cross 23 = .ok (.istore 4, 2) := by decide +kernel
theorem dX8_cross_25 : decode cX8_cross 25 = .ok (.iload 4, 2) := by decide +kernel
theorem dX8_cross_27 : decode cX8_cross 27 = .ok (.bipush 8, 2) := by decide +kernel
theorem dX8_cross_29 : decode cX8_cross 29 = .ok (.if_icmp .ge 80, 3) := by decide +kernel
theorem dX8_cross_32 : decode cX8_cross 32 = .ok (.iload 4, 2) := by decide +kernel
theorem dX8_cross_34 : decode cX8_cross 34 = .ok (.iconst 1, 1) := by decide +kernel
theorem dX8_cross_35 : decode cX8_cross 35 = .ok (.iadd, 1) := by decide +kernel
theorem dX8_cross_36 : decode cX8_cross 36 = .ok (.istore 5, 2) := by decide +kernel
theorem dX8_cross_38 : decode cX8_cross 38 = .ok (.iload 5, 2) := by decide +kernel
theorem dX8_cross_40 : decode cX8_cross 40 = .ok (.bipush 8, 2) := by decide +kernel
theorem dX8_cross_42 : decode cX8_cross 42 = .ok (.if_icmp .ge 61, 3) := by decide +kernel
theorem dX8_cross_45 : decode cX8_cross 45 = .ok (.aload_n 0, 1) := by decide +kernel
theorem dX8_cross_46 : decode cX8_cross 46 = .ok (.getfield 263, 3) := by decide +kernel
theorem dX8_cross_49 : decode cX8_cross 49 = .ok (.ifCond .le 48, 3) := by decide +kernel
theorem dX8_cross_52 : decode cX8_cross 52 = .ok (.aload_n 0, 1) := by decide +kernel
theorem dX8_cross_53 : decode cX8_cross 53 = .ok (.iload 4, 2) := by decide +kernel
theorem dX8_cross_55 : decode cX8_cross 55 = .ok (.iload 5, 2) := by decide +kernel
theorem dX8_cross_57 : decode cX8_cross 57 = .ok (.invokevirtual 107, 3) := by decide +kernel
theorem dX8_cross_60 : decode cX8_cross 60 = .ok (.ifCond .eq 37, 3) := by decide +kernel
theorem dX8_cross_63 : decode cX8_cross 63 = .ok (.iload_n 2, 1) := by decide +kernel
theorem dX8_cross_64 : decode cX8_cross 64 = .ok (.ifCond .lt 15, 3) := by decide +kernel
theorem dX8_cross_67 : decode cX8_cross 67 = .ok (.aload_n 0, 1) := by decide +kernel
theorem dX8_cross_68 : decode cX8_cross 68 = .ok (.iload 4, 2) := by decide +kernel
theorem dX8_cross_70 : decode cX8_cross 70 = .ok (.iload 5, 2) := by decide +kernel
theorem dX8_cross_72 : decode cX8_cross 72 = .ok (.invokevirtual 276, 3) := by decide +kernel
theorem dX8_cross_75 : decode cX8_cross 75 = .ok (.iload_n 3, 1) := by decide +kernel
theorem dX8_cross_76 : decode cX8_cross 76 = .ok (.if_icmp .ge 21, 3) := by decide +kernel
theorem dX8_cross_79 : decode cX8_cross 79 = .ok (.bipush 10, 2) := by decide +kernel
theorem dX8_cross_81 : decode cX8_cross 81 = .ok (.iload 4, 2) := by decide +kernel
theorem dX8_cross_83 : decode cX8_cross 83 = .ok (.imul, 1) := by decide +kernel
theorem dX8_cross_84 : decode cX8_cross 84 = .ok (.iload 5, 2) := by decide +kernel
theorem dX8_cross_86 : decode cX8_cross 86 = .ok (.iadd, 1) := by decide +kernel
theorem dX8_cross_87 : decode cX8_cross 87 = .ok (.istore_n 2, 1) := by decide +kernel
theorem dX8_cross_88 : decode cX8_cross 88 = .ok (.aload_n 0, 1) := by decide +kernel
theorem dX8_cross_89 : decode cX8_cross 89 = .ok (.iload 4, 2) := by decide +kernel
theorem dX8_cross_91 : decode cX8_cross 91 = .ok (.iload 5, 2) := by decide +kernel
theorem dX8_cross_93 : decode cX8_cross 93 = .ok (.invokevirtual 276, 3) := by decide +kernel
theorem dX8_cross_96 : decode cX8_cross 96 = .ok (.istore_n 3, 1) := by decide +kernel
theorem dX8_cross_97 : decode cX8_cross 97 = .ok (.iinc 5 1, 3) := by decide +kernel
theorem dX8_cross_100 : decode cX8_cross 100 = .ok (.goto (-62), 3) := by decide +kernel
theorem dX8_cross_103 : decode cX8_cross 103 = .ok (.iinc 4 1, 3) := by decide +kernel
theorem dX8_cross_106 : decode cX8_cross 106 = .ok (.goto (-81), 3) := by decide +kernel
theorem dX8_cross_109 : decode cX8_cross 109 = .ok (.iload_n 2, 1) := by decide +kernel
theorem dX8_cross_110 : decode cX8_cross 110 = .ok (.ifCond .lt 7, 3) := by decide +kernel
theorem dX8_cross_113 : decode cX8_cross 113 = .ok (.iload_n 1, 1) := by decide +kernel
theorem dX8_cross_114 : decode cX8_cross 114 = .ok (.ifCond .ne 7, 3) := by decide +kernel
theorem dX8_cross_117 : decode cX8_cross 117 = .ok (.iload_n 2, 1) := by decide +kernel
theorem dX8_cross_118 : decode cX8_cross 118 = .ok (.goto 4, 3) := by decide +kernel
theorem dX8_cross_121 : decode cX8_cross 121 = .ok (.iload_n 3, 1) := by decide +kernel
theorem dX8_cross_122 : decode cX8_cross 122 = .ok (.ireturn, 1) := by decide +kernel
theorem dX8_lowest_0 : decode cX8_lowest 0 = .ok (.lload_n 2, 1) := by decide +kernel
theorem dX8_lowest_1 : decode cX8_lowest 1 = .ok (.lstore 5, 2) := by decide +kernel
theorem dX8_lowest_3 : decode cX8_lowest 3 = .ok (.lload_n 0, 1) := by decide +kernel
theorem dX8_lowest_4 : decode cX8_lowest 4 = .ok (.lconst 0, 1) := by decide +kernel
theorem dX8_lowest_5 : decode cX8_lowest 5 = .ok (.lcmp, 1) := by decide +kernel
theorem dX8_lowest_6 : decode cX8_lowest 6 = .ok (.ifCond .ge 8, 3) := by decide +kernel
theorem dX8_lowest_9 : decode cX8_lowest 9 = .ok (.lload_n 0, 1) := by decide +kernel
theorem dX8_lowest_10 : decode cX8_lowest 10 = .ok (.lneg, 1) := by decide +kernel
theorem dX8_lowest_11 : decode cX8_lowest 11 = .ok (.goto 4, 3) := by decide +kernel
theorem dX8_lowest_14 : decode cX8_lowest 14 = .ok (.lload_n 0, 1) := by decide +kernel
theorem dX8_lowest_15 : decode cX8_lowest 15 = .ok (.lstore 7, 2) := by decide +kernel
theorem dX8_lowest_17 : decode cX8_lowest 17 = .ok (.lload 7, 2) := by decide +kernel
theorem dX8_lowest_19 : decode cX8_lowest 19 = .ok (.lconst 0, 1) := by decide +kernel
theorem dX8_lowest_20 : decode cX8_lowest 20 = .ok (.lcmp, 1) := by decide +kernel
theorem dX8_lowest_21 : decode cX8_lowest 21 = .ok (.ifCond .eq 21, 3) := by decide +kernel
theorem dX8_lowest_24 : decode cX8_lowest 24 = .ok (.lload 5, 2) := by decide +kernel
theorem dX8_lowest_26 : decode cX8_lowest 26 = .ok (.lload 7, 2) := by decide +kernel
theorem dX8_lowest_28 : decode cX8_lowest 28 = .ok (.lrem, 1) := by decide +kernel
theorem dX8_lowest_29 : decode cX8_lowest 29 = .ok (.lstore 9, 2) := by decide +kernel
theorem dX8_lowest_31 : decode cX8_lowest 31 = .ok (.lload 7, 2) := by decide +kernel
theorem dX8_lowest_33 : decode cX8_lowest 33 = .ok (.lstore 5, 2) := by decide +kernel
theorem dX8_lowest_35 : decode cX8_lowest 35 = .ok (.lload 9, 2) := by decide +kernel
theorem dX8_lowest_37 : decode cX8_lowest 37 = .ok (.lstore 7, 2) := by decide +kernel
theorem dX8_lowest_39 : decode cX8_lowest 39 = .ok (.goto (-22), 3) := by decide +kernel
theorem dX8_lowest_42 : decode cX8_lowest 42 = .ok (.iload 4, 2) := by decide +kernel
theorem dX8_lowest_44 : decode cX8_lowest 44 = .ok (.ifCond .ne 10, 3) := by decide +kernel
theorem dX8_lowest_47 : decode cX8_lowest 47 = .ok (.lload_n 0, 1) := by decide +kernel
theorem dX8_lowest_48 : decode cX8_lowest 48 = .ok (.lload 5, 2) := by decide +kernel
theorem dX8_lowest_50 : decode cX8_lowest 50 = .ok (.ldiv, 1) := by decide +kernel
theorem dX8_lowest_51 : decode cX8_lowest 51 = .ok (.goto 7, 3) := by decide +kernel
theorem dX8_lowest_54 : decode cX8_lowest 54 = .ok (.lload_n 2, 1) := by decide +kernel
theorem dX8_lowest_55 : decode cX8_lowest 55 = .ok (.lload 5, 2) := by decide +kernel
theorem dX8_lowest_57 : decode cX8_lowest 57 = .ok (.ldiv, 1) := by decide +kernel
theorem dX8_lowest_58 : decode cX8_lowest 58 = .ok (.lreturn, 1) := by decide +kernel
theorem dX8_chance_0 : decode cX8_chance 0 = .ok (.aload_n 0, 1) := by decide +kernel
theorem dX8_chance_1 : decode cX8_chance 1 = .ok (.iload_n 1, 1) := by decide +kernel
theorem dX8_chance_2 : decode cX8_chance 2 = .ok (.iload_n 2, 1) := by decide +kernel
theorem dX8_chance_3 : decode cX8_chance 3 = .ok (.invokevirtual 249, 3) := by decide +kernel
theorem dX8_chance_6 : decode cX8_chance 6 = .ok (.ifCond .ne 7, 3) := by decide +kernel
theorem dX8_chance_9 : decode cX8_chance 9 = .ok (.ldc2_w 279, 3) := by decide +kernel
theorem dX8_chance_12 : decode cX8_chance 12 = .ok (.lreturn, 1) := by decide +kernel
theorem dX8_chance_13 : decode cX8_chance 13 = .ok (.iload_n 3, 1) := by decide +kernel
theorem dX8_chance_14 : decode cX8_chance 14 = .ok (.i2l, 1) := by decide +kernel
theorem dX8_chance_15 : decode cX8_chance 15 = .ok (.lconst 0, 1) := by decide +kernel
theorem dX8_chance_16 : decode cX8_chance 16 = .ok (.ldc2_w 281, 3) := by decide +kernel
theorem dX8_chance_19 : decode cX8_chance 19 = .ok (.invokestatic 77, 3) := by decide +kernel
theorem dX8_chance_22 : decode cX8_chance 22 = .ok (.ifCond .eq 38, 3) := by decide +kernel
theorem dX8_chance_25 : decode cX8_chance 25 = .ok (.iload 4, 2) := by decide +kernel
theorem dX8_chance_27 : decode cX8_chance 27 = .ok (.i2l, 1) := by decide +kernel
theorem dX8_chance_28 : decode cX8_chance 28 = .ok (.lconst 1, 1) := by decide +kernel
theorem dX8_chance_29 : decode cX8_chance 29 = .ok (.ldc2_w 283, 3) := by decide +kernel
theorem dX8_chance_32 : decode cX8_chance 32 = .ok (.invokestatic 77, 3) := by decide +kernel
theorem dX8_chance_35 : decode cX8_chance 35 = .ok (.ifCond .eq 25, 3) := by decide +kernel
theorem dX8_chance_38 : decode cX8_chance 38 = .ok (.iload 5, 2) := by decide +kernel
theorem dX8_chance_40 : decode cX8_chance 40 = .ok (.i2l, 1) := by decide +kernel
theorem dX8_chance_41 : decode cX8_chance 41 = .ok (.lconst 0, 1) := by decide +kernel
theorem dX8_chance_42 : decode cX8_chance 42 = .ok (.lconst 1, 1) := by decide +kernel
theorem dX8_chance_43 : decode cX8_chance 43 = .ok (.invokestatic 77, 3) := by decide +kernel
theorem dX8_chance_46 : decode cX8_chance 46 = .ok (.ifCond .eq 14, 3) := by decide +kernel
theorem dX8_chance_49 : decode cX8_chance 49 = .ok (.iload 6, 2) := by decide +kernel
theorem dX8_chance_51 : decode cX8_chance 51 = .ok (.i2l, 1) := by decide +kernel
theorem dX8_chance_52 : decode cX8_chance 52 = .ok (.lconst 0, 1) := by decide +kernel
theorem dX8_chance_53 : decode cX8_chance 53 = .ok (.lconst 1, 1) := by decide +kernel
theorem dX8_chance_54 : decode cX8_chance 54 = .ok (.invokestatic 77, 3) := by decide +kernel
theorem dX8_chance_57 : decode cX8_chance 57 = .ok (.ifCond .ne 7, 3) := by decide +kernel
theorem dX8_chance_60 : decode cX8_chance 60 = .ok (.ldc2_w 285, 3) := by decide +kernel
theorem dX8_chance_63 : decode cX8_chance 63 = .ok (.lreturn, 1) := by decide +kernel
theorem dX8_chance_64 : decode cX8_chance 64 = .ok (.iload_n 1, 1) := by decide +kernel
theorem dX8_chance_65 : decode cX8_chance 65 = .ok (.iload_n 2, 1) := by decide +kernel
theorem dX8_chance_66 : decode cX8_chance 66 = .ok (.ior, 1) := by decide +kernel
theorem dX8_chance_67 : decode cX8_chance 67 = .ok (.istore 7, 2) := by decide +kernel
theorem dX8_chance_69 : decode cX8_chance 69 = .ok (.lconst 0, 1) := by decide +kernel
theorem dX8_chance_70 : decode cX8_chance 70 = .ok (.lstore 8, 2) := by decide +kernel
theorem dX8_chance_72 : decode cX8_chance 72 = .ok (.lconst 0, 1) := by decide +kernel
theorem dX8_chance_73 : decode cX8_chance 73 = .ok (.lstore 10, 2) := by decide +kernel
theorem dX8_chance_75 : decode cX8_chance 75 = .ok (.iconst 0, 1) := by decide +kernel
theorem dX8_chance_76 : decode cX8_chance 76 = .ok (.istore 12, 2) := by decide +kernel
theorem dX8_chance_78 : decode cX8_chance 78 = .ok (.iload 12, 2) := by decide +kernel
theorem dX8_chance_80 : decode cX8_chance 80 = .ok (.sipush 256, 3) := by decide +kernel
theorem dX8_chance_83 : decode cX8_chance 83 = .ok (.if_icmp .ge 197, 3) := by decide +kernel
theorem dX8_chance_86 : decode cX8_chance 86 = .ok (.iload 12, 2) := by decide +kernel
theorem dX8_chance_88 : decode cX8_chance 88 = .ok (.iload 7, 2) := by decide +kernel
theorem dX8_chance_90 : decode cX8_chance 90 = .ok (.iconst (-1), 1) := by decide +kernel
theorem dX8_chance_91 : decode cX8_chance 91 = .ok (.ixor, 1) := by decide +kernel
theorem dX8_chance_92 : decode cX8_chance 92 = .ok (.iand, 1) := by decide +kernel
theorem dX8_chance_93 : decode cX8_chance 93 = .ok (.ifCond .ne 181, 3) := by decide +kernel
theorem dX8_chance_96 : decode cX8_chance 96 = .ok (.lconst 1, 1) := by decide +kernel
theorem dX8_chance_97 : decode cX8_chance 97 = .ok (.lstore 13, 2) := by decide +kernel
theorem dX8_chance_99 : decode cX8_chance 99 = .ok (.iconst 0, 1) := by decide +kernel
theorem dX8_chance_100 : decode cX8_chance 100 = .ok (.istore 15, 2) := by decide +kernel
theorem dX8_chance_102 : decode cX8_chance 102 = .ok (.iconst 0, 1) := by decide +kernel
theorem dX8_chance_103 : decode cX8_chance 103 = .ok (.istore 16, 2) := by decide +kernel
theorem dX8_chance_105 : decode cX8_chance 105 = .ok (.iload 16, 2) := by decide +kernel
theorem dX8_chance_107 : decode cX8_chance 107 = .ok (.bipush 8, 2) := by decide +kernel
theorem dX8_chance_109 : decode cX8_chance 109 = .ok (.if_icmp .ge 127, 3) := by decide +kernel
theorem dX8_chance_112 : decode cX8_chance 112 = .ok (.iload 12, 2) := by decide +kernel
theorem dX8_chance_114 : decode cX8_chance 114 = .ok (.iload 16, 2) := by decide +kernel
theorem dX8_chance_116 : decode cX8_chance 116 = .ok (.ishr, 1) := by decide +kernel
theorem dX8_chance_117 : decode cX8_chance 117 = .ok (.iconst 1, 1) := by decide +kernel
theorem dX8_chance_118 : decode cX8_chance 118 = .ok (.iand, 1) := by decide +kernel
theorem dX8_chance_119 : decode cX8_chance 119 = .ok (.iconst 1, 1) := by decide +kernel
theorem dX8_chance_120 : decode cX8_chance 120 = .ok (.if_icmp .ne 7, 3) := by decide +kernel
theorem dX8_chance_123 : decode cX8_chance 123 = .ok (.iconst 1, 1) := by decide +kernel
theorem dX8_chance_124 : decode cX8_chance 124 = .ok (.goto 4, 3) := by decide +kernel
theorem dX8_chance_127 : decode cX8_chance 127 = .ok (.iconst 0, 1) := by decide +kernel
theorem dX8_chance_128 : decode cX8_chance 128 = .ok (.istore 17, 2) := by decide +kernel
theorem dX8_chance_130 : decode cX8_chance 130 = .ok (.iload 7, 2) := by decide +kernel
theorem dX8_chance_132 : decode cX8_chance 132 = .ok (.iload 16, 2) := by decide +kernel
theorem dX8_chance_134 : decode cX8_chance 134 = .ok (.ishr, 1) := by decide +kernel
theorem dX8_chance_135 : decode cX8_chance 135 = .ok (.iconst 1, 1) := by decide +kernel
theorem dX8_chance_136 : decode cX8_chance 136 = .ok (.iand, 1) := by decide +kernel
theorem dX8_chance_137 : decode cX8_chance 137 = .ok (.iconst 1, 1) := by decide +kernel
theorem dX8_chance_138 : decode cX8_chance 138 = .ok (.if_icmp .ne 7, 3) := by decide +kernel
theorem dX8_chance_141 : decode cX8_chance 141 = .ok (.iconst 1, 1) := by decide +kernel
theorem dX8_chance_142 : decode cX8_chance 142 = .ok (.goto 4, 3) := by decide +kernel
theorem dX8_chance_145 : decode cX8_chance 145 = .ok (.iconst 0, 1) := by decide +kernel
theorem dX8_chance_146 : decode cX8_chance 146 = .ok (.istore 18, 2) := by decide +kernel
theorem dX8_chance_148 : decode cX8_chance 148 = .ok (.aload_n 0, 1) := by decide +kernel
theorem dX8_chance_149 : decode cX8_chance 149 = .ok (.getfield 13, 3) := by decide +kernel
theorem dX8_chance_152 : decode cX8_chance 152 = .ok (.iload 16, 2) := by decide +kernel
theorem dX8_chance_154 : decode cX8_chance 154 = .ok (.iaload, 1) := by decide +kernel
theorem dX8_chance_155 : decode cX8_chance 155 = .ok (.iload 17, 2) := by decide +kernel
theorem dX8_chance_157 : decode cX8_chance 157 = .ok (.ifCond .eq 8, 3) := by decide +kernel
theorem dX8_chance_160 : decode cX8_chance 160 = .ok (.iload 4, 2) := by decide +kernel
theorem dX8_chance_162 : decode cX8_chance 162 = .ok (.goto 4, 3) := by decide +kernel
theorem dX8_chance_165 : decode cX8_chance 165 = .ok (.iconst 0, 1) := by decide +kernel
theorem dX8_chance_166 : decode cX8_chance 166 = .ok (.iadd, 1) := by decide +kernel
theorem dX8_chance_167 : decode cX8_chance 167 = .ok (.istore 19, 2) := by decide +kernel
theorem dX8_chance_169 : decode cX8_chance 169 = .ok (.lload 13, 2) := by decide +kernel
theorem dX8_chance_171 : decode cX8_chance 171 = .ok (.iload 18, 2) := by decide +kernel
theorem dX8_chance_173 : decode cX8_chance 173 = .ok (.ifCond .ne 7, 3) := by decide +kernel
theorem dX8_chance_176 : decode cX8_chance 176 = .ok (.lconst 1, 1) := by decide +kernel
theorem dX8_chance_177 : decode cX8_chance 177 = .ok (.goto 18, 3) := by decide +kernel
theorem dX8_chance_180 : decode cX8_chance 180 = .ok (.iload 17, 2) := by decide +kernel
theorem dX8_chance_182 : decode cX8_chance 182 = .ok (.ifCond .eq 8, 3) := by decide +kernel
theorem dX8_chance_185 : decode cX8_chance 185 = .ok (.iload_n 3, 1) := by decide +kernel
theorem dX8_chance_186 : decode cX8_chance 186 = .ok (.i2l, 1) := by decide +kernel
theorem dX8_chance_187 : decode cX8_chance 187 = .ok (.goto 8, 3) := by decide +kernel
theorem dX8_chance_190 : decode cX8_chance 190 = .ok (.bipush 10, 2) := by decide +kernel
theorem dX8_chance_192 : decode cX8_chance 192 = .ok (.iload_n 3, 1) := by decide +kernel
theorem dX8_chance_193 : decode cX8_chance 193 = .ok (.isub, 1) := by decide +kernel
theorem dX8_chance_194 : decode cX8_chance 194 = .ok (.i2l, 1) := by decide +kernel
theorem dX8_chance_195 : decode cX8_chance 195 = .ok (.lmul, 1) := by decide +kernel
theorem dX8_chance_196 : decode cX8_chance 196 = .ok (.lstore 13, 2) := by decide +kernel
theorem dX8_chance_198 : decode cX8_chance 198 = .ok (.iload 15, 2) := by decide +kernel
theorem dX8_chance_200 : decode cX8_chance 200 = .ok (.iload 18, 2) := by decide +kernel
theorem dX8_chance_202 : decode cX8_chance 202 = .ok (.ifCond .ne 7, 3) := by decide +kernel
theorem dX8_chance_205 : decode cX8_chance 205 = .ok (.iconst 0, 1) := by decide +kernel
theorem dX8_chance_206 : decode cX8_chance 206 = .ok (.goto 21, 3) := by decide +kernel
theorem dX8_chance_209 : decode cX8_chance 209 = .ok (.iload_n 1, 1) := by decide +kernel
theorem dX8_chance_210 : decode cX8_chance 210 = .ok (.iload 16, 2) := by decide +kernel
theorem dX8_chance_212 : decode cX8_chance 212 = .ok (.ishr, 1) := by decide +kernel
theorem dX8_chance_213 : decode cX8_chance 213 = .ok (.iconst 1, 1) := by decide +kernel
theorem dX8_chance_214 : decode cX8_chance 214 = .ok (.iand, 1) := by decide +kernel
theorem dX8_chance_215 : decode cX8_chance 215 = .ok (.iconst 1, 1) := by decide +kernel
theorem dX8_chance_216 : decode cX8_chance 216 = .ok (.if_icmp .ne 8, 3) := by decide +kernel
theorem dX8_chance_219 : decode cX8_chance 219 = .ok (.iload 19, 2) := by decide +kernel
theorem dX8_chance_221 : decode cX8_chance 221 = .ok (.goto 6, 3) := by decide +kernel
theorem dX8_chance_224 : decode cX8_chance 224 = .ok (.iload 19, 2) := by decide +kernel
theorem dX8_chance_226 : decode cX8_chance 226 = .ok (.ineg, 1) := by decide +kernel
theorem dX8_chance_227 : decode cX8_chance 227 = .ok (.iadd, 1) := by decide +kernel
theorem dX8_chance_228 : decode cX8_chance 228 = .ok (.istore 15, 2) := by decide +kernel
theorem dX8_chance_230 : decode cX8_chance 230 = .ok (.iinc 16 1, 3) := by decide +kernel
theorem dX8_chance_233 : decode cX8_chance 233 = .ok (.goto (-128), 3) := by decide +kernel
theorem dX8_chance_236 : decode cX8_chance 236 = .ok (.lload 10, 2) := by decide +kernel
theorem dX8_chance_238 : decode cX8_chance 238 = .ok (.lload 13, 2) := by decide +kernel
theorem dX8_chance_240 : decode cX8_chance 240 = .ok (.ladd, 1) := by decide +kernel
theorem dX8_chance_241 : decode cX8_chance 241 = .ok (.lstore 10, 2) := by decide +kernel
theorem dX8_chance_243 : decode cX8_chance 243 = .ok (.lload 8, 2) := by decide +kernel
theorem dX8_chance_245 : decode cX8_chance 245 = .ok (.iload 5, 2) := by decide +kernel
theorem dX8_chance_247 : decode cX8_chance 247 = .ok (.iconst 1, 1) := by decide +kernel
theorem dX8_chance_248 : decode cX8_chance 248 = .ok (.if_icmp .ne 12, 3) := by decide +kernel
theorem dX8_chance_251 : decode cX8_chance 251 = .ok (.lload 13, 2) := by decide +kernel
theorem dX8_chance_253 : decode cX8_chance 253 = .ok (.iload 15, 2) := by decide +kernel
theorem dX8_chance_255 : decode cX8_chance 255 = .ok (.i2l, 1) := by decide +kernel
theorem dX8_chance_256 : decode cX8_chance 256 = .ok (.lmul, 1) := by decide +kernel
theorem dX8_chance_257 : decode cX8_chance 257 = .ok (.goto 14, 3) := by decide +kernel
theorem dX8_chance_260 : decode cX8_chance 260 = .ok (.iload 15, 2) := by decide +kernel
theorem dX8_chance_262 : decode cX8_chance 262 = .ok (.ifCond .le 8, 3) := by decide +kernel
theorem dX8_chance_265 : decode cX8_chance 265 = .ok (.lload 13, 2) := by decide +kernel
theorem dX8_chance_267 : decode cX8_chance 267 = .ok (.goto 4, 3) := by decide +kernel
theorem dX8_chance_270 : decode cX8_chance 270 = .ok (.lconst 0, 1) := by decide +kernel
theorem dX8_chance_271 : decode cX8_chance 271 = .ok (.ladd, 1) := by decide +kernel
theorem dX8_chance_272 : decode cX8_chance 272 = .ok (.lstore 8, 2) := by decide +kernel
theorem dX8_chance_274 : decode cX8_chance 274 = .ok (.iinc 12 1, 3) := by decide +kernel
theorem dX8_chance_277 : decode cX8_chance 277 = .ok (.goto (-199), 3) := by decide +kernel
theorem dX8_chance_280 : decode cX8_chance 280 = .ok (.lload 8, 2) := by decide +kernel
theorem dX8_chance_282 : decode cX8_chance 282 = .ok (.lload 10, 2) := by decide +kernel
theorem dX8_chance_284 : decode cX8_chance 284 = .ok (.iload 6, 2) := by decide +kernel
theorem dX8_chance_286 : decode cX8_chance 286 = .ok (.invokestatic 287, 3) := by decide +kernel
theorem dX8_chance_289 : decode cX8_chance 289 = .ok (.lreturn, 1) := by decide +kernel
theorem dX8_year_0 : decode cX8_year 0 = .ok (.iload_n 1, 1) := by decide +kernel
theorem dX8_year_1 : decode cX8_year 1 = .ok (.i2l, 1) := by decide +kernel
theorem dX8_year_2 : decode cX8_year 2 = .ok (.lconst 0, 1) := by decide +kernel
theorem dX8_year_3 : decode cX8_year 3 = .ok (.ldc2_w 291, 3) := by decide +kernel
theorem dX8_year_6 : decode cX8_year 6 = .ok (.invokestatic 77, 3) := by decide +kernel
theorem dX8_year_9 : decode cX8_year 9 = .ok (.ifCond .eq 27, 3) := by decide +kernel
theorem dX8_year_12 : decode cX8_year 12 = .ok (.iload_n 2, 1) := by decide +kernel
theorem dX8_year_13 : decode cX8_year 13 = .ok (.i2l, 1) := by decide +kernel
theorem dX8_year_14 : decode cX8_year 14 = .ok (.lconst 1, 1) := by decide +kernel
theorem dX8_year_15 : decode cX8_year 15 = .ok (.ldc2_w 115, 3) := by decide +kernel
theorem dX8_year_18 : decode cX8_year 18 = .ok (.invokestatic 77, 3) := by decide +kernel
theorem dX8_year_21 : decode cX8_year 21 = .ok (.ifCond .eq 15, 3) := by decide +kernel
theorem dX8_year_24 : decode cX8_year 24 = .ok (.iload_n 3, 1) := by decide +kernel
theorem dX8_year_25 : decode cX8_year 25 = .ok (.i2l, 1) := by decide +kernel
theorem dX8_year_26 : decode cX8_year 26 = .ok (.lconst 0, 1) := by decide +kernel
theorem dX8_year_27 : decode cX8_year 27 = .ok (.ldc2_w 230, 3) := by decide +kernel
theorem dX8_year_30 : decode cX8_year 30 = .ok (.invokestatic 77, 3) := by decide +kernel
theorem dX8_year_33 : decode cX8_year 33 = .ok (.ifCond .ne 6, 3) := by decide +kernel
theorem dX8_year_36 : decode cX8_year 36 = .ok (.bipush (-2), 2) := by decide +kernel
theorem dX8_year_38 : decode cX8_year 38 = .ok (.ireturn, 1) := by decide +kernel
theorem dX8_year_39 : decode cX8_year 39 = .ok (.aload_n 0, 1) := by decide +kernel
theorem dX8_year_40 : decode cX8_year 40 = .ok (.invokevirtual 213, 3) := by decide +kernel
theorem dX8_year_43 : decode cX8_year 43 = .ok (.iload_n 1, 1) := by decide +kernel
theorem dX8_year_44 : decode cX8_year 44 = .ok (.istore 4, 2) := by decide +kernel
theorem dX8_year_46 : decode cX8_year 46 = .ok (.iconst 0, 1) := by decide +kernel
theorem dX8_year_47 : decode cX8_year 47 = .ok (.istore 5, 2) := by decide +kernel
theorem dX8_year_49 : decode cX8_year 49 = .ok (.iconst 0, 1) := by decide +kernel
theorem dX8_year_50 : decode cX8_year 50 = .ok (.istore 6, 2) := by decide +kernel
theorem dX8_year_52 : decode cX8_year 52 = .ok (.iconst 0, 1) := by decide +kernel
theorem dX8_year_53 : decode cX8_year 53 = .ok (.istore 7, 2) := by decide +kernel
theorem dX8_year_55 : decode cX8_year 55 = .ok (.iconst 0, 1) := by decide +kernel
theorem dX8_year_56 : decode cX8_year 56 = .ok (.istore 8, 2) := by decide +kernel
theorem dX8_year_58 : decode cX8_year 58 = .ok (.iload 8, 2) := by decide +kernel
theorem dX8_year_60 : decode cX8_year 60 = .ok (.iload_n 2, 1) := by decide +kernel
theorem dX8_year_61 : decode cX8_year 61 = .ok (.if_icmp .ge 143, 3) := by decide +kernel
theorem dX8_year_64 : decode cX8_year 64 = .ok (.ldc2_w 293, 3) := by decide +kernel
theorem dX8_year_67 : decode cX8_year 67 = .ok (.iload 4, 2) := by decide +kernel
theorem dX8_year_69 : decode cX8_year 69 = .ok (.i2l, 1) := by decide +kernel
theorem dX8_year_70 : decode cX8_year 70 = .ok (.lmul, 1) := by decide +kernel
theorem dX8_year_71 : decode cX8_year 71 = .ok (.ldc2_w 295, 3) := by decide +kernel
theorem dX8_year_74 : decode cX8_year 74 = .ok (.ladd, 1) := by decide +kernel
theorem dX8_year_75 : decode cX8_year 75 = .ok (.ldc2_w 297, 3) := by decide +kernel
theorem dX8_year_78 : decode cX8_year 78 = .ok (.lrem, 1) := by decide +kernel
theorem dX8_year_79 : decode cX8_year 79 = .ok (.l2i, 1) := by decide +kernel
theorem dX8_year_80 : decode cX8_year 80 = .ok (.istore 4, 2) := by decide +kernel
theorem dX8_year_82 : decode cX8_year 82 = .ok (.iload 4, 2) := by decide +kernel
theorem dX8_year_84 : decode cX8_year 84 = .ok (.bipush 8, 2) := by decide +kernel
theorem dX8_year_86 : decode cX8_year 86 = .ok (.idiv, 1) := by decide +kernel
theorem dX8_year_87 : decode cX8_year 87 = .ok (.iconst 2, 1) := by decide +kernel
theorem dX8_year_88 : decode cX8_year 88 = .ok (.irem, 1) := by decide +kernel
theorem dX8_year_89 : decode cX8_year 89 = .ok (.iconst 1, 1) := by decide +kernel
theorem dX8_year_90 : decode cX8_year 90 = .ok (.if_icmp .ne 7, 3) := by decide +kernel
theorem dX8_year_93 : decode cX8_year 93 = .ok (.aload_n 0, 1) := by decide +kernel
theorem dX8_year_94 : decode cX8_year 94 = .ok (.invokevirtual 186, 3) := by decide +kernel
theorem dX8_year_97 : decode cX8_year 97 = .ok (.iload 4, 2) := by decide +kernel
theorem dX8_year_99 : decode cX8_year 99 = .ok (.bipush 8, 2) := by decide +kernel
theorem dX8_year_101 : decode cX8_year 101 = .ok (.irem, 1) := by decide +kernel
theorem dX8_year_102 : decode cX8_year 102 = .ok (.istore 9, 2) := by decide +kernel
theorem dX8_year_104 : decode cX8_year 104 = .ok (.aload_n 0, 1) := by decide +kernel
theorem dX8_year_105 : decode cX8_year 105 = .ok (.iload 9, 2) := by decide +kernel
theorem dX8_year_107 : decode cX8_year 107 = .ok (.invokevirtual 84, 3) := by decide +kernel
theorem dX8_year_110 : decode cX8_year 110 = .ok (.ifCond .eq 88, 3) := by decide +kernel
theorem dX8_year_113 : decode cX8_year 113 = .ok (.iconst 1, 1) := by decide +kernel
theorem dX8_year_114 : decode cX8_year 114 = .ok (.iload 9, 2) := by decide +kernel
theorem dX8_year_116 : decode cX8_year 116 = .ok (.ishl, 1) := by decide +kernel
theorem dX8_year_117 : decode cX8_year 117 = .ok (.aload_n 0, 1) := by decide +kernel
theorem dX8_year_118 : decode cX8_year 118 = .ok (.getfield 19, 3) := by decide +kernel
theorem dX8_year_121 : decode cX8_year 121 = .ok (.iload 9, 2) := by decide +kernel
theorem dX8_year_123 : decode cX8_year 123 = .ok (.iaload, 1) := by decide +kernel
theorem dX8_year_124 : decode cX8_year 124 = .ok (.ifCond .ge 7, 3) := by decide +kernel
theorem dX8_year_127 : decode cX8_year 127 = .ok (.iconst 0, 1) := by decide +kernel
theorem dX8_year_128 : decode cX8_year 128 = .ok (.goto 12, 3) := by decide +kernel
theorem dX8_year_131 : decode cX8_year 131 = .ok (.iconst 1, 1) := by decide +kernel
theorem dX8_year_132 : decode cX8_year 132 = .ok (.aload_n 0, 1) := by decide +kernel
theorem dX8_year_133 : decode cX8_year 133 = .ok (.getfield 19, 3) := by decide +kernel
theorem dX8_year_136 : decode cX8_year 136 = .ok (.iload 9, 2) := by decide +kernel
theorem dX8_year_138 : decode cX8_year 138 = .ok (.iaload, 1) := by decide +kernel
theorem dX8_year_139 : decode cX8_year 139 = .ok (.ishl, 1) := by decide +kernel
theorem dX8_year_140 : decode cX8_year 140 = .ok (.ior, 1) := by decide +kernel
theorem dX8_year_141 : decode cX8_year 141 = .ok (.istore 10, 2) := by decide +kernel
theorem dX8_year_143 : decode cX8_year 143 = .ok (.iload 5, 2) := by decide +kernel
theorem dX8_year_145 : decode cX8_year 145 = .ok (.aload_n 0, 1) := by decide +kernel
theorem dX8_year_146 : decode cX8_year 146 = .ok (.iload 10, 2) := by decide +kernel
theorem dX8_year_148 : decode cX8_year 148 = .ok (.invokevirtual 156, 3) := by decide +kernel
theorem dX8_year_151 : decode cX8_year 151 = .ok (.iadd, 1) := by decide +kernel
theorem dX8_year_152 : decode cX8_year 152 = .ok (.istore 5, 2) := by decide +kernel
theorem dX8_year_154 : decode cX8_year 154 = .ok (.iload 6, 2) := by decide +kernel
theorem dX8_year_156 : decode cX8_year 156 = .ok (.aload_n 0, 1) := by decide +kernel
theorem dX8_year_157 : decode cX8_year 157 = .ok (.iload 10, 2) := by decide +kernel
theorem dX8_year_159 : decode cX8_year 159 = .ok (.invokevirtual 165, 3) := by decide +kernel
theorem dX8_year_162 : decode cX8_year 162 = .ok (.iadd, 1) := by decide +kernel
theorem dX8_year_163 : decode cX8_year 163 = .ok (.istore 6, 2) := by decide +kernel
theorem dX8_year_165 : decode cX8_year 165 = .ok (.iload 7, 2) := by decide +kernel
theorem dX8_year_167 : decode cX8_year 167 = .ok (.aload_n 0, 1) := by decide +kernel
theorem dX8_year_168 : decode cX8_year 168 = .ok (.iload 10, 2) := by decide +kernel
theorem dX8_year_170 : decode cX8_year 170 = .ok (.invokevirtual 156, 3) := by decide +kernel
theorem dX8_year_173 : decode cX8_year 173 = .ok (.aload_n 0, 1) := by decide +kernel
theorem dX8_year_174 : decode cX8_year 174 = .ok (.iload 10, 2) := by decide +kernel
theorem dX8_year_176 : decode cX8_year 176 = .ok (.invokevirtual 165, 3) := by decide +kernel
theorem dX8_year_179 : decode cX8_year 179 = .ok (.isub, 1) := by decide +kernel
theorem dX8_year_180 : decode cX8_year 180 = .ok (.invokestatic 180, 3) := by decide +kernel
theorem dX8_year_183 : decode cX8_year 183 = .ok (.aload_n 0, 1) := by decide +kernel
theorem dX8_year_184 : decode cX8_year 184 = .ok (.getfield 71, 3) := by decide +kernel
theorem dX8_year_187 : decode cX8_year 187 = .ok (.if_icmp .le 7, 3) := by decide +kernel
theorem dX8_year_190 : decode cX8_year 190 = .ok (.iconst 1, 1) := by decide +kernel
theorem dX8_year_191 : decode cX8_year 191 = .ok (.goto 4, 3) := by decide +kernel
theorem dX8_year_194 : decode cX8_year 194 = .ok (.iconst 0, 1) := by decide +kernel
theorem dX8_year_195 : decode cX8_year 195 = .ok (.iadd, 1) := by decide +kernel
theorem dX8_year_196 : decode cX8_year 196 = .ok (.istore 7, 2) := by decide +kernel
theorem dX8_year_198 : decode cX8_year 198 = .ok (.iinc 8 1, 3) := by decide +kernel
theorem dX8_year_201 : decode cX8_year 201 = .ok (.goto (-143), 3) := by decide +kernel
theorem dX8_year_204 : decode cX8_year 204 = .ok (.aload_n 0, 1) := by decide +kernel
theorem dX8_year_205 : decode cX8_year 205 = .ok (.invokevirtual 222, 3) := by decide +kernel
theorem dX8_year_208 : decode cX8_year 208 = .ok (.iload_n 3, 1) := by decide +kernel
theorem dX8_year_209 : decode cX8_year 209 = .ok (.ifCond .ne 8, 3) := by decide +kernel
theorem dX8_year_212 : decode cX8_year 212 = .ok (.iload 5, 2) := by decide +kernel
theorem dX8_year_214 : decode cX8_year 214 = .ok (.goto 15, 3) := by decide +kernel
theorem dX8_year_217 : decode cX8_year 217 = .ok (.iload_n 3, 1) := by decide +kernel
theorem dX8_year_218 : decode cX8_year 218 = .ok (.iconst 1, 1) := by decide +kernel
theorem dX8_year_219 : decode cX8_year 219 = .ok (.if_icmp .ne 8, 3) := by decide +kernel
theorem dX8_year_222 : decode cX8_year 222 = .ok (.iload 6, 2) := by decide +kernel
theorem dX8_year_224 : decode cX8_year 224 = .ok (.goto 5, 3) := by decide +kernel
theorem dX8_year_227 : decode cX8_year 227 = .ok (.iload 7, 2) := by decide +kernel
theorem dX8_year_229 : decode cX8_year 229 = .ok (.ireturn, 1) := by decide +kernel
theorem dX8_pass_0 : decode cX8_pass 0 = .ok (.aload_n 0, 1) := by decide +kernel
theorem dX8_pass_1 : decode cX8_pass 1 = .ok (.getfield 299, 3) := by decide +kernel
theorem dX8_pass_4 : decode cX8_pass 4 = .ok (.ifCond .eq 7, 3) := by decide +kernel
theorem dX8_pass_7 : decode cX8_pass 7 = .ok (.iload_n 1, 1) := by decide +kernel
theorem dX8_pass_8 : decode cX8_pass 8 = .ok (.goto 12, 3) := by decide +kernel
theorem dX8_pass_11 : decode cX8_pass 11 = .ok (.aload_n 0, 1) := by decide +kernel
theorem dX8_pass_12 : decode cX8_pass 12 = .ok (.getfield 65, 3) := by decide +kernel
theorem dX8_pass_15 : decode cX8_pass 15 = .ok (.aload_n 0, 1) := by decide +kernel
theorem dX8_pass_16 : decode cX8_pass 16 = .ok (.getfield 303, 3) := by decide +kernel
theorem dX8_pass_19 : decode cX8_pass 19 = .ok (.iaload, 1) := by decide +kernel
theorem dX8_pass_20 : decode cX8_pass 20 = .ok (.istore_n 2, 1) := by decide +kernel
theorem dX8_pass_21 : decode cX8_pass 21 = .ok (.aload_n 0, 1) := by decide +kernel
theorem dX8_pass_22 : decode cX8_pass 22 = .ok (.getfield 65, 3) := by decide +kernel
theorem dX8_pass_25 : decode cX8_pass 25 = .ok (.aload_n 0, 1) := by decide +kernel
theorem dX8_pass_26 : decode cX8_pass 26 = .ok (.getfield 303, 3) := by decide +kernel
theorem dX8_pass_29 : decode cX8_pass 29 = .ok (.iload_n 2, 1) := by decide +kernel
theorem dX8_pass_30 : decode cX8_pass 30 = .ok (.iastore, 1) := by decide +kernel
theorem dX8_pass_31 : decode cX8_pass 31 = .ok (.aload_n 0, 1) := by decide +kernel
theorem dX8_pass_32 : decode cX8_pass 32 = .ok (.dup, 1) := by decide +kernel
theorem dX8_pass_33 : decode cX8_pass 33 = .ok (.getfield 303, 3) := by decide +kernel
theorem dX8_pass_36 : decode cX8_pass 36 = .ok (.iconst 1, 1) := by decide +kernel
theorem dX8_pass_37 : decode cX8_pass 37 = .ok (.iadd, 1) := by decide +kernel
theorem dX8_pass_38 : decode cX8_pass 38 = .ok (.putfield 303, 3) := by decide +kernel
theorem dX8_pass_41 : decode cX8_pass 41 = .ok (.iload_n 2, 1) := by decide +kernel
theorem dX8_pass_42 : decode cX8_pass 42 = .ok (.ireturn, 1) := by decide +kernel
theorem dX8_passAll_0 : decode cX8_passAll 0 = .ok (.aload_n 0, 1) := by decide +kernel
theorem dX8_passAll_1 : decode cX8_passAll 1 = .ok (.aload_n 0, 1) := by decide +kernel
theorem dX8_passAll_2 : decode cX8_passAll 2 = .ok (.aload_n 0, 1) := by decide +kernel
theorem dX8_passAll_3 : decode cX8_passAll 3 = .ok (.getfield 81, 3) := by decide +kernel
theorem dX8_passAll_6 : decode cX8_passAll 6 = .ok (.invokevirtual 306, 3) := by decide +kernel
theorem dX8_passAll_9 : decode cX8_passAll 9 = .ok (.putfield 81, 3) := by decide +kernel
theorem dX8_passAll_12 : decode cX8_passAll 12 = .ok (.aload_n 0, 1) := by decide +kernel
theorem dX8_passAll_13 : decode cX8_passAll 13 = .ok (.aload_n 0, 1) := by decide +kernel
theorem dX8_passAll_14 : decode cX8_passAll 14 = .ok (.aload_n 0, 1) := by decide +kernel
theorem dX8_passAll_15 : decode cX8_passAll 15 = .ok (.getfield 88, 3) := by decide +kernel
theorem dX8_passAll_18 : decode cX8_passAll 18 = .ok (.invokevirtual 306, 3) := by decide +kernel
theorem dX8_passAll_21 : decode cX8_passAll 21 = .ok (.putfield 88, 3) := by decide +kernel
theorem dX8_passAll_24 : decode cX8_passAll 24 = .ok (.aload_n 0, 1) := by decide +kernel
theorem dX8_passAll_25 : decode cX8_passAll 25 = .ok (.aload_n 0, 1) := by decide +kernel
theorem dX8_passAll_26 : decode cX8_passAll 26 = .ok (.aload_n 0, 1) := by decide +kernel
theorem dX8_passAll_27 : decode cX8_passAll 27 = .ok (.getfield 71, 3) := by decide +kernel
theorem dX8_passAll_30 : decode cX8_passAll 30 = .ok (.invokevirtual 306, 3) := by decide +kernel
theorem dX8_passAll_33 : decode cX8_passAll 33 = .ok (.putfield 71, 3) := by decide +kernel
theorem dX8_passAll_36 : decode cX8_passAll 36 = .ok (.aload_n 0, 1) := by decide +kernel
theorem dX8_passAll_37 : decode cX8_passAll 37 = .ok (.aload_n 0, 1) := by decide +kernel
theorem dX8_passAll_38 : decode cX8_passAll 38 = .ok (.aload_n 0, 1) := by decide +kernel
theorem dX8_passAll_39 : decode cX8_passAll 39 = .ok (.getfield 162, 3) := by decide +kernel
theorem dX8_passAll_42 : decode cX8_passAll 42 = .ok (.invokevirtual 306, 3) := by decide +kernel
theorem dX8_passAll_45 : decode cX8_passAll 45 = .ok (.putfield 162, 3) := by decide +kernel
theorem dX8_passAll_48 : decode cX8_passAll 48 = .ok (.aload_n 0, 1) := by decide +kernel
theorem dX8_passAll_49 : decode cX8_passAll 49 = .ok (.aload_n 0, 1) := by decide +kernel
theorem dX8_passAll_50 : decode cX8_passAll 50 = .ok (.aload_n 0, 1) := by decide +kernel
theorem dX8_passAll_51 : decode cX8_passAll 51 = .ok (.getfield 252, 3) := by decide +kernel
theorem dX8_passAll_54 : decode cX8_passAll 54 = .ok (.invokevirtual 306, 3) := by decide +kernel
theorem dX8_passAll_57 : decode cX8_passAll 57 = .ok (.putfield 252, 3) := by decide +kernel
theorem dX8_passAll_60 : decode cX8_passAll 60 = .ok (.iconst 0, 1) := by decide +kernel
theorem dX8_passAll_61 : decode cX8_passAll 61 = .ok (.istore_n 1, 1) := by decide +kernel
theorem dX8_passAll_62 : decode cX8_passAll 62 = .ok (.iload_n 1, 1) := by decide +kernel
theorem dX8_passAll_63 : decode cX8_passAll 63 = .ok (.bipush 8, 2) := by decide +kernel
theorem dX8_passAll_65 : decode cX8_passAll 65 = .ok (.if_icmp .ge 121, 3) := by decide +kernel
theorem dX8_passAll_68 : decode cX8_passAll 68 = .ok (.aload_n 0, 1) := by decide +kernel
theorem dX8_passAll_69 : decode cX8_passAll 69 = .ok (.getfield 7, 3) := by decide +kernel
theorem dX8_passAll_72 : decode cX8_passAll 72 = .ok (.iload_n 1, 1) := by decide +kernel
theorem dX8_passAll_73 : decode cX8_passAll 73 = .ok (.aload_n 0, 1) := by decide +kernel
theorem dX8_passAll_74 : decode cX8_passAll 74 = .ok (.aload_n 0, 1) := by decide +kernel
theorem dX8_passAll_75 : decode cX8_passAll 75 = .ok (.getfield 7, 3) := by decide +kernel
theorem dX8_passAll_78 : decode cX8_passAll 78 = .ok (.iload_n 1, 1) := by decide +kernel
theorem dX8_passAll_79 : decode cX8_passAll 79 = .ok (.iaload, 1) := by decide +kernel
theorem dX8_passAll_80 : decode cX8_passAll 80 = .ok (.invokevirtual 306, 3) := by decide +kernel
theorem dX8_passAll_83 : decode cX8_passAll 83 = .ok (.iastore, 1) := by decide +kernel
theorem dX8_passAll_84 : decode cX8_passAll 84 = .ok (.aload_n 0, 1) := by decide +kernel
theorem dX8_passAll_85 : decode cX8_passAll 85 = .ok (.getfield 13, 3) := by decide +kernel
theorem dX8_passAll_88 : decode cX8_passAll 88 = .ok (.iload_n 1, 1) := by decide +kernel
theorem dX8_passAll_89 : decode cX8_passAll 89 = .ok (.aload_n 0, 1) := by decide +kernel
theorem dX8_passAll_90 : decode cX8_passAll 90 = .ok (.aload_n 0, 1) := by decide +kernel
theorem dX8_passAll_91 : decode cX8_passAll 91 = .ok (.getfield 13, 3) := by decide +kernel
theorem dX8_passAll_94 : decode cX8_passAll 94 = .ok (.iload_n 1, 1) := by decide +kernel
theorem dX8_passAll_95 : decode cX8_passAll 95 = .ok (.iaload, 1) := by decide +kernel
theorem dX8_passAll_96 : decode cX8_passAll 96 = .ok (.invokevirtual 306, 3) := by decide +kernel
theorem dX8_passAll_99 : decode cX8_passAll 99 = .ok (.iastore, 1) := by decide +kernel
theorem dX8_passAll_100 : decode cX8_passAll 100 = .ok (.aload_n 0, 1) := by decide +kernel
theorem dX8_passAll_101 : decode cX8_passAll 101 = .ok (.getfield 16, 3) := by decide +kernel
theorem dX8_passAll_104 : decode cX8_passAll 104 = .ok (.iload_n 1, 1) := by decide +kernel
theorem dX8_passAll_105 : decode cX8_passAll 105 = .ok (.aload_n 0, 1) := by decide +kernel
theorem dX8_passAll_106 : decode cX8_passAll 106 = .ok (.aload_n 0, 1) := by decide +kernel
theorem dX8_passAll_107 : decode cX8_passAll 107 = .ok (.getfield 16, 3) := by decide +kernel
theorem dX8_passAll_110 : decode cX8_passAll 110 = .ok (.iload_n 1, 1) := by decide +kernel
theorem dX8_passAll_111 : decode cX8_passAll 111 = .ok (.iaload, 1) := by decide +kernel
theorem dX8_passAll_112 : decode cX8_passAll 112 = .ok (.invokevirtual 306, 3) := by decide +kernel
theorem dX8_passAll_115 : decode cX8_passAll 115 = .ok (.iastore, 1) := by decide +kernel
theorem dX8_passAll_116 : decode cX8_passAll 116 = .ok (.aload_n 0, 1) := by decide +kernel
theorem dX8_passAll_117 : decode cX8_passAll 117 = .ok (.getfield 19, 3) := by decide +kernel
theorem dX8_passAll_120 : decode cX8_passAll 120 = .ok (.iload_n 1, 1) := by decide +kernel
theorem dX8_passAll_121 : decode cX8_passAll 121 = .ok (.aload_n 0, 1) := by decide +kernel
theorem dX8_passAll_122 : decode cX8_passAll 122 = .ok (.aload_n 0, 1) := by decide +kernel
theorem dX8_passAll_123 : decode cX8_passAll 123 = .ok (.getfield 19, 3) := by decide +kernel
theorem dX8_passAll_126 : decode cX8_passAll 126 = .ok (.iload_n 1, 1) := by decide +kernel
theorem dX8_passAll_127 : decode cX8_passAll 127 = .ok (.iaload, 1) := by decide +kernel
theorem dX8_passAll_128 : decode cX8_passAll 128 = .ok (.invokevirtual 306, 3) := by decide +kernel
theorem dX8_passAll_131 : decode cX8_passAll 131 = .ok (.iastore, 1) := by decide +kernel
theorem dX8_passAll_132 : decode cX8_passAll 132 = .ok (.aload_n 0, 1) := by decide +kernel
theorem dX8_passAll_133 : decode cX8_passAll 133 = .ok (.getfield 22, 3) := by decide +kernel
theorem dX8_passAll_136 : decode cX8_passAll 136 = .ok (.iload_n 1, 1) := by decide +kernel
theorem dX8_passAll_137 : decode cX8_passAll 137 = .ok (.aload_n 0, 1) := by decide +kernel
theorem dX8_passAll_138 : decode cX8_passAll 138 = .ok (.aload_n 0, 1) := by decide +kernel
theorem dX8_passAll_139 : decode cX8_passAll 139 = .ok (.getfield 22, 3) := by decide +kernel
theorem dX8_passAll_142 : decode cX8_passAll 142 = .ok (.iload_n 1, 1) := by decide +kernel
theorem dX8_passAll_143 : decode cX8_passAll 143 = .ok (.iaload, 1) := by decide +kernel
theorem dX8_passAll_144 : decode cX8_passAll 144 = .ok (.invokevirtual 306, 3) := by decide +kernel
theorem dX8_passAll_147 : decode cX8_passAll 147 = .ok (.iastore, 1) := by decide +kernel
theorem dX8_passAll_148 : decode cX8_passAll 148 = .ok (.aload_n 0, 1) := by decide +kernel
theorem dX8_passAll_149 : decode cX8_passAll 149 = .ok (.getfield 25, 3) := by decide +kernel
theorem dX8_passAll_152 : decode cX8_passAll 152 = .ok (.iload_n 1, 1) := by decide +kernel
theorem dX8_passAll_153 : decode cX8_passAll 153 = .ok (.aload_n 0, 1) := by decide +kernel
theorem dX8_passAll_154 : decode cX8_passAll 154 = .ok (.aload_n 0, 1) := by decide +kernel
theorem dX8_passAll_155 : decode cX8_passAll 155 = .ok (.getfield 25, 3) := by decide +kernel
theorem dX8_passAll_158 : decode cX8_passAll 158 = .ok (.iload_n 1, 1) := by decide +kernel
theorem dX8_passAll_159 : decode cX8_passAll 159 = .ok (.iaload, 1) := by decide +kernel
theorem dX8_passAll_160 : decode cX8_passAll 160 = .ok (.invokevirtual 306, 3) := by decide +kernel
theorem dX8_passAll_163 : decode cX8_passAll 163 = .ok (.iastore, 1) := by decide +kernel
theorem dX8_passAll_164 : decode cX8_passAll 164 = .ok (.aload_n 0, 1) := by decide +kernel
theorem dX8_passAll_165 : decode cX8_passAll 165 = .ok (.getfield 28, 3) := by decide +kernel
theorem dX8_passAll_168 : decode cX8_passAll 168 = .ok (.iload_n 1, 1) := by decide +kernel
theorem dX8_passAll_169 : decode cX8_passAll 169 = .ok (.aload_n 0, 1) := by decide +kernel
theorem dX8_passAll_170 : decode cX8_passAll 170 = .ok (.aload_n 0, 1) := by decide +kernel
theorem dX8_passAll_171 : decode cX8_passAll 171 = .ok (.getfield 28, 3) := by decide +kernel
theorem dX8_passAll_174 : decode cX8_passAll 174 = .ok (.iload_n 1, 1) := by decide +kernel
theorem dX8_passAll_175 : decode cX8_passAll 175 = .ok (.iaload, 1) := by decide +kernel
theorem dX8_passAll_176 : decode cX8_passAll 176 = .ok (.invokevirtual 306, 3) := by decide +kernel
theorem dX8_passAll_179 : decode cX8_passAll 179 = .ok (.iastore, 1) := by decide +kernel
theorem dX8_passAll_180 : decode cX8_passAll 180 = .ok (.iinc 1 1, 3) := by decide +kernel
theorem dX8_passAll_183 : decode cX8_passAll 183 = .ok (.goto (-121), 3) := by decide +kernel
theorem dX8_passAll_186 : decode cX8_passAll 186 = .ok (.return_, 1) := by decide +kernel
theorem dX8_image_0 : decode cX8_image 0 = .ok (.iload_n 1, 1) := by decide +kernel
theorem dX8_image_1 : decode cX8_image 1 = .ok (.i2l, 1) := by decide +kernel
theorem dX8_image_2 : decode cX8_image 2 = .ok (.lconst 0, 1) := by decide +kernel
theorem dX8_image_3 : decode cX8_image 3 = .ok (.lconst 1, 1) := by decide +kernel
theorem dX8_image_4 : decode cX8_image 4 = .ok (.invokestatic 77, 3) := by decide +kernel
theorem dX8_image_7 : decode cX8_image 7 = .ok (.ifCond .ne 6, 3) := by decide +kernel
theorem dX8_image_10 : decode cX8_image 10 = .ok (.bipush (-2), 2) := by decide +kernel
theorem dX8_image_12 : decode cX8_image 12 = .ok (.ireturn, 1) := by decide +kernel
theorem dX8_image_13 : decode cX8_image 13 = .ok (.aload_n 0, 1) := by decide +kernel
theorem dX8_image_14 : decode cX8_image 14 = .ok (.bipush 80, 2) := by decide +kernel
theorem dX8_image_16 : decode cX8_image 16 = .ok (.iload_n 1, 1) := by decide +kernel
theorem dX8_image_17 : decode cX8_image 17 = .ok (.imul, 1) := by decide +kernel
theorem dX8_image_18 : decode cX8_image 18 = .ok (.putfield 303, 3) := by decide +kernel
theorem dX8_image_21 : decode cX8_image 21 = .ok (.aload_n 0, 1) := by decide +kernel
theorem dX8_image_22 : decode cX8_image 22 = .ok (.iconst 1, 1) := by decide +kernel
theorem dX8_image_23 : decode cX8_image 23 = .ok (.putfield 299, 3) := by decide +kernel
theorem dX8_image_26 : decode cX8_image 26 = .ok (.aload_n 0, 1) := by decide +kernel
theorem dX8_image_27 : decode cX8_image 27 = .ok (.invokevirtual 309, 3) := by decide +kernel
theorem dX8_image_30 : decode cX8_image 30 = .ok (.aload_n 0, 1) := by decide +kernel
theorem dX8_image_31 : decode cX8_image 31 = .ok (.getfield 68, 3) := by decide +kernel
theorem dX8_image_34 : decode cX8_image 34 = .ok (.iload_n 1, 1) := by decide +kernel
theorem dX8_image_35 : decode cX8_image 35 = .ok (.iconst 1, 1) := by decide +kernel
theorem dX8_image_36 : decode cX8_image 36 = .ok (.bastore, 1) := by decide +kernel
theorem dX8_image_37 : decode cX8_image 37 = .ok (.iconst 1, 1) := by decide +kernel
theorem dX8_image_38 : decode cX8_image 38 = .ok (.ireturn, 1) := by decide +kernel
theorem dX8_restore_0 : decode cX8_restore 0 = .ok (.iload_n 1, 1) := by decide +kernel
theorem dX8_restore_1 : decode cX8_restore 1 = .ok (.i2l, 1) := by decide +kernel
theorem dX8_restore_2 : decode cX8_restore 2 = .ok (.lconst 0, 1) := by decide +kernel
theorem dX8_restore_3 : decode cX8_restore 3 = .ok (.lconst 1, 1) := by decide +kernel
theorem dX8_restore_4 : decode cX8_restore 4 = .ok (.invokestatic 77, 3) := by decide +kernel
theorem dX8_restore_7 : decode cX8_restore 7 = .ok (.ifCond .ne 6, 3) := by decide +kernel
theorem dX8_restore_10 : decode cX8_restore 10 = .ok (.bipush (-2), 2) := by decide +kernel
theorem dX8_restore_12 : decode cX8_restore 12 = .ok (.ireturn, 1) := by decide +kernel
theorem dX8_restore_13 : decode cX8_restore 13 = .ok (.aload_n 0, 1) := by decide +kernel
theorem dX8_restore_14 : decode cX8_restore 14 = .ok (.getfield 68, 3) := by decide +kernel
theorem dX8_restore_17 : decode cX8_restore 17 = .ok (.iload_n 1, 1) := by decide +kernel
theorem dX8_restore_18 : decode cX8_restore 18 = .ok (.baload, 1) := by decide +kernel
theorem dX8_restore_19 : decode cX8_restore 19 = .ok (.ifCond .ne 6, 3) := by decide +kernel
theorem dX8_restore_22 : decode cX8_restore 22 = .ok (.bipush (-3), 2) := by decide +kernel
theorem dX8_restore_24 : decode cX8_restore 24 = .ok (.ireturn, 1) := by decide +kernel
theorem dX8_restore_25 : decode cX8_restore 25 = .ok (.aload_n 0, 1) := by decide +kernel
theorem dX8_restore_26 : decode cX8_restore 26 = .ok (.bipush 80, 2) := by decide +kernel
theorem dX8_restore_28 : decode cX8_restore 28 = .ok (.iload_n 1, 1) := by decide +kernel
theorem dX8_restore_29 : decode cX8_restore 29 = .ok (.imul, 1) := by decide +kernel
theorem dX8_restore_30 : decode cX8_restore 30 = .ok (.putfield 303, 3) := by decide +kernel
theorem dX8_restore_33 : decode cX8_restore 33 = .ok (.aload_n 0, 1) := by decide +kernel
theorem dX8_restore_34 : decode cX8_restore 34 = .ok (.iconst 0, 1) := by decide +kernel
theorem dX8_restore_35 : decode cX8_restore 35 = .ok (.putfield 299, 3) := by decide +kernel
theorem dX8_restore_38 : decode cX8_restore 38 = .ok (.aload_n 0, 1) := by decide +kernel
theorem dX8_restore_39 : decode cX8_restore 39 = .ok (.invokevirtual 309, 3) := by decide +kernel
theorem dX8_restore_42 : decode cX8_restore 42 = .ok (.iconst 1, 1) := by decide +kernel
theorem dX8_restore_43 : decode cX8_restore 43 = .ok (.ireturn, 1) := by decide +kernel
theorem dX8_toldOf_0 : decode cX8_toldOf 0 = .ok (.aload_n 0, 1) := by decide +kernel
theorem dX8_toldOf_1 : decode cX8_toldOf 1 = .ok (.iload_n 1, 1) := by decide +kernel
theorem dX8_toldOf_2 : decode cX8_toldOf 2 = .ok (.invokevirtual 84, 3) := by decide +kernel
theorem dX8_toldOf_5 : decode cX8_toldOf 5 = .ok (.ifCond .ne 6, 3) := by decide +kernel
theorem dX8_toldOf_8 : decode cX8_toldOf 8 = .ok (.bipush (-2), 2) := by decide +kernel
theorem dX8_toldOf_10 : decode cX8_toldOf 10 = .ok (.ireturn, 1) := by decide +kernel
theorem dX8_toldOf_11 : decode cX8_toldOf 11 = .ok (.iload_n 2, 1) := by decide +kernel
theorem dX8_toldOf_12 : decode cX8_toldOf 12 = .ok (.ifCond .ne 12, 3) := by decide +kernel
theorem dX8_toldOf_15 : decode cX8_toldOf 15 = .ok (.aload_n 0, 1) := by decide +kernel
theorem dX8_toldOf_16 : decode cX8_toldOf 16 = .ok (.getfield 7, 3) := by decide +kernel
theorem dX8_toldOf_19 : decode cX8_toldOf 19 = .ok (.iload_n 1, 1) := by decide +kernel
theorem dX8_toldOf_20 : decode cX8_toldOf 20 = .ok (.iaload, 1) := by decide +kernel
theorem dX8_toldOf_21 : decode cX8_toldOf 21 = .ok (.goto 50, 3) := by decide +kernel
theorem dX8_toldOf_24 : decode cX8_toldOf 24 = .ok (.iload_n 2, 1) := by decide +kernel
theorem dX8_toldOf_25 : decode cX8_toldOf 25 = .ok (.iconst 1, 1) := by decide +kernel
theorem dX8_toldOf_26 : decode cX8_toldOf 26 = .ok (.if_icmp .ne 12, 3) := by decide +kernel
theorem dX8_toldOf_29 : decode cX8_toldOf 29 = .ok (.aload_n 0, 1) := by decide +kernel
theorem dX8_toldOf_30 : decode cX8_toldOf 30 = .ok (.getfield 13, 3) := by decide +kernel
theorem dX8_toldOf_33 : decode cX8_toldOf 33 = .ok (.iload_n 1, 1) := by decide +kernel
theorem dX8_toldOf_34 : decode cX8_toldOf 34 = .ok (.iaload, 1) := by decide +kernel
theorem dX8_toldOf_35 : decode cX8_toldOf 35 = .ok (.goto 36, 3) := by decide +kernel
theorem dX8_toldOf_38 : decode cX8_toldOf 38 = .ok (.iload_n 2, 1) := by decide +kernel
theorem dX8_toldOf_39 : decode cX8_toldOf 39 = .ok (.iconst 2, 1) := by decide +kernel
theorem dX8_toldOf_40 : decode cX8_toldOf 40 = .ok (.if_icmp .ne 15, 3) := by decide +kernel
theorem dX8_toldOf_43 : decode cX8_toldOf 43 = .ok (.aload_n 0, 1) := by decide +kernel
theorem dX8_toldOf_44 : decode cX8_toldOf 44 = .ok (.getfield 16, 3) := by decide +kernel
theorem dX8_toldOf_47 : decode cX8_toldOf 47 = .ok (.iload_n 1, 1) := by decide +kernel
theorem dX8_toldOf_48 : decode cX8_toldOf 48 = .ok (.iaload, 1) := by decide +kernel
theorem dX8_toldOf_49 : decode cX8_toldOf 49 = .ok (.bipush 9, 2) := by decide +kernel
theorem dX8_toldOf_51 : decode cX8_toldOf 51 = .ok (.iadd, 1) := by decide +kernel
theorem dX8_toldOf_52 : decode cX8_toldOf 52 = .ok (.goto 19, 3) := by decide +kernel
theorem dX8_toldOf_55 : decode cX8_toldOf 55 = .ok (.iload_n 2, 1) := by decide +kernel
theorem dX8_toldOf_56 : decode cX8_toldOf 56 = .ok (.iconst 3, 1) := by decide +kernel
theorem dX8_toldOf_57 : decode cX8_toldOf 57 = .ok (.if_icmp .ne 12, 3) := by decide +kernel
theorem dX8_toldOf_60 : decode cX8_toldOf 60 = .ok (.aload_n 0, 1) := by decide +kernel
theorem dX8_toldOf_61 : decode cX8_toldOf 61 = .ok (.getfield 19, 3) := by decide +kernel
theorem dX8_toldOf_64 : decode cX8_toldOf 64 = .ok (.iload_n 1, 1) := by decide +kernel
theorem dX8_toldOf_65 : decode cX8_toldOf 65 = .ok (.iaload, 1) := by decide +kernel
theorem dX8_toldOf_66 : decode cX8_toldOf 66 = .ok (.goto 5, 3) := by decide +kernel
theorem dX8_toldOf_69 : decode cX8_toldOf 69 = .ok (.bipush (-2), 2) := by decide +kernel
theorem dX8_toldOf_71 : decode cX8_toldOf 71 = .ok (.ireturn, 1) := by decide +kernel
theorem dX8_told_0 : decode cX8_told 0 = .ok (.iload_n 1, 1) := by decide +kernel
theorem dX8_told_1 : decode cX8_told 1 = .ok (.i2l, 1) := by decide +kernel
theorem dX8_told_2 : decode cX8_told 2 = .ok (.ldc2_w 281, 3) := by decide +kernel
theorem dX8_told_5 : decode cX8_told 5 = .ok (.ldc2_w 312, 3) := by decide +kernel
theorem dX8_told_8 : decode cX8_told 8 = .ok (.invokestatic 77, 3) := by decide +kernel
theorem dX8_told_11 : decode cX8_told 11 = .ok (.ifCond .eq 18, 3) := by decide +kernel
theorem dX8_told_14 : decode cX8_told 14 = .ok (.aload_n 0, 1) := by decide +kernel
theorem dX8_told_15 : decode cX8_told 15 = .ok (.iload_n 1, 1) := by decide +kernel
theorem dX8_told_16 : decode cX8_told 16 = .ok (.bipush 10, 2) := by decide +kernel
theorem dX8_told_18 : decode cX8_told 18 = .ok (.idiv, 1) := by decide +kernel
theorem dX8_told_19 : decode cX8_told 19 = .ok (.iconst 1, 1) := by decide +kernel
theorem dX8_told_20 : decode cX8_told 20 = .ok (.isub, 1) := by decide +kernel
theorem dX8_told_21 : decode cX8_told 21 = .ok (.iload_n 1, 1) := by decide +kernel
theorem dX8_told_22 : decode cX8_told 22 = .ok (.bipush 10, 2) := by decide +kernel
theorem dX8_told_24 : decode cX8_told 24 = .ok (.irem, 1) := by decide +kernel
theorem dX8_told_25 : decode cX8_told 25 = .ok (.invokevirtual 314, 3) := by decide +kernel
theorem dX8_told_28 : decode cX8_told 28 = .ok (.ireturn, 1) := by decide +kernel
theorem dX8_told_29 : decode cX8_told 29 = .ok (.iload_n 1, 1) := by decide +kernel
theorem dX8_told_30 : decode cX8_told 30 = .ok (.tableswitch 68 0 5 #[38, 43, 48, 53, 58, 63], 38) := by decide +kernel
theorem dX8_told_68 : decode cX8_told 68 = .ok (.aload_n 0, 1) := by decide +kernel
theorem dX8_told_69 : decode cX8_told 69 = .ok (.getfield 121, 3) := by decide +kernel
theorem dX8_told_72 : decode cX8_told 72 = .ok (.ireturn, 1) := by decide +kernel
theorem dX8_told_73 : decode cX8_told 73 = .ok (.aload_n 0, 1) := by decide +kernel
theorem dX8_told_74 : decode cX8_told 74 = .ok (.getfield 81, 3) := by decide +kernel
theorem dX8_told_77 : decode cX8_told 77 = .ok (.ireturn, 1) := by decide +kernel
theorem dX8_told_78 : decode cX8_told 78 = .ok (.aload_n 0, 1) := by decide +kernel
theorem dX8_told_79 : decode cX8_told 79 = .ok (.getfield 88, 3) := by decide +kernel
theorem dX8_told_82 : decode cX8_told 82 = .ok (.ireturn, 1) := by decide +kernel
theorem dX8_told_83 : decode cX8_told 83 = .ok (.aload_n 0, 1) := by decide +kernel
theorem dX8_told_84 : decode cX8_told 84 = .ok (.getfield 71, 3) := by decide +kernel
theorem dX8_told_87 : decode cX8_told 87 = .ok (.ireturn, 1) := by decide +kernel
theorem dX8_told_88 : decode cX8_told 88 = .ok (.aload_n 0, 1) := by decide +kernel
theorem dX8_told_89 : decode cX8_told 89 = .ok (.getfield 162, 3) := by decide +kernel
theorem dX8_told_92 : decode cX8_told 92 = .ok (.ireturn, 1) := by decide +kernel
theorem dX8_told_93 : decode cX8_told 93 = .ok (.aload_n 0, 1) := by decide +kernel
theorem dX8_told_94 : decode cX8_told 94 = .ok (.getfield 252, 3) := by decide +kernel
theorem dX8_told_97 : decode cX8_told 97 = .ok (.ireturn, 1) := by decide +kernel
theorem dX8_told_98 : decode cX8_told 98 = .ok (.bipush (-2), 2) := by decide +kernel
theorem dX8_told_100 : decode cX8_told 100 = .ok (.ireturn, 1) := by decide +kernel
theorem dJ6_bitCount_0f7a4_0 : decode cJ6_bitCount_0f7a4 0 = .ok (.iload_n 0, 1) := by decide +kernel
theorem dJ6_bitCount_0f7a4_1 : decode cJ6_bitCount_0f7a4 1 = .ok (.iload_n 0, 1) := by decide +kernel
theorem dJ6_bitCount_0f7a4_2 : decode cJ6_bitCount_0f7a4 2 = .ok (.iconst 1, 1) := by decide +kernel
theorem dJ6_bitCount_0f7a4_3 : decode cJ6_bitCount_0f7a4 3 = .ok (.iushr, 1) := by decide +kernel
theorem dJ6_bitCount_0f7a4_4 : decode cJ6_bitCount_0f7a4 4 = .ok (.ldc_w 265, 3) := by decide +kernel
theorem dJ6_bitCount_0f7a4_7 : decode cJ6_bitCount_0f7a4 7 = .ok (.iand, 1) := by decide +kernel
theorem dJ6_bitCount_0f7a4_8 : decode cJ6_bitCount_0f7a4 8 = .ok (.isub, 1) := by decide +kernel
theorem dJ6_bitCount_0f7a4_9 : decode cJ6_bitCount_0f7a4 9 = .ok (.istore_n 0, 1) := by decide +kernel
theorem dJ6_bitCount_0f7a4_10 : decode cJ6_bitCount_0f7a4 10 = .ok (.iload_n 0, 1) := by decide +kernel
theorem dJ6_bitCount_0f7a4_11 : decode cJ6_bitCount_0f7a4 11 = .ok (.ldc_w 266, 3) := by decide +kernel
theorem dJ6_bitCount_0f7a4_14 : decode cJ6_bitCount_0f7a4 14 = .ok (.iand, 1) := by decide +kernel
theorem dJ6_bitCount_0f7a4_15 : decode cJ6_bitCount_0f7a4 15 = .ok (.iload_n 0, 1) := by decide +kernel
theorem dJ6_bitCount_0f7a4_16 : decode cJ6_bitCount_0f7a4 16 = .ok (.iconst 2, 1) := by decide +kernel
theorem dJ6_bitCount_0f7a4_17 : decode cJ6_bitCount_0f7a4 17 = .ok (.iushr, 1) := by decide +kernel
theorem dJ6_bitCount_0f7a4_18 : decode cJ6_bitCount_0f7a4 18 = .ok (.ldc_w 266, 3) := by decide +kernel
theorem dJ6_bitCount_0f7a4_21 : decode cJ6_bitCount_0f7a4 21 = .ok (.iand, 1) := by decide +kernel
theorem dJ6_bitCount_0f7a4_22 : decode cJ6_bitCount_0f7a4 22 = .ok (.iadd, 1) := by decide +kernel
theorem dJ6_bitCount_0f7a4_23 : decode cJ6_bitCount_0f7a4 23 = .ok (.istore_n 0, 1) := by decide +kernel
theorem dJ6_bitCount_0f7a4_24 : decode cJ6_bitCount_0f7a4 24 = .ok (.iload_n 0, 1) := by decide +kernel
theorem dJ6_bitCount_0f7a4_25 : decode cJ6_bitCount_0f7a4 25 = .ok (.iload_n 0, 1) := by decide +kernel
theorem dJ6_bitCount_0f7a4_26 : decode cJ6_bitCount_0f7a4 26 = .ok (.iconst 4, 1) := by decide +kernel
theorem dJ6_bitCount_0f7a4_27 : decode cJ6_bitCount_0f7a4 27 = .ok (.iushr, 1) := by decide +kernel
theorem dJ6_bitCount_0f7a4_28 : decode cJ6_bitCount_0f7a4 28 = .ok (.iadd, 1) := by decide +kernel
theorem dJ6_bitCount_0f7a4_29 : decode cJ6_bitCount_0f7a4 29 = .ok (.ldc_w 267, 3) := by decide +kernel
theorem dJ6_bitCount_0f7a4_32 : decode cJ6_bitCount_0f7a4 32 = .ok (.iand, 1) := by decide +kernel
theorem dJ6_bitCount_0f7a4_33 : decode cJ6_bitCount_0f7a4 33 = .ok (.istore_n 0, 1) := by decide +kernel
theorem dJ6_bitCount_0f7a4_34 : decode cJ6_bitCount_0f7a4 34 = .ok (.iload_n 0, 1) := by decide +kernel
theorem dJ6_bitCount_0f7a4_35 : decode cJ6_bitCount_0f7a4 35 = .ok (.iload_n 0, 1) := by decide +kernel
theorem dJ6_bitCount_0f7a4_36 : decode cJ6_bitCount_0f7a4 36 = .ok (.bipush 8, 2) := by decide +kernel
theorem dJ6_bitCount_0f7a4_38 : decode cJ6_bitCount_0f7a4 38 = .ok (.iushr, 1) := by decide +kernel
theorem dJ6_bitCount_0f7a4_39 : decode cJ6_bitCount_0f7a4 39 = .ok (.iadd, 1) := by decide +kernel
theorem dJ6_bitCount_0f7a4_40 : decode cJ6_bitCount_0f7a4 40 = .ok (.istore_n 0, 1) := by decide +kernel
theorem dJ6_bitCount_0f7a4_41 : decode cJ6_bitCount_0f7a4 41 = .ok (.iload_n 0, 1) := by decide +kernel
theorem dJ6_bitCount_0f7a4_42 : decode cJ6_bitCount_0f7a4 42 = .ok (.iload_n 0, 1) := by decide +kernel
theorem dJ6_bitCount_0f7a4_43 : decode cJ6_bitCount_0f7a4 43 = .ok (.bipush 16, 2) := by decide +kernel
theorem dJ6_bitCount_0f7a4_45 : decode cJ6_bitCount_0f7a4 45 = .ok (.iushr, 1) := by decide +kernel
theorem dJ6_bitCount_0f7a4_46 : decode cJ6_bitCount_0f7a4 46 = .ok (.iadd, 1) := by decide +kernel
theorem dJ6_bitCount_0f7a4_47 : decode cJ6_bitCount_0f7a4 47 = .ok (.istore_n 0, 1) := by decide +kernel
theorem dJ6_bitCount_0f7a4_48 : decode cJ6_bitCount_0f7a4 48 = .ok (.iload_n 0, 1) := by decide +kernel
theorem dJ6_bitCount_0f7a4_49 : decode cJ6_bitCount_0f7a4 49 = .ok (.bipush 63, 2) := by decide +kernel
theorem dJ6_bitCount_0f7a4_51 : decode cJ6_bitCount_0f7a4 51 = .ok (.iand, 1) := by decide +kernel
theorem dJ6_bitCount_0f7a4_52 : decode cJ6_bitCount_0f7a4 52 = .ok (.ireturn, 1) := by decide +kernel
theorem dJ9_abs_0f7a4_0 : decode cJ9_abs_0f7a4 0 = .ok (.iload_n 0, 1) := by decide +kernel
theorem dJ9_abs_0f7a4_1 : decode cJ9_abs_0f7a4 1 = .ok (.ifCond .ge 8, 3) := by decide +kernel
theorem dJ9_abs_0f7a4_4 : decode cJ9_abs_0f7a4 4 = .ok (.iload_n 0, 1) := by decide +kernel
theorem dJ9_abs_0f7a4_5 : decode cJ9_abs_0f7a4 5 = .ok (.ineg, 1) := by decide +kernel
theorem dJ9_abs_0f7a4_6 : decode cJ9_abs_0f7a4 6 = .ok (.goto 4, 3) := by decide +kernel
theorem dJ9_abs_0f7a4_9 : decode cJ9_abs_0f7a4 9 = .ok (.iload_n 0, 1) := by decide +kernel
theorem dJ9_abs_0f7a4_10 : decode cJ9_abs_0f7a4 10 = .ok (.ireturn, 1) := by decide +kernel
theorem dJ9_abs_067f4_0 : decode cJ9_abs_067f4 0 = .ok (.lload_n 0, 1) := by decide +kernel
theorem dJ9_abs_067f4_1 : decode cJ9_abs_067f4 1 = .ok (.lconst 0, 1) := by decide +kernel
theorem dJ9_abs_067f4_2 : decode cJ9_abs_067f4 2 = .ok (.lcmp, 1) := by decide +kernel
theorem dJ9_abs_067f4_3 : decode cJ9_abs_067f4 3 = .ok (.ifCond .ge 8, 3) := by decide +kernel
theorem dJ9_abs_067f4_6 : decode cJ9_abs_067f4 6 = .ok (.lload_n 0, 1) := by decide +kernel
theorem dJ9_abs_067f4_7 : decode cJ9_abs_067f4 7 = .ok (.lneg, 1) := by decide +kernel
theorem dJ9_abs_067f4_8 : decode cJ9_abs_067f4 8 = .ok (.goto 4, 3) := by decide +kernel
theorem dJ9_abs_067f4_11 : decode cJ9_abs_067f4 11 = .ok (.lload_n 0, 1) := by decide +kernel
theorem dJ9_abs_067f4_12 : decode cJ9_abs_067f4 12 = .ok (.lreturn, 1) := by decide +kernel
theorem dJ9_max_7cf53_0 : decode cJ9_max_7cf53 0 = .ok (.iload_n 0, 1) := by decide +kernel
theorem dJ9_max_7cf53_1 : decode cJ9_max_7cf53 1 = .ok (.iload_n 1, 1) := by decide +kernel
theorem dJ9_max_7cf53_2 : decode cJ9_max_7cf53 2 = .ok (.if_icmp .lt 7, 3) := by decide +kernel
theorem dJ9_max_7cf53_5 : decode cJ9_max_7cf53 5 = .ok (.iload_n 0, 1) := by decide +kernel
theorem dJ9_max_7cf53_6 : decode cJ9_max_7cf53 6 = .ok (.goto 4, 3) := by decide +kernel
theorem dJ9_max_7cf53_9 : decode cJ9_max_7cf53 9 = .ok (.iload_n 1, 1) := by decide +kernel
theorem dJ9_max_7cf53_10 : decode cJ9_max_7cf53 10 = .ok (.ireturn, 1) := by decide +kernel
theorem dJ9_min_7cf53_0 : decode cJ9_min_7cf53 0 = .ok (.iload_n 0, 1) := by decide +kernel
theorem dJ9_min_7cf53_1 : decode cJ9_min_7cf53 1 = .ok (.iload_n 1, 1) := by decide +kernel
theorem dJ9_min_7cf53_2 : decode cJ9_min_7cf53 2 = .ok (.if_icmp .gt 7, 3) := by decide +kernel
theorem dJ9_min_7cf53_5 : decode cJ9_min_7cf53 5 = .ok (.iload_n 0, 1) := by decide +kernel
theorem dJ9_min_7cf53_6 : decode cJ9_min_7cf53 6 = .ok (.goto 4, 3) := by decide +kernel
theorem dJ9_min_7cf53_9 : decode cJ9_min_7cf53 9 = .ok (.iload_n 1, 1) := by decide +kernel
theorem dJ9_min_7cf53_10 : decode cJ9_min_7cf53 10 = .ok (.ireturn, 1) := by decide +kernel
theorem dJ7_fill_53178_0 : decode cJ7_fill_53178 0 = .ok (.iconst 0, 1) := by decide +kernel
theorem dJ7_fill_53178_1 : decode cJ7_fill_53178 1 = .ok (.istore_n 2, 1) := by decide +kernel
theorem dJ7_fill_53178_2 : decode cJ7_fill_53178 2 = .ok (.aload_n 0, 1) := by decide +kernel
theorem dJ7_fill_53178_3 : decode cJ7_fill_53178 3 = .ok (.arraylength, 1) := by decide +kernel
theorem dJ7_fill_53178_4 : decode cJ7_fill_53178 4 = .ok (.istore_n 3, 1) := by decide +kernel
theorem dJ7_fill_53178_5 : decode cJ7_fill_53178 5 = .ok (.iload_n 2, 1) := by decide +kernel
theorem dJ7_fill_53178_6 : decode cJ7_fill_53178 6 = .ok (.iload_n 3, 1) := by decide +kernel
theorem dJ7_fill_53178_7 : decode cJ7_fill_53178 7 = .ok (.if_icmp .ge 13, 3) := by decide +kernel
theorem dJ7_fill_53178_10 : decode cJ7_fill_53178 10 = .ok (.aload_n 0, 1) := by decide +kernel
theorem dJ7_fill_53178_11 : decode cJ7_fill_53178 11 = .ok (.iload_n 2, 1) := by decide +kernel
theorem dJ7_fill_53178_12 : decode cJ7_fill_53178 12 = .ok (.iload_n 1, 1) := by decide +kernel
theorem dJ7_fill_53178_13 : decode cJ7_fill_53178 13 = .ok (.iastore, 1) := by decide +kernel
theorem dJ7_fill_53178_14 : decode cJ7_fill_53178 14 = .ok (.iinc 2 1, 3) := by decide +kernel
theorem dJ7_fill_53178_17 : decode cJ7_fill_53178 17 = .ok (.goto (-12), 3) := by decide +kernel
theorem dJ7_fill_53178_20 : decode cJ7_fill_53178 20 = .ok (.return_, 1) := by decide +kernel
theorem dJ7_fill_031fb_0 : decode cJ7_fill_031fb 0 = .ok (.iconst 0, 1) := by decide +kernel
theorem dJ7_fill_031fb_1 : decode cJ7_fill_031fb 1 = .ok (.istore_n 2, 1) := by decide +kernel
theorem dJ7_fill_031fb_2 : decode cJ7_fill_031fb 2 = .ok (.aload_n 0, 1) := by decide +kernel
theorem dJ7_fill_031fb_3 : decode cJ7_fill_031fb 3 = .ok (.arraylength, 1) := by decide +kernel
theorem dJ7_fill_031fb_4 : decode cJ7_fill_031fb 4 = .ok (.istore_n 3, 1) := by decide +kernel
theorem dJ7_fill_031fb_5 : decode cJ7_fill_031fb 5 = .ok (.iload_n 2, 1) := by decide +kernel
theorem dJ7_fill_031fb_6 : decode cJ7_fill_031fb 6 = .ok (.iload_n 3, 1) := by decide +kernel
theorem dJ7_fill_031fb_7 : decode cJ7_fill_031fb 7 = .ok (.if_icmp .ge 13, 3) := by decide +kernel
theorem dJ7_fill_031fb_10 : decode cJ7_fill_031fb 10 = .ok (.aload_n 0, 1) := by decide +kernel
theorem dJ7_fill_031fb_11 : decode cJ7_fill_031fb 11 = .ok (.iload_n 2, 1) := by decide +kernel
theorem dJ7_fill_031fb_12 : decode cJ7_fill_031fb 12 = .ok (.iload_n 1, 1) := by decide +kernel
theorem dJ7_fill_031fb_13 : decode cJ7_fill_031fb 13 = .ok (.bastore, 1) := by decide +kernel
theorem dJ7_fill_031fb_14 : decode cJ7_fill_031fb 14 = .ok (.iinc 2 1, 3) := by decide +kernel
theorem dJ7_fill_031fb_17 : decode cJ7_fill_031fb 17 = .ok (.goto (-12), 3) := by decide +kernel
theorem dJ7_fill_031fb_20 : decode cJ7_fill_031fb 20 = .ok (.return_, 1) := by decide +kernel
theorem dL_law_0 : decode cL_law 0 = .ok (.new 7, 3) := by decide +kernel
theorem dL_law_3 : decode cL_law 3 = .ok (.dup, 1) := by decide +kernel
theorem dL_law_4 : decode cL_law 4 = .ok (.invokespecial 9, 3) := by decide +kernel
theorem dL_law_7 : decode cL_law 7 = .ok (.astore_n 1, 1) := by decide +kernel
theorem dL_law_8 : decode cL_law 8 = .ok (.new 10, 3) := by decide +kernel
theorem dL_law_11 : decode cL_law 11 = .ok (.dup, 1) := by decide +kernel
theorem dL_law_12 : decode cL_law 12 = .ok (.invokespecial 12, 3) := by decide +kernel
theorem dL_law_15 : decode cL_law 15 = .ok (.astore_n 2, 1) := by decide +kernel
theorem dL_law_16 : decode cL_law 16 = .ok (.iconst 0, 1) := by decide +kernel
theorem dL_law_17 : decode cL_law 17 = .ok (.istore_n 3, 1) := by decide +kernel
theorem dL_law_18 : decode cL_law 18 = .ok (.iload_n 3, 1) := by decide +kernel
theorem dL_law_19 : decode cL_law 19 = .ok (.aload_n 0, 1) := by decide +kernel
theorem dL_law_20 : decode cL_law 20 = .ok (.arraylength, 1) := by decide +kernel
theorem dL_law_21 : decode cL_law 21 = .ok (.bipush 7, 2) := by decide +kernel
theorem dL_law_23 : decode cL_law 23 = .ok (.isub, 1) := by decide +kernel
theorem dL_law_24 : decode cL_law 24 = .ok (.if_icmp .gt 1067, 3) := by decide +kernel
theorem dL_law_27 : decode cL_law 27 = .ok (.aload_n 0, 1) := by decide +kernel
theorem dL_law_28 : decode cL_law 28 = .ok (.iload_n 3, 1) := by decide +kernel
theorem dL_law_29 : decode cL_law 29 = .ok (.iaload, 1) := by decide +kernel
theorem dL_law_30 : decode cL_law 30 = .ok (.bipush 31, 2) := by decide +kernel
theorem dL_law_32 : decode cL_law 32 = .ok (.iand, 1) := by decide +kernel
theorem dL_law_33 : decode cL_law 33 = .ok (.tableswitch 1052 0 29 #[135, 188, 211, 270, 293, 316, 329, 342, 365, 398, 411, 434, 457, 480, 513, 572, 621, 660, 683, 696, 739, 782, 795, 818, 841, 864, 940, 983, 1006, 1029], 135) := by decide +kernel
theorem dL_law_168 : decode cL_law 168 = .ok (.aload_n 1, 1) := by decide +kernel
theorem dL_law_169 : decode cL_law 169 = .ok (.aload_n 0, 1) := by decide +kernel
theorem dL_law_170 : decode cL_law 170 = .ok (.iload_n 3, 1) := by decide +kernel
theorem dL_law_171 : decode cL_law 171 = .ok (.iconst 1, 1) := by decide +kernel
theorem dL_law_172 : decode cL_law 172 = .ok (.iadd, 1) := by decide +kernel
theorem dL_law_173 : decode cL_law 173 = .ok (.iaload, 1) := by decide +kernel
theorem dL_law_174 : decode cL_law 174 = .ok (.aload_n 0, 1) := by decide +kernel
theorem dL_law_175 : decode cL_law 175 = .ok (.iload_n 3, 1) := by decide +kernel
theorem dL_law_176 : decode cL_law 176 = .ok (.iconst 2, 1) := by decide +kernel
theorem dL_law_177 : decode cL_law 177 = .ok (.iadd, 1) := by decide +kernel
theorem dL_law_178 : decode cL_law 178 = .ok (.iaload, 1) := by decide +kernel
theorem dL_law_179 : decode cL_law 179 = .ok (.aload_n 0, 1) := by decide +kernel
theorem dL_law_180 : decode cL_law 180 = .ok (.iload_n 3, 1) := by decide +kernel
theorem dL_law_181 : decode cL_law 181 = .ok (.iconst 3, 1) := by decide +kernel
theorem dL_law_182 : decode cL_law 182 = .ok (.iadd, 1) := by decide +kernel
theorem dL_law_183 : decode cL_law 183 = .ok (.iaload, 1) := by decide +kernel
theorem dL_law_184 : decode cL_law 184 = .ok (.aload_n 0, 1) := by decide +kernel
theorem dL_law_185 : decode cL_law 185 = .ok (.iload_n 3, 1) := by decide +kernel
theorem dL_law_186 : decode cL_law 186 = .ok (.iconst 4, 1) := by decide +kernel
theorem dL_law_187 : decode cL_law 187 = .ok (.iadd, 1) := by decide +kernel
theorem dL_law_188 : decode cL_law 188 = .ok (.iaload, 1) := by decide +kernel
theorem dL_law_189 : decode cL_law 189 = .ok (.invokevirtual 13, 3) := by decide +kernel
theorem dL_law_192 : decode cL_law 192 = .ok (.aload_n 2, 1) := by decide +kernel
theorem dL_law_193 : decode cL_law 193 = .ok (.aload_n 0, 1) := by decide +kernel
theorem dL_law_194 : decode cL_law 194 = .ok (.iload_n 3, 1) := by decide +kernel
theorem dL_law_195 : decode cL_law 195 = .ok (.iconst 1, 1) := by decide +kernel
theorem dL_law_196 : decode cL_law 196 = .ok (.iadd, 1) := by decide +kernel
theorem dL_law_197 : decode cL_law 197 = .ok (.iaload, 1) := by decide +kernel
theorem dL_law_198 : decode cL_law 198 = .ok (.aload_n 0, 1) := by decide +kernel
theorem dL_law_199 : decode cL_law 199 = .ok (.iload_n 3, 1) := by decide +kernel
theorem dL_law_200 : decode cL_law 200 = .ok (.iconst 2, 1) := by decide +kernel
theorem dL_law_201 : decode cL_law 201 = .ok (.iadd, 1) := by decide +kernel
theorem dL_law_202 : decode cL_law 202 = .ok (.iaload, 1) := by decide +kernel
theorem dL_law_203 : decode cL_law 203 = .ok (.aload_n 0, 1) := by decide +kernel
theorem dL_law_204 : decode cL_law 204 = .ok (.iload_n 3, 1) := by decide +kernel
theorem dL_law_205 : decode cL_law 205 = .ok (.iconst 3, 1) := by decide +kernel
theorem dL_law_206 : decode cL_law 206 = .ok (.iadd, 1) := by decide +kernel
theorem dL_law_207 : decode cL_law 207 = .ok (.iaload, 1) := by decide +kernel
theorem dL_law_208 : decode cL_law 208 = .ok (.aload_n 0, 1) := by decide +kernel
theorem dL_law_209 : decode cL_law 209 = .ok (.iload_n 3, 1) := by decide +kernel
theorem dL_law_210 : decode cL_law 210 = .ok (.iconst 4, 1) := by decide +kernel
theorem dL_law_211 : decode cL_law 211 = .ok (.iadd, 1) := by decide +kernel
theorem dL_law_212 : decode cL_law 212 = .ok (.iaload, 1) := by decide +kernel
theorem dL_law_213 : decode cL_law 213 = .ok (.invokevirtual 17, 3) := by decide +kernel
theorem dL_law_216 : decode cL_law 216 = .ok (.if_icmp .eq 869, 3) := by decide +kernel
theorem dL_law_219 : decode cL_law 219 = .ok (.iconst 0, 1) := by decide +kernel
theorem dL_law_220 : decode cL_law 220 = .ok (.ireturn, 1) := by decide +kernel
theorem dL_law_221 : decode cL_law 221 = .ok (.aload_n 1, 1) := by decide +kernel
theorem dL_law_222 : decode cL_law 222 = .ok (.aload_n 0, 1) := by decide +kernel
theorem dL_law_223 : decode cL_law 223 = .ok (.iload_n 3, 1) := by decide +kernel
theorem dL_law_224 : decode cL_law 224 = .ok (.iconst 1, 1) := by decide +kernel
theorem dL_law_225 : decode cL_law 225 = .ok (.iadd, 1) := by decide +kernel
theorem dL_law_226 : decode cL_law 226 = .ok (.iaload, 1) := by decide +kernel
theorem dL_law_227 : decode cL_law 227 = .ok (.invokevirtual 18, 3) := by decide +kernel
theorem dL_law_230 : decode cL_law 230 = .ok (.aload_n 2, 1) := by decide +kernel
theorem dL_law_231 : decode cL_law 231 = .ok (.aload_n 0, 1) := by decide +kernel
theorem dL_law_232 : decode cL_law 232 = .ok (.iload_n 3, 1) := by decide +kernel
theorem dL_law_233 : decode cL_law 233 = .ok (.iconst 1, 1) := by decide +kernel
theorem dL_law_234 : decode cL_law 234 = .ok (.iadd, 1) := by decide +kernel
theorem dL_law_235 : decode cL_law 235 = .ok (.iaload, 1) := by decide +kernel
theorem dL_law_236 : decode cL_law 236 = .ok (.invokevirtual 22, 3) := by decide +kernel
theorem dL_law_239 : decode cL_law 239 = .ok (.if_icmp .eq 846, 3) := by decide +kernel
theorem dL_law_242 : decode cL_law 242 = .ok (.iconst 0, 1) := by decide +kernel
theorem dL_law_243 : decode cL_law 243 = .ok (.ireturn, 1) := by decide +kernel
theorem dL_law_244 : decode cL_law 244 = .ok (.aload_n 1, 1) := by decide +kernel
theorem dL_law_245 : decode cL_law 245 = .ok (.aload_n 0, 1) := by decide +kernel
theorem dL_law_246 : decode cL_law 246 = .ok (.iload_n 3, 1) := by decide +kernel
theorem dL_law_247 : decode cL_law 247 = .ok (.iconst 1, 1) := by decide +kernel
theorem dL_law_248 : decode cL_law 248 = .ok (.iadd, 1) := by decide +kernel
theorem dL_law_249 : decode cL_law 249 = .ok (.iaload, 1) := by decide +kernel
theorem dL_law_250 : decode cL_law 250 = .ok (.aload_n 0, 1) := by decide +kernel
theorem dL_law_251 : decode cL_law 251 = .ok (.iload_n 3, 1) := by decide +kernel
theorem dL_law_252 : decode cL_law 252 = .ok (.iconst 2, 1) := by decide +kernel
theorem dL_law_253 : decode cL_law 253 = .ok (.iadd, 1) := by decide +kernel
theorem dL_law_254 : decode cL_law 254 = .ok (.iaload, 1) := by decide +kernel
theorem dL_law_255 : decode cL_law 255 = .ok (.aload_n 0, 1) := by decide +kernel
theorem dL_law_256 : decode cL_law 256 = .ok (.iload_n 3, 1) := by decide +kernel
theorem dL_law_257 : decode cL_law 257 = .ok (.iconst 3, 1) := by decide +kernel
theorem dL_law_258 : decode cL_law 258 = .ok (.iadd, 1) := by decide +kernel
theorem dL_law_259 : decode cL_law 259 = .ok (.iaload, 1) := by decide +kernel
theorem dL_law_260 : decode cL_law 260 = .ok (.ifCond .eq 7, 3) := by decide +kernel
theorem dL_law_263 : decode cL_law 263 = .ok (.iconst 1, 1) := by decide +kernel
theorem dL_law_264 : decode cL_law 264 = .ok (.goto 4, 3) := by decide +kernel
theorem dL_law_267 : decode cL_law 267 = .ok (.iconst 0, 1) := by decide +kernel
theorem dL_law_268 : decode cL_law 268 = .ok (.invokevirtual 23, 3) := by decide +kernel
theorem dL_law_271 : decode cL_law 271 = .ok (.aload_n 2, 1) := by decide +kernel
theorem dL_law_272 : decode cL_law 272 = .ok (.aload_n 0, 1) := by decide +kernel
theorem dL_law_273 : decode cL_law 273 = .ok (.iload_n 3, 1) := by decide +kernel
theorem dL_law_274 : decode cL_law 274 = .ok (.iconst 1, 1) := by decide +kernel
theorem dL_law_275 : decode cL_law 275 = .ok (.iadd, 1) := by decide +kernel
theorem dL_law_276 : decode cL_law 276 = .ok (.iaload, 1) := by decide +kernel
theorem dL_law_277 : decode cL_law 277 = .ok (.aload_n 0, 1) := by decide +kernel
theorem dL_law_278 : decode cL_law 278 = .ok (.iload_n 3, 1) := by decide +kernel
theorem dL_law_279 : decode cL_law 279 = .ok (.iconst 2, 1) := by decide +kernel
theorem dL_law_280 : decode cL_law 280 = .ok (.iadd, 1) := by decide +kernel
theorem dL_law_281 : decode cL_law 281 = .ok (.iaload, 1) := by decide +kernel
theorem dL_law_282 : decode cL_law 282 = .ok (.aload_n 0, 1) := by decide +kernel
theorem dL_law_283 : decode cL_law 283 = .ok (.iload_n 3, 1) := by decide +kernel
theorem dL_law_284 : decode cL_law 284 = .ok (.iconst 3, 1) := by decide +kernel
theorem dL_law_285 : decode cL_law 285 = .ok (.iadd, 1) := by decide +kernel
theorem dL_law_286 : decode cL_law 286 = .ok (.iaload, 1) := by decide +kernel
theorem dL_law_287 : decode cL_law 287 = .ok (.ifCond .eq 7, 3) := by decide +kernel
theorem dL_law_290 : decode cL_law 290 = .ok (.iconst 1, 1) := by decide +kernel
theorem dL_law_291 : decode cL_law 291 = .ok (.goto 4, 3) := by decide +kernel
theorem dL_law_294 : decode cL_law 294 = .ok (.iconst 0, 1) := by decide +kernel
theorem dL_law_295 : decode cL_law 295 = .ok (.invokevirtual 27, 3) := by decide +kernel
theorem dL_law_298 : decode cL_law 298 = .ok (.if_icmp .eq 787, 3) := by decide +kernel
theorem dL_law_301 : decode cL_law 301 = .ok (.iconst 0, 1) := by decide +kernel
theorem dL_law_302 : decode cL_law 302 = .ok (.ireturn, 1) := by decide +kernel
theorem dL_law_303 : decode cL_law 303 = .ok (.aload_n 1, 1) := by decide +kernel
theorem dL_law_304 : decode cL_law 304 = .ok (.aload_n 0, 1) := by decide +kernel
theorem dL_law_305 : decode cL_law 305 = .ok (.iload_n 3, 1) := by decide +kernel
theorem dL_law_306 : decode cL_law 306 = .ok (.iconst 1, 1) := by decide +kernel
theorem dL_law_307 : decode cL_law 307 = .ok (.iadd, 1) := by decide +kernel
theorem dL_law_308 : decode cL_law 308 = .ok (.iaload, 1) := by decide +kernel
theorem dL_law_309 : decode cL_law 309 = .ok (.invokevirtual 28, 3) := by decide +kernel
theorem dL_law_312 : decode cL_law 312 = .ok (.aload_n 2, 1) := by decide +kernel
theorem dL_law_313 : decode cL_law 313 = .ok (.aload_n 0, 1) := by decide +kernel
theorem dL_law_314 : decode cL_law 314 = .ok (.iload_n 3, 1) := by decide +kernel
theorem dL_law_315 : decode cL_law 315 = .ok (.iconst 1, 1) := by decide +kernel
theorem dL_law_316 : decode cL_law 316 = .ok (.iadd, 1) := by decide +kernel
theorem dL_law_317 : decode cL_law 317 = .ok (.iaload, 1) := by decide +kernel
theorem dL_law_318 : decode cL_law 318 = .ok (.invokevirtual 31, 3) := by decide +kernel
theorem dL_law_321 : decode cL_law 321 = .ok (.if_icmp .eq 764, 3) := by decide +kernel
theorem dL_law_324 : decode cL_law 324 = .ok (.iconst 0, 1) := by decide +kernel
theorem dL_law_325 : decode cL_law 325 = .ok (.ireturn, 1) := by decide +kernel
theorem dL_law_326 : decode cL_law 326 = .ok (.aload_n 1, 1) := by decide +kernel
theorem dL_law_327 : decode cL_law 327 = .ok (.aload_n 0, 1) := by decide +kernel
theorem dL_law_328 : decode cL_law 328 = .ok (.iload_n 3, 1) := by decide +kernel
theorem dL_law_329 : decode cL_law 329 = .ok (.iconst 1, 1) := by decide +kernel
theorem dL_law_330 : decode cL_law 330 = .ok (.iadd, 1) := by decide +kernel
theorem dL_law_331 : decode cL_law 331 = .ok (.iaload, 1) := by decide +kernel
theorem dL_law_332 : decode cL_law 332 = .ok (.invokevirtual 32, 3) := by decide +kernel
theorem dL_law_335 : decode cL_law 335 = .ok (.aload_n 2, 1) := by decide +kernel
theorem dL_law_336 : decode cL_law 336 = .ok (.aload_n 0, 1) := by decide +kernel
theorem dL_law_337 : decode cL_law 337 = .ok (.iload_n 3, 1) := by decide +kernel
theorem dL_law_338 : decode cL_law 338 = .ok (.iconst 1, 1) := by decide +kernel
theorem dL_law_339 : decode cL_law 339 = .ok (.iadd, 1) := by decide +kernel
theorem dL_law_340 : decode cL_law 340 = .ok (.iaload, 1) := by decide +kernel
theorem dL_law_341 : decode cL_law 341 = .ok (.invokevirtual 35, 3) := by decide +kernel
theorem dL_law_344 : decode cL_law 344 = .ok (.if_icmp .eq 741, 3) := by decide +kernel
theorem dL_law_347 : decode cL_law 347 = .ok (.iconst 0, 1) := by decide +kernel
theorem dL_law_348 : decode cL_law 348 = .ok (.ireturn, 1) := by decide +kernel
theorem dL_law_349 : decode cL_law 349 = .ok (.aload_n 1, 1) := by decide +kernel
theorem dL_law_350 : decode cL_law 350 = .ok (.invokevirtual 36, 3) := by decide +kernel
theorem dL_law_353 : decode cL_law 353 = .ok (.aload_n 2, 1) := by decide +kernel
theorem dL_law_354 : decode cL_law 354 = .ok (.invokevirtual 40, 3) := by decide +kernel
theorem dL_law_357 : decode cL_law 357 = .ok (.if_icmp .eq 728, 3) := by decide +kernel
theorem dL_law_360 : decode cL_law 360 = .ok (.iconst 0, 1) := by decide +kernel
theorem dL_law_361 : decode cL_law 361 = .ok (.ireturn, 1) := by decide +kernel
theorem dL_law_362 : decode cL_law 362 = .ok (.aload_n 1, 1) := by decide +kernel
theorem dL_law_363 : decode cL_law 363 = .ok (.invokevirtual 41, 3) := by decide +kernel
theorem dL_law_366 : decode cL_law 366 = .ok (.aload_n 2, 1) := by decide +kernel
theorem dL_law_367 : decode cL_law 367 = .ok (.invokevirtual 44, 3) := by decide +kernel
theorem dL_law_370 : decode cL_law 370 = .ok (.if_icmp .eq 715, 3) := by decide +kernel
theorem dL_law_373 : decode cL_law 373 = .ok (.iconst 0, 1) := by decide +kernel
theorem dL_law_374 : decode cL_law 374 = .ok (.ireturn, 1) := by decide +kernel
theorem dL_law_375 : decode cL_law 375 = .ok (.aload_n 1, 1) := by decide +kernel
theorem dL_law_376 : decode cL_law 376 = .ok (.aload_n 0, 1) := by decide +kernel
theorem dL_law_377 : decode cL_law 377 = .ok (.iload_n 3, 1) := by decide +kernel
theorem dL_law_378 : decode cL_law 378 = .ok (.iconst 1, 1) := by decide +kernel
theorem dL_law_379 : decode cL_law 379 = .ok (.iadd, 1) := by decide +kernel
theorem dL_law_380 : decode cL_law 380 = .ok (.iaload, 1) := by decide +kernel
theorem dL_law_381 : decode cL_law 381 = .ok (.invokevirtual 45, 3) := by decide +kernel
theorem dL_law_384 : decode cL_law 384 = .ok (.aload_n 2, 1) := by decide +kernel
theorem dL_law_385 : decode cL_law 385 = .ok (.aload_n 0, 1) := by decide +kernel
theorem dL_law_386 : decode cL_law 386 = .ok (.iload_n 3, 1) := by decide +kernel
theorem dL_law_387 : decode cL_law 387 = .ok (.iconst 1, 1) := by decide +kernel
theorem dL_law_388 : decode cL_law 388 = .ok (.iadd, 1) := by decide +kernel
theorem dL_law_389 : decode cL_law 389 = .ok (.iaload, 1) := by decide +kernel
theorem dL_law_390 : decode cL_law 390 = .ok (.invokevirtual 48, 3) := by decide +kernel
theorem dL_law_393 : decode cL_law 393 = .ok (.if_icmp .eq 692, 3) := by decide +kernel
theorem dL_law_396 : decode cL_law 396 = .ok (.iconst 0, 1) := by decide +kernel
theorem dL_law_397 : decode cL_law 397 = .ok (.ireturn, 1) := by decide +kernel
theorem dL_law_398 : decode cL_law 398 = .ok (.aload_n 1, 1) := by decide +kernel
theorem dL_law_399 : decode cL_law 399 = .ok (.aload_n 0, 1) := by decide +kernel
theorem dL_law_400 : decode cL_law 400 = .ok (.iload_n 3, 1) := by decide +kernel
theorem dL_law_401 : decode cL_law 401 = .ok (.iconst 1, 1) := by decide +kernel
theorem dL_law_402 : decode cL_law 402 = .ok (.iadd, 1) := by decide +kernel
theorem dL_law_403 : decode cL_law 403 = .ok (.iaload, 1) := by decide +kernel
theorem dL_law_404 : decode cL_law 404 = .ok (.aload_n 0, 1) := by decide +kernel
theorem dL_law_405 : decode cL_law 405 = .ok (.iload_n 3, 1) := by decide +kernel
theorem dL_law_406 : decode cL_law 406 = .ok (.iconst 2, 1) := by decide +kernel
theorem dL_law_407 : decode cL_law 407 = .ok (.iadd, 1) := by decide +kernel
theorem dL_law_408 : decode cL_law 408 = .ok (.iaload, 1) := by decide +kernel
theorem dL_law_409 : decode cL_law 409 = .ok (.invokevirtual 49, 3) := by decide +kernel
theorem dL_law_412 : decode cL_law 412 = .ok (.aload_n 2, 1) := by decide +kernel
theorem dL_law_413 : decode cL_law 413 = .ok (.aload_n 0, 1) := by decide +kernel
theorem dL_law_414 : decode cL_law 414 = .ok (.iload_n 3, 1) := by decide +kernel
theorem dL_law_415 : decode cL_law 415 = .ok (.iconst 1, 1) := by decide +kernel
theorem dL_law_416 : decode cL_law 416 = .ok (.iadd, 1) := by decide +kernel
theorem dL_law_417 : decode cL_law 417 = .ok (.iaload, 1) := by decide +kernel
theorem dL_law_418 : decode cL_law 418 = .ok (.aload_n 0, 1) := by decide +kernel
theorem dL_law_419 : decode cL_law 419 = .ok (.iload_n 3, 1) := by decide +kernel
theorem dL_law_420 : decode cL_law 420 = .ok (.iconst 2, 1) := by decide +kernel
theorem dL_law_421 : decode cL_law 421 = .ok (.iadd, 1) := by decide +kernel
theorem dL_law_422 : decode cL_law 422 = .ok (.iaload, 1) := by decide +kernel
theorem dL_law_423 : decode cL_law 423 = .ok (.invokevirtual 53, 3) := by decide +kernel
theorem dL_law_426 : decode cL_law 426 = .ok (.if_icmp .eq 659, 3) := by decide +kernel
theorem dL_law_429 : decode cL_law 429 = .ok (.iconst 0, 1) := by decide +kernel
theorem dL_law_430 : decode cL_law 430 = .ok (.ireturn, 1) := by decide +kernel
theorem dL_law_431 : decode cL_law 431 = .ok (.aload_n 1, 1) := by decide +kernel
theorem dL_law_432 : decode cL_law 432 = .ok (.invokevirtual 54, 3) := by decide +kernel
theorem dL_law_435 : decode cL_law 435 = .ok (.aload_n 2, 1) := by decide +kernel
theorem dL_law_436 : decode cL_law 436 = .ok (.invokevirtual 57, 3) := by decide +kernel
theorem dL_law_439 : decode cL_law 439 = .ok (.if_icmp .eq 646, 3) := by decide +kernel
theorem dL_law_442 : decode cL_law 442 = .ok (.iconst 0, 1) := by decide +kernel
theorem dL_law_443 : decode cL_law 443 = .ok (.ireturn, 1) := by decide +kernel
theorem dL_law_444 : decode cL_law 444 = .ok (.aload_n 1, 1) := by decide +kernel
theorem dL_law_445 : decode cL_law 445 = .ok (.aload_n 0, 1) := by decide +kernel
theorem dL_law_446 : decode cL_law 446 = .ok (.iload_n 3, 1) := by decide +kernel
theorem dL_law_447 : decode cL_law 447 = .ok (.iconst 1, 1) := by decide +kernel
theorem dL_law_448 : decode cL_law 448 = .ok (.iadd, 1) := by decide +kernel
theorem dL_law_449 : decode cL_law 449 = .ok (.iaload, 1) := by decide +kernel
theorem dL_law_450 : decode cL_law 450 = .ok (.invokevirtual 58, 3) := by decide +kernel
theorem dL_law_453 : decode cL_law 453 = .ok (.aload_n 2, 1) := by decide +kernel
theorem dL_law_454 : decode cL_law 454 = .ok (.aload_n 0, 1) := by decide +kernel
theorem dL_law_455 : decode cL_law 455 = .ok (.iload_n 3, 1) := by decide +kernel
theorem dL_law_456 : decode cL_law 456 = .ok (.iconst 1, 1) := by decide +kernel
theorem dL_law_457 : decode cL_law 457 = .ok (.iadd, 1) := by decide +kernel
theorem dL_law_458 : decode cL_law 458 = .ok (.iaload, 1) := by decide +kernel
theorem dL_law_459 : decode cL_law 459 = .ok (.invokevirtual 61, 3) := by decide +kernel
theorem dL_law_462 : decode cL_law 462 = .ok (.if_icmp .eq 623, 3) := by decide +kernel
theorem dL_law_465 : decode cL_law 465 = .ok (.iconst 0, 1) := by decide +kernel
theorem dL_law_466 : decode cL_law 466 = .ok (.ireturn, 1) := by decide +kernel
theorem dL_law_467 : decode cL_law 467 = .ok (.aload_n 1, 1) := by decide +kernel
theorem dL_law_468 : decode cL_law 468 = .ok (.aload_n 0, 1) := by decide +kernel
theorem dL_law_469 : decode cL_law 469 = .ok (.iload_n 3, 1) := by decide +kernel
theorem dL_law_470 : decode cL_law 470 = .ok (.iconst 1, 1) := by decide +kernel
theorem dL_law_471 : decode cL_law 471 = .ok (.iadd, 1) := by decide +kernel
theorem dL_law_472 : decode cL_law 472 = .ok (.iaload, 1) := by decide +kernel
theorem dL_law_473 : decode cL_law 473 = .ok (.invokevirtual 62, 3) := by decide +kernel
theorem dL_law_476 : decode cL_law 476 = .ok (.aload_n 2, 1) := by decide +kernel
theorem dL_law_477 : decode cL_law 477 = .ok (.aload_n 0, 1) := by decide +kernel
theorem dL_law_478 : decode cL_law 478 = .ok (.iload_n 3, 1) := by decide +kernel
theorem dL_law_479 : decode cL_law 479 = .ok (.iconst 1, 1) := by decide +kernel
theorem dL_law_480 : decode cL_law 480 = .ok (.iadd, 1) := by decide +kernel
theorem dL_law_481 : decode cL_law 481 = .ok (.iaload, 1) := by decide +kernel
theorem dL_law_482 : decode cL_law 482 = .ok (.invokevirtual 65, 3) := by decide +kernel
theorem dL_law_485 : decode cL_law 485 = .ok (.if_icmp .eq 600, 3) := by decide +kernel
theorem dL_law_488 : decode cL_law 488 = .ok (.iconst 0, 1) := by decide +kernel
theorem dL_law_489 : decode cL_law 489 = .ok (.ireturn, 1) := by decide +kernel
theorem dL_law_490 : decode cL_law 490 = .ok (.aload_n 1, 1) := by decide +kernel
theorem dL_law_491 : decode cL_law 491 = .ok (.aload_n 0, 1) := by decide +kernel
theorem dL_law_492 : decode cL_law 492 = .ok (.iload_n 3, 1) := by decide +kernel
theorem dL_law_493 : decode cL_law 493 = .ok (.iconst 1, 1) := by decide +kernel
theorem dL_law_494 : decode cL_law 494 = .ok (.iadd, 1) := by decide +kernel
theorem dL_law_495 : decode cL_law 495 = .ok (.iaload, 1) := by decide +kernel
theorem dL_law_496 : decode cL_law 496 = .ok (.invokevirtual 66, 3) := by decide +kernel
theorem dL_law_499 : decode cL_law 499 = .ok (.aload_n 2, 1) := by decide +kernel
theorem dL_law_500 : decode cL_law 500 = .ok (.aload_n 0, 1) := by decide +kernel
theorem dL_law_501 : decode cL_law 501 = .ok (.iload_n 3, 1) := by decide +kernel
theorem dL_law_502 : decode cL_law 502 = .ok (.iconst 1, 1) := by decide +kernel
theorem dL_law_503 : decode cL_law 503 = .ok (.iadd, 1) := by decide +kernel
theorem dL_law_504 : decode cL_law 504 = .ok (.iaload, 1) := by decide +kernel
theorem dL_law_505 : decode cL_law 505 = .ok (.invokevirtual 69, 3) := by decide +kernel
theorem dL_law_508 : decode cL_law 508 = .ok (.if_icmp .eq 577, 3) := by decide +kernel
theorem dL_law_511 : decode cL_law 511 = .ok (.iconst 0, 1) := by decide +kernel
theorem dL_law_512 : decode cL_law 512 = .ok (.ireturn, 1) := by decide +kernel
theorem dL_law_513 : decode cL_law 513 = .ok (.aload_n 1, 1) := by decide +kernel
theorem dL_law_514 : decode cL_law 514 = .ok (.aload_n 0, 1) := by decide +kernel
theorem dL_law_515 : decode cL_law 515 = .ok (.iload_n 3, 1) := by decide +kernel
theorem dL_law_516 : decode cL_law 516 = .ok (.iconst 1, 1) := by decide +kernel
theorem dL_law_517 : decode cL_law 517 = .ok (.iadd, 1) := by decide +kernel
theorem dL_law_518 : decode cL_law 518 = .ok (.iaload, 1) := by decide +kernel
theorem dL_law_519 : decode cL_law 519 = .ok (.aload_n 0, 1) := by decide +kernel
theorem dL_law_520 : decode cL_law 520 = .ok (.iload_n 3, 1) := by decide +kernel
theorem dL_law_521 : decode cL_law 521 = .ok (.iconst 2, 1) := by decide +kernel
theorem dL_law_522 : decode cL_law 522 = .ok (.iadd, 1) := by decide +kernel
theorem dL_law_523 : decode cL_law 523 = .ok (.iaload, 1) := by decide +kernel
theorem dL_law_524 : decode cL_law 524 = .ok (.invokevirtual 70, 3) := by decide +kernel
theorem dL_law_527 : decode cL_law 527 = .ok (.aload_n 2, 1) := by decide +kernel
theorem dL_law_528 : decode cL_law 528 = .ok (.aload_n 0, 1) := by decide +kernel
theorem dL_law_529 : decode cL_law 529 = .ok (.iload_n 3, 1) := by decide +kernel
theorem dL_law_530 : decode cL_law 530 = .ok (.iconst 1, 1) := by decide +kernel
theorem dL_law_531 : decode cL_law 531 = .ok (.iadd, 1) := by decide +kernel
theorem dL_law_532 : decode cL_law 532 = .ok (.iaload, 1) := by decide +kernel
theorem dL_law_533 : decode cL_law 533 = .ok (.aload_n 0, 1) := by decide +kernel
theorem dL_law_534 : decode cL_law 534 = .ok (.iload_n 3, 1) := by decide +kernel
theorem dL_law_535 : decode cL_law 535 = .ok (.iconst 2, 1) := by decide +kernel
theorem dL_law_536 : decode cL_law 536 = .ok (.iadd, 1) := by decide +kernel
theorem dL_law_537 : decode cL_law 537 = .ok (.iaload, 1) := by decide +kernel
theorem dL_law_538 : decode cL_law 538 = .ok (.invokevirtual 73, 3) := by decide +kernel
theorem dL_law_541 : decode cL_law 541 = .ok (.if_icmp .eq 544, 3) := by decide +kernel
theorem dL_law_544 : decode cL_law 544 = .ok (.iconst 0, 1) := by decide +kernel
theorem dL_law_545 : decode cL_law 545 = .ok (.ireturn, 1) := by decide +kernel
theorem dL_law_546 : decode cL_law 546 = .ok (.aload_n 1, 1) := by decide +kernel
theorem dL_law_547 : decode cL_law 547 = .ok (.aload_n 0, 1) := by decide +kernel
theorem dL_law_548 : decode cL_law 548 = .ok (.iload_n 3, 1) := by decide +kernel
theorem dL_law_549 : decode cL_law 549 = .ok (.iconst 1, 1) := by decide +kernel
theorem dL_law_550 : decode cL_law 550 = .ok (.iadd, 1) := by decide +kernel
theorem dL_law_551 : decode cL_law 551 = .ok (.iaload, 1) := by decide +kernel
theorem dL_law_552 : decode cL_law 552 = .ok (.aload_n 0, 1) := by decide +kernel
theorem dL_law_553 : decode cL_law 553 = .ok (.iload_n 3, 1) := by decide +kernel
theorem dL_law_554 : decode cL_law 554 = .ok (.iconst 2, 1) := by decide +kernel
theorem dL_law_555 : decode cL_law 555 = .ok (.iadd, 1) := by decide +kernel
theorem dL_law_556 : decode cL_law 556 = .ok (.iaload, 1) := by decide +kernel
theorem dL_law_557 : decode cL_law 557 = .ok (.ifCond .eq 7, 3) := by decide +kernel
theorem dL_law_560 : decode cL_law 560 = .ok (.iconst 1, 1) := by decide +kernel
theorem dL_law_561 : decode cL_law 561 = .ok (.goto 4, 3) := by decide +kernel
theorem dL_law_564 : decode cL_law 564 = .ok (.iconst 0, 1) := by decide +kernel
theorem dL_law_565 : decode cL_law 565 = .ok (.aload_n 0, 1) := by decide +kernel
theorem dL_law_566 : decode cL_law 566 = .ok (.iload_n 3, 1) := by decide +kernel
theorem dL_law_567 : decode cL_law 567 = .ok (.iconst 3, 1) := by decide +kernel
theorem dL_law_568 : decode cL_law 568 = .ok (.iadd, 1) := by decide +kernel
theorem dL_law_569 : decode cL_law 569 = .ok (.iaload, 1) := by decide +kernel
theorem dL_law_570 : decode cL_law 570 = .ok (.invokevirtual 74, 3) := by decide +kernel
theorem dL_law_573 : decode cL_law 573 = .ok (.aload_n 2, 1) := by decide +kernel
theorem dL_law_574 : decode cL_law 574 = .ok (.aload_n 0, 1) := by decide +kernel
theorem dL_law_575 : decode cL_law 575 = .ok (.iload_n 3, 1) := by decide +kernel
theorem dL_law_576 : decode cL_law 576 = .ok (.iconst 1, 1) := by decide +kernel
theorem dL_law_577 : decode cL_law 577 = .ok (.iadd, 1) := by decide +kernel
theorem dL_law_578 : decode cL_law 578 = .ok (.iaload, 1) := by decide +kernel
theorem dL_law_579 : decode cL_law 579 = .ok (.aload_n 0, 1) := by decide +kernel
theorem dL_law_580 : decode cL_law 580 = .ok (.iload_n 3, 1) := by decide +kernel
theorem dL_law_581 : decode cL_law 581 = .ok (.iconst 2, 1) := by decide +kernel
theorem dL_law_582 : decode cL_law 582 = .ok (.iadd, 1) := by decide +kernel
theorem dL_law_583 : decode cL_law 583 = .ok (.iaload, 1) := by decide +kernel
theorem dL_law_584 : decode cL_law 584 = .ok (.ifCond .eq 7, 3) := by decide +kernel
theorem dL_law_587 : decode cL_law 587 = .ok (.iconst 1, 1) := by decide +kernel
theorem dL_law_588 : decode cL_law 588 = .ok (.goto 4, 3) := by decide +kernel
theorem dL_law_591 : decode cL_law 591 = .ok (.iconst 0, 1) := by decide +kernel
theorem dL_law_592 : decode cL_law 592 = .ok (.aload_n 0, 1) := by decide +kernel
theorem dL_law_593 : decode cL_law 593 = .ok (.iload_n 3, 1) := by decide +kernel
theorem dL_law_594 : decode cL_law 594 = .ok (.iconst 3, 1) := by decide +kernel
theorem dL_law_595 : decode cL_law 595 = .ok (.iadd, 1) := by decide +kernel
theorem dL_law_596 : decode cL_law 596 = .ok (.iaload, 1) := by decide +kernel
theorem dL_law_597 : decode cL_law 597 = .ok (.invokevirtual 78, 3) := by decide +kernel
theorem dL_law_600 : decode cL_law 600 = .ok (.if_icmp .eq 485, 3) := by decide +kernel
theorem dL_law_603 : decode cL_law 603 = .ok (.iconst 0, 1) := by decide +kernel
theorem dL_law_604 : decode cL_law 604 = .ok (.ireturn, 1) := by decide +kernel
theorem dL_law_605 : decode cL_law 605 = .ok (.aload_n 1, 1) := by decide +kernel
theorem dL_law_606 : decode cL_law 606 = .ok (.aload_n 0, 1) := by decide +kernel
theorem dL_law_607 : decode cL_law 607 = .ok (.iload_n 3, 1) := by decide +kernel
theorem dL_law_608 : decode cL_law 608 = .ok (.iconst 1, 1) := by decide +kernel
theorem dL_law_609 : decode cL_law 609 = .ok (.iadd, 1) := by decide +kernel
theorem dL_law_610 : decode cL_law 610 = .ok (.iaload, 1) := by decide +kernel
theorem dL_law_611 : decode cL_law 611 = .ok (.aload_n 0, 1) := by decide +kernel
theorem dL_law_612 : decode cL_law 612 = .ok (.iload_n 3, 1) := by decide +kernel
theorem dL_law_613 : decode cL_law 613 = .ok (.iconst 2, 1) := by decide +kernel
theorem dL_law_614 : decode cL_law 614 = .ok (.iadd, 1) := by decide +kernel
theorem dL_law_615 : decode cL_law 615 = .ok (.iaload, 1) := by decide +kernel
theorem dL_law_616 : decode cL_law 616 = .ok (.ifCond .eq 7, 3) := by decide +kernel
theorem dL_law_619 : decode cL_law 619 = .ok (.iconst 1, 1) := by decide +kernel
theorem dL_law_620 : decode cL_law 620 = .ok (.goto 4, 3) := by decide +kernel
theorem dL_law_623 : decode cL_law 623 = .ok (.iconst 0, 1) := by decide +kernel
theorem dL_law_624 : decode cL_law 624 = .ok (.invokevirtual 79, 3) := by decide +kernel
theorem dL_law_627 : decode cL_law 627 = .ok (.aload_n 2, 1) := by decide +kernel
theorem dL_law_628 : decode cL_law 628 = .ok (.aload_n 0, 1) := by decide +kernel
theorem dL_law_629 : decode cL_law 629 = .ok (.iload_n 3, 1) := by decide +kernel
theorem dL_law_630 : decode cL_law 630 = .ok (.iconst 1, 1) := by decide +kernel
theorem dL_law_631 : decode cL_law 631 = .ok (.iadd, 1) := by decide +kernel
theorem dL_law_632 : decode cL_law 632 = .ok (.iaload, 1) := by decide +kernel
theorem dL_law_633 : decode cL_law 633 = .ok (.aload_n 0, 1) := by decide +kernel
theorem dL_law_634 : decode cL_law 634 = .ok (.iload_n 3, 1) := by decide +kernel
theorem dL_law_635 : decode cL_law 635 = .ok (.iconst 2, 1) := by decide +kernel
theorem dL_law_636 : decode cL_law 636 = .ok (.iadd, 1) := by decide +kernel
theorem dL_law_637 : decode cL_law 637 = .ok (.iaload, 1) := by decide +kernel
theorem dL_law_638 : decode cL_law 638 = .ok (.ifCond .eq 7, 3) := by decide +kernel
theorem dL_law_641 : decode cL_law 641 = .ok (.iconst 1, 1) := by decide +kernel
theorem dL_law_642 : decode cL_law 642 = .ok (.goto 4, 3) := by decide +kernel
theorem dL_law_645 : decode cL_law 645 = .ok (.iconst 0, 1) := by decide +kernel
theorem dL_law_646 : decode cL_law 646 = .ok (.invokevirtual 83, 3) := by decide +kernel
theorem dL_law_649 : decode cL_law 649 = .ok (.if_icmp .eq 436, 3) := by decide +kernel
theorem dL_law_652 : decode cL_law 652 = .ok (.iconst 0, 1) := by decide +kernel
theorem dL_law_653 : decode cL_law 653 = .ok (.ireturn, 1) := by decide +kernel
theorem dL_law_654 : decode cL_law 654 = .ok (.aload_n 1, 1) := by decide +kernel
theorem dL_law_655 : decode cL_law 655 = .ok (.aload_n 0, 1) := by decide +kernel
theorem dL_law_656 : decode cL_law 656 = .ok (.iload_n 3, 1) := by decide +kernel
theorem dL_law_657 : decode cL_law 657 = .ok (.iconst 1, 1) := by decide +kernel
theorem dL_law_658 : decode cL_law 658 = .ok (.iadd, 1) := by decide +kernel
theorem dL_law_659 : decode cL_law 659 = .ok (.iaload, 1) := by decide +kernel
theorem dL_law_660 : decode cL_law 660 = .ok (.ifCond .eq 7, 3) := by decide +kernel
theorem dL_law_663 : decode cL_law 663 = .ok (.iconst 1, 1) := by decide +kernel
theorem dL_law_664 : decode cL_law 664 = .ok (.goto 4, 3) := by decide +kernel
theorem dL_law_667 : decode cL_law 667 = .ok (.iconst 0, 1) := by decide +kernel
theorem dL_law_668 : decode cL_law 668 = .ok (.invokevirtual 84, 3) := by decide +kernel
theorem dL_law_671 : decode cL_law 671 = .ok (.aload_n 2, 1) := by decide +kernel
theorem dL_law_672 : decode cL_law 672 = .ok (.aload_n 0, 1) := by decide +kernel
theorem dL_law_673 : decode cL_law 673 = .ok (.iload_n 3, 1) := by decide +kernel
theorem dL_law_674 : decode cL_law 674 = .ok (.iconst 1, 1) := by decide +kernel
theorem dL_law_675 : decode cL_law 675 = .ok (.iadd, 1) := by decide +kernel
theorem dL_law_676 : decode cL_law 676 = .ok (.iaload, 1) := by decide +kernel
theorem dL_law_677 : decode cL_law 677 = .ok (.ifCond .eq 7, 3) := by decide +kernel
theorem dL_law_680 : decode cL_law 680 = .ok (.iconst 1, 1) := by decide +kernel
theorem dL_law_681 : decode cL_law 681 = .ok (.goto 4, 3) := by decide +kernel
theorem dL_law_684 : decode cL_law 684 = .ok (.iconst 0, 1) := by decide +kernel
theorem dL_law_685 : decode cL_law 685 = .ok (.invokevirtual 88, 3) := by decide +kernel
theorem dL_law_688 : decode cL_law 688 = .ok (.if_icmp .eq 397, 3) := by decide +kernel
theorem dL_law_691 : decode cL_law 691 = .ok (.iconst 0, 1) := by decide +kernel
theorem dL_law_692 : decode cL_law 692 = .ok (.ireturn, 1) := by decide +kernel
theorem dL_law_693 : decode cL_law 693 = .ok (.aload_n 1, 1) := by decide +kernel
theorem dL_law_694 : decode cL_law 694 = .ok (.aload_n 0, 1) := by decide +kernel
theorem dL_law_695 : decode cL_law 695 = .ok (.iload_n 3, 1) := by decide +kernel
theorem dL_law_696 : decode cL_law 696 = .ok (.iconst 1, 1) := by decide +kernel
theorem dL_law_697 : decode cL_law 697 = .ok (.iadd, 1) := by decide +kernel
theorem dL_law_698 : decode cL_law 698 = .ok (.iaload, 1) := by decide +kernel
theorem dL_law_699 : decode cL_law 699 = .ok (.invokevirtual 89, 3) := by decide +kernel
theorem dL_law_702 : decode cL_law 702 = .ok (.aload_n 2, 1) := by decide +kernel
theorem dL_law_703 : decode cL_law 703 = .ok (.aload_n 0, 1) := by decide +kernel
theorem dL_law_704 : decode cL_law 704 = .ok (.iload_n 3, 1) := by decide +kernel
theorem dL_law_705 : decode cL_law 705 = .ok (.iconst 1, 1) := by decide +kernel
theorem dL_law_706 : decode cL_law 706 = .ok (.iadd, 1) := by decide +kernel
theorem dL_law_707 : decode cL_law 707 = .ok (.iaload, 1) := by decide +kernel
theorem dL_law_708 : decode cL_law 708 = .ok (.invokevirtual 92, 3) := by decide +kernel
theorem dL_law_711 : decode cL_law 711 = .ok (.if_icmp .eq 374, 3) := by decide +kernel
theorem dL_law_714 : decode cL_law 714 = .ok (.iconst 0, 1) := by decide +kernel
theorem dL_law_715 : decode cL_law 715 = .ok (.ireturn, 1) := by decide +kernel
theorem dL_law_716 : decode cL_law 716 = .ok (.aload_n 1, 1) := by decide +kernel
theorem dL_law_717 : decode cL_law 717 = .ok (.invokevirtual 93, 3) := by decide +kernel
theorem dL_law_720 : decode cL_law 720 = .ok (.aload_n 2, 1) := by decide +kernel
theorem dL_law_721 : decode cL_law 721 = .ok (.invokevirtual 96, 3) := by decide +kernel
theorem dL_law_724 : decode cL_law 724 = .ok (.if_icmp .eq 361, 3) := by decide +kernel
theorem dL_law_727 : decode cL_law 727 = .ok (.iconst 0, 1) := by decide +kernel
theorem dL_law_728 : decode cL_law 728 = .ok (.ireturn, 1) := by decide +kernel
theorem dL_law_729 : decode cL_law 729 = .ok (.aload_n 1, 1) := by decide +kernel
theorem dL_law_730 : decode cL_law 730 = .ok (.aload_n 0, 1) := by decide +kernel
theorem dL_law_731 : decode cL_law 731 = .ok (.iload_n 3, 1) := by decide +kernel
theorem dL_law_732 : decode cL_law 732 = .ok (.iconst 1, 1) := by decide +kernel
theorem dL_law_733 : decode cL_law 733 = .ok (.iadd, 1) := by decide +kernel
theorem dL_law_734 : decode cL_law 734 = .ok (.iaload, 1) := by decide +kernel
theorem dL_law_735 : decode cL_law 735 = .ok (.aload_n 0, 1) := by decide +kernel
theorem dL_law_736 : decode cL_law 736 = .ok (.iload_n 3, 1) := by decide +kernel
theorem dL_law_737 : decode cL_law 737 = .ok (.iconst 2, 1) := by decide +kernel
theorem dL_law_738 : decode cL_law 738 = .ok (.iadd, 1) := by decide +kernel
theorem dL_law_739 : decode cL_law 739 = .ok (.iaload, 1) := by decide +kernel
theorem dL_law_740 : decode cL_law 740 = .ok (.aload_n 0, 1) := by decide +kernel
theorem dL_law_741 : decode cL_law 741 = .ok (.iload_n 3, 1) := by decide +kernel
theorem dL_law_742 : decode cL_law 742 = .ok (.iconst 3, 1) := by decide +kernel
theorem dL_law_743 : decode cL_law 743 = .ok (.iadd, 1) := by decide +kernel
theorem dL_law_744 : decode cL_law 744 = .ok (.iaload, 1) := by decide +kernel
theorem dL_law_745 : decode cL_law 745 = .ok (.invokevirtual 97, 3) := by decide +kernel
theorem dL_law_748 : decode cL_law 748 = .ok (.aload_n 2, 1) := by decide +kernel
theorem dL_law_749 : decode cL_law 749 = .ok (.aload_n 0, 1) := by decide +kernel
theorem dL_law_750 : decode cL_law 750 = .ok (.iload_n 3, 1) := by decide +kernel
theorem dL_law_751 : decode cL_law 751 = .ok (.iconst 1, 1) := by decide +kernel
theorem dL_law_752 : decode cL_law 752 = .ok (.iadd, 1) := by decide +kernel
theorem dL_law_753 : decode cL_law 753 = .ok (.iaload, 1) := by decide +kernel
theorem dL_law_754 : decode cL_law 754 = .ok (.aload_n 0, 1) := by decide +kernel
theorem dL_law_755 : decode cL_law 755 = .ok (.iload_n 3, 1) := by decide +kernel
theorem dL_law_756 : decode cL_law 756 = .ok (.iconst 2, 1) := by decide +kernel
theorem dL_law_757 : decode cL_law 757 = .ok (.iadd, 1) := by decide +kernel
theorem dL_law_758 : decode cL_law 758 = .ok (.iaload, 1) := by decide +kernel
theorem dL_law_759 : decode cL_law 759 = .ok (.aload_n 0, 1) := by decide +kernel
theorem dL_law_760 : decode cL_law 760 = .ok (.iload_n 3, 1) := by decide +kernel
theorem dL_law_761 : decode cL_law 761 = .ok (.iconst 3, 1) := by decide +kernel
theorem dL_law_762 : decode cL_law 762 = .ok (.iadd, 1) := by decide +kernel
theorem dL_law_763 : decode cL_law 763 = .ok (.iaload, 1) := by decide +kernel
theorem dL_law_764 : decode cL_law 764 = .ok (.invokevirtual 101, 3) := by decide +kernel
theorem dL_law_767 : decode cL_law 767 = .ok (.if_icmp .eq 318, 3) := by decide +kernel
theorem dL_law_770 : decode cL_law 770 = .ok (.iconst 0, 1) := by decide +kernel
theorem dL_law_771 : decode cL_law 771 = .ok (.ireturn, 1) := by decide +kernel
theorem dL_law_772 : decode cL_law 772 = .ok (.aload_n 1, 1) := by decide +kernel
theorem dL_law_773 : decode cL_law 773 = .ok (.aload_n 0, 1) := by decide +kernel
theorem dL_law_774 : decode cL_law 774 = .ok (.iload_n 3, 1) := by decide +kernel
theorem dL_law_775 : decode cL_law 775 = .ok (.iconst 1, 1) := by decide +kernel
theorem dL_law_776 : decode cL_law 776 = .ok (.iadd, 1) := by decide +kernel
theorem dL_law_777 : decode cL_law 777 = .ok (.iaload, 1) := by decide +kernel
theorem dL_law_778 : decode cL_law 778 = .ok (.aload_n 0, 1) := by decide +kernel
theorem dL_law_779 : decode cL_law 779 = .ok (.iload_n 3, 1) := by decide +kernel
theorem dL_law_780 : decode cL_law 780 = .ok (.iconst 2, 1) := by decide +kernel
theorem dL_law_781 : decode cL_law 781 = .ok (.iadd, 1) := by decide +kernel
theorem dL_law_782 : decode cL_law 782 = .ok (.iaload, 1) := by decide +kernel
theorem dL_law_783 : decode cL_law 783 = .ok (.aload_n 0, 1) := by decide +kernel
theorem dL_law_784 : decode cL_law 784 = .ok (.iload_n 3, 1) := by decide +kernel
theorem dL_law_785 : decode cL_law 785 = .ok (.iconst 3, 1) := by decide +kernel
theorem dL_law_786 : decode cL_law 786 = .ok (.iadd, 1) := by decide +kernel
theorem dL_law_787 : decode cL_law 787 = .ok (.iaload, 1) := by decide +kernel
theorem dL_law_788 : decode cL_law 788 = .ok (.invokevirtual 102, 3) := by decide +kernel
theorem dL_law_791 : decode cL_law 791 = .ok (.aload_n 2, 1) := by decide +kernel
theorem dL_law_792 : decode cL_law 792 = .ok (.aload_n 0, 1) := by decide +kernel
theorem dL_law_793 : decode cL_law 793 = .ok (.iload_n 3, 1) := by decide +kernel
theorem dL_law_794 : decode cL_law 794 = .ok (.iconst 1, 1) := by decide +kernel
theorem dL_law_795 : decode cL_law 795 = .ok (.iadd, 1) := by decide +kernel
theorem dL_law_796 : decode cL_law 796 = .ok (.iaload, 1) := by decide +kernel
theorem dL_law_797 : decode cL_law 797 = .ok (.aload_n 0, 1) := by decide +kernel
theorem dL_law_798 : decode cL_law 798 = .ok (.iload_n 3, 1) := by decide +kernel
theorem dL_law_799 : decode cL_law 799 = .ok (.iconst 2, 1) := by decide +kernel
theorem dL_law_800 : decode cL_law 800 = .ok (.iadd, 1) := by decide +kernel
theorem dL_law_801 : decode cL_law 801 = .ok (.iaload, 1) := by decide +kernel
theorem dL_law_802 : decode cL_law 802 = .ok (.aload_n 0, 1) := by decide +kernel
theorem dL_law_803 : decode cL_law 803 = .ok (.iload_n 3, 1) := by decide +kernel
theorem dL_law_804 : decode cL_law 804 = .ok (.iconst 3, 1) := by decide +kernel
theorem dL_law_805 : decode cL_law 805 = .ok (.iadd, 1) := by decide +kernel
theorem dL_law_806 : decode cL_law 806 = .ok (.iaload, 1) := by decide +kernel
theorem dL_law_807 : decode cL_law 807 = .ok (.invokevirtual 105, 3) := by decide +kernel
theorem dL_law_810 : decode cL_law 810 = .ok (.if_icmp .eq 275, 3) := by decide +kernel
theorem dL_law_813 : decode cL_law 813 = .ok (.iconst 0, 1) := by decide +kernel
theorem dL_law_814 : decode cL_law 814 = .ok (.ireturn, 1) := by decide +kernel
theorem dL_law_815 : decode cL_law 815 = .ok (.aload_n 1, 1) := by decide +kernel
theorem dL_law_816 : decode cL_law 816 = .ok (.invokevirtual 106, 3) := by decide +kernel
theorem dL_law_819 : decode cL_law 819 = .ok (.aload_n 2, 1) := by decide +kernel
theorem dL_law_820 : decode cL_law 820 = .ok (.invokevirtual 109, 3) := by decide +kernel
theorem dL_law_823 : decode cL_law 823 = .ok (.if_icmp .eq 262, 3) := by decide +kernel
theorem dL_law_826 : decode cL_law 826 = .ok (.iconst 0, 1) := by decide +kernel
theorem dL_law_827 : decode cL_law 827 = .ok (.ireturn, 1) := by decide +kernel
theorem dL_law_828 : decode cL_law 828 = .ok (.aload_n 1, 1) := by decide +kernel
theorem dL_law_829 : decode cL_law 829 = .ok (.aload_n 0, 1) := by decide +kernel
theorem dL_law_830 : decode cL_law 830 = .ok (.iload_n 3, 1) := by decide +kernel
theorem dL_law_831 : decode cL_law 831 = .ok (.iconst 1, 1) := by decide +kernel
theorem dL_law_832 : decode cL_law 832 = .ok (.iadd, 1) := by decide +kernel
theorem dL_law_833 : decode cL_law 833 = .ok (.iaload, 1) := by decide +kernel
theorem dL_law_834 : decode cL_law 834 = .ok (.invokevirtual 110, 3) := by decide +kernel
theorem dL_law_837 : decode cL_law 837 = .ok (.aload_n 2, 1) := by decide +kernel
theorem dL_law_838 : decode cL_law 838 = .ok (.aload_n 0, 1) := by decide +kernel
theorem dL_law_839 : decode cL_law 839 = .ok (.iload_n 3, 1) := by decide +kernel
theorem dL_law_840 : decode cL_law 840 = .ok (.iconst 1, 1) := by decide +kernel
theorem dL_law_841 : decode cL_law 841 = .ok (.iadd, 1) := by decide +kernel
theorem dL_law_842 : decode cL_law 842 = .ok (.iaload, 1) := by decide +kernel
theorem dL_law_843 : decode cL_law 843 = .ok (.invokevirtual 113, 3) := by decide +kernel
theorem dL_law_846 : decode cL_law 846 = .ok (.if_icmp .eq 239, 3) := by decide +kernel
theorem dL_law_849 : decode cL_law 849 = .ok (.iconst 0, 1) := by decide +kernel
theorem dL_law_850 : decode cL_law 850 = .ok (.ireturn, 1) := by decide +kernel
theorem dL_law_851 : decode cL_law 851 = .ok (.aload_n 1, 1) := by decide +kernel
theorem dL_law_852 : decode cL_law 852 = .ok (.aload_n 0, 1) := by decide +kernel
theorem dL_law_853 : decode cL_law 853 = .ok (.iload_n 3, 1) := by decide +kernel
theorem dL_law_854 : decode cL_law 854 = .ok (.iconst 1, 1) := by decide +kernel
theorem dL_law_855 : decode cL_law 855 = .ok (.iadd, 1) := by decide +kernel
theorem dL_law_856 : decode cL_law 856 = .ok (.iaload, 1) := by decide +kernel
theorem dL_law_857 : decode cL_law 857 = .ok (.invokevirtual 114, 3) := by decide +kernel
theorem dL_law_860 : decode cL_law 860 = .ok (.aload_n 2, 1) := by decide +kernel
theorem dL_law_861 : decode cL_law 861 = .ok (.aload_n 0, 1) := by decide +kernel
theorem dL_law_862 : decode cL_law 862 = .ok (.iload_n 3, 1) := by decide +kernel
theorem dL_law_863 : decode cL_law 863 = .ok (.iconst 1, 1) := by decide +kernel
theorem dL_law_864 : decode cL_law 864 = .ok (.iadd, 1) := by decide +kernel
theorem dL_law_865 : decode cL_law 865 = .ok (.iaload, 1) := by decide +kernel
theorem dL_law_866 : decode cL_law 866 = .ok (.invokevirtual 117, 3) := by decide +kernel
theorem dL_law_869 : decode cL_law 869 = .ok (.if_icmp .eq 216, 3) := by decide +kernel
theorem dL_law_872 : decode cL_law 872 = .ok (.iconst 0, 1) := by decide +kernel
theorem dL_law_873 : decode cL_law 873 = .ok (.ireturn, 1) := by decide +kernel
theorem dL_law_874 : decode cL_law 874 = .ok (.aload_n 1, 1) := by decide +kernel
theorem dL_law_875 : decode cL_law 875 = .ok (.aload_n 0, 1) := by decide +kernel
theorem dL_law_876 : decode cL_law 876 = .ok (.iload_n 3, 1) := by decide +kernel
theorem dL_law_877 : decode cL_law 877 = .ok (.iconst 1, 1) := by decide +kernel
theorem dL_law_878 : decode cL_law 878 = .ok (.iadd, 1) := by decide +kernel
theorem dL_law_879 : decode cL_law 879 = .ok (.iaload, 1) := by decide +kernel
theorem dL_law_880 : decode cL_law 880 = .ok (.invokevirtual 118, 3) := by decide +kernel
theorem dL_law_883 : decode cL_law 883 = .ok (.aload_n 2, 1) := by decide +kernel
theorem dL_law_884 : decode cL_law 884 = .ok (.aload_n 0, 1) := by decide +kernel
theorem dL_law_885 : decode cL_law 885 = .ok (.iload_n 3, 1) := by decide +kernel
theorem dL_law_886 : decode cL_law 886 = .ok (.iconst 1, 1) := by decide +kernel
theorem dL_law_887 : decode cL_law 887 = .ok (.iadd, 1) := by decide +kernel
theorem dL_law_888 : decode cL_law 888 = .ok (.iaload, 1) := by decide +kernel
theorem dL_law_889 : decode cL_law 889 = .ok (.invokevirtual 121, 3) := by decide +kernel
theorem dL_law_892 : decode cL_law 892 = .ok (.if_icmp .eq 193, 3) := by decide +kernel
theorem dL_law_895 : decode cL_law 895 = .ok (.iconst 0, 1) := by decide +kernel
theorem dL_law_896 : decode cL_law 896 = .ok (.ireturn, 1) := by decide +kernel
theorem dL_law_897 : decode cL_law 897 = .ok (.aload_n 1, 1) := by decide +kernel
theorem dL_law_898 : decode cL_law 898 = .ok (.aload_n 0, 1) := by decide +kernel
theorem dL_law_899 : decode cL_law 899 = .ok (.iload_n 3, 1) := by decide +kernel
theorem dL_law_900 : decode cL_law 900 = .ok (.iconst 1, 1) := by decide +kernel
theorem dL_law_901 : decode cL_law 901 = .ok (.iadd, 1) := by decide +kernel
theorem dL_law_902 : decode cL_law 902 = .ok (.iaload, 1) := by decide +kernel
theorem dL_law_903 : decode cL_law 903 = .ok (.aload_n 0, 1) := by decide +kernel
theorem dL_law_904 : decode cL_law 904 = .ok (.iload_n 3, 1) := by decide +kernel
theorem dL_law_905 : decode cL_law 905 = .ok (.iconst 2, 1) := by decide +kernel
theorem dL_law_906 : decode cL_law 906 = .ok (.iadd, 1) := by decide +kernel
theorem dL_law_907 : decode cL_law 907 = .ok (.iaload, 1) := by decide +kernel
theorem dL_law_908 : decode cL_law 908 = .ok (.aload_n 0, 1) := by decide +kernel
theorem dL_law_909 : decode cL_law 909 = .ok (.iload_n 3, 1) := by decide +kernel
theorem dL_law_910 : decode cL_law 910 = .ok (.iconst 3, 1) := by decide +kernel
theorem dL_law_911 : decode cL_law 911 = .ok (.iadd, 1) := by decide +kernel
theorem dL_law_912 : decode cL_law 912 = .ok (.iaload, 1) := by decide +kernel
theorem dL_law_913 : decode cL_law 913 = .ok (.aload_n 0, 1) := by decide +kernel
theorem dL_law_914 : decode cL_law 914 = .ok (.iload_n 3, 1) := by decide +kernel
theorem dL_law_915 : decode cL_law 915 = .ok (.iconst 4, 1) := by decide +kernel
theorem dL_law_916 : decode cL_law 916 = .ok (.iadd, 1) := by decide +kernel
theorem dL_law_917 : decode cL_law 917 = .ok (.iaload, 1) := by decide +kernel
theorem dL_law_918 : decode cL_law 918 = .ok (.aload_n 0, 1) := by decide +kernel
theorem dL_law_919 : decode cL_law 919 = .ok (.iload_n 3, 1) := by decide +kernel
theorem dL_law_920 : decode cL_law 920 = .ok (.iconst 5, 1) := by decide +kernel
theorem dL_law_921 : decode cL_law 921 = .ok (.iadd, 1) := by decide +kernel
theorem dL_law_922 : decode cL_law 922 = .ok (.iaload, 1) := by decide +kernel
theorem dL_law_923 : decode cL_law 923 = .ok (.aload_n 0, 1) := by decide +kernel
theorem dL_law_924 : decode cL_law 924 = .ok (.iload_n 3, 1) := by decide +kernel
theorem dL_law_925 : decode cL_law 925 = .ok (.bipush 6, 2) := by decide +kernel
theorem dL_law_927 : decode cL_law 927 = .ok (.iadd, 1) := by decide +kernel
theorem dL_law_928 : decode cL_law 928 = .ok (.iaload, 1) := by decide +kernel
theorem dL_law_929 : decode cL_law 929 = .ok (.invokevirtual 122, 3) := by decide +kernel
theorem dL_law_932 : decode cL_law 932 = .ok (.aload_n 2, 1) := by decide +kernel
theorem dL_law_933 : decode cL_law 933 = .ok (.aload_n 0, 1) := by decide +kernel
theorem dL_law_934 : decode cL_law 934 = .ok (.iload_n 3, 1) := by decide +kernel
theorem dL_law_935 : decode cL_law 935 = .ok (.iconst 1, 1) := by decide +kernel
theorem dL_law_936 : decode cL_law 936 = .ok (.iadd, 1) := by decide +kernel
theorem dL_law_937 : decode cL_law 937 = .ok (.iaload, 1) := by decide +kernel
theorem dL_law_938 : decode cL_law 938 = .ok (.aload_n 0, 1) := by decide +kernel
theorem dL_law_939 : decode cL_law 939 = .ok (.iload_n 3, 1) := by decide +kernel
theorem dL_law_940 : decode cL_law 940 = .ok (.iconst 2, 1) := by decide +kernel
theorem dL_law_941 : decode cL_law 941 = .ok (.iadd, 1) := by decide +kernel
theorem dL_law_942 : decode cL_law 942 = .ok (.iaload, 1) := by decide +kernel
theorem dL_law_943 : decode cL_law 943 = .ok (.aload_n 0, 1) := by decide +kernel
theorem dL_law_944 : decode cL_law 944 = .ok (.iload_n 3, 1) := by decide +kernel
theorem dL_law_945 : decode cL_law 945 = .ok (.iconst 3, 1) := by decide +kernel
theorem dL_law_946 : decode cL_law 946 = .ok (.iadd, 1) := by decide +kernel
theorem dL_law_947 : decode cL_law 947 = .ok (.iaload, 1) := by decide +kernel
theorem dL_law_948 : decode cL_law 948 = .ok (.aload_n 0, 1) := by decide +kernel
theorem dL_law_949 : decode cL_law 949 = .ok (.iload_n 3, 1) := by decide +kernel
theorem dL_law_950 : decode cL_law 950 = .ok (.iconst 4, 1) := by decide +kernel
theorem dL_law_951 : decode cL_law 951 = .ok (.iadd, 1) := by decide +kernel
theorem dL_law_952 : decode cL_law 952 = .ok (.iaload, 1) := by decide +kernel
theorem dL_law_953 : decode cL_law 953 = .ok (.aload_n 0, 1) := by decide +kernel
theorem dL_law_954 : decode cL_law 954 = .ok (.iload_n 3, 1) := by decide +kernel
theorem dL_law_955 : decode cL_law 955 = .ok (.iconst 5, 1) := by decide +kernel
theorem dL_law_956 : decode cL_law 956 = .ok (.iadd, 1) := by decide +kernel
theorem dL_law_957 : decode cL_law 957 = .ok (.iaload, 1) := by decide +kernel
theorem dL_law_958 : decode cL_law 958 = .ok (.aload_n 0, 1) := by decide +kernel
theorem dL_law_959 : decode cL_law 959 = .ok (.iload_n 3, 1) := by decide +kernel
theorem dL_law_960 : decode cL_law 960 = .ok (.bipush 6, 2) := by decide +kernel
theorem dL_law_962 : decode cL_law 962 = .ok (.iadd, 1) := by decide +kernel
theorem dL_law_963 : decode cL_law 963 = .ok (.iaload, 1) := by decide +kernel
theorem dL_law_964 : decode cL_law 964 = .ok (.invokevirtual 126, 3) := by decide +kernel
theorem dL_law_967 : decode cL_law 967 = .ok (.lcmp, 1) := by decide +kernel
theorem dL_law_968 : decode cL_law 968 = .ok (.ifCond .eq 117, 3) := by decide +kernel
theorem dL_law_971 : decode cL_law 971 = .ok (.iconst 0, 1) := by decide +kernel
theorem dL_law_972 : decode cL_law 972 = .ok (.ireturn, 1) := by decide +kernel
theorem dL_law_973 : decode cL_law 973 = .ok (.aload_n 1, 1) := by decide +kernel
theorem dL_law_974 : decode cL_law 974 = .ok (.aload_n 0, 1) := by decide +kernel
theorem dL_law_975 : decode cL_law 975 = .ok (.iload_n 3, 1) := by decide +kernel
theorem dL_law_976 : decode cL_law 976 = .ok (.iconst 1, 1) := by decide +kernel
theorem dL_law_977 : decode cL_law 977 = .ok (.iadd, 1) := by decide +kernel
theorem dL_law_978 : decode cL_law 978 = .ok (.iaload, 1) := by decide +kernel
theorem dL_law_979 : decode cL_law 979 = .ok (.aload_n 0, 1) := by decide +kernel
theorem dL_law_980 : decode cL_law 980 = .ok (.iload_n 3, 1) := by decide +kernel
theorem dL_law_981 : decode cL_law 981 = .ok (.iconst 2, 1) := by decide +kernel
theorem dL_law_982 : decode cL_law 982 = .ok (.iadd, 1) := by decide +kernel
theorem dL_law_983 : decode cL_law 983 = .ok (.iaload, 1) := by decide +kernel
theorem dL_law_984 : decode cL_law 984 = .ok (.aload_n 0, 1) := by decide +kernel
theorem dL_law_985 : decode cL_law 985 = .ok (.iload_n 3, 1) := by decide +kernel
theorem dL_law_986 : decode cL_law 986 = .ok (.iconst 3, 1) := by decide +kernel
theorem dL_law_987 : decode cL_law 987 = .ok (.iadd, 1) := by decide +kernel
theorem dL_law_988 : decode cL_law 988 = .ok (.iaload, 1) := by decide +kernel
theorem dL_law_989 : decode cL_law 989 = .ok (.invokevirtual 127, 3) := by decide +kernel
theorem dL_law_992 : decode cL_law 992 = .ok (.aload_n 2, 1) := by decide +kernel
theorem dL_law_993 : decode cL_law 993 = .ok (.aload_n 0, 1) := by decide +kernel
theorem dL_law_994 : decode cL_law 994 = .ok (.iload_n 3, 1) := by decide +kernel
theorem dL_law_995 : decode cL_law 995 = .ok (.iconst 1, 1) := by decide +kernel
theorem dL_law_996 : decode cL_law 996 = .ok (.iadd, 1) := by decide +kernel
theorem dL_law_997 : decode cL_law 997 = .ok (.iaload, 1) := by decide +kernel
theorem dL_law_998 : decode cL_law 998 = .ok (.aload_n 0, 1) := by decide +kernel
theorem dL_law_999 : decode cL_law 999 = .ok (.iload_n 3, 1) := by decide +kernel
theorem dL_law_1000 : decode cL_law 1000 = .ok (.iconst 2, 1) := by decide +kernel
theorem dL_law_1001 : decode cL_law 1001 = .ok (.iadd, 1) := by decide +kernel
theorem dL_law_1002 : decode cL_law 1002 = .ok (.iaload, 1) := by decide +kernel
theorem dL_law_1003 : decode cL_law 1003 = .ok (.aload_n 0, 1) := by decide +kernel
theorem dL_law_1004 : decode cL_law 1004 = .ok (.iload_n 3, 1) := by decide +kernel
theorem dL_law_1005 : decode cL_law 1005 = .ok (.iconst 3, 1) := by decide +kernel
theorem dL_law_1006 : decode cL_law 1006 = .ok (.iadd, 1) := by decide +kernel
theorem dL_law_1007 : decode cL_law 1007 = .ok (.iaload, 1) := by decide +kernel
theorem dL_law_1008 : decode cL_law 1008 = .ok (.invokevirtual 130, 3) := by decide +kernel
theorem dL_law_1011 : decode cL_law 1011 = .ok (.if_icmp .eq 74, 3) := by decide +kernel
theorem dL_law_1014 : decode cL_law 1014 = .ok (.iconst 0, 1) := by decide +kernel
theorem dL_law_1015 : decode cL_law 1015 = .ok (.ireturn, 1) := by decide +kernel
theorem dL_law_1016 : decode cL_law 1016 = .ok (.aload_n 1, 1) := by decide +kernel
theorem dL_law_1017 : decode cL_law 1017 = .ok (.aload_n 0, 1) := by decide +kernel
theorem dL_law_1018 : decode cL_law 1018 = .ok (.iload_n 3, 1) := by decide +kernel
theorem dL_law_1019 : decode cL_law 1019 = .ok (.iconst 1, 1) := by decide +kernel
theorem dL_law_1020 : decode cL_law 1020 = .ok (.iadd, 1) := by decide +kernel
theorem dL_law_1021 : decode cL_law 1021 = .ok (.iaload, 1) := by decide +kernel
theorem dL_law_1022 : decode cL_law 1022 = .ok (.invokevirtual 131, 3) := by decide +kernel
theorem dL_law_1025 : decode cL_law 1025 = .ok (.aload_n 2, 1) := by decide +kernel
theorem dL_law_1026 : decode cL_law 1026 = .ok (.aload_n 0, 1) := by decide +kernel
theorem dL_law_1027 : decode cL_law 1027 = .ok (.iload_n 3, 1) := by decide +kernel
theorem dL_law_1028 : decode cL_law 1028 = .ok (.iconst 1, 1) := by decide +kernel
theorem dL_law_1029 : decode cL_law 1029 = .ok (.iadd, 1) := by decide +kernel
theorem dL_law_1030 : decode cL_law 1030 = .ok (.iaload, 1) := by decide +kernel
theorem dL_law_1031 : decode cL_law 1031 = .ok (.invokevirtual 134, 3) := by decide +kernel
theorem dL_law_1034 : decode cL_law 1034 = .ok (.if_icmp .eq 51, 3) := by decide +kernel
theorem dL_law_1037 : decode cL_law 1037 = .ok (.iconst 0, 1) := by decide +kernel
theorem dL_law_1038 : decode cL_law 1038 = .ok (.ireturn, 1) := by decide +kernel
theorem dL_law_1039 : decode cL_law 1039 = .ok (.aload_n 1, 1) := by decide +kernel
theorem dL_law_1040 : decode cL_law 1040 = .ok (.aload_n 0, 1) := by decide +kernel
theorem dL_law_1041 : decode cL_law 1041 = .ok (.iload_n 3, 1) := by decide +kernel
theorem dL_law_1042 : decode cL_law 1042 = .ok (.iconst 1, 1) := by decide +kernel
theorem dL_law_1043 : decode cL_law 1043 = .ok (.iadd, 1) := by decide +kernel
theorem dL_law_1044 : decode cL_law 1044 = .ok (.iaload, 1) := by decide +kernel
theorem dL_law_1045 : decode cL_law 1045 = .ok (.invokevirtual 135, 3) := by decide +kernel
theorem dL_law_1048 : decode cL_law 1048 = .ok (.aload_n 2, 1) := by decide +kernel
theorem dL_law_1049 : decode cL_law 1049 = .ok (.aload_n 0, 1) := by decide +kernel
theorem dL_law_1050 : decode cL_law 1050 = .ok (.iload_n 3, 1) := by decide +kernel
theorem dL_law_1051 : decode cL_law 1051 = .ok (.iconst 1, 1) := by decide +kernel
theorem dL_law_1052 : decode cL_law 1052 = .ok (.iadd, 1) := by decide +kernel
theorem dL_law_1053 : decode cL_law 1053 = .ok (.iaload, 1) := by decide +kernel
theorem dL_law_1054 : decode cL_law 1054 = .ok (.invokevirtual 138, 3) := by decide +kernel
theorem dL_law_1057 : decode cL_law 1057 = .ok (.if_icmp .eq 28, 3) := by decide +kernel
theorem dL_law_1060 : decode cL_law 1060 = .ok (.iconst 0, 1) := by decide +kernel
theorem dL_law_1061 : decode cL_law 1061 = .ok (.ireturn, 1) := by decide +kernel
theorem dL_law_1062 : decode cL_law 1062 = .ok (.aload_n 1, 1) := by decide +kernel
theorem dL_law_1063 : decode cL_law 1063 = .ok (.aload_n 0, 1) := by decide +kernel
theorem dL_law_1064 : decode cL_law 1064 = .ok (.iload_n 3, 1) := by decide +kernel
theorem dL_law_1065 : decode cL_law 1065 = .ok (.iconst 1, 1) := by decide +kernel
theorem dL_law_1066 : decode cL_law 1066 = .ok (.iadd, 1) := by decide +kernel
theorem dL_law_1067 : decode cL_law 1067 = .ok (.iaload, 1) := by decide +kernel
theorem dL_law_1068 : decode cL_law 1068 = .ok (.invokevirtual 139, 3) := by decide +kernel
theorem dL_law_1071 : decode cL_law 1071 = .ok (.aload_n 2, 1) := by decide +kernel
theorem dL_law_1072 : decode cL_law 1072 = .ok (.aload_n 0, 1) := by decide +kernel
theorem dL_law_1073 : decode cL_law 1073 = .ok (.iload_n 3, 1) := by decide +kernel
theorem dL_law_1074 : decode cL_law 1074 = .ok (.iconst 1, 1) := by decide +kernel
theorem dL_law_1075 : decode cL_law 1075 = .ok (.iadd, 1) := by decide +kernel
theorem dL_law_1076 : decode cL_law 1076 = .ok (.iaload, 1) := by decide +kernel
theorem dL_law_1077 : decode cL_law 1077 = .ok (.invokevirtual 142, 3) := by decide +kernel
theorem dL_law_1080 : decode cL_law 1080 = .ok (.if_icmp .eq 5, 3) := by decide +kernel
theorem dL_law_1083 : decode cL_law 1083 = .ok (.iconst 0, 1) := by decide +kernel
theorem dL_law_1084 : decode cL_law 1084 = .ok (.ireturn, 1) := by decide +kernel
theorem dL_law_1085 : decode cL_law 1085 = .ok (.iinc 3 7, 3) := by decide +kernel
theorem dL_law_1088 : decode cL_law 1088 = .ok (.goto (-1070), 3) := by decide +kernel
theorem dL_law_1091 : decode cL_law 1091 = .ok (.iconst 1, 1) := by decide +kernel
theorem dL_law_1092 : decode cL_law 1092 = .ok (.ireturn, 1) := by decide +kernel
end
section
/-! the static memory: 79 cells, by number; a number's row holds its int-like fields or its elements -/
abbrev MemT : Type := Nat → Nat → Int32
def mset (μ : MemT) (k : Nat) (r : Nat → Int32) : MemT := fun j => if j = k then r else μ j
theorem mset_self (μ : MemT) (k : Nat) (r : Nat → Int32) : mset μ k r k = r := if_pos rfl
theorem mset_ne (μ : MemT) {k j : Nat} (r : Nat → Int32) (h : j ≠ k) : mset μ k r j = μ j := if_neg h
theorem mset_mset (μ : MemT) (k : Nat) (r r' : Nat → Int32) : mset (mset μ k r) k r' = mset μ k r' := by
  funext j
  unfold mset
  split <;> rfl
theorem upd_self (f : Nat → Int32) (k : Nat) (x : Int32) : upd f k x k = x := if_pos rfl
theorem upd_ne (f : Nat → Int32) {k j : Nat} (x : Int32) (h : j ≠ k) : upd f k x j = f j := if_neg h
theorem upd_upd (f : Nat → Int32) (k : Nat) (x y : Int32) : upd (upd f k x) k y = upd f k y := by
  funext j
  unfold upd
  split <;> rfl
theorem mset_same (μ : MemT) (k : Nat) : mset μ k (μ k) = μ := by
  funext j
  unfold mset
  split
  · subst_vars; rfl
  · rfl
abbrev KdT : Type := (Nat × List (Nat ⊕ Nat)) ⊕ (Nat × Nat)
def twTm (b : Nat) : List (Nat ⊕ Nat) := [.inl (b + 1), .inl (b + 2), .inl (b + 3), .inl (b + 4), .inl (b + 5), .inl (b + 6), .inl (b + 7), .inr 0, .inr 0, .inr 0, .inr 0, .inr 0]

def kdL : List KdT := [
  .inl (7, [.inl 18, .inl 1, .inl 2, .inl 3, .inl 5, .inl 6, .inl 11, .inl 16, .inl 17]),
  .inr (3, 2),
  .inr (2, 2),
  .inl (2, [.inl 4, .inr 0]),
  .inr (0, 60),
  .inl (1, [.inl 42, .inr 0, .inr 0, .inr 0, .inr 0, .inr 0, .inr 0, .inr 0, .inr 0, .inr 0, .inr 0, .inr 0, .inr 0]),
  .inl (3, [.inl 7, .inl 8, .inl 9, .inl 10, .inr 0, .inr 0, .inr 0, .inr 0, .inr 0, .inr 0]),
  .inr (0, 256),
  .inr (0, 256),
  .inr (0, 256),
  .inr (1, 3201),
  .inl (5, [.inl 12, .inl 13, .inl 14, .inl 15, .inr 0, .inr 0, .inr 0]),
  .inr (0, 145),
  .inr (0, 145),
  .inr (0, 8),
  .inr (0, 3),
  .inl (0, [.inr 1, .inr 1]),
  .inl (6, [.inl 50, .inr 0, .inr 0, .inr 0]),
  .inl (4, twTm 18),
  .inr (0, 8),
  .inr (0, 8),
  .inr (0, 8),
  .inr (0, 8),
  .inr (0, 8),
  .inr (0, 8),
  .inr (0, 8),
  .inl (4, twTm 26),
  .inr (0, 8),
  .inr (0, 8),
  .inr (0, 8),
  .inr (0, 8),
  .inr (0, 8),
  .inr (0, 8),
  .inr (0, 8),
  .inl (4, twTm 34),
  .inr (0, 8),
  .inr (0, 8),
  .inr (0, 8),
  .inr (0, 8),
  .inr (0, 8),
  .inr (0, 8),
  .inr (0, 8),
  .inl (4, twTm 42),
  .inr (0, 8),
  .inr (0, 8),
  .inr (0, 8),
  .inr (0, 8),
  .inr (0, 8),
  .inr (0, 8),
  .inr (0, 8),
  .inl (4, twTm 50),
  .inr (0, 8),
  .inr (0, 8),
  .inr (0, 8),
  .inr (0, 8),
  .inr (0, 8),
  .inr (0, 8),
  .inr (0, 8),
  .inl (8, [.inr 0, .inr 0, .inr 0, .inr 0, .inl 59, .inl 60, .inl 61, .inl 62, .inl 63, .inl 64, .inl 65, .inr 0, .inl 66, .inr 0, .inl 67, .inl 68, .inl 69, .inl 70, .inr 0, .inr 0, .inr 0, .inr 0, .inr 0, .inl 71, .inr 0, .inr 0, .inr 0, .inr 0, .inl 72, .inl 73, .inr 0, .inr 0, .inr 0, .inl 74, .inl 75, .inl 76, .inr 0, .inl 77, .inl 78, .inr 0, .inr 0]),
  .inr (0, 8),
  .inr (0, 8),
  .inr (0, 8),
  .inr (0, 8),
  .inr (0, 8),
  .inr (0, 8),
  .inr (0, 8),
  .inr (0, 60),
  .inr (0, 60),
  .inr (0, 60),
  .inr (0, 60),
  .inr (0, 60),
  .inr (0, 8),
  .inr (0, 8),
  .inr (0, 8),
  .inr (2, 3201),
  .inr (0, 145),
  .inr (0, 145),
  .inr (0, 160),
  .inr (2, 2)]

theorem kdL_len : kdL.length = 79 := rfl
def sw_jn (a b : Int32) : Int64 := Int64.ofInt (a.toInt * 4294967296 + b.toInt % 4294967296)
def sw_hi (v : Int64) : Int32 := Int32.ofInt (v.toInt / 4294967296)
def sw_lo (v : Int64) : Int32 := Int32.ofInt (v.toInt % 4294967296)
theorem sw_jn_hl (v : Int64) : sw_jn (sw_hi v) (sw_lo v) = v := by
  have h1 := Int64.minValue_le_toInt v
  have h2 := Int64.toInt_le v
  have h3 : Int64.minValue.toInt = -9223372036854775808 := rfl
  have h4 : Int64.maxValue.toInt = 9223372036854775807 := rfl
  unfold sw_jn sw_hi sw_lo
  rw [Int32.toInt_ofInt, Int32.toInt_ofInt]
  have e : (v.toInt / 4294967296).bmod Int32.size * 4294967296 + ((v.toInt % 4294967296).bmod Int32.size) % 4294967296 = v.toInt := by
    have e1 : (v.toInt / 4294967296).bmod Int32.size = v.toInt / 4294967296 := by
      rw [show Int32.size = 4294967296 from rfl, Int.bmod_def]
      omega
    have e2 : (v.toInt % 4294967296).bmod Int32.size % 4294967296 = v.toInt % 4294967296 := by
      rw [show Int32.size = 4294967296 from rfl, Int.bmod_def]
      omega
    rw [e1, e2]
    omega
  rw [e]
  exact Int64.ofInt_toInt v
/-- a fixed launch's classes, the cells' addresses, the arrays' classes -/
abbrev GT : Type := va_G × (Nat → Nat) × (Nat → ClassId)
def sw_fv (ad : Nat → Nat) (r : Nat → Int32) (i : Nat) : Nat ⊕ Nat → Value
  | .inl j => .ref (ad j)
  | .inr 0 => .int (r i)
  | .inr (_ + 1) => .long (sw_jn (r (2 * i)) (r (2 * i + 1)))
def sw_fs (ad : Nat → Nat) (r : Nat → Int32) : Nat → List (Nat ⊕ Nat) → List Value
  | _, [] => []
  | i, t :: ts => sw_fv ad r i t :: sw_fs ad r (i + 1) ts
theorem sw_fs_at (ad : Nat → Nat) (r : Nat → Int32) : ∀ (ts : List (Nat ⊕ Nat)) (i k : Nat), (sw_fs ad r i ts)[k]? = (ts[k]?).map (sw_fv ad r (i + k))
  | [], i, k => by simp [sw_fs]
  | t :: ts, i, 0 => by simp [sw_fs]
  | t :: ts, i, k + 1 => by
    simp only [sw_fs, List.getElem?_cons_succ]
    rw [sw_fs_at ad r ts (i + 1) k, Nat.add_right_comm, Nat.add_assoc]
theorem sw_fs_len (ad : Nat → Nat) (r : Nat → Int32) : ∀ (ts : List (Nat ⊕ Nat)) (i : Nat), (sw_fs ad r i ts).length = ts.length
  | [], i => rfl
  | t :: ts, i => by simp [sw_fs, sw_fs_len ad r ts (i + 1)]
def sw_img (ad : Nat → Nat) : Nat → Option Nat := fun j => some (ad (if j = 0 then 26 else 34))
def sw_e (ad : Nat → Nat) (ar : Nat → ClassId) (r : Nat → Int32) : KdT → va_E
  | .inl (ci, tm) => .inr (ci, sw_fs ad r 0 tm)
  | .inr (3, n) => .inl (ar 3, n, .inr (.inr (.inr (.inr (sw_img ad)))))
  | .inr (q, n) => .inl (ar q, n, .inl r)
def sw_cell (ad : Nat → Nat) (ar : Nat → ClassId) (μ : MemT) (k : Nat) : va_E := match kdL[k]? with
  | some kd => sw_e ad ar (μ k) kd
  | none => .inl (ar 0, 0, .inl (μ k))
theorem sw_cell_of {ad : Nat → Nat} {ar : Nat → ClassId} {μ : MemT} {k : Nat} {kd : KdT} (h : kdL[k]? = some kd) : sw_cell ad ar μ k = sw_e ad ar (μ k) kd := by
  unfold sw_cell
  rw [h]
def sw_ws (ad : Nat → Nat) (ar : Nat → ClassId) (μ : MemT) : va_W := (List.range 79).map (fun k => (ad k, sw_cell ad ar μ k))
theorem sw_ws_at {ad : Nat → Nat} {ar : Nat → ClassId} {μ : MemT} {k : Nat} {kd : KdT} (h : kdL[k]? = some kd) : (sw_ws ad ar μ)[k]? = some (ad k, sw_e ad ar (μ k) kd) := by
  have hk : k < 79 := by
    have := (List.getElem?_eq_some_iff.mp h).1
    rwa [kdL_len] at this
  unfold sw_ws
  rw [List.getElem?_map, List.getElem?_range hk]
  show some (ad k, sw_cell ad ar μ k) = _
  rw [sw_cell_of h]
theorem sw_ws_len (ad : Nat → Nat) (ar : Nat → ClassId) (μ : MemT) : (sw_ws ad ar μ).length = 79 := by simp [sw_ws]
theorem sw_ws_set {ad : Nat → Nat} {ar : Nat → ClassId} {μ : MemT} {k : Nat} {kd : KdT} (h : kdL[k]? = some kd) (r : Nat → Int32) : (sw_ws ad ar μ).set k (ad k, sw_e ad ar r kd) = sw_ws ad ar (mset μ k r) := by
  have hk : k < 79 := by
    have := (List.getElem?_eq_some_iff.mp h).1
    rwa [kdL_len] at this
  apply List.ext_getElem?
  intro j
  by_cases hj : j = k
  · subst hj
    rw [List.getElem?_set_self (by rw [sw_ws_len]; exact hk), sw_ws_at h, mset_self]
  · rw [List.getElem?_set_ne (Ne.symm hj)]
    by_cases hj2 : j < 79
    · unfold sw_ws
      rw [List.getElem?_map, List.getElem?_map, List.getElem?_range hj2]
      show some (ad j, sw_cell ad ar μ j) = some (ad j, sw_cell ad ar (mset μ k r) j)
      unfold sw_cell
      rw [mset_ne μ r hj]
    · rw [List.getElem?_eq_none (by rw [sw_ws_len]; omega), List.getElem?_eq_none (by rw [sw_ws_len]; omega)]
def sw_P (G : GT) (μ : MemT) (H : Heap) : Prop := va_P G.1 vwCl (sw_ws G.2.1 G.2.2 μ) H
def sw_tys (ar : Nat → ClassId) : List (ClassId × FieldType) := [(ar 0, .int), (ar 1, .byte), (ar 2, .boolean), (ar 3, .object "SwornPounds$Town")]
def sw_K (G : GT) (U : State) : Prop := va_K G.1 vwCl (sw_tys G.2.2) U ∧ ∀ w ∈ wL_nest, va_Nw w U
def sw_D (ad : Nat → Nat) : Prop := ∀ i j : Nat, i < 79 → j < 79 → ad i = ad j → i = j
def sw_A (G : GT) : Nat → Prop := fun q => ∃ k : Nat, k < 79 ∧ q = G.2.1 k
theorem wL_nest_form : ∀ w ∈ wL_nest, ∃ (a : String) (i : Nat) (x : MethodName) (h : String), w = .methodLinkNest a i x h := by
  intro w hw
  simp only [wL_nest, List.mem_cons, List.not_mem_nil, or_false] at hw
  rcases hw with h | h | h | h | h | h | h | h | h | h | h | h | h | h | h <;> exact ⟨_, _, _, _, h⟩
theorem sw_K.warm {G : GT} {s U : State} (hW : s.WarmedH U.vm) (h : sw_K G s) : sw_K G U := by
  refine ⟨va_K.moved hW.alike h.1, fun w hw => ?_⟩
  obtain ⟨a, i, x, h2, rfl⟩ := wL_nest_form w hw
  exact va_Nw.warmM hW (h.2 _ hw)
theorem sw_K.same {G : GT} {s U : State} (hvm : s.vm = U.vm) (h : sw_K G s) : sw_K G U := by
  refine ⟨va_K.moved (by rw [hvm]; exact Vm.Alike.refl U.vm) h.1, fun w hw => ?_⟩
  obtain ⟨a, i, x, h2, rfl⟩ := wL_nest_form w hw
  exact va_Nw.same rfl hvm (h.2 _ hw)
theorem sw_Dd {ad : Nat → Nat} {ar : Nat → ClassId} {μ : MemT} {A : Nat → Prop} (hD : sw_D ad) (hA : ∀ k, k < 79 → A (ad k)) : va_D A (sw_ws ad ar μ) := by
  have at' : ∀ (k : Nat) (q : Nat × va_E), (sw_ws ad ar μ)[k]? = some q → k < 79 ∧ q.1 = ad k := by
    intro k q h
    have hk : k < 79 := by
      have := (List.getElem?_eq_some_iff.mp h).1
      rwa [sw_ws_len] at this
    unfold sw_ws at h
    rw [List.getElem?_map, List.getElem?_range hk] at h
    cases h
    exact ⟨hk, rfl⟩
  refine ⟨fun i j p q hi hj h => ?_, fun k q h => ?_⟩
  · obtain ⟨a1, a2⟩ := at' i p hi
    obtain ⟨b1, b2⟩ := at' j q hj
    exact hD i j a1 b1 (by rw [← a2, ← b2, h])
  · obtain ⟨a1, a2⟩ := at' k q h
    rw [a2]
    exact hA k a1
/-! the locals by place -/
def sw_L (ls : Array Slot) (n : Nat) (lv : List (Option Value)) : Prop := ls.size = n ∧ lv_wf ls ∧ ∀ (i : Nat) (v : Value), lv[i]? = some (some v) → ls[i]? = some (.val v)
def l_as : Nat → List (Option Value) → List (Nat × Value)
  | _, [] => []
  | i, some v :: r => (i, v) :: l_as (i + 1) r
  | i, none :: r => l_as (i + 1) r
theorem l_as_mem : ∀ (lv : List (Option Value)) (b i : Nat) (v : Value), (i, v) ∈ l_as b lv ↔ b ≤ i ∧ lv[i - b]? = some (some v)
  | [], b, i, v => by simp [l_as]
  | none :: r, b, i, v => by
    rw [l_as, l_as_mem r (b + 1) i v]
    constructor
    · rintro ⟨h1, h2⟩
      refine ⟨by omega, ?_⟩
      rw [show i - b = (i - (b + 1)) + 1 by omega, List.getElem?_cons_succ]
      exact h2
    · rintro ⟨h1, h2⟩
      by_cases hb : i = b
      · subst hb
        simp at h2
      · refine ⟨by omega, ?_⟩
        rw [show i - b = (i - (b + 1)) + 1 by omega, List.getElem?_cons_succ] at h2
        exact h2
  | some w :: r, b, i, v => by
    rw [l_as, List.mem_cons, l_as_mem r (b + 1) i v]
    constructor
    · rintro (h | ⟨h1, h2⟩)
      · cases h
        exact ⟨Nat.le_refl _, by simp⟩
      · refine ⟨by omega, ?_⟩
        rw [show i - b = (i - (b + 1)) + 1 by omega, List.getElem?_cons_succ]
        exact h2
    · rintro ⟨h1, h2⟩
      by_cases hb : i = b
      · subst hb
        simp at h2
        exact Or.inl (by rw [h2])
      · refine Or.inr ⟨by omega, ?_⟩
        rw [show i - b = (i - (b + 1)) + 1 by omega, List.getElem?_cons_succ] at h2
        exact h2
theorem sw_L.has {ls : Array Slot} {n : Nat} {lv : List (Option Value)} (h : sw_L ls n lv) : lv_has ls n (l_as 0 lv) := by
  refine ⟨h.1, h.2.1, fun q hq => ?_⟩
  obtain ⟨i, v⟩ := q
  have := (l_as_mem lv 0 i v).mp hq
  exact h.2.2 i v (by simpa using this.2)
def okS (lv : List (Option Value)) : Nat → Bool
  | 0 => true
  | j + 1 => match lv[j]? with
    | some (some w) => w.category == 1
    | _ => true
theorem okS_use {lv : List (Option Value)} {i j : Nat} {w : Value} (h : okS lv i = true) (hj : j + 1 = i) (hw : lv[j]? = some (some w)) : w.category = 1 := by
  subst hj
  simp only [okS, hw] at h
  exact eq_of_beq h
theorem sw_L.st1 {ls' : Array Slot} {n i : Nat} {lv : List (Option Value)} {v : Value} (hok : okS lv i = true) (h' : lv_has ls' n ((i, v) :: (l_as 0 lv).filter (fun q => !(q.1 == i) && !(q.1 + 1 == i && q.2.category == 2)))) : sw_L ls' n (lv.set i (some v)) := by
  refine ⟨h'.1, h'.2.1, fun j w hj => ?_⟩
  by_cases hji : j = i
  · subst hji
    have hl : j < (lv.set j (some v)).length := (List.getElem?_eq_some_iff.mp hj).1
    rw [List.length_set] at hl
    rw [List.getElem?_set_self hl] at hj
    cases hj
    exact h'.2.2 (j, v) List.mem_cons_self
  · rw [List.getElem?_set_ne (Ne.symm hji)] at hj
    refine h'.2.2 (j, w) (List.mem_cons_of_mem _ (List.mem_filter.mpr ⟨(l_as_mem lv 0 j w).mpr ⟨Nat.zero_le _, by simpa using hj⟩, ?_⟩))
    by_cases hji2 : j + 1 = i
    · have := okS_use hok hji2 hj
      simp [hji, this]
    · simp [hji, hji2]
theorem sw_L.st2 {ls' : Array Slot} {n i : Nat} {lv : List (Option Value)} {v : Value} (hok : okS lv i = true) (h' : lv_has ls' n ((i, v) :: (l_as 0 lv).filter (fun q => !(q.1 == i) && (!(q.1 == i + 1) && !(q.1 + 1 == i && q.2.category == 2))))) : sw_L ls' n ((lv.set i (some v)).set (i + 1) none) := by
  refine ⟨h'.1, h'.2.1, fun j w hj => ?_⟩
  by_cases hj1 : j = i + 1
  · subst hj1
    have hl : i + 1 < ((lv.set i (some v)).set (i + 1) none).length := (List.getElem?_eq_some_iff.mp hj).1
    rw [List.length_set] at hl
    rw [List.getElem?_set_self hl] at hj
    cases hj
  rw [List.getElem?_set_ne (Ne.symm hj1)] at hj
  by_cases hji : j = i
  · subst hji
    have hl : j < (lv.set j (some v)).length := (List.getElem?_eq_some_iff.mp hj).1
    rw [List.length_set] at hl
    rw [List.getElem?_set_self hl] at hj
    cases hj
    exact h'.2.2 (j, v) List.mem_cons_self
  · rw [List.getElem?_set_ne (Ne.symm hji)] at hj
    refine h'.2.2 (j, w) (List.mem_cons_of_mem _ (List.mem_filter.mpr ⟨(l_as_mem lv 0 j w).mpr ⟨Nat.zero_le _, by simpa using hj⟩, ?_⟩))
    by_cases hji2 : j + 1 = i
    · have := okS_use hok hji2 hj
      simp [hji, hj1, this]
    · simp [hji, hj1, hji2]
theorem sw_L.weak {ls : Array Slot} {n : Nat} {lv lv' : List (Option Value)} (h : sw_L ls n lv) (hw : ∀ (i : Nat) (v : Value), lv'[i]? = some (some v) → lv[i]? = some (some v)) : sw_L ls n lv' := ⟨h.1, h.2.1, fun i v hv => h.2.2 i v (hw i v hv)⟩
theorem set_none_weak {lv : List (Option Value)} {k : Nat} : ∀ (i : Nat) (v : Value), (lv.set k none)[i]? = some (some v) → lv[i]? = some (some v) := by
  intro i v h
  by_cases hk : i = k
  · subst hk
    have hl : i < (lv.set i none).length := (List.getElem?_eq_some_iff.mp h).1
    rw [List.length_set] at hl
    rw [List.getElem?_set_self hl] at h
    cases h
  · rwa [List.getElem?_set_ne (Ne.symm hk)] at h
/-! the judgement -/
abbrev KT : Type := Program → Env → State → MethodId → Array Value → List Frame → Method → Code → (Nat → Prop) → Nat → Nat → (State → Prop) → Prop
def sw_F (G : GT) (R : Room) (cc : ByteArray) (n : Nat) (own : String) (p : Program) (s : State) (m : MethodId) (args : Array Value) (c : Code) (A : Nat → Prop) (cells slots : Nat) : Prop :=
  p.tables.exec = Jvm.exec ∧ c.code = cc ∧ c.maxLocals = n ∧ s.vm.findClass own = some m.cls ∧ (∀ w ∈ wL, w.before args s = true) ∧ sw_K G s ∧ cells ≤ R.cells ∧ slots ≤ R.slots ∧ (∀ k, k < 79 → A (G.2.1 k)) ∧ sw_D G.2.1
def Yj (l : Launch) (G : GT) (R : Room) (κ : KT) (cc : ByteArray) (n : Nat) (own : String) (μ : MemT) (pc : Nat) (lv : List (Option Value)) (st : List Value) : Prop :=
  ∀ (p : Program) (e : Env) (s : State) (m : MethodId) (args : Array Value) (below : List Frame) (meth : Method) (c : Code) (A : Nat → Prop) (cells slots : Nat) (Q : State → Prop), κ p e s m args below meth c A cells slots Q → sw_F G R cc n own p s m args c A cells slots → ∀ (H : Heap) (locs : List Loc) (ls : Array Slot), sw_P G μ H → va_S A s.heap H locs → sw_L ls n lv → W p l e R s m args below meth c H locs cells slots Q (F0 m pc ls st)

theorem y_iconst {l : Launch} {G : GT} {R : Room} {κ : KT} {cc : ByteArray} {n : Nat} {own : String} {μ : MemT} {pc : Nat} {lv : List (Option Value)} {st : List Value} {k : Int} {v : Int32} (d : decode cc pc = .ok (.iconst k, 1)) (hv : Int32.ofInt k = v) (h : Yj l G R κ cc n own μ (pc + 1) lv (.int v :: st)) : Yj l G R κ cc n own μ pc lv st := fun p e s m args below meth c A cells slots Q hk F H locs ls hP hS hl => lv_iconst F.1 F.2.1 d hv (h p e s m args below meth c A cells slots Q hk F H locs ls hP hS hl)
theorem y_bipush {l : Launch} {G : GT} {R : Room} {κ : KT} {cc : ByteArray} {n : Nat} {own : String} {μ : MemT} {pc : Nat} {lv : List (Option Value)} {st : List Value} {k : Int} {v : Int32} (d : decode cc pc = .ok (.bipush k, 2)) (hv : (Int8.ofInt k).toInt32 = v) (h : Yj l G R κ cc n own μ (pc + 2) lv (.int v :: st)) : Yj l G R κ cc n own μ pc lv st := fun p e s m args below meth c A cells slots Q hk F H locs ls hP hS hl => lv_bipush F.1 F.2.1 d hv (h p e s m args below meth c A cells slots Q hk F H locs ls hP hS hl)
theorem y_sipush {l : Launch} {G : GT} {R : Room} {κ : KT} {cc : ByteArray} {n : Nat} {own : String} {μ : MemT} {pc : Nat} {lv : List (Option Value)} {st : List Value} {k : Int} {v : Int32} (d : decode cc pc = .ok (.sipush k, 3)) (hv : (Int16.ofInt k).toInt32 = v) (h : Yj l G R κ cc n own μ (pc + 3) lv (.int v :: st)) : Yj l G R κ cc n own μ pc lv st := fun p e s m args below meth c A cells slots Q hk F H locs ls hP hS hl => lv_sipush F.1 F.2.1 d hv (h p e s m args below meth c A cells slots Q hk F H locs ls hP hS hl)
theorem y_lconst {l : Launch} {G : GT} {R : Room} {κ : KT} {cc : ByteArray} {n : Nat} {own : String} {μ : MemT} {pc : Nat} {lv : List (Option Value)} {st : List Value} {k : Fin 2} {v : Int64} (d : decode cc pc = .ok (.lconst k, 1)) (hv : Int64.ofNat (k : Nat) = v) (h : Yj l G R κ cc n own μ (pc + 1) lv (.long v :: st)) : Yj l G R κ cc n own μ pc lv st := fun p e s m args below meth c A cells slots Q hk F H locs ls hP hS hl => lv_lconst F.1 F.2.1 d hv (h p e s m args below meth c A cells slots Q hk F H locs ls hP hS hl)
theorem y_ldc {l : Launch} {G : GT} {R : Room} {κ : KT} {cc : ByteArray} {n : Nat} {own : String} {μ : MemT} {pc : Nat} {lv : List (Option Value)} {st : List Value} {index : Nat} {v : Int32} (d : decode cc pc = .ok (.ldc index, 2)) (hw : Cond.constant own index v ∈ wL) (h : Yj l G R κ cc n own μ (pc + 2) lv (.int v :: st)) : Yj l G R κ cc n own μ pc lv st := fun p e s m args below meth c A cells slots Q hk F H locs ls hP hS hl => lv_ldc F.1 F.2.1 F.2.2.2.1 (F.2.2.2.2.1 _ hw) d (h p e s m args below meth c A cells slots Q hk F H locs ls hP hS hl)
theorem y_ldcw {l : Launch} {G : GT} {R : Room} {κ : KT} {cc : ByteArray} {n : Nat} {own : String} {μ : MemT} {pc : Nat} {lv : List (Option Value)} {st : List Value} {index : Nat} {v : Int32} (d : decode cc pc = .ok (.ldc_w index, 3)) (hw : Cond.constant own index v ∈ wL) (h : Yj l G R κ cc n own μ (pc + 3) lv (.int v :: st)) : Yj l G R κ cc n own μ pc lv st := fun p e s m args below meth c A cells slots Q hk F H locs ls hP hS hl => lv_ldcw F.1 F.2.1 F.2.2.2.1 (F.2.2.2.2.1 _ hw) d (h p e s m args below meth c A cells slots Q hk F H locs ls hP hS hl)
theorem y_ldc2 {l : Launch} {G : GT} {R : Room} {κ : KT} {cc : ByteArray} {n : Nat} {own : String} {μ : MemT} {pc : Nat} {lv : List (Option Value)} {st : List Value} {index : Nat} {v : Int64} (d : decode cc pc = .ok (.ldc2_w index, 3)) (hw : Cond.constantLong own index v ∈ wL) (h : Yj l G R κ cc n own μ (pc + 3) lv (.long v :: st)) : Yj l G R κ cc n own μ pc lv st := fun p e s m args below meth c A cells slots Q hk F H locs ls hP hS hl => lv_ldc2 F.1 F.2.1 F.2.2.2.1 (F.2.2.2.2.1 _ hw) d (h p e s m args below meth c A cells slots Q hk F H locs ls hP hS hl)
theorem y_iload_n {l : Launch} {G : GT} {R : Room} {κ : KT} {cc : ByteArray} {n : Nat} {own : String} {μ : MemT} {pc : Nat} {lv : List (Option Value)} {st : List Value} {k : Fin 4} {i : Nat} {x : Int32} (d : decode cc pc = .ok (.iload_n k, 1)) (hi : (k : Nat) = i) (hx : lv[i]? = some (some (.int x))) (h : Yj l G R κ cc n own μ (pc + 1) lv (.int x :: st)) : Yj l G R κ cc n own μ pc lv st := fun p e s m args below meth c A cells slots Q hk F H locs ls hP hS hl => lv_iload_n F.1 F.2.1 d hi (hl.2.2 _ _ hx) (h p e s m args below meth c A cells slots Q hk F H locs ls hP hS hl)
theorem y_iload {l : Launch} {G : GT} {R : Room} {κ : KT} {cc : ByteArray} {n : Nat} {own : String} {μ : MemT} {pc : Nat} {lv : List (Option Value)} {st : List Value} {i : Nat} {x : Int32} (d : decode cc pc = .ok (.iload i, 2)) (hx : lv[i]? = some (some (.int x))) (h : Yj l G R κ cc n own μ (pc + 2) lv (.int x :: st)) : Yj l G R κ cc n own μ pc lv st := fun p e s m args below meth c A cells slots Q hk F H locs ls hP hS hl => lv_iload F.1 F.2.1 d (hl.2.2 _ _ hx) (h p e s m args below meth c A cells slots Q hk F H locs ls hP hS hl)
theorem y_lload_n {l : Launch} {G : GT} {R : Room} {κ : KT} {cc : ByteArray} {n : Nat} {own : String} {μ : MemT} {pc : Nat} {lv : List (Option Value)} {st : List Value} {k : Fin 4} {i : Nat} {x : Int64} (d : decode cc pc = .ok (.lload_n k, 1)) (hi : (k : Nat) = i) (hx : lv[i]? = some (some (.long x))) (h : Yj l G R κ cc n own μ (pc + 1) lv (.long x :: st)) : Yj l G R κ cc n own μ pc lv st := fun p e s m args below meth c A cells slots Q hk F H locs ls hP hS hl => lv_lload_n F.1 F.2.1 d hi (hl.2.2 _ _ hx) (h p e s m args below meth c A cells slots Q hk F H locs ls hP hS hl)
theorem y_lload {l : Launch} {G : GT} {R : Room} {κ : KT} {cc : ByteArray} {n : Nat} {own : String} {μ : MemT} {pc : Nat} {lv : List (Option Value)} {st : List Value} {i : Nat} {x : Int64} (d : decode cc pc = .ok (.lload i, 2)) (hx : lv[i]? = some (some (.long x))) (h : Yj l G R κ cc n own μ (pc + 2) lv (.long x :: st)) : Yj l G R κ cc n own μ pc lv st := fun p e s m args below meth c A cells slots Q hk F H locs ls hP hS hl => lv_lload F.1 F.2.1 d (hl.2.2 _ _ hx) (h p e s m args below meth c A cells slots Q hk F H locs ls hP hS hl)
theorem y_aload_n {l : Launch} {G : GT} {R : Room} {κ : KT} {cc : ByteArray} {n : Nat} {own : String} {μ : MemT} {pc : Nat} {lv : List (Option Value)} {st : List Value} {k : Fin 4} {i : Nat} {x : Nat} (d : decode cc pc = .ok (.aload_n k, 1)) (hi : (k : Nat) = i) (hx : lv[i]? = some (some (.ref x))) (h : Yj l G R κ cc n own μ (pc + 1) lv (.ref x :: st)) : Yj l G R κ cc n own μ pc lv st := fun p e s m args below meth c A cells slots Q hk F H locs ls hP hS hl => lv_aload_n F.1 F.2.1 d hi (hl.2.2 _ _ hx) (h p e s m args below meth c A cells slots Q hk F H locs ls hP hS hl)
theorem y_aload {l : Launch} {G : GT} {R : Room} {κ : KT} {cc : ByteArray} {n : Nat} {own : String} {μ : MemT} {pc : Nat} {lv : List (Option Value)} {st : List Value} {i : Nat} {x : Nat} (d : decode cc pc = .ok (.aload i, 2)) (hx : lv[i]? = some (some (.ref x))) (h : Yj l G R κ cc n own μ (pc + 2) lv (.ref x :: st)) : Yj l G R κ cc n own μ pc lv st := fun p e s m args below meth c A cells slots Q hk F H locs ls hP hS hl => lv_aload F.1 F.2.1 d (hl.2.2 _ _ hx) (h p e s m args below meth c A cells slots Q hk F H locs ls hP hS hl)
theorem y_istore_n {l : Launch} {G : GT} {R : Room} {κ : KT} {cc : ByteArray} {n : Nat} {own : String} {μ : MemT} {pc : Nat} {lv : List (Option Value)} {st : List Value} {k : Fin 4} {i : Nat} {x : Int32} (d : decode cc pc = .ok (.istore_n k, 1)) (hi : (k : Nat) = i) (hok : okS lv i = true) (hn : i < n) (h : Yj l G R κ cc n own μ (pc + 1) (lv.set i (some (.int x))) st) : Yj l G R κ cc n own μ pc lv (.int x :: st) := fun p e s m args below meth c A cells slots Q hk F H locs ls hP hS hl => lv_istore_n F.1 F.2.1 d hi hl.has hn rfl (fun ls2 hl2 => h p e s m args below meth c A cells slots Q hk F H locs ls2 hP hS (sw_L.st1 hok hl2))
theorem y_istore {l : Launch} {G : GT} {R : Room} {κ : KT} {cc : ByteArray} {n : Nat} {own : String} {μ : MemT} {pc : Nat} {lv : List (Option Value)} {st : List Value} {i : Nat} {x : Int32} (d : decode cc pc = .ok (.istore i, 2)) (hok : okS lv i = true) (hn : i < n) (h : Yj l G R κ cc n own μ (pc + 2) (lv.set i (some (.int x))) st) : Yj l G R κ cc n own μ pc lv (.int x :: st) := fun p e s m args below meth c A cells slots Q hk F H locs ls hP hS hl => lv_istore F.1 F.2.1 d hl.has hn rfl (fun ls2 hl2 => h p e s m args below meth c A cells slots Q hk F H locs ls2 hP hS (sw_L.st1 hok hl2))
theorem y_astore_n {l : Launch} {G : GT} {R : Room} {κ : KT} {cc : ByteArray} {n : Nat} {own : String} {μ : MemT} {pc : Nat} {lv : List (Option Value)} {st : List Value} {k : Fin 4} {i : Nat} {x : Nat} (d : decode cc pc = .ok (.astore_n k, 1)) (hi : (k : Nat) = i) (hok : okS lv i = true) (hn : i < n) (h : Yj l G R κ cc n own μ (pc + 1) (lv.set i (some (.ref x))) st) : Yj l G R κ cc n own μ pc lv (.ref x :: st) := fun p e s m args below meth c A cells slots Q hk F H locs ls hP hS hl => lv_astore_n F.1 F.2.1 d hi hl.has hn rfl (fun ls2 hl2 => h p e s m args below meth c A cells slots Q hk F H locs ls2 hP hS (sw_L.st1 hok hl2))
theorem y_astore {l : Launch} {G : GT} {R : Room} {κ : KT} {cc : ByteArray} {n : Nat} {own : String} {μ : MemT} {pc : Nat} {lv : List (Option Value)} {st : List Value} {i : Nat} {x : Nat} (d : decode cc pc = .ok (.astore i, 2)) (hok : okS lv i = true) (hn : i < n) (h : Yj l G R κ cc n own μ (pc + 2) (lv.set i (some (.ref x))) st) : Yj l G R κ cc n own μ pc lv (.ref x :: st) := fun p e s m args below meth c A cells slots Q hk F H locs ls hP hS hl => lv_astore F.1 F.2.1 d hl.has hn rfl (fun ls2 hl2 => h p e s m args below meth c A cells slots Q hk F H locs ls2 hP hS (sw_L.st1 hok hl2))
theorem y_lstore_n {l : Launch} {G : GT} {R : Room} {κ : KT} {cc : ByteArray} {n : Nat} {own : String} {μ : MemT} {pc : Nat} {lv : List (Option Value)} {st : List Value} {k : Fin 4} {i : Nat} {x : Int64} (d : decode cc pc = .ok (.lstore_n k, 1)) (hi : (k : Nat) = i) (hok : okS lv i = true) (hn : i + 1 < n) (h : Yj l G R κ cc n own μ (pc + 1) ((lv.set i (some (.long x))).set (i + 1) none) st) : Yj l G R κ cc n own μ pc lv (.long x :: st) := fun p e s m args below meth c A cells slots Q hk F H locs ls hP hS hl => lv_lstore_n F.1 F.2.1 d hi hl.has hn rfl (fun ls2 hl2 => h p e s m args below meth c A cells slots Q hk F H locs ls2 hP hS (sw_L.st2 hok hl2))
theorem y_lstore {l : Launch} {G : GT} {R : Room} {κ : KT} {cc : ByteArray} {n : Nat} {own : String} {μ : MemT} {pc : Nat} {lv : List (Option Value)} {st : List Value} {i : Nat} {x : Int64} (d : decode cc pc = .ok (.lstore i, 2)) (hok : okS lv i = true) (hn : i + 1 < n) (h : Yj l G R κ cc n own μ (pc + 2) ((lv.set i (some (.long x))).set (i + 1) none) st) : Yj l G R κ cc n own μ pc lv (.long x :: st) := fun p e s m args below meth c A cells slots Q hk F H locs ls hP hS hl => lv_lstore F.1 F.2.1 d hl.has hn rfl (fun ls2 hl2 => h p e s m args below meth c A cells slots Q hk F H locs ls2 hP hS (sw_L.st2 hok hl2))
theorem l_as_place {lv : List (Option Value)} {i : Nat} {v : Value} (h : lv[i]? = some (some v)) : ∃ k : Nat, (l_as 0 lv)[k]? = some (i, v) := by
  have : (i, v) ∈ l_as 0 lv := (l_as_mem lv 0 i v).mpr ⟨Nat.zero_le _, by simpa using h⟩
  exact List.getElem?_of_mem this
theorem y_iinc {l : Launch} {G : GT} {R : Room} {κ : KT} {cc : ByteArray} {n : Nat} {own : String} {μ : MemT} {pc : Nat} {lv : List (Option Value)} {st : List Value} {i : Nat} {k : Int} {x v : Int32} (d : decode cc pc = .ok (.iinc i k, 3)) (hx : lv[i]? = some (some (.int x))) (hv : x + Int32.ofInt k = v) (hok : okS lv i = true) (hn : i < n) (h : Yj l G R κ cc n own μ (pc + 3) (lv.set i (some (.int v))) st) : Yj l G R κ cc n own μ pc lv st := fun p e s m args below meth c A cells slots Q hk F H locs ls hP hS hl => (l_as_place hx).elim fun _ hp => lv_iinc F.1 F.2.1 d hl.has hp hv hn rfl (fun ls2 hl2 => h p e s m args below meth c A cells slots Q hk F H locs ls2 hP hS (sw_L.st1 hok hl2))
theorem y_iadd {l : Launch} {G : GT} {R : Room} {κ : KT} {cc : ByteArray} {n : Nat} {own : String} {μ : MemT} {pc : Nat} {lv : List (Option Value)} {st : List Value} {x y : Int32} (d : decode cc pc = .ok (.iadd, 1)) (h : Yj l G R κ cc n own μ (pc + 1) lv (.int (x + y) :: st)) : Yj l G R κ cc n own μ pc lv (.int y :: .int x :: st) := fun p e s m args below meth c A cells slots Q hk F H locs ls hP hS hl => lv_iadd F.1 F.2.1 d (h p e s m args below meth c A cells slots Q hk F H locs ls hP hS hl)
theorem y_isub {l : Launch} {G : GT} {R : Room} {κ : KT} {cc : ByteArray} {n : Nat} {own : String} {μ : MemT} {pc : Nat} {lv : List (Option Value)} {st : List Value} {x y : Int32} (d : decode cc pc = .ok (.isub, 1)) (h : Yj l G R κ cc n own μ (pc + 1) lv (.int (x - y) :: st)) : Yj l G R κ cc n own μ pc lv (.int y :: .int x :: st) := fun p e s m args below meth c A cells slots Q hk F H locs ls hP hS hl => lv_isub F.1 F.2.1 d (h p e s m args below meth c A cells slots Q hk F H locs ls hP hS hl)
theorem y_imul {l : Launch} {G : GT} {R : Room} {κ : KT} {cc : ByteArray} {n : Nat} {own : String} {μ : MemT} {pc : Nat} {lv : List (Option Value)} {st : List Value} {x y : Int32} (d : decode cc pc = .ok (.imul, 1)) (h : Yj l G R κ cc n own μ (pc + 1) lv (.int (x * y) :: st)) : Yj l G R κ cc n own μ pc lv (.int y :: .int x :: st) := fun p e s m args below meth c A cells slots Q hk F H locs ls hP hS hl => lv_imul F.1 F.2.1 d (h p e s m args below meth c A cells slots Q hk F H locs ls hP hS hl)
theorem y_iand {l : Launch} {G : GT} {R : Room} {κ : KT} {cc : ByteArray} {n : Nat} {own : String} {μ : MemT} {pc : Nat} {lv : List (Option Value)} {st : List Value} {x y : Int32} (d : decode cc pc = .ok (.iand, 1)) (h : Yj l G R κ cc n own μ (pc + 1) lv (.int (x &&& y) :: st)) : Yj l G R κ cc n own μ pc lv (.int y :: .int x :: st) := fun p e s m args below meth c A cells slots Q hk F H locs ls hP hS hl => lv_iand F.1 F.2.1 d (h p e s m args below meth c A cells slots Q hk F H locs ls hP hS hl)
theorem y_ior {l : Launch} {G : GT} {R : Room} {κ : KT} {cc : ByteArray} {n : Nat} {own : String} {μ : MemT} {pc : Nat} {lv : List (Option Value)} {st : List Value} {x y : Int32} (d : decode cc pc = .ok (.ior, 1)) (h : Yj l G R κ cc n own μ (pc + 1) lv (.int (x ||| y) :: st)) : Yj l G R κ cc n own μ pc lv (.int y :: .int x :: st) := fun p e s m args below meth c A cells slots Q hk F H locs ls hP hS hl => lv_ior F.1 F.2.1 d (h p e s m args below meth c A cells slots Q hk F H locs ls hP hS hl)
theorem y_ixor {l : Launch} {G : GT} {R : Room} {κ : KT} {cc : ByteArray} {n : Nat} {own : String} {μ : MemT} {pc : Nat} {lv : List (Option Value)} {st : List Value} {x y : Int32} (d : decode cc pc = .ok (.ixor, 1)) (h : Yj l G R κ cc n own μ (pc + 1) lv (.int (x ^^^ y) :: st)) : Yj l G R κ cc n own μ pc lv (.int y :: .int x :: st) := fun p e s m args below meth c A cells slots Q hk F H locs ls hP hS hl => lv_ixor F.1 F.2.1 d (h p e s m args below meth c A cells slots Q hk F H locs ls hP hS hl)
theorem y_ishl {l : Launch} {G : GT} {R : Room} {κ : KT} {cc : ByteArray} {n : Nat} {own : String} {μ : MemT} {pc : Nat} {lv : List (Option Value)} {st : List Value} {x y : Int32} (d : decode cc pc = .ok (.ishl, 1)) (h : Yj l G R κ cc n own μ (pc + 1) lv (.int (x <<< (y &&& 31)) :: st)) : Yj l G R κ cc n own μ pc lv (.int y :: .int x :: st) := fun p e s m args below meth c A cells slots Q hk F H locs ls hP hS hl => lv_ishl F.1 F.2.1 d (h p e s m args below meth c A cells slots Q hk F H locs ls hP hS hl)
theorem y_ishr {l : Launch} {G : GT} {R : Room} {κ : KT} {cc : ByteArray} {n : Nat} {own : String} {μ : MemT} {pc : Nat} {lv : List (Option Value)} {st : List Value} {x y : Int32} (d : decode cc pc = .ok (.ishr, 1)) (h : Yj l G R κ cc n own μ (pc + 1) lv (.int (x >>> (y &&& 31)) :: st)) : Yj l G R κ cc n own μ pc lv (.int y :: .int x :: st) := fun p e s m args below meth c A cells slots Q hk F H locs ls hP hS hl => lv_ishr F.1 F.2.1 d (h p e s m args below meth c A cells slots Q hk F H locs ls hP hS hl)
theorem y_idiv {l : Launch} {G : GT} {R : Room} {κ : KT} {cc : ByteArray} {n : Nat} {own : String} {μ : MemT} {pc : Nat} {lv : List (Option Value)} {st : List Value} {x y : Int32} (d : decode cc pc = .ok (.idiv, 1)) (hne : ¬ y = 0) (h : Yj l G R κ cc n own μ (pc + 1) lv (.int (x / y) :: st)) : Yj l G R κ cc n own μ pc lv (.int y :: .int x :: st) := fun p e s m args below meth c A cells slots Q hk F H locs ls hP hS hl => lv_idiv F.1 F.2.1 d hne (h p e s m args below meth c A cells slots Q hk F H locs ls hP hS hl)
theorem y_irem {l : Launch} {G : GT} {R : Room} {κ : KT} {cc : ByteArray} {n : Nat} {own : String} {μ : MemT} {pc : Nat} {lv : List (Option Value)} {st : List Value} {x y : Int32} (d : decode cc pc = .ok (.irem, 1)) (hne : ¬ y = 0) (h : Yj l G R κ cc n own μ (pc + 1) lv (.int (x - x / y * y) :: st)) : Yj l G R κ cc n own μ pc lv (.int y :: .int x :: st) := fun p e s m args below meth c A cells slots Q hk F H locs ls hP hS hl => lv_irem F.1 F.2.1 d hne (h p e s m args below meth c A cells slots Q hk F H locs ls hP hS hl)
theorem y_ladd {l : Launch} {G : GT} {R : Room} {κ : KT} {cc : ByteArray} {n : Nat} {own : String} {μ : MemT} {pc : Nat} {lv : List (Option Value)} {st : List Value} {x y : Int64} (d : decode cc pc = .ok (.ladd, 1)) (h : Yj l G R κ cc n own μ (pc + 1) lv (.long (x + y) :: st)) : Yj l G R κ cc n own μ pc lv (.long y :: .long x :: st) := fun p e s m args below meth c A cells slots Q hk F H locs ls hP hS hl => lv_ladd F.1 F.2.1 d (h p e s m args below meth c A cells slots Q hk F H locs ls hP hS hl)
theorem y_lsub {l : Launch} {G : GT} {R : Room} {κ : KT} {cc : ByteArray} {n : Nat} {own : String} {μ : MemT} {pc : Nat} {lv : List (Option Value)} {st : List Value} {x y : Int64} (d : decode cc pc = .ok (.lsub, 1)) (h : Yj l G R κ cc n own μ (pc + 1) lv (.long (x - y) :: st)) : Yj l G R κ cc n own μ pc lv (.long y :: .long x :: st) := fun p e s m args below meth c A cells slots Q hk F H locs ls hP hS hl => lv_lsub F.1 F.2.1 d (h p e s m args below meth c A cells slots Q hk F H locs ls hP hS hl)
theorem y_lmul {l : Launch} {G : GT} {R : Room} {κ : KT} {cc : ByteArray} {n : Nat} {own : String} {μ : MemT} {pc : Nat} {lv : List (Option Value)} {st : List Value} {x y : Int64} (d : decode cc pc = .ok (.lmul, 1)) (h : Yj l G R κ cc n own μ (pc + 1) lv (.long (x * y) :: st)) : Yj l G R κ cc n own μ pc lv (.long y :: .long x :: st) := fun p e s m args below meth c A cells slots Q hk F H locs ls hP hS hl => lv_lmul F.1 F.2.1 d (h p e s m args below meth c A cells slots Q hk F H locs ls hP hS hl)
theorem y_ldiv {l : Launch} {G : GT} {R : Room} {κ : KT} {cc : ByteArray} {n : Nat} {own : String} {μ : MemT} {pc : Nat} {lv : List (Option Value)} {st : List Value} {x y : Int64} (d : decode cc pc = .ok (.ldiv, 1)) (hne : ¬ y = 0) (h : Yj l G R κ cc n own μ (pc + 1) lv (.long (x / y) :: st)) : Yj l G R κ cc n own μ pc lv (.long y :: .long x :: st) := fun p e s m args below meth c A cells slots Q hk F H locs ls hP hS hl => lv_ldiv F.1 F.2.1 d hne (h p e s m args below meth c A cells slots Q hk F H locs ls hP hS hl)
theorem y_lrem {l : Launch} {G : GT} {R : Room} {κ : KT} {cc : ByteArray} {n : Nat} {own : String} {μ : MemT} {pc : Nat} {lv : List (Option Value)} {st : List Value} {x y : Int64} (d : decode cc pc = .ok (.lrem, 1)) (hne : ¬ y = 0) (h : Yj l G R κ cc n own μ (pc + 1) lv (.long (x - x / y * y) :: st)) : Yj l G R κ cc n own μ pc lv (.long y :: .long x :: st) := fun p e s m args below meth c A cells slots Q hk F H locs ls hP hS hl => lv_lrem F.1 F.2.1 d hne (h p e s m args below meth c A cells slots Q hk F H locs ls hP hS hl)
theorem y_ineg {l : Launch} {G : GT} {R : Room} {κ : KT} {cc : ByteArray} {n : Nat} {own : String} {μ : MemT} {pc : Nat} {lv : List (Option Value)} {st : List Value} {x : Int32} (d : decode cc pc = .ok (.ineg, 1)) (h : Yj l G R κ cc n own μ (pc + 1) lv (.int (-x) :: st)) : Yj l G R κ cc n own μ pc lv (.int x :: st) := fun p e s m args below meth c A cells slots Q hk F H locs ls hP hS hl => lv_ineg F.1 F.2.1 d (h p e s m args below meth c A cells slots Q hk F H locs ls hP hS hl)
theorem y_lneg {l : Launch} {G : GT} {R : Room} {κ : KT} {cc : ByteArray} {n : Nat} {own : String} {μ : MemT} {pc : Nat} {lv : List (Option Value)} {st : List Value} {x : Int64} (d : decode cc pc = .ok (.lneg, 1)) (h : Yj l G R κ cc n own μ (pc + 1) lv (.long (-x) :: st)) : Yj l G R κ cc n own μ pc lv (.long x :: st) := fun p e s m args below meth c A cells slots Q hk F H locs ls hP hS hl => lv_lneg F.1 F.2.1 d (h p e s m args below meth c A cells slots Q hk F H locs ls hP hS hl)
theorem y_iushr {l : Launch} {G : GT} {R : Room} {κ : KT} {cc : ByteArray} {n : Nat} {own : String} {μ : MemT} {pc : Nat} {lv : List (Option Value)} {st : List Value} {x y : Int32} (d : decode cc pc = .ok (.iushr, 1)) (h : Yj l G R κ cc n own μ (pc + 1) lv (.int ((x.toUInt32 >>> (y.toUInt32 &&& Int32.toUInt32 31)).toInt32) :: st)) : Yj l G R κ cc n own μ pc lv (.int y :: .int x :: st) := fun p e s m args below meth c A cells slots Q hk F H locs ls hP hS hl => lv_iushr F.1 F.2.1 d rfl (h p e s m args below meth c A cells slots Q hk F H locs ls hP hS hl)
theorem y_i2l {l : Launch} {G : GT} {R : Room} {κ : KT} {cc : ByteArray} {n : Nat} {own : String} {μ : MemT} {pc : Nat} {lv : List (Option Value)} {st : List Value} {x : Int32} (d : decode cc pc = .ok (.i2l, 1)) (h : Yj l G R κ cc n own μ (pc + 1) lv (.long x.toInt64 :: st)) : Yj l G R κ cc n own μ pc lv (.int x :: st) := fun p e s m args below meth c A cells slots Q hk F H locs ls hP hS hl => lv_i2l F.1 F.2.1 d rfl (h p e s m args below meth c A cells slots Q hk F H locs ls hP hS hl)
theorem y_l2i {l : Launch} {G : GT} {R : Room} {κ : KT} {cc : ByteArray} {n : Nat} {own : String} {μ : MemT} {pc : Nat} {lv : List (Option Value)} {st : List Value} {x : Int64} (d : decode cc pc = .ok (.l2i, 1)) (h : Yj l G R κ cc n own μ (pc + 1) lv (.int x.toInt32 :: st)) : Yj l G R κ cc n own μ pc lv (.long x :: st) := fun p e s m args below meth c A cells slots Q hk F H locs ls hP hS hl => lv_l2i F.1 F.2.1 d rfl (h p e s m args below meth c A cells slots Q hk F H locs ls hP hS hl)
theorem y_lcmp {l : Launch} {G : GT} {R : Room} {κ : KT} {cc : ByteArray} {n : Nat} {own : String} {μ : MemT} {pc : Nat} {lv : List (Option Value)} {st : List Value} {x y : Int64} (d : decode cc pc = .ok (.lcmp, 1)) (h : Yj l G R κ cc n own μ (pc + 1) lv (.int (lg_cmp x y) :: st)) : Yj l G R κ cc n own μ pc lv (.long y :: .long x :: st) := fun p e s m args below meth c A cells slots Q hk F H locs ls hP hS hl => W.lcmp F.1 F.2.1 d (h p e s m args below meth c A cells slots Q hk F H locs ls hP hS hl)
theorem y_dup {l : Launch} {G : GT} {R : Room} {κ : KT} {cc : ByteArray} {n : Nat} {own : String} {μ : MemT} {pc : Nat} {lv : List (Option Value)} {st : List Value} {v : Value} (d : decode cc pc = .ok (.dup, 1)) (hv : v.category = 1) (h : Yj l G R κ cc n own μ (pc + 1) lv (v :: v :: st)) : Yj l G R κ cc n own μ pc lv (v :: st) := fun p e s m args below meth c A cells slots Q hk F H locs ls hP hS hl => lv_dup F.1 F.2.1 d hv (h p e s m args below meth c A cells slots Q hk F H locs ls hP hS hl)
theorem y_dup_x1 {l : Launch} {G : GT} {R : Room} {κ : KT} {cc : ByteArray} {n : Nat} {own : String} {μ : MemT} {pc : Nat} {lv : List (Option Value)} {st : List Value} {v w : Value} (d : decode cc pc = .ok (.dup_x1, 1)) (hv : v.category = 1) (hw : w.category = 1) (h : Yj l G R κ cc n own μ (pc + 1) lv (v :: w :: v :: st)) : Yj l G R κ cc n own μ pc lv (v :: w :: st) := fun p e s m args below meth c A cells slots Q hk F H locs ls hP hS hl => lv_dup_x1 F.1 F.2.1 d hv hw (h p e s m args below meth c A cells slots Q hk F H locs ls hP hS hl)
theorem y_dup2 {l : Launch} {G : GT} {R : Room} {κ : KT} {cc : ByteArray} {n : Nat} {own : String} {μ : MemT} {pc : Nat} {lv : List (Option Value)} {st : List Value} {v w : Value} (d : decode cc pc = .ok (.dup2, 1)) (hv : v.category = 1) (hw : w.category = 1) (h : Yj l G R κ cc n own μ (pc + 1) lv (v :: w :: v :: w :: st)) : Yj l G R κ cc n own μ pc lv (v :: w :: st) := fun p e s m args below meth c A cells slots Q hk F H locs ls hP hS hl => lv_dup2_11 F.1 F.2.1 d hv hw (h p e s m args below meth c A cells slots Q hk F H locs ls hP hS hl)
theorem y_pop {l : Launch} {G : GT} {R : Room} {κ : KT} {cc : ByteArray} {n : Nat} {own : String} {μ : MemT} {pc : Nat} {lv : List (Option Value)} {st : List Value} {v : Value} (d : decode cc pc = .ok (.pop, 1)) (hv : v.category = 1) (h : Yj l G R κ cc n own μ (pc + 1) lv st) : Yj l G R κ cc n own μ pc lv (v :: st) := fun p e s m args below meth c A cells slots Q hk F H locs ls hP hS hl => lv_pop F.1 F.2.1 d hv (h p e s m args below meth c A cells slots Q hk F H locs ls hP hS hl)
theorem y_if_eq {l : Launch} {G : GT} {R : Room} {κ : KT} {cc : ByteArray} {n : Nat} {own : String} {μ : MemT} {pc : Nat} {lv : List (Option Value)} {st : List Value} {x : Int32} {off : Int} (tgt : Nat) (d : decode cc pc = .ok (.ifCond .eq off, 3)) (ht : (pc : Int) + off = (tgt : Int)) (kt : (x = 0) → Yj l G R κ cc n own μ tgt lv st) (kf : ¬ (x = 0) → Yj l G R κ cc n own μ (pc + 3) lv st) : Yj l G R κ cc n own μ pc lv (.int x :: st) := fun p e s m args below meth c A cells slots Q hk F H locs ls hP hS hl => lv_if_eq F.1 F.2.1 d ht (fun q => kt q p e s m args below meth c A cells slots Q hk F H locs ls hP hS hl) (fun q => kf q p e s m args below meth c A cells slots Q hk F H locs ls hP hS hl)
theorem y_icmp_eq {l : Launch} {G : GT} {R : Room} {κ : KT} {cc : ByteArray} {n : Nat} {own : String} {μ : MemT} {pc : Nat} {lv : List (Option Value)} {st : List Value} {x y : Int32} {off : Int} (tgt : Nat) (d : decode cc pc = .ok (.if_icmp .eq off, 3)) (ht : (pc : Int) + off = (tgt : Int)) (kt : (x = y) → Yj l G R κ cc n own μ tgt lv st) (kf : ¬ (x = y) → Yj l G R κ cc n own μ (pc + 3) lv st) : Yj l G R κ cc n own μ pc lv (.int y :: .int x :: st) := fun p e s m args below meth c A cells slots Q hk F H locs ls hP hS hl => lv_icmp_eq F.1 F.2.1 d ht (fun q => kt q p e s m args below meth c A cells slots Q hk F H locs ls hP hS hl) (fun q => kf q p e s m args below meth c A cells slots Q hk F H locs ls hP hS hl)
theorem y_if_ne {l : Launch} {G : GT} {R : Room} {κ : KT} {cc : ByteArray} {n : Nat} {own : String} {μ : MemT} {pc : Nat} {lv : List (Option Value)} {st : List Value} {x : Int32} {off : Int} (tgt : Nat) (d : decode cc pc = .ok (.ifCond .ne off, 3)) (ht : (pc : Int) + off = (tgt : Int)) (kt : (¬ x = 0) → Yj l G R κ cc n own μ tgt lv st) (kf : (x = 0) → Yj l G R κ cc n own μ (pc + 3) lv st) : Yj l G R κ cc n own μ pc lv (.int x :: st) := fun p e s m args below meth c A cells slots Q hk F H locs ls hP hS hl => lv_if_ne F.1 F.2.1 d ht (fun q => kt q p e s m args below meth c A cells slots Q hk F H locs ls hP hS hl) (fun q => kf q p e s m args below meth c A cells slots Q hk F H locs ls hP hS hl)
theorem y_icmp_ne {l : Launch} {G : GT} {R : Room} {κ : KT} {cc : ByteArray} {n : Nat} {own : String} {μ : MemT} {pc : Nat} {lv : List (Option Value)} {st : List Value} {x y : Int32} {off : Int} (tgt : Nat) (d : decode cc pc = .ok (.if_icmp .ne off, 3)) (ht : (pc : Int) + off = (tgt : Int)) (kt : (¬ x = y) → Yj l G R κ cc n own μ tgt lv st) (kf : (x = y) → Yj l G R κ cc n own μ (pc + 3) lv st) : Yj l G R κ cc n own μ pc lv (.int y :: .int x :: st) := fun p e s m args below meth c A cells slots Q hk F H locs ls hP hS hl => lv_icmp_ne F.1 F.2.1 d ht (fun q => kt q p e s m args below meth c A cells slots Q hk F H locs ls hP hS hl) (fun q => kf q p e s m args below meth c A cells slots Q hk F H locs ls hP hS hl)
theorem y_if_lt {l : Launch} {G : GT} {R : Room} {κ : KT} {cc : ByteArray} {n : Nat} {own : String} {μ : MemT} {pc : Nat} {lv : List (Option Value)} {st : List Value} {x : Int32} {off : Int} (tgt : Nat) (d : decode cc pc = .ok (.ifCond .lt off, 3)) (ht : (pc : Int) + off = (tgt : Int)) (kt : (x < 0) → Yj l G R κ cc n own μ tgt lv st) (kf : ¬ (x < 0) → Yj l G R κ cc n own μ (pc + 3) lv st) : Yj l G R κ cc n own μ pc lv (.int x :: st) := fun p e s m args below meth c A cells slots Q hk F H locs ls hP hS hl => lv_if_lt F.1 F.2.1 d ht (fun q => kt q p e s m args below meth c A cells slots Q hk F H locs ls hP hS hl) (fun q => kf q p e s m args below meth c A cells slots Q hk F H locs ls hP hS hl)
theorem y_icmp_lt {l : Launch} {G : GT} {R : Room} {κ : KT} {cc : ByteArray} {n : Nat} {own : String} {μ : MemT} {pc : Nat} {lv : List (Option Value)} {st : List Value} {x y : Int32} {off : Int} (tgt : Nat) (d : decode cc pc = .ok (.if_icmp .lt off, 3)) (ht : (pc : Int) + off = (tgt : Int)) (kt : (x < y) → Yj l G R κ cc n own μ tgt lv st) (kf : ¬ (x < y) → Yj l G R κ cc n own μ (pc + 3) lv st) : Yj l G R κ cc n own μ pc lv (.int y :: .int x :: st) := fun p e s m args below meth c A cells slots Q hk F H locs ls hP hS hl => lv_icmp_lt F.1 F.2.1 d ht (fun q => kt q p e s m args below meth c A cells slots Q hk F H locs ls hP hS hl) (fun q => kf q p e s m args below meth c A cells slots Q hk F H locs ls hP hS hl)
theorem y_if_ge {l : Launch} {G : GT} {R : Room} {κ : KT} {cc : ByteArray} {n : Nat} {own : String} {μ : MemT} {pc : Nat} {lv : List (Option Value)} {st : List Value} {x : Int32} {off : Int} (tgt : Nat) (d : decode cc pc = .ok (.ifCond .ge off, 3)) (ht : (pc : Int) + off = (tgt : Int)) (kt : (0 ≤ x) → Yj l G R κ cc n own μ tgt lv st) (kf : ¬ (0 ≤ x) → Yj l G R κ cc n own μ (pc + 3) lv st) : Yj l G R κ cc n own μ pc lv (.int x :: st) := fun p e s m args below meth c A cells slots Q hk F H locs ls hP hS hl => lv_if_ge F.1 F.2.1 d ht (fun q => kt q p e s m args below meth c A cells slots Q hk F H locs ls hP hS hl) (fun q => kf q p e s m args below meth c A cells slots Q hk F H locs ls hP hS hl)
theorem y_icmp_ge {l : Launch} {G : GT} {R : Room} {κ : KT} {cc : ByteArray} {n : Nat} {own : String} {μ : MemT} {pc : Nat} {lv : List (Option Value)} {st : List Value} {x y : Int32} {off : Int} (tgt : Nat) (d : decode cc pc = .ok (.if_icmp .ge off, 3)) (ht : (pc : Int) + off = (tgt : Int)) (kt : (y ≤ x) → Yj l G R κ cc n own μ tgt lv st) (kf : ¬ (y ≤ x) → Yj l G R κ cc n own μ (pc + 3) lv st) : Yj l G R κ cc n own μ pc lv (.int y :: .int x :: st) := fun p e s m args below meth c A cells slots Q hk F H locs ls hP hS hl => lv_icmp_ge F.1 F.2.1 d ht (fun q => kt q p e s m args below meth c A cells slots Q hk F H locs ls hP hS hl) (fun q => kf q p e s m args below meth c A cells slots Q hk F H locs ls hP hS hl)
theorem y_if_gt {l : Launch} {G : GT} {R : Room} {κ : KT} {cc : ByteArray} {n : Nat} {own : String} {μ : MemT} {pc : Nat} {lv : List (Option Value)} {st : List Value} {x : Int32} {off : Int} (tgt : Nat) (d : decode cc pc = .ok (.ifCond .gt off, 3)) (ht : (pc : Int) + off = (tgt : Int)) (kt : (0 < x) → Yj l G R κ cc n own μ tgt lv st) (kf : ¬ (0 < x) → Yj l G R κ cc n own μ (pc + 3) lv st) : Yj l G R κ cc n own μ pc lv (.int x :: st) := fun p e s m args below meth c A cells slots Q hk F H locs ls hP hS hl => lv_if_gt F.1 F.2.1 d ht (fun q => kt q p e s m args below meth c A cells slots Q hk F H locs ls hP hS hl) (fun q => kf q p e s m args below meth c A cells slots Q hk F H locs ls hP hS hl)
theorem y_icmp_gt {l : Launch} {G : GT} {R : Room} {κ : KT} {cc : ByteArray} {n : Nat} {own : String} {μ : MemT} {pc : Nat} {lv : List (Option Value)} {st : List Value} {x y : Int32} {off : Int} (tgt : Nat) (d : decode cc pc = .ok (.if_icmp .gt off, 3)) (ht : (pc : Int) + off = (tgt : Int)) (kt : (y < x) → Yj l G R κ cc n own μ tgt lv st) (kf : ¬ (y < x) → Yj l G R κ cc n own μ (pc + 3) lv st) : Yj l G R κ cc n own μ pc lv (.int y :: .int x :: st) := fun p e s m args below meth c A cells slots Q hk F H locs ls hP hS hl => lv_icmp_gt F.1 F.2.1 d ht (fun q => kt q p e s m args below meth c A cells slots Q hk F H locs ls hP hS hl) (fun q => kf q p e s m args below meth c A cells slots Q hk F H locs ls hP hS hl)
theorem y_if_le {l : Launch} {G : GT} {R : Room} {κ : KT} {cc : ByteArray} {n : Nat} {own : String} {μ : MemT} {pc : Nat} {lv : List (Option Value)} {st : List Value} {x : Int32} {off : Int} (tgt : Nat) (d : decode cc pc = .ok (.ifCond .le off, 3)) (ht : (pc : Int) + off = (tgt : Int)) (kt : (x ≤ 0) → Yj l G R κ cc n own μ tgt lv st) (kf : ¬ (x ≤ 0) → Yj l G R κ cc n own μ (pc + 3) lv st) : Yj l G R κ cc n own μ pc lv (.int x :: st) := fun p e s m args below meth c A cells slots Q hk F H locs ls hP hS hl => lv_if_le F.1 F.2.1 d ht (fun q => kt q p e s m args below meth c A cells slots Q hk F H locs ls hP hS hl) (fun q => kf q p e s m args below meth c A cells slots Q hk F H locs ls hP hS hl)
theorem y_icmp_le {l : Launch} {G : GT} {R : Room} {κ : KT} {cc : ByteArray} {n : Nat} {own : String} {μ : MemT} {pc : Nat} {lv : List (Option Value)} {st : List Value} {x y : Int32} {off : Int} (tgt : Nat) (d : decode cc pc = .ok (.if_icmp .le off, 3)) (ht : (pc : Int) + off = (tgt : Int)) (kt : (x ≤ y) → Yj l G R κ cc n own μ tgt lv st) (kf : ¬ (x ≤ y) → Yj l G R κ cc n own μ (pc + 3) lv st) : Yj l G R κ cc n own μ pc lv (.int y :: .int x :: st) := fun p e s m args below meth c A cells slots Q hk F H locs ls hP hS hl => lv_icmp_le F.1 F.2.1 d ht (fun q => kt q p e s m args below meth c A cells slots Q hk F H locs ls hP hS hl) (fun q => kf q p e s m args below meth c A cells slots Q hk F H locs ls hP hS hl)
theorem y_goto {l : Launch} {G : GT} {R : Room} {κ : KT} {cc : ByteArray} {n : Nat} {own : String} {μ : MemT} {pc : Nat} {lv : List (Option Value)} {st : List Value} {off : Int} (tgt : Nat) (d : decode cc pc = .ok (.goto off, 3)) (ht : (pc : Int) + off = (tgt : Int)) (h : Yj l G R κ cc n own μ tgt lv st) : Yj l G R κ cc n own μ pc lv st := fun p e s m args below meth c A cells slots Q hk F H locs ls hP hS hl => lv_goto F.1 F.2.1 d ht (h p e s m args below meth c A cells slots Q hk F H locs ls hP hS hl)
theorem y_tableOut {l : Launch} {G : GT} {R : Room} {κ : KT} {cc : ByteArray} {n : Nat} {own : String} {μ : MemT} {pc : Nat} {lv : List (Option Value)} {st : List Value} {x : Int32} {dflt lo hi : Int} {offs : Array Int} {len : Nat} (tgt : Nat) (d : decode cc pc = .ok (.tableswitch dflt lo hi offs, len)) (hx : x.toInt < lo ∨ hi < x.toInt) (ht : (pc : Int) + dflt = (tgt : Int)) (h : Yj l G R κ cc n own μ tgt lv st) : Yj l G R κ cc n own μ pc lv (.int x :: st) := fun p e s m args below meth c A cells slots Q hk F H locs ls hP hS hl => lv_tableOut F.1 F.2.1 d hx ht (h p e s m args below meth c A cells slots Q hk F H locs ls hP hS hl)
theorem y_tableIn {l : Launch} {G : GT} {R : Room} {κ : KT} {cc : ByteArray} {n : Nat} {own : String} {μ : MemT} {pc : Nat} {lv : List (Option Value)} {st : List Value} {x : Int32} {dflt lo hi off : Int} {offs : Array Int} {len : Nat} (tgt : Nat) (d : decode cc pc = .ok (.tableswitch dflt lo hi offs, len)) (h1 : ¬ x.toInt < lo) (h2 : ¬ hi < x.toInt) (ho : offs[(x.toInt - lo).toNat]? = some off) (ht : (pc : Int) + off = (tgt : Int)) (h : Yj l G R κ cc n own μ tgt lv st) : Yj l G R κ cc n own μ pc lv (.int x :: st) := fun p e s m args below meth c A cells slots Q hk F H locs ls hP hS hl => lv_tableIn F.1 F.2.1 d h1 h2 ho ht (h p e s m args below meth c A cells slots Q hk F H locs ls hP hS hl)
theorem y_lookup {l : Launch} {G : GT} {R : Room} {κ : KT} {cc : ByteArray} {n : Nat} {own : String} {μ : MemT} {pc : Nat} {lv : List (Option Value)} {st : List Value} {x : Int32} {dflt off : Int} {ps : Array (Int × Int)} {len : Nat} (tgt : Nat) (d : decode cc pc = .ok (.lookupswitch dflt ps, len)) (hp : (ps.toList.zip (ps.toList.drop 1)).all (fun (a, next) => a.1 < next.1) = true) (ho : Op.lookupswitch.offset ps.toList dflt x.toInt = off) (ht : (pc : Int) + off = (tgt : Int)) (h : Yj l G R κ cc n own μ tgt lv st) : Yj l G R κ cc n own μ pc lv (.int x :: st) := fun p e s m args below meth c A cells slots Q hk F H locs ls hP hS hl => lv_lookup F.1 F.2.1 d hp ho ht (h p e s m args below meth c A cells slots Q hk F H locs ls hP hS hl)
theorem y_weak {l : Launch} {G : GT} {R : Room} {κ : KT} {cc : ByteArray} {n : Nat} {own : String} {μ : MemT} {pc : Nat} {lv : List (Option Value)} {st : List Value} (lv2 : List (Option Value)) (hw : ∀ (i : Nat) (v : Value), lv2[i]? = some (some v) → lv[i]? = some (some v)) (h : Yj l G R κ cc n own μ pc lv2 st) : Yj l G R κ cc n own μ pc lv st := fun p e s m args below meth c A cells slots Q hk F H locs ls hP hS hl => h p e s m args below meth c A cells slots Q hk F H locs ls hP hS (hl.weak hw)
theorem y_drop {l : Launch} {G : GT} {R : Room} {κ : KT} {cc : ByteArray} {n : Nat} {own : String} {μ : MemT} {pc : Nat} {lv : List (Option Value)} {st : List Value} (k : Nat) (h : Yj l G R κ cc n own μ pc (lv.set k none) st) : Yj l G R κ cc n own μ pc lv st := y_weak _ set_none_weak h
theorem y_eq {l : Launch} {G : GT} {R : Room} {κ : KT} {cc : ByteArray} {n : Nat} {own : String} {μ : MemT} {pc : Nat} {lv : List (Option Value)} {st : List Value} {μ2 : MemT} {lv2 : List (Option Value)} {st2 : List Value} (h1 : μ = μ2) (h2 : lv = lv2) (h3 : st = st2) (h : Yj l G R κ cc n own μ2 pc lv2 st2) : Yj l G R κ cc n own μ pc lv st := by subst h1; subst h2; subst h3; exact h
/-- a class of the tables: its place among the classes, fields, types -/
def sw_cl (ci : Nat) (C : String) (T : u_T) (N : Nat) (ty0 : Nat → FieldType) : Prop := vwCl[ci]? = some (C, T, N) ∧ (∀ w ∈ u_ws C T N, w ∈ wL) ∧ (∀ k, k < N → parseFieldDescriptor (T k).2.2.1 = some (ty0 k)) ∧ (∀ a, a < N → ∀ b, b < N → a ≠ b → (T a).2.1 ≠ (T b).2.1)

theorem clX0 : sw_cl 0 RX0 TX0 2 tyX0 := ⟨rfl, inlX0, tyX0_ok, nmX0⟩
theorem clX1 : sw_cl 1 RX1 TX1 13 tyX1 := ⟨rfl, inlX1, tyX1_ok, nmX1⟩
theorem clX2 : sw_cl 2 RX2 TX2 2 tyX2 := ⟨rfl, inlX2, tyX2_ok, nmX2⟩
theorem clX3 : sw_cl 3 RX3 TX3 10 tyX3 := ⟨rfl, inlX3, tyX3_ok, nmX3⟩
theorem clX4 : sw_cl 4 RX4 TX4 12 tyX4 := ⟨rfl, inlX4, tyX4_ok, nmX4⟩
theorem clX5 : sw_cl 5 RX5 TX5 7 tyX5 := ⟨rfl, inlX5, tyX5_ok, nmX5⟩
theorem clX6 : sw_cl 6 RX6 TX6 4 tyX6 := ⟨rfl, inlX6, tyX6_ok, nmX6⟩
theorem clX7 : sw_cl 7 RX7 TX7 9 tyX7 := ⟨rfl, inlX7, tyX7_ok, nmX7⟩
theorem clX8 : sw_cl 8 RX8 TX8 41 tyX8 := ⟨rfl, inlX8, tyX8_ok, nmX8⟩
theorem y_geti {l : Launch} {G : GT} {R : Room} {κ : KT} {cc : ByteArray} {n : Nat} {own : String} {μ : MemT} {pc : Nat} {lv : List (Option Value)} {st : List Value} {b ci index N : Nat} {C ref : String} {T : u_T} {ty0 : Nat → FieldType} {tm : List (Nat ⊕ Nat)} (d : decode cc pc = .ok (.getfield index, 3)) (i : Nat) (cl : sw_cl ci C T N ty0) (hb : kdL[b]? = some (.inl (ci, tm))) (hN : i < N) (hw : Cond.fieldLink own index ref (T i).2.1 (T i).2.2.1 ∈ wL) (hre : (T i).1 = ref) (ht : tm[i]? = some (.inr 0)) (h : Yj l G R κ cc n own μ (pc + 3) lv (.int (μ b i) :: st)) : Yj l G R κ cc n own μ pc lv (.ref (G.2.1 b) :: st) := fun p e s m args below meth c A cells slots Q hk F H locs ls hP hS hl => va_get (D := G.1) (ci := ci) (C := C) (T := T) (N := N) F.1 F.2.1 F.2.2.2.2.1 cl.2.1 F.2.2.2.1 F.2.2.2.2.2.1.1 hP b (sw_ws_at hb) cl.1 i hN (F.2.2.2.2.1 _ hw) (fun _ h9 => by rw [← hre]; exact h9) (v := .int (μ b i)) (by rw [sw_fs_at, ht]; simp only [Option.map_some, Nat.zero_add]; rfl) d (h p e s m args below meth c A cells slots Q hk F H locs ls hP hS hl)
theorem y_getl {l : Launch} {G : GT} {R : Room} {κ : KT} {cc : ByteArray} {n : Nat} {own : String} {μ : MemT} {pc : Nat} {lv : List (Option Value)} {st : List Value} {b ci index N : Nat} {C ref : String} {T : u_T} {ty0 : Nat → FieldType} {tm : List (Nat ⊕ Nat)} (d : decode cc pc = .ok (.getfield index, 3)) (i : Nat) (cl : sw_cl ci C T N ty0) (hb : kdL[b]? = some (.inl (ci, tm))) (hN : i < N) (hw : Cond.fieldLink own index ref (T i).2.1 (T i).2.2.1 ∈ wL) (hre : (T i).1 = ref) (ht : tm[i]? = some (.inr 1)) (h : Yj l G R κ cc n own μ (pc + 3) lv (.long (sw_jn (μ b (2 * i)) (μ b (2 * i + 1))) :: st)) : Yj l G R κ cc n own μ pc lv (.ref (G.2.1 b) :: st) := fun p e s m args below meth c A cells slots Q hk F H locs ls hP hS hl => va_get (D := G.1) (ci := ci) (C := C) (T := T) (N := N) F.1 F.2.1 F.2.2.2.2.1 cl.2.1 F.2.2.2.1 F.2.2.2.2.2.1.1 hP b (sw_ws_at hb) cl.1 i hN (F.2.2.2.2.1 _ hw) (fun _ h9 => by rw [← hre]; exact h9) (v := .long (sw_jn (μ b (2 * i)) (μ b (2 * i + 1)))) (by rw [sw_fs_at, ht]; simp only [Option.map_some, Nat.zero_add]; rfl) d (h p e s m args below meth c A cells slots Q hk F H locs ls hP hS hl)
theorem y_getr {l : Launch} {G : GT} {R : Room} {κ : KT} {cc : ByteArray} {n : Nat} {own : String} {μ : MemT} {pc : Nat} {lv : List (Option Value)} {st : List Value} {b ci index N : Nat} {C ref : String} {T : u_T} {ty0 : Nat → FieldType} {tm : List (Nat ⊕ Nat)} (d : decode cc pc = .ok (.getfield index, 3)) (i : Nat) (cl : sw_cl ci C T N ty0) (hb : kdL[b]? = some (.inl (ci, tm))) (hN : i < N) (hw : Cond.fieldLink own index ref (T i).2.1 (T i).2.2.1 ∈ wL) (hre : (T i).1 = ref) {j : Nat} (ht : tm[i]? = some (.inl j)) (h : Yj l G R κ cc n own μ (pc + 3) lv (.ref (G.2.1 j) :: st)) : Yj l G R κ cc n own μ pc lv (.ref (G.2.1 b) :: st) := fun p e s m args below meth c A cells slots Q hk F H locs ls hP hS hl => va_get (D := G.1) (ci := ci) (C := C) (T := T) (N := N) F.1 F.2.1 F.2.2.2.2.1 cl.2.1 F.2.2.2.1 F.2.2.2.2.2.1.1 hP b (sw_ws_at hb) cl.1 i hN (F.2.2.2.2.1 _ hw) (fun _ h9 => by rw [← hre]; exact h9) (v := .ref (G.2.1 j)) (by rw [sw_fs_at, ht]; simp only [Option.map_some, Nat.zero_add]; rfl) d (h p e s m args below meth c A cells slots Q hk F H locs ls hP hS hl)
def noLong (tm : List (Nat ⊕ Nat)) : Bool := tm.all fun t => match t with | .inr (_ + 1) => false | _ => true
def allLong (tm : List (Nat ⊕ Nat)) : Bool := tm.all fun t => match t with | .inr (_ + 1) => true | _ => false
theorem sw_fs_upd {ad : Nat → Nat} {r : Nat → Int32} {x : Int32} {tm : List (Nat ⊕ Nat)} {k : Nat} (hn : noLong tm = true) (hk : tm[k]? = some (.inr 0)) : (sw_fs ad r 0 tm).set k (.int x) = sw_fs ad (upd r k x) 0 tm := by
  have hlt : k < tm.length := (List.getElem?_eq_some_iff.mp hk).1
  apply List.ext_getElem?
  intro j
  by_cases hj : j = k
  · subst hj
    rw [List.getElem?_set_self (by rw [sw_fs_len]; exact hlt), sw_fs_at, hk]
    simp only [Option.map_some, sw_fv, Nat.zero_add, upd_self]
  · rw [List.getElem?_set_ne (Ne.symm hj), sw_fs_at, sw_fs_at]
    cases ht : tm[j]? with
    | none => rfl
    | some t =>
      have hm := List.all_eq_true.mp hn t (List.mem_of_getElem? ht)
      simp only [Option.map_some, Nat.zero_add]
      match t, hm with
      | .inl q, _ => rfl
      | .inr 0, _ => simp only [sw_fv, upd_ne r x hj]
      | .inr (q + 1), h => cases h
theorem sw_fs_updl {ad : Nat → Nat} {r : Nat → Int32} {v : Int64} {tm : List (Nat ⊕ Nat)} {k : Nat} (hn : allLong tm = true) (hk : tm[k]? = some (.inr 1)) : (sw_fs ad r 0 tm).set k (.long v) = sw_fs ad (upd (upd r (2 * k) (sw_hi v)) (2 * k + 1) (sw_lo v)) 0 tm := by
  have hlt : k < tm.length := (List.getElem?_eq_some_iff.mp hk).1
  apply List.ext_getElem?
  intro j
  by_cases hj : j = k
  · subst hj
    rw [List.getElem?_set_self (by rw [sw_fs_len]; exact hlt), sw_fs_at, hk]
    simp only [Option.map_some, sw_fv, Nat.zero_add, upd_self, upd_ne _ _ (show 2 * j ≠ 2 * j + 1 by omega), sw_jn_hl]
  · rw [List.getElem?_set_ne (Ne.symm hj), sw_fs_at, sw_fs_at]
    cases ht : tm[j]? with
    | none => rfl
    | some t =>
      have hm := List.all_eq_true.mp hn t (List.mem_of_getElem? ht)
      simp only [Option.map_some, Nat.zero_add]
      match t, hm with
      | .inl q, h => cases h
      | .inr 0, h => cases h
      | .inr (q + 1), _ =>
        simp only [sw_fv]
        rw [upd_ne _ _ (show 2 * j ≠ 2 * k + 1 by omega), upd_ne _ _ (show 2 * j ≠ 2 * k by omega), upd_ne _ _ (show 2 * j + 1 ≠ 2 * k + 1 by omega), upd_ne _ _ (show 2 * j + 1 ≠ 2 * k by omega)]

theorem y_puti {l : Launch} {G : GT} {R : Room} {κ : KT} {cc : ByteArray} {n : Nat} {own : String} {μ : MemT} {pc : Nat} {lv : List (Option Value)} {st : List Value} {b ci index N : Nat} {C ref : String} {T : u_T} {ty0 : Nat → FieldType} {tm : List (Nat ⊕ Nat)} (d : decode cc pc = .ok (.putfield index, 3)) (i : Nat) (cl : sw_cl ci C T N ty0) (hb : kdL[b]? = some (.inl (ci, tm))) (hN : i < N) (hw : Cond.fieldLink own index ref (T i).2.1 (T i).2.2.1 ∈ wL) (hre : (T i).1 = ref) {x : Int32} {ty : FieldType} (hnl : noLong tm = true) (ht : tm[i]? = some (.inr 0)) (hfin : (T i).2.2.2 = false) (hd : parseFieldDescriptor (T i).2.2.1 = some ty) (hn2 : narrow ty (.int x) = .int x) (hfit : fits ty (.int x) = true) (h : Yj l G R κ cc n own (mset μ b (upd (μ b) i x)) (pc + 3) lv st) : Yj l G R κ cc n own μ pc lv (.int x :: .ref (G.2.1 b) :: st) := fun p e s m args below meth c A cells slots Q hk F H locs ls hP hS hl => va_put (D := G.1) (ci := ci) (C := C) (T := T) (N := N) (v := .int x) (ty := ty) F.1 F.2.1 F.2.2.2.2.1 cl.2.1 ty0 cl.2.2.1 cl.2.2.2 F.2.2.2.1 F.2.2.2.2.2.1.1 hP (sw_Dd F.2.2.2.2.2.2.2.2.2 F.2.2.2.2.2.2.2.2.1) hS b (sw_ws_at hb) cl.1 i hN (F.2.2.2.2.1 _ hw) (fun _ h9 => by rw [← hre]; exact h9) hfin hd hn2 hfit (by rw [sw_fs_len]; exact (List.getElem?_eq_some_iff.mp ht).1) d (fun H1 locs1 hP1 _ hS1 => h p e s m args below meth c A cells slots Q hk F H1 locs1 ls (by rw [sw_fs_upd hnl ht] at hP1; rw [sw_P, ← sw_ws_set hb]; exact hP1) hS1 hl)
theorem y_putl {l : Launch} {G : GT} {R : Room} {κ : KT} {cc : ByteArray} {n : Nat} {own : String} {μ : MemT} {pc : Nat} {lv : List (Option Value)} {st : List Value} {b ci index N : Nat} {C ref : String} {T : u_T} {ty0 : Nat → FieldType} {tm : List (Nat ⊕ Nat)} (d : decode cc pc = .ok (.putfield index, 3)) (i : Nat) (cl : sw_cl ci C T N ty0) (hb : kdL[b]? = some (.inl (ci, tm))) (hN : i < N) (hw : Cond.fieldLink own index ref (T i).2.1 (T i).2.2.1 ∈ wL) (hre : (T i).1 = ref) {x : Int64} {ty : FieldType} (hnl : allLong tm = true) (ht : tm[i]? = some (.inr 1)) (hfin : (T i).2.2.2 = false) (hd : parseFieldDescriptor (T i).2.2.1 = some ty) (hn2 : narrow ty (.long x) = .long x) (hfit : fits ty (.long x) = true) (h : Yj l G R κ cc n own (mset μ b (upd (upd (μ b) (2 * i) (sw_hi x)) (2 * i + 1) (sw_lo x))) (pc + 3) lv st) : Yj l G R κ cc n own μ pc lv (.long x :: .ref (G.2.1 b) :: st) := fun p e s m args below meth c A cells slots Q hk F H locs ls hP hS hl => va_put (D := G.1) (ci := ci) (C := C) (T := T) (N := N) (v := .long x) (ty := ty) F.1 F.2.1 F.2.2.2.2.1 cl.2.1 ty0 cl.2.2.1 cl.2.2.2 F.2.2.2.1 F.2.2.2.2.2.1.1 hP (sw_Dd F.2.2.2.2.2.2.2.2.2 F.2.2.2.2.2.2.2.2.1) hS b (sw_ws_at hb) cl.1 i hN (F.2.2.2.2.1 _ hw) (fun _ h9 => by rw [← hre]; exact h9) hfin hd hn2 hfit (by rw [sw_fs_len]; exact (List.getElem?_eq_some_iff.mp ht).1) d (fun H1 locs1 hP1 _ hS1 => h p e s m args below meth c A cells slots Q hk F H1 locs1 ls (by rw [sw_fs_updl hnl ht] at hP1; rw [sw_P, ← sw_ws_set hb]; exact hP1) hS1 hl)
theorem y_iald {l : Launch} {G : GT} {R : Room} {κ : KT} {cc : ByteArray} {n : Nat} {own : String} {μ : MemT} {pc : Nat} {lv : List (Option Value)} {st : List Value} {b N : Nat} {x : Int32} (d : decode cc pc = .ok (.iaload, 1)) (j : Nat) (hb : kdL[b]? = some (.inr (0, N))) (hj : x = nI j) (hlt : j < N) (hN : N < 2 ^ 31) (h : Yj l G R κ cc n own μ (pc + 1) lv (.int (μ b j) :: st)) : Yj l G R κ cc n own μ pc lv (.int x :: .ref (G.2.1 b) :: st) := fun p e s m args below meth c A cells slots Q hk F H locs ls hP hS hl => va_iald F.1 F.2.1 F.2.2.2.2.2.1.1 hP b 0 (sw_ws_at hb) rfl (by rw [hj]; exact vp_in_nI hlt hN) d (by rw [hj, nI_clamp (Nat.lt_trans hlt hN)]; exact (h p e s m args below meth c A cells slots Q hk F H locs ls hP hS hl))
theorem y_bald {l : Launch} {G : GT} {R : Room} {κ : KT} {cc : ByteArray} {n : Nat} {own : String} {μ : MemT} {pc : Nat} {lv : List (Option Value)} {st : List Value} {b N : Nat} {x : Int32} (d : decode cc pc = .ok (.baload, 1)) (j : Nat) (hb : kdL[b]? = some (.inr (1, N))) (hj : x = nI j) (hlt : j < N) (hN : N < 2 ^ 31) (h : Yj l G R κ cc n own μ (pc + 1) lv (.int (μ b j) :: st)) : Yj l G R κ cc n own μ pc lv (.int x :: .ref (G.2.1 b) :: st) := fun p e s m args below meth c A cells slots Q hk F H locs ls hP hS hl => va_bald F.1 F.2.1 F.2.2.2.2.2.1.1 hP b 1 (sw_ws_at hb) rfl (by rw [hj]; exact vp_in_nI hlt hN) d (by rw [hj, nI_clamp (Nat.lt_trans hlt hN)]; exact (h p e s m args below meth c A cells slots Q hk F H locs ls hP hS hl))
theorem y_zald {l : Launch} {G : GT} {R : Room} {κ : KT} {cc : ByteArray} {n : Nat} {own : String} {μ : MemT} {pc : Nat} {lv : List (Option Value)} {st : List Value} {b N : Nat} {x : Int32} (d : decode cc pc = .ok (.baload, 1)) (j : Nat) (hb : kdL[b]? = some (.inr (2, N))) (hj : x = nI j) (hlt : j < N) (hN : N < 2 ^ 31) (h : Yj l G R κ cc n own μ (pc + 1) lv (.int (μ b j) :: st)) : Yj l G R κ cc n own μ pc lv (.int x :: .ref (G.2.1 b) :: st) := fun p e s m args below meth c A cells slots Q hk F H locs ls hP hS hl => va_zald F.1 F.2.1 F.2.2.2.2.2.1.1 hP b 2 (sw_ws_at hb) rfl (by rw [hj]; exact vp_in_nI hlt hN) d (by rw [hj, nI_clamp (Nat.lt_trans hlt hN)]; exact (h p e s m args below meth c A cells slots Q hk F H locs ls hP hS hl))
theorem y_iast {l : Launch} {G : GT} {R : Room} {κ : KT} {cc : ByteArray} {n : Nat} {own : String} {μ : MemT} {pc : Nat} {lv : List (Option Value)} {st : List Value} {b N : Nat} {x y : Int32} (d : decode cc pc = .ok (.iastore, 1)) (j : Nat) (hb : kdL[b]? = some (.inr (0, N))) (hj : x = nI j) (hlt : j < N) (hN : N < 2 ^ 31) (h : Yj l G R κ cc n own (mset μ b (upd (μ b) j y)) (pc + 1) lv st) : Yj l G R κ cc n own μ pc lv (.int y :: .int x :: .ref (G.2.1 b) :: st) := fun p e s m args below meth c A cells slots Q hk F H locs ls hP hS hl => va_iast F.1 F.2.1 F.2.2.2.2.2.1.1 hP (sw_Dd F.2.2.2.2.2.2.2.2.2 F.2.2.2.2.2.2.2.2.1) hS b 0 (sw_ws_at hb) rfl (by rw [hj]; exact vp_in_nI hlt hN) d (fun H1 locs1 hP1 _ hS1 => h p e s m args below meth c A cells slots Q hk F H1 locs1 ls (by rw [hj, nI_clamp (Nat.lt_trans hlt hN)] at hP1; rw [sw_P, ← sw_ws_set hb]; exact hP1) hS1 hl)
theorem y_bast {l : Launch} {G : GT} {R : Room} {κ : KT} {cc : ByteArray} {n : Nat} {own : String} {μ : MemT} {pc : Nat} {lv : List (Option Value)} {st : List Value} {b N : Nat} {x y : Int32} (d : decode cc pc = .ok (.bastore, 1)) (j : Nat) (hb : kdL[b]? = some (.inr (1, N))) (hj : x = nI j) (hlt : j < N) (hN : N < 2 ^ 31) (h : Yj l G R κ cc n own (mset μ b (upd (μ b) j (vp_nar .byte y))) (pc + 1) lv st) : Yj l G R κ cc n own μ pc lv (.int y :: .int x :: .ref (G.2.1 b) :: st) := fun p e s m args below meth c A cells slots Q hk F H locs ls hP hS hl => va_bast F.1 F.2.1 F.2.2.2.2.2.1.1 hP (sw_Dd F.2.2.2.2.2.2.2.2.2 F.2.2.2.2.2.2.2.2.1) hS b 1 (sw_ws_at hb) rfl (by rw [hj]; exact vp_in_nI hlt hN) d (fun H1 locs1 hP1 _ hS1 => h p e s m args below meth c A cells slots Q hk F H1 locs1 ls (by rw [hj, nI_clamp (Nat.lt_trans hlt hN)] at hP1; rw [sw_P, ← sw_ws_set hb]; exact hP1) hS1 hl)
theorem y_zast {l : Launch} {G : GT} {R : Room} {κ : KT} {cc : ByteArray} {n : Nat} {own : String} {μ : MemT} {pc : Nat} {lv : List (Option Value)} {st : List Value} {b N : Nat} {x y : Int32} (d : decode cc pc = .ok (.bastore, 1)) (j : Nat) (hb : kdL[b]? = some (.inr (2, N))) (hj : x = nI j) (hlt : j < N) (hN : N < 2 ^ 31) (h : Yj l G R κ cc n own (mset μ b (upd (μ b) j (vp_nar .boolean y))) (pc + 1) lv st) : Yj l G R κ cc n own μ pc lv (.int y :: .int x :: .ref (G.2.1 b) :: st) := fun p e s m args below meth c A cells slots Q hk F H locs ls hP hS hl => va_zast F.1 F.2.1 F.2.2.2.2.2.1.1 hP (sw_Dd F.2.2.2.2.2.2.2.2.2 F.2.2.2.2.2.2.2.2.1) hS b 2 (sw_ws_at hb) rfl (by rw [hj]; exact vp_in_nI hlt hN) d (fun H1 locs1 hP1 _ hS1 => h p e s m args below meth c A cells slots Q hk F H1 locs1 ls (by rw [hj, nI_clamp (Nat.lt_trans hlt hN)] at hP1; rw [sw_P, ← sw_ws_set hb]; exact hP1) hS1 hl)
theorem y_alen {l : Launch} {G : GT} {R : Room} {κ : KT} {cc : ByteArray} {n : Nat} {own : String} {μ : MemT} {pc : Nat} {lv : List (Option Value)} {st : List Value} {b q N : Nat} (hq : q < 3) (hb : kdL[b]? = some (.inr (q, N))) (d : decode cc pc = .ok (.arraylength, 1)) (h : Yj l G R κ cc n own μ (pc + 1) lv (.int (nI N) :: st)) : Yj l G R κ cc n own μ pc lv (.ref (G.2.1 b) :: st) := fun p e s m args below meth c A cells slots Q hk F H locs ls hP hS hl => by
  match q, hq, hb with
  | 0, _, hb => exact va_alen F.1 F.2.1 F.2.2.2.2.2.1.1 hP b 0 (sw_ws_at hb) rfl rfl d (h p e s m args below meth c A cells slots Q hk F H locs ls hP hS hl)
  | 1, _, hb => exact va_alen F.1 F.2.1 F.2.2.2.2.2.1.1 hP b 1 (sw_ws_at hb) rfl rfl d (h p e s m args below meth c A cells slots Q hk F H locs ls hP hS hl)
  | 2, _, hb => exact va_alen F.1 F.2.1 F.2.2.2.2.2.1.1 hP b 2 (sw_ws_at hb) rfl rfl d (h p e s m args below meth c A cells slots Q hk F H locs ls hP hS hl)
theorem y_aald {l : Launch} {G : GT} {R : Room} {κ : KT} {cc : ByteArray} {n : Nat} {own : String} {μ : MemT} {pc : Nat} {lv : List (Option Value)} {st : List Value} {b : Nat} {x : Int32} (d : decode cc pc = .ok (.aaload, 1)) (j : Nat) (hb : kdL[b]? = some (.inr (3, 2))) (hj : x = nI j) (hlt : j < 2) (h : Yj l G R κ cc n own μ (pc + 1) lv (.ref (G.2.1 (if j = 0 then 26 else 34)) :: st)) : Yj l G R κ cc n own μ pc lv (.int x :: .ref (G.2.1 b) :: st) := fun p e s m args below meth c A cells slots Q hk F H locs ls hP hS hl => va_aldq F.1 F.2.1 F.2.2.2.2.2.1.1 hP b 3 (sw_ws_at hb) rfl (by rw [hj]; exact vp_in_nI hlt (by decide)) d (by rw [hj, nI_clamp (Nat.lt_trans hlt (by decide))]; exact (h p e s m args below meth c A cells slots Q hk F H locs ls hP hS hl))
theorem y_copy {l : Launch} {G : GT} {R : Room} {κ : KT} {cc : ByteArray} {n : Nat} {own : String} {μ : MemT} {pc : Nat} {lv : List (Option Value)} {st : List Value} {b b2 N N2 index : Nat} {x y z : Int32} (d : decode cc pc = .ok (.invokestatic index, 3)) (i j k : Nat) (hb : kdL[b]? = some (.inr (0, N))) (hb2 : kdL[b2]? = some (.inr (0, N2))) (hx : x = nI i) (hy : y = nI j) (hz : z = nI k) (hi : i + k ≤ N) (hj : j + k ≤ N2) (hN : N < 2 ^ 31) (hN2 : N2 < 2 ^ 31) (hw : Cond.methodLink own index arraycopyName ∈ wL) (hfr : 1 ≤ R.frames) (hlo : (st.map fun v => v.category).sum + (nativeFrameWords "java/lang/System" "arraycopy" 5 + 11) ≤ R.locals) (h : Yj l G R κ cc n own (mset μ b2 (va_cpy (μ b) (μ b2) i j k)) (pc + 3) lv st) : Yj l G R κ cc n own μ pc lv (.int z :: .int y :: .ref (G.2.1 b2) :: .int x :: .ref (G.2.1 b) :: st) := fun p e s m args below meth c A cells slots Q hk F H locs ls hP hS hl => by
  have e1 := nI_clamp (n := i) (by omega)
  have e2 := nI_clamp (n := j) (by omega)
  have e3 := nI_clamp (n := k) (by omega)
  subst hx; subst hy; subst hz
  exact va_copyi F.1 F.2.1 (F.2.2.1.trans hl.1.symm) F.2.2.2.1 (F.2.2.2.2.1 _ hw) (F.2.2.2.2.1 _ wm_nat_arraycopyName) (F.2.2.2.2.1 _ wm_st_arraycopyName) (F.2.2.2.2.1 _ wm_ini_System) F.2.2.2.2.2.1.1 hP (sw_Dd F.2.2.2.2.2.2.2.2.2 F.2.2.2.2.2.2.2.2.1) hS b b2 0 0 (sw_ws_at hb) (sw_ws_at hb2) rfl rfl rfl (nI_pos (by omega)) (nI_pos (by omega)) (nI_pos (by omega)) (by rw [e1, e3]; exact hi) (by rw [e2, e3]; exact hj) (fun _ _ => rfl) hfr hlo d (fun H1 locs1 hP1 _ hS1 => h p e s m args below meth c A cells slots Q hk F H1 locs1 ls (by rw [e1, e2, e3] at hP1; rw [sw_P, ← sw_ws_set hb2]; exact hP1) hS1 hl)
theorem y_mmax {l : Launch} {G : GT} {R : Room} {κ : KT} {cc : ByteArray} {n : Nat} {own : String} {μ : MemT} {pc : Nat} {lv : List (Option Value)} {st : List Value} {x y : Int32} {index : Nat} (d : decode cc pc = .ok (.invokestatic index, 3)) (hw : Cond.methodLink own index Lib.Math.max.name ∈ wL) (hfr : 1 ≤ R.frames) (hlo : (st.map fun v => v.category).sum + 13 ≤ R.locals) (h : Yj l G R κ cc n own μ (pc + 3) lv (.int (if x < y then y else x) :: st)) : Yj l G R κ cc n own μ pc lv (.int y :: .int x :: st) := fun p e s m args below meth c A cells slots Q hk F H locs ls hP hS hl => va_mmax F.1 F.2.1 (F.2.2.1.trans hl.1.symm) F.2.2.2.1 (F.2.2.2.2.1 _ hw) (F.2.2.2.2.1 _ wm_st_max) (F.2.2.2.2.1 _ wm_ini_Math) (F.2.2.2.2.1 _ wm_cd_max) hfr hlo F.2.2.2.2.2.2.1 F.2.2.2.2.2.2.2.1 d (h p e s m args below meth c A cells slots Q hk F H locs ls hP hS hl)
theorem y_mmin {l : Launch} {G : GT} {R : Room} {κ : KT} {cc : ByteArray} {n : Nat} {own : String} {μ : MemT} {pc : Nat} {lv : List (Option Value)} {st : List Value} {x y : Int32} {index : Nat} (d : decode cc pc = .ok (.invokestatic index, 3)) (hw : Cond.methodLink own index Lib.Math.min.name ∈ wL) (hfr : 1 ≤ R.frames) (hlo : (st.map fun v => v.category).sum + 13 ≤ R.locals) (h : Yj l G R κ cc n own μ (pc + 3) lv (.int (if y < x then y else x) :: st)) : Yj l G R κ cc n own μ pc lv (.int y :: .int x :: st) := fun p e s m args below meth c A cells slots Q hk F H locs ls hP hS hl => va_mmin F.1 F.2.1 (F.2.2.1.trans hl.1.symm) F.2.2.2.1 (F.2.2.2.2.1 _ hw) (F.2.2.2.2.1 _ wm_st_min) (F.2.2.2.2.1 _ wm_ini_Math) (F.2.2.2.2.1 _ wm_cd_min) hfr hlo F.2.2.2.2.2.2.1 F.2.2.2.2.2.2.2.1 d (h p e s m args below meth c A cells slots Q hk F H locs ls hP hS hl)
theorem y_mabs {l : Launch} {G : GT} {R : Room} {κ : KT} {cc : ByteArray} {n : Nat} {own : String} {μ : MemT} {pc : Nat} {lv : List (Option Value)} {st : List Value} {x : Int32} {index : Nat} (d : decode cc pc = .ok (.invokestatic index, 3)) (hw : Cond.methodLink own index Lib.Math.abs.name ∈ wL) (hfr : 1 ≤ R.frames) (hlo : (st.map fun v => v.category).sum + 13 ≤ R.locals) (h : Yj l G R κ cc n own μ (pc + 3) lv (.int (if 0 ≤ x then x else 0 - x) :: st)) : Yj l G R κ cc n own μ pc lv (.int x :: st) := fun p e s m args below meth c A cells slots Q hk F H locs ls hP hS hl => va_mabs F.1 F.2.1 (F.2.2.1.trans hl.1.symm) F.2.2.2.1 (F.2.2.2.2.1 _ hw) (F.2.2.2.2.1 _ wm_st_abs) (F.2.2.2.2.1 _ wm_ini_Math) (F.2.2.2.2.1 _ wm_cd_abs) hfr hlo F.2.2.2.2.2.2.1 F.2.2.2.2.2.2.2.1 d (h p e s m args below meth c A cells slots Q hk F H locs ls hP hS hl)
theorem y_mabsl {l : Launch} {G : GT} {R : Room} {κ : KT} {cc : ByteArray} {n : Nat} {own : String} {μ : MemT} {pc : Nat} {lv : List (Option Value)} {st : List Value} {x : Int64} {index : Nat} (d : decode cc pc = .ok (.invokestatic index, 3)) (hw : Cond.methodLink own index Lib.MathLoose.abs_long.x ∈ wL) (hfr : 1 ≤ R.frames) (hlo : (st.map fun v => v.category).sum + 13 ≤ R.locals) (h : Yj l G R κ cc n own μ (pc + 3) lv (.long (if 0 < x then x else -x) :: st)) : Yj l G R κ cc n own μ pc lv (.long x :: st) := fun p e s m args below meth c A cells slots Q hk F H locs ls hP hS hl => va_mabs_long F.1 F.2.1 (F.2.2.1.trans hl.1.symm) F.2.2.2.1 (F.2.2.2.2.1 _ hw) (F.2.2.2.2.1 _ wm_st_abs_long) (F.2.2.2.2.1 _ wm_ini_Math) (F.2.2.2.2.1 _ wm_cd_abs_long) hfr hlo F.2.2.2.2.2.2.1 F.2.2.2.2.2.2.2.1 d (h p e s m args below meth c A cells slots Q hk F H locs ls hP hS hl)
/-! a contract: the memory before, the answer and the memory behind -/
def sw_Pc (G : GT) (av : List Value) (μ : MemT) : Array Value → State → Prop := va_Pc av (fun U => sw_P G μ U.heap ∧ sw_K G U)
def sw_Q (G : GT) (post : Option Value → MemT → Prop) : Array Value → State → Outcome → State → Prop := fun _ st oc t => (∃ (v : Option Value) (μ2 : MemT), oc = .returned v ∧ post v μ2 ∧ sw_P G μ2 t.heap ∧ sw_K G t) ∧ va_F (sw_A G) st t
def sw_Met (l : Launch) (G : GT) (y : MethodName) (bytes : ByteArray) (maxL : Nat) (ret : Option FieldType) (rm : Room) (av : List Value) (μ : MemT) (post : Option Value → MemT → Prop) : Prop :=
  sw_D G.2.1 → Met l y (.code y bytes maxL ret :: wL) rm (sw_Pc G av μ) (sw_Q G post) 0 0 (sw_A G)
def sw_κ (G : GT) (ret : Option FieldType) (post : Option Value → MemT → Prop) : KT := fun _ _ s _ args below meth _ A cells slots Q => meth.sig.returnType = ret ∧ meth.locks = false ∧ cells = 0 ∧ slots = 0 ∧ A = sw_A G ∧ Q = MQ below (sw_Q G post) args s 0 0 (sw_A G)
theorem sw_blind {G : GT} {av : List Value} {μ : MemT} : FrameBlind (sw_Pc G av μ) := fun a U g mk q => ⟨q.1, q.2.1, sw_K.same (s := U) (U := U.calling g mk a) rfl q.2.2⟩
def l_pos : List Value → List (Option Value)
  | [] => []
  | .long x :: vs => some (.long x) :: none :: l_pos vs
  | .double x :: vs => some (.double x) :: none :: l_pos vs
  | .int x :: vs => some (.int x) :: l_pos vs
  | .float x :: vs => some (.float x) :: l_pos vs
  | .ref x :: vs => some (.ref x) :: l_pos vs
  | .null :: vs => some .null :: l_pos vs
  | v :: vs => if v.category = 2 then some v :: none :: l_pos vs else some v :: l_pos vs
theorem l_pos_eq (v : Value) (vs : List Value) : l_pos (v :: vs) = if v.category = 2 then some v :: none :: l_pos vs else some v :: l_pos vs := by
  cases v <;> simp [l_pos, Value.category]
theorem l_pos_in : ∀ (av : List Value) (b i : Nat) (v : Value), (l_pos av)[i]? = some (some v) → (b + i, v) ∈ lv_args b av
  | [], b, i, v, h => by simp [l_pos] at h
  | w :: vs, b, i, v, h => by
    rw [l_pos_eq] at h
    rw [lv_args, List.mem_cons]
    by_cases hc : w.category = 2
    · rw [if_pos hc] at h ⊢
      match i, h with
      | 0, h => simp at h; exact Or.inl (by rw [h]; rfl)
      | 1, h => simp at h
      | i + 2, h =>
        have := l_pos_in vs (b + 2) i v (by simpa using h)
        exact Or.inr (by rw [show b + (i + 2) = b + 2 + i by omega]; exact this)
    · rw [if_neg hc] at h ⊢
      match i, h with
      | 0, h => simp at h; exact Or.inl (by rw [h]; rfl)
      | i + 1, h =>
        have := l_pos_in vs (b + 1) i v (by simpa using h)
        exact Or.inr (by rw [show b + (i + 1) = b + 1 + i by omega]; exact this)
def l_ent (av : List Value) (n : Nat) : List (Option Value) := l_pos av ++ List.replicate (n - (l_pos av).length) none
theorem sw_L_ent {ls : Array Slot} {n : Nat} {av : List Value} (h : lv_has ls n (lv_args 0 av)) : sw_L ls n (l_ent av n) := by
  refine ⟨h.1, h.2.1, fun i v hi => ?_⟩
  unfold l_ent at hi
  by_cases hlt : i < (l_pos av).length
  · rw [List.getElem?_append_left hlt] at hi
    have := l_pos_in av 0 i v hi
    rw [Nat.zero_add] at this
    exact h.2.2 _ this
  · rw [List.getElem?_append_right (by omega), List.getElem?_replicate] at hi
    split at hi <;> simp at hi
theorem sw_Met.ofY {l : Launch} {G : GT} {y : MethodName} {bytes : ByteArray} {maxL : Nat} {ret : Option FieldType} {rm : Room} {av : List Value} {μ : MemT} {post : Option Value → MemT → Prop} {lv0 : List (Option Value)} (hy : plainName y.cls = true) (hlen : (lg_sl av).length ≤ maxL) (hlv : l_ent av maxL = lv0) (h : Yj l G rm (sw_κ G ret post) bytes maxL y.cls μ 0 lv0 []) : sw_Met l G y bytes maxL ret rm av μ post := by
  intro hD
  subst hlv
  refine Met.ofW (cc := bytes) (maxL := maxL) (ret := ret) hy rfl ?_
  intro p e s m args below meth c s₁ B hml hv
  obtain ⟨rfl, hP, hK⟩ := hv
  have hts := atoms_spec (ws := Cond.code y bytes maxL ret :: wL) B.pre
  rw [lg_entry_eq]
  exact h p e s m av.toArray below meth c (sw_A G) 0 0 _ ⟨B.returns, B.notSynchronized, rfl, rfl, rfl, rfl⟩ ⟨B.exec, B.bytes, hml, findClass_of_methodNamed B.named, fun w hw => hts w (List.mem_cons_of_mem _ hw), hK, Nat.zero_le _, Nat.zero_le _, fun k hk => ⟨k, hk, rfl⟩, hD⟩ s.heap [] _ hP va_S.rf (sw_L_ent (lv_entry av hlen))

theorem y_iret {l : Launch} {G : GT} {R : Room} {post : Option Value → MemT → Prop} {cc : ByteArray} {n : Nat} {own : String} {μ : MemT} {pc : Nat} {lv : List (Option Value)} {v : Int32} (d : decode cc pc = .ok (.ireturn, 1)) (h : post (some (.int v)) μ) : Yj l G R (sw_κ G (some .int) post) cc n own μ pc lv [.int v] := by
  intro p e s m args below meth c A cells slots Q hk F H locs ls hP hS hl
  obtain ⟨hr, hlk, rfl, rfl, rfl, rfl⟩ := hk
  exact W.iret (hexec := F.1) (hb := F.2.1) (hr := hr) (hq := fun t ht hW => ⟨⟨_, μ, rfl, h, by rw [ht]; exact hP, F.2.2.2.2.2.1.warm hW⟩, hS.F ht⟩) (hf := hS.2.2) (hdg := d) (hlocks := hlk)
theorem y_lret {l : Launch} {G : GT} {R : Room} {post : Option Value → MemT → Prop} {cc : ByteArray} {n : Nat} {own : String} {μ : MemT} {pc : Nat} {lv : List (Option Value)} {v : Int64} (d : decode cc pc = .ok (.lreturn, 1)) (h : post (some (.long v)) μ) : Yj l G R (sw_κ G (some .long) post) cc n own μ pc lv [.long v] := by
  intro p e s m args below meth c A cells slots Q hk F H locs ls hP hS hl
  obtain ⟨hr, hlk, rfl, rfl, rfl, rfl⟩ := hk
  exact W.lret (hexec := F.1) (hb := F.2.1) (hr := hr) (hq := fun t ht hW => ⟨⟨_, μ, rfl, h, by rw [ht]; exact hP, F.2.2.2.2.2.1.warm hW⟩, hS.F ht⟩) (hf := hS.2.2) (hdg := d) (hlocks := hlk)
theorem y_vret {l : Launch} {G : GT} {R : Room} {post : Option Value → MemT → Prop} {cc : ByteArray} {n : Nat} {own : String} {μ : MemT} {pc : Nat} {lv : List (Option Value)} (d : decode cc pc = .ok (.return_, 1)) (h : post none μ) : Yj l G R (sw_κ G none post) cc n own μ pc lv [] := by
  intro p e s m args below meth c A cells slots Q hk F H locs ls hP hS hl
  obtain ⟨hr, hlk, rfl, rfl, rfl, rfl⟩ := hk
  exact W.vret (hexec := F.1) (hb := F.2.1) (hr := hr) (hq := fun t ht hW => ⟨⟨_, μ, rfl, h, by rw [ht]; exact hP, F.2.2.2.2.2.1.warm hW⟩, hS.F ht⟩) (hf := hS.2.2) (hdg := d) (hlocks := hlk)
theorem y_zret {l : Launch} {G : GT} {R : Room} {post : Option Value → MemT → Prop} {cc : ByteArray} {n : Nat} {own : String} {μ : MemT} {pc : Nat} {lv : List (Option Value)} {v : Int32} (d : decode cc pc = .ok (.ireturn, 1)) (hv : narrow .boolean (.int v) = .int v) (h : post (some (.int v)) μ) : Yj l G R (sw_κ G (some .boolean) post) cc n own μ pc lv [.int v] := by
  intro p e s m args below meth c A cells slots Q hk F H locs ls hP hS hl
  obtain ⟨hr, hlk, rfl, rfl, rfl, rfl⟩ := hk
  exact W.zret (hexec := F.1) (hb := F.2.1) (hr := hr) (hn := hv) (hq := fun t ht hW => ⟨⟨_, μ, rfl, h, by rw [ht]; exact hP, F.2.2.2.2.2.1.warm hW⟩, hS.F ht⟩) (hf := hS.2.2) (hdg := d) (hlocks := hlk)
def bI (b : Bool) : Int32 := if b then 1 else 0
theorem bI_t : bI true = 1 := rfl
theorem bI_f : bI false = 0 := rfl
theorem bI_nar (b : Bool) : narrow .boolean (.int (bI b)) = .int (bI b) := by cases b <;> rfl
theorem bI_eq0 (b : Bool) : bI b = 0 ↔ b = false := by cases b <;> decide
theorem bI_eq1 (b : Bool) : bI b = 1 ↔ b = true := by cases b <;> decide
theorem bI_ne0 (b : Bool) : ¬ bI b = 0 ↔ b = true := by cases b <;> decide

/-! calls -/
def sw_meV (y : MethodName) (bytes : ByteArray) (maxL : Nat) (ret : Option FieldType) (C : String) (n : Nat) : Prop := Cond.instanceMethod y ∈ wL ∧ Cond.selects C y y ∈ wL ∧ Cond.initialized y.cls ∈ wL ∧ Cond.code y bytes maxL ret ∈ wL ∧ y.cls = C ∧ (y.cls ≠ "java/lang/invoke/MethodHandle" ∧ y.cls ≠ "java/lang/invoke/VarHandle" ∧ (parseMethodDescriptor y.desc).map (fun d => d.parameters.length) = some n)
def sw_meS (y : MethodName) (bytes : ByteArray) (maxL : Nat) (ret : Option FieldType) (n : Nat) : Prop := Cond.static y ∈ wL ∧ Cond.initialized y.cls ∈ wL ∧ Cond.code y bytes maxL ret ∈ wL ∧ (y.cls ≠ "java/lang/invoke/MethodHandle" ∧ y.cls ≠ "java/lang/invoke/VarHandle" ∧ (parseMethodDescriptor y.desc).map (fun d => d.parameters.length) = some n)
theorem wL_callee {w : Cond} (h : w ∈ wL) : GoodIn wL (w :: wL) := fun x hx => (List.mem_cons.mp hx).elim (fun e => by rw [e]; exact wL_good _ h) (fun h2 => wL_good _ h2)
theorem sw_go {p : Program} {l : Launch} {e : Env} {R : Room} {s : State} {m : MethodId} {args : Array Value} {below : List Frame} {meth : Method} {c : Code} {H : Heap} {locs : List Loc} {cells slots : Nat} {Q : State → Prop} {pc : Nat} {ls : Array Slot} {st rest : List Value} {G : GT} {post : Option Value → MemT → Prop} {a : Array Value} {A : Nat → Prop}
    (hr : va_Run p l e R s m args below meth c H locs cells slots 0 0 (F0 m pc ls st) rest (sw_Q G post a) (sw_A G)) (hS : va_S A s.heap H locs) (hA : ∀ q, sw_A G q → A q)
    (kk : ∀ (v : Option Value) (μ2 : MemT) (H1 : Heap) (locs1 : List Loc), post v μ2 → sw_P G μ2 H1 → va_S A s.heap H1 locs1 → W p l e R s m args below meth c H1 locs1 cells slots Q (F0 m (pc + 3) ls (v.toList ++ rest))) : W p l e R s m args below meth c H locs cells slots Q (F0 m pc ls st) := by
  intro T hT X
  obtain ⟨v, st₀, t, T', L, h0, X', hL, e1, e2, ⟨⟨v2, μ2, hv, hp, hP2, hK2⟩, hz, hk⟩, st⟩ := hr T hT X
  cases hv
  rw [h0] at hz hk
  obtain ⟨t2, a1, b1⟩ := kk v μ2 T'.heap (locs ++ L) hp (by rw [e1]; exact hP2)
    ⟨Nat.le_trans hS.1 (by rw [e1]; exact hz), fun q h1 h2 => by rw [e1, hk q (Nat.lt_of_lt_of_le h1 hS.1) (fun z => h2 (hA q z))]; exact hS.2.1 q h1 h2, fun q hq => by
      rcases List.mem_append.mp hq with h | h
      · exact hS.2.2 q h
      · exact hA _ (hL q h)⟩ T' rfl X'
  exact ⟨t2, st t2 a1, b1⟩
theorem sw_Ain {G : GT} {R : Room} {cc : ByteArray} {n : Nat} {own : String} {p : Program} {s : State} {m : MethodId} {args : Array Value} {c : Code} {A : Nat → Prop} {cells slots : Nat} (F : sw_F G R cc n own p s m args c A cells slots) : ∀ q, sw_A G q → A q := by
  rintro q ⟨k, hk, rfl⟩
  exact F.2.2.2.2.2.2.2.2.1 k hk

theorem y_callV {l : Launch} {G : GT} {R : Room} {κ : KT} {cc : ByteArray} {n : Nat} {own : String} {μ : MemT} {pc : Nat} {lv : List (Option Value)} {st : List Value} {y : MethodName} {bytes : ByteArray} {maxL index np : Nat} {ret : Option FieldType} {rm : Room} {post : Option Value → MemT → Prop} {As rest : List Value} {b ci N : Nat} {C : String} {T : u_T} {ty0 : Nat → FieldType} {tm : List (Nat ⊕ Nat)} (me : sw_meV y bytes maxL ret C np) (cl : sw_cl ci C T N ty0) (hb : kdL[b]? = some (.inl (ci, tm))) (hM : sw_Met l G y bytes maxL ret rm (.ref (G.2.1 b) :: As) μ post) (hw : Cond.methodLink own index y ∈ wL) (hR : rm.frames + 1 ≤ R.frames ∧ 8 + (maxL + 11) + rm.locals ≤ R.locals) (hrm : rm.cells = 0 ∧ rm.slots = 0) (hn : As.length = np) (hroom : (rest.map fun v => v.category).sum ≤ 8) (hst : st = As.reverse ++ .ref (G.2.1 b) :: rest) (d : decode cc pc = .ok (.invokevirtual index, 3)) (h : ∀ (v : Option Value) (μ2 : MemT), post v μ2 → Yj l G R κ cc n own μ2 (pc + 3) lv (v.toList ++ rest)) : Yj l G R κ cc n own μ pc lv st := by
  subst hst
  intro p e s m args below meth c A cells slots Q hk F H locs ls hP hS hl
  exact sw_go (va_runV (C := C) (rest := rest) ⟨F.1, F.2.1, F.2.2.1, F.2.2.2.1, F.2.2.2.2.1⟩ (hM F.2.2.2.2.2.2.2.2.2) ⟨callB_of np F.2.2.2.2.1 (wL_callee me.2.2.2.1) rfl hrm.1 hrm.2 (F.2.2.2.2.1 _ me.2.2.1) (F.2.2.2.2.1 _ hw) me.2.2.2.2.2 hR, F.2.2.2.2.1 _ me.1, F.2.2.2.2.1 _ me.2.1⟩ ⟨sw_blind, va_recv F.2.2.2.2.2.1.1 hP cl.1 (sw_ws_at hb), fun U hU hW => ⟨rfl, by rw [hU]; exact hP, F.2.2.2.2.2.1.warm hW⟩⟩ rfl hn hl.1 rfl (lv_room hroom) d ⟨F.2.2.2.2.2.2.1, F.2.2.2.2.2.2.2.1⟩) hS (sw_Ain F) (fun v μ2 H1 locs1 hp hP1 hS1 => h v μ2 hp p e s m args below meth c A cells slots Q hk F H1 locs1 ls hP1 hS1 hl)
theorem y_callS {l : Launch} {G : GT} {R : Room} {κ : KT} {cc : ByteArray} {n : Nat} {own : String} {μ : MemT} {pc : Nat} {lv : List (Option Value)} {st : List Value} {y : MethodName} {bytes : ByteArray} {maxL index np : Nat} {ret : Option FieldType} {rm : Room} {post : Option Value → MemT → Prop} {As rest : List Value} (me : sw_meS y bytes maxL ret np) (hM : sw_Met l G y bytes maxL ret rm As μ post) (hw : Cond.methodLink own index y ∈ wL) (hR : rm.frames + 1 ≤ R.frames ∧ 8 + (maxL + 11) + rm.locals ≤ R.locals) (hrm : rm.cells = 0 ∧ rm.slots = 0) (hn : As.length = np) (hroom : (rest.map fun v => v.category).sum ≤ 8) (hst : st = As.reverse ++ rest) (d : decode cc pc = .ok (.invokestatic index, 3)) (h : ∀ (v : Option Value) (μ2 : MemT), post v μ2 → Yj l G R κ cc n own μ2 (pc + 3) lv (v.toList ++ rest)) : Yj l G R κ cc n own μ pc lv st := by
  subst hst
  intro p e s m args below meth c A cells slots Q hk F H locs ls hP hS hl
  exact sw_go (va_runS (rest := rest) ⟨F.1, F.2.1, F.2.2.1, F.2.2.2.1, F.2.2.2.2.1⟩ (hM F.2.2.2.2.2.2.2.2.2) ⟨callB_of np F.2.2.2.2.1 (wL_callee me.2.2.1) rfl hrm.1 hrm.2 (F.2.2.2.2.1 _ me.2.1) (F.2.2.2.2.1 _ hw) me.2.2.2 hR, F.2.2.2.2.1 _ me.1⟩ ⟨sw_blind, fun U hU hW => ⟨rfl, by rw [hU]; exact hP, F.2.2.2.2.2.1.warm hW⟩⟩ rfl hn hl.1 rfl (lv_room hroom) d ⟨F.2.2.2.2.2.2.1, F.2.2.2.2.2.2.2.1⟩) hS (sw_Ain F) (fun v μ2 H1 locs1 hp hP1 hS1 => h v μ2 hp p e s m args below meth c A cells slots Q hk F H1 locs1 ls hP1 hS1 hl)
theorem y_callSN {l : Launch} {G : GT} {R : Room} {κ : KT} {cc : ByteArray} {n : Nat} {own : String} {μ : MemT} {pc : Nat} {lv : List (Option Value)} {st : List Value} {y : MethodName} {bytes : ByteArray} {maxL index np : Nat} {ret : Option FieldType} {rm : Room} {post : Option Value → MemT → Prop} {As rest : List Value} {host : String} (me : sw_meS y bytes maxL ret np) (hM : sw_Met l G y bytes maxL ret rm As μ post) (hw : Cond.methodLinkNest own index y host ∈ wL_nest) (hR : rm.frames + 1 ≤ R.frames ∧ 8 + (maxL + 11) + rm.locals ≤ R.locals) (hrm : rm.cells = 0 ∧ rm.slots = 0) (hn : As.length = np) (hroom : (rest.map fun v => v.category).sum ≤ 8) (hst : st = As.reverse ++ rest) (d : decode cc pc = .ok (.invokestatic index, 3)) (h : ∀ (v : Option Value) (μ2 : MemT), post v μ2 → Yj l G R κ cc n own μ2 (pc + 3) lv (v.toList ++ rest)) : Yj l G R κ cc n own μ pc lv st := by
  subst hst
  intro p e s m args below meth c A cells slots Q hk F H locs ls hP hS hl
  exact sw_go (va_runSN (rest := rest) ⟨F.1, F.2.1, F.2.2.1, F.2.2.2.1, F.2.2.2.2.1⟩ (hM F.2.2.2.2.2.2.2.2.2) ⟨va_cnB np F.2.2.2.2.1 (wL_callee me.2.2.1) rfl hrm.1 hrm.2 (F.2.2.2.2.2.1.2 _ hw) (F.2.2.2.2.1 _ me.2.1) me.2.2.2 hR, F.2.2.2.2.1 _ me.1, trivial⟩ ⟨sw_blind, fun U hU hW => ⟨rfl, by rw [hU]; exact hP, F.2.2.2.2.2.1.warm hW⟩⟩ rfl hn hl.1 rfl (lv_room hroom) d ⟨F.2.2.2.2.2.2.1, F.2.2.2.2.2.2.2.1⟩) hS (sw_Ain F) (fun v μ2 H1 locs1 hp hP1 hS1 => h v μ2 hp p e s m args below meth c A cells slots Q hk F H1 locs1 ls hP1 hS1 hl)
end
section
theorem kd_0 : kdL[0]? = some (.inl (7, [.inl 18, .inl 1, .inl 2, .inl 3, .inl 5, .inl 6, .inl 11, .inl 16, .inl 17])) := rfl
theorem kd_1 : kdL[1]? = some (.inr (3, 2)) := rfl
theorem kd_2 : kdL[2]? = some (.inr (2, 2)) := rfl
theorem kd_3 : kdL[3]? = some (.inl (2, [.inl 4, .inr 0])) := rfl
theorem kd_4 : kdL[4]? = some (.inr (0, 60)) := rfl
theorem kd_5 : kdL[5]? = some (.inl (1, [.inl 42, .inr 0, .inr 0, .inr 0, .inr 0, .inr 0, .inr 0, .inr 0, .inr 0, .inr 0, .inr 0, .inr 0, .inr 0])) := rfl
theorem kd_6 : kdL[6]? = some (.inl (3, [.inl 7, .inl 8, .inl 9, .inl 10, .inr 0, .inr 0, .inr 0, .inr 0, .inr 0, .inr 0])) := rfl
theorem kd_7 : kdL[7]? = some (.inr (0, 256)) := rfl
theorem kd_8 : kdL[8]? = some (.inr (0, 256)) := rfl
theorem kd_9 : kdL[9]? = some (.inr (0, 256)) := rfl
theorem kd_10 : kdL[10]? = some (.inr (1, 3201)) := rfl
theorem kd_11 : kdL[11]? = some (.inl (5, [.inl 12, .inl 13, .inl 14, .inl 15, .inr 0, .inr 0, .inr 0])) := rfl
theorem kd_12 : kdL[12]? = some (.inr (0, 145)) := rfl
theorem kd_13 : kdL[13]? = some (.inr (0, 145)) := rfl
theorem kd_14 : kdL[14]? = some (.inr (0, 8)) := rfl
theorem kd_15 : kdL[15]? = some (.inr (0, 3)) := rfl
theorem kd_16 : kdL[16]? = some (.inl (0, [.inr 1, .inr 1])) := rfl
theorem kd_17 : kdL[17]? = some (.inl (6, [.inl 50, .inr 0, .inr 0, .inr 0])) := rfl
theorem kd_18 : kdL[18]? = some (.inl (4, twTm 18)) := rfl
theorem kd_19 : kdL[19]? = some (.inr (0, 8)) := rfl
theorem kd_20 : kdL[20]? = some (.inr (0, 8)) := rfl
theorem kd_21 : kdL[21]? = some (.inr (0, 8)) := rfl
theorem kd_22 : kdL[22]? = some (.inr (0, 8)) := rfl
theorem kd_23 : kdL[23]? = some (.inr (0, 8)) := rfl
theorem kd_24 : kdL[24]? = some (.inr (0, 8)) := rfl
theorem kd_25 : kdL[25]? = some (.inr (0, 8)) := rfl
theorem kd_26 : kdL[26]? = some (.inl (4, twTm 26)) := rfl
theorem kd_27 : kdL[27]? = some (.inr (0, 8)) := rfl
theorem kd_28 : kdL[28]? = some (.inr (0, 8)) := rfl
theorem kd_29 : kdL[29]? = some (.inr (0, 8)) := rfl
theorem kd_30 : kdL[30]? = some (.inr (0, 8)) := rfl
theorem kd_31 : kdL[31]? = some (.inr (0, 8)) := rfl
theorem kd_32 : kdL[32]? = some (.inr (0, 8)) := rfl
theorem kd_33 : kdL[33]? = some (.inr (0, 8)) := rfl
theorem kd_34 : kdL[34]? = some (.inl (4, twTm 34)) := rfl
theorem kd_35 : kdL[35]? = some (.inr (0, 8)) := rfl
theorem kd_36 : kdL[36]? = some (.inr (0, 8)) := rfl
theorem kd_37 : kdL[37]? = some (.inr (0, 8)) := rfl
theorem kd_38 : kdL[38]? = some (.inr (0, 8)) := rfl
theorem kd_39 : kdL[39]? = some (.inr (0, 8)) := rfl
theorem kd_40 : kdL[40]? = some (.inr (0, 8)) := rfl
theorem kd_41 : kdL[41]? = some (.inr (0, 8)) := rfl
theorem kd_42 : kdL[42]? = some (.inl (4, twTm 42)) := rfl
theorem kd_43 : kdL[43]? = some (.inr (0, 8)) := rfl
theorem kd_44 : kdL[44]? = some (.inr (0, 8)) := rfl
theorem kd_45 : kdL[45]? = some (.inr (0, 8)) := rfl
theorem kd_46 : kdL[46]? = some (.inr (0, 8)) := rfl
theorem kd_47 : kdL[47]? = some (.inr (0, 8)) := rfl
theorem kd_48 : kdL[48]? = some (.inr (0, 8)) := rfl
theorem kd_49 : kdL[49]? = some (.inr (0, 8)) := rfl
theorem kd_50 : kdL[50]? = some (.inl (4, twTm 50)) := rfl
theorem kd_51 : kdL[51]? = some (.inr (0, 8)) := rfl
theorem kd_52 : kdL[52]? = some (.inr (0, 8)) := rfl
theorem kd_53 : kdL[53]? = some (.inr (0, 8)) := rfl
theorem kd_54 : kdL[54]? = some (.inr (0, 8)) := rfl
theorem kd_55 : kdL[55]? = some (.inr (0, 8)) := rfl
theorem kd_56 : kdL[56]? = some (.inr (0, 8)) := rfl
theorem kd_57 : kdL[57]? = some (.inr (0, 8)) := rfl
theorem kd_58 : kdL[58]? = some (.inl (8, [.inr 0, .inr 0, .inr 0, .inr 0, .inl 59, .inl 60, .inl 61, .inl 62, .inl 63, .inl 64, .inl 65, .inr 0, .inl 66, .inr 0, .inl 67, .inl 68, .inl 69, .inl 70, .inr 0, .inr 0, .inr 0, .inr 0, .inr 0, .inl 71, .inr 0, .inr 0, .inr 0, .inr 0, .inl 72, .inl 73, .inr 0, .inr 0, .inr 0, .inl 74, .inl 75, .inl 76, .inr 0, .inl 77, .inl 78, .inr 0, .inr 0])) := rfl
theorem kd_59 : kdL[59]? = some (.inr (0, 8)) := rfl
theorem kd_60 : kdL[60]? = some (.inr (0, 8)) := rfl
theorem kd_61 : kdL[61]? = some (.inr (0, 8)) := rfl
theorem kd_62 : kdL[62]? = some (.inr (0, 8)) := rfl
theorem kd_63 : kdL[63]? = some (.inr (0, 8)) := rfl
theorem kd_64 : kdL[64]? = some (.inr (0, 8)) := rfl
theorem kd_65 : kdL[65]? = some (.inr (0, 8)) := rfl
theorem kd_66 : kdL[66]? = some (.inr (0, 60)) := rfl
theorem kd_67 : kdL[67]? = some (.inr (0, 60)) := rfl
theorem kd_68 : kdL[68]? = some (.inr (0, 60)) := rfl
theorem kd_69 : kdL[69]? = some (.inr (0, 60)) := rfl
theorem kd_70 : kdL[70]? = some (.inr (0, 60)) := rfl
theorem kd_71 : kdL[71]? = some (.inr (0, 8)) := rfl
theorem kd_72 : kdL[72]? = some (.inr (0, 8)) := rfl
theorem kd_73 : kdL[73]? = some (.inr (0, 8)) := rfl
theorem kd_74 : kdL[74]? = some (.inr (2, 3201)) := rfl
theorem kd_75 : kdL[75]? = some (.inr (0, 145)) := rfl
theorem kd_76 : kdL[76]? = some (.inr (0, 145)) := rfl
theorem kd_77 : kdL[77]? = some (.inr (0, 160)) := rfl
theorem kd_78 : kdL[78]? = some (.inr (2, 2)) := rfl
def isTw (b : Nat) : Prop := kdL[b]? = some (.inl (4, twTm b)) ∧ kdL[b + 1]? = some (.inr (0, 8)) ∧ kdL[b + 2]? = some (.inr (0, 8)) ∧ kdL[b + 3]? = some (.inr (0, 8)) ∧ kdL[b + 4]? = some (.inr (0, 8)) ∧ kdL[b + 5]? = some (.inr (0, 8)) ∧ kdL[b + 6]? = some (.inr (0, 8)) ∧ kdL[b + 7]? = some (.inr (0, 8))
theorem tw_0 {b : Nat} (h : isTw b) : kdL[b]? = some (.inl (4, twTm b)) := h.1
theorem tw_1 {b : Nat} (h : isTw b) : kdL[b + 1]? = some (.inr (0, 8)) := h.2.1
theorem tw_2 {b : Nat} (h : isTw b) : kdL[b + 2]? = some (.inr (0, 8)) := h.2.2.1
theorem tw_3 {b : Nat} (h : isTw b) : kdL[b + 3]? = some (.inr (0, 8)) := h.2.2.2.1
theorem tw_4 {b : Nat} (h : isTw b) : kdL[b + 4]? = some (.inr (0, 8)) := h.2.2.2.2.1
theorem tw_5 {b : Nat} (h : isTw b) : kdL[b + 5]? = some (.inr (0, 8)) := h.2.2.2.2.2.1
theorem tw_6 {b : Nat} (h : isTw b) : kdL[b + 6]? = some (.inr (0, 8)) := h.2.2.2.2.2.2.1
theorem tw_7 {b : Nat} (h : isTw b) : kdL[b + 7]? = some (.inr (0, 8)) := h.2.2.2.2.2.2.2
theorem tw18 : isTw 18 := ⟨rfl, rfl, rfl, rfl, rfl, rfl, rfl, rfl⟩
theorem tw26 : isTw 26 := ⟨rfl, rfl, rfl, rfl, rfl, rfl, rfl, rfl⟩
theorem tw34 : isTw 34 := ⟨rfl, rfl, rfl, rfl, rfl, rfl, rfl, rfl⟩
theorem tw42 : isTw 42 := ⟨rfl, rfl, rfl, rfl, rfl, rfl, rfl, rfl⟩
theorem tw50 : isTw 50 := ⟨rfl, rfl, rfl, rfl, rfl, rfl, rfl, rfl⟩
theorem ib_m9 : (Int8.ofInt (-9)).toInt32 = (-9) := by decide
theorem ib_m6 : (Int8.ofInt (-6)).toInt32 = (-6) := by decide
theorem ib_m5 : (Int8.ofInt (-5)).toInt32 = (-5) := by decide
theorem ib_m4 : (Int8.ofInt (-4)).toInt32 = (-4) := by decide
theorem ib_m3 : (Int8.ofInt (-3)).toInt32 = (-3) := by decide
theorem ib_m2 : (Int8.ofInt (-2)).toInt32 = (-2) := by decide
theorem ib_6 : (Int8.ofInt 6).toInt32 = 6 := by decide
theorem ibn_6 : (Int8.ofInt 6).toInt32 = nI 6 := by decide
theorem ib_7 : (Int8.ofInt 7).toInt32 = 7 := by decide
theorem ibn_7 : (Int8.ofInt 7).toInt32 = nI 7 := by decide
theorem ib_8 : (Int8.ofInt 8).toInt32 = 8 := by decide
theorem ibn_8 : (Int8.ofInt 8).toInt32 = nI 8 := by decide
theorem ib_9 : (Int8.ofInt 9).toInt32 = 9 := by decide
theorem ibn_9 : (Int8.ofInt 9).toInt32 = nI 9 := by decide
theorem ib_10 : (Int8.ofInt 10).toInt32 = 10 := by decide
theorem ibn_10 : (Int8.ofInt 10).toInt32 = nI 10 := by decide
theorem ib_16 : (Int8.ofInt 16).toInt32 = 16 := by decide
theorem ibn_16 : (Int8.ofInt 16).toInt32 = nI 16 := by decide
theorem ib_31 : (Int8.ofInt 31).toInt32 = 31 := by decide
theorem ibn_31 : (Int8.ofInt 31).toInt32 = nI 31 := by decide
theorem ib_33 : (Int8.ofInt 33).toInt32 = 33 := by decide
theorem ibn_33 : (Int8.ofInt 33).toInt32 = nI 33 := by decide
theorem ib_42 : (Int8.ofInt 42).toInt32 = 42 := by decide
theorem ibn_42 : (Int8.ofInt 42).toInt32 = nI 42 := by decide
theorem ib_46 : (Int8.ofInt 46).toInt32 = 46 := by decide
theorem ibn_46 : (Int8.ofInt 46).toInt32 = nI 46 := by decide
theorem ib_50 : (Int8.ofInt 50).toInt32 = 50 := by decide
theorem ibn_50 : (Int8.ofInt 50).toInt32 = nI 50 := by decide
theorem ib_59 : (Int8.ofInt 59).toInt32 = 59 := by decide
theorem ibn_59 : (Int8.ofInt 59).toInt32 = nI 59 := by decide
theorem ib_60 : (Int8.ofInt 60).toInt32 = 60 := by decide
theorem ibn_60 : (Int8.ofInt 60).toInt32 = nI 60 := by decide
theorem ib_63 : (Int8.ofInt 63).toInt32 = 63 := by decide
theorem ibn_63 : (Int8.ofInt 63).toInt32 = nI 63 := by decide
theorem ib_65 : (Int8.ofInt 65).toInt32 = 65 := by decide
theorem ibn_65 : (Int8.ofInt 65).toInt32 = nI 65 := by decide
theorem ib_72 : (Int8.ofInt 72).toInt32 = 72 := by decide
theorem ibn_72 : (Int8.ofInt 72).toInt32 = nI 72 := by decide
theorem ib_74 : (Int8.ofInt 74).toInt32 = 74 := by decide
theorem ibn_74 : (Int8.ofInt 74).toInt32 = nI 74 := by decide
theorem ib_75 : (Int8.ofInt 75).toInt32 = 75 := by decide
theorem ibn_75 : (Int8.ofInt 75).toInt32 = nI 75 := by decide
theorem ib_80 : (Int8.ofInt 80).toInt32 = 80 := by decide
theorem ibn_80 : (Int8.ofInt 80).toInt32 = nI 80 := by decide
theorem ib_94 : (Int8.ofInt 94).toInt32 = 94 := by decide
theorem ibn_94 : (Int8.ofInt 94).toInt32 = nI 94 := by decide
theorem ib_99 : (Int8.ofInt 99).toInt32 = 99 := by decide
theorem ibn_99 : (Int8.ofInt 99).toInt32 = nI 99 := by decide
theorem ib_100 : (Int8.ofInt 100).toInt32 = 100 := by decide
theorem ibn_100 : (Int8.ofInt 100).toInt32 = nI 100 := by decide
theorem ib_124 : (Int8.ofInt 124).toInt32 = 124 := by decide
theorem ibn_124 : (Int8.ofInt 124).toInt32 = nI 124 := by decide
theorem ib_126 : (Int8.ofInt 126).toInt32 = 126 := by decide
theorem ibn_126 : (Int8.ofInt 126).toInt32 = nI 126 := by decide
theorem ic_m1 : Int32.ofInt (-1) = (-1) := by decide
theorem ic_0 : Int32.ofInt 0 = 0 := by decide
theorem icn_0 : Int32.ofInt 0 = nI 0 := by decide
theorem ic_1 : Int32.ofInt 1 = 1 := by decide
theorem icn_1 : Int32.ofInt 1 = nI 1 := by decide
theorem ic_2 : Int32.ofInt 2 = 2 := by decide
theorem icn_2 : Int32.ofInt 2 = nI 2 := by decide
theorem ic_3 : Int32.ofInt 3 = 3 := by decide
theorem icn_3 : Int32.ofInt 3 = nI 3 := by decide
theorem ic_4 : Int32.ofInt 4 = 4 := by decide
theorem icn_4 : Int32.ofInt 4 = nI 4 := by decide
theorem ic_5 : Int32.ofInt 5 = 5 := by decide
theorem icn_5 : Int32.ofInt 5 = nI 5 := by decide
theorem is_145 : (Int16.ofInt 145).toInt32 = 145 := by decide
theorem isn_145 : (Int16.ofInt 145).toInt32 = nI 145 := by decide
theorem is_160 : (Int16.ofInt 160).toInt32 = 160 := by decide
theorem isn_160 : (Int16.ofInt 160).toInt32 = nI 160 := by decide
theorem is_200 : (Int16.ofInt 200).toInt32 = 200 := by decide
theorem isn_200 : (Int16.ofInt 200).toInt32 = nI 200 := by decide
theorem is_255 : (Int16.ofInt 255).toInt32 = 255 := by decide
theorem isn_255 : (Int16.ofInt 255).toInt32 = nI 255 := by decide
theorem is_256 : (Int16.ofInt 256).toInt32 = 256 := by decide
theorem isn_256 : (Int16.ofInt 256).toInt32 = nI 256 := by decide
theorem is_400 : (Int16.ofInt 400).toInt32 = 400 := by decide
theorem isn_400 : (Int16.ofInt 400).toInt32 = nI 400 := by decide
theorem is_999 : (Int16.ofInt 999).toInt32 = 999 := by decide
theorem isn_999 : (Int16.ofInt 999).toInt32 = nI 999 := by decide
theorem is_1000 : (Int16.ofInt 1000).toInt32 = 1000 := by decide
theorem isn_1000 : (Int16.ofInt 1000).toInt32 = nI 1000 := by decide
theorem is_3200 : (Int16.ofInt 3200).toInt32 = 3200 := by decide
theorem isn_3200 : (Int16.ofInt 3200).toInt32 = nI 3200 := by decide
theorem is_3201 : (Int16.ofInt 3201).toInt32 = 3201 := by decide
theorem isn_3201 : (Int16.ofInt 3201).toInt32 = nI 3201 := by decide
theorem is_6561 : (Int16.ofInt 6561).toInt32 = 6561 := by decide
theorem isn_6561 : (Int16.ofInt 6561).toInt32 = nI 6561 := by decide
theorem is_9999 : (Int16.ofInt 9999).toInt32 = 9999 := by decide
theorem isn_9999 : (Int16.ofInt 9999).toInt32 = nI 9999 := by decide
theorem lc_0 : Int64.ofNat ((0 : Fin 2) : Nat) = 0 := by decide
theorem lc_1 : Int64.ofNat ((1 : Fin 2) : Nat) = 1 := by decide
theorem nI_i1 (j : Nat) : nI j + Int32.ofInt 1 = nI (j + 1) := nI_1 j
theorem ii_1 (x : Int32) : x + Int32.ofInt 1 = x + 1 := rfl
abbrev rmk (f lo : Nat) : Room := { frames := f, cells := 0, slots := 0, locals := lo }
/-- a counted loop: n turns from place j on -/
def itr {α : Type} (step : Nat → α → α) : Nat → Nat → α → α
  | 0, _, a => a
  | n + 1, j, a => itr step n (j + 1) (step j a)
theorem itr_0 {α : Type} (step : Nat → α → α) (j : Nat) (a : α) : itr step 0 j a = a := rfl
theorem itr_S {α : Type} (step : Nat → α → α) (n j : Nat) (a : α) : itr step (n + 1) j a = itr step n (j + 1) (step j a) := rfl
theorem itr_cong {α : Type} {f g : Nat → α → α} : ∀ (n j : Nat) (a : α), (∀ (k : Nat) (x : α), j ≤ k → k < j + n → f k x = g k x) → itr f n j a = itr g n j a
  | 0, _, _, _ => rfl
  | n + 1, j, a, h => by
    rw [itr_S, itr_S, h j a (Nat.le_refl _) (by omega)]
    exact itr_cong n (j + 1) _ (fun k x h1 h2 => h k x (by omega) (by omega))
/-- the first place from j on, within n, that c holds of -/
def fnd (c : Nat → Bool) : Nat → Nat → Option Nat
  | 0, _ => none
  | n + 1, j => if c j then some j else fnd c n (j + 1)
theorem fnd_0 (c : Nat → Bool) (j : Nat) : fnd c 0 j = none := rfl
theorem fnd_t {c : Nat → Bool} {j : Nat} (n : Nat) (h : c j = true) : fnd c (n + 1) j = some j := by rw [fnd, if_pos h]
theorem fnd_f {c : Nat → Bool} {j : Nat} (n : Nat) (h : c j = false) : fnd c (n + 1) j = fnd c n (j + 1) := by rw [fnd, if_neg (by rw [h]; decide)]
theorem fnd_cong {c d : Nat → Bool} : ∀ (n j : Nat), (∀ k, j ≤ k → k < j + n → c k = d k) → fnd c n j = fnd d n j
  | 0, _, _ => rfl
  | n + 1, j, h => by
    rw [fnd, fnd, h j (Nat.le_refl _) (by omega), fnd_cong n (j + 1) (fun k h1 h2 => h k (by omega) (by omega))]

theorem y_ri {l : Launch} {G : GT} {R : Room} {κ : KT} {cc : ByteArray} {n : Nat} {own : String} {μ : MemT} {pc : Nat} {lv : List (Option Value)} {st : List Value} {r : Int32} (h : Yj l G R κ cc n own μ pc lv (.int r :: st)) : Yj l G R κ cc n own μ pc lv ((some (.int r)).toList ++ st) := h
theorem y_rl {l : Launch} {G : GT} {R : Room} {κ : KT} {cc : ByteArray} {n : Nat} {own : String} {μ : MemT} {pc : Nat} {lv : List (Option Value)} {st : List Value} {r : Int64} (h : Yj l G R κ cc n own μ pc lv (.long r :: st)) : Yj l G R κ cc n own μ pc lv ((some (.long r)).toList ++ st) := h
theorem y_rv {l : Launch} {G : GT} {R : Room} {κ : KT} {cc : ByteArray} {n : Nat} {own : String} {μ : MemT} {pc : Nat} {lv : List (Option Value)} {st : List Value} (h : Yj l G R κ cc n own μ pc lv st) : Yj l G R κ cc n own μ pc lv (Option.toList (none : Option Value) ++ st) := h
theorem y_ifb_eq {l : Launch} {G : GT} {R : Room} {κ : KT} {cc : ByteArray} {n : Nat} {own : String} {μ : MemT} {pc : Nat} {lv : List (Option Value)} {st : List Value} {b : Bool} {off : Int} (tgt : Nat) (d : decode cc pc = .ok (.ifCond .eq off, 3)) (ht : (pc : Int) + off = (tgt : Int)) (kt : b = false → Yj l G R κ cc n own μ tgt lv st) (kf : b = true → Yj l G R κ cc n own μ (pc + 3) lv st) : Yj l G R κ cc n own μ pc lv (.int (bI b) :: st) := y_if_eq tgt d ht (fun q => kt ((bI_eq0 b).mp q)) (fun q => kf ((bI_ne0 b).mp q))
theorem y_ifb_ne {l : Launch} {G : GT} {R : Room} {κ : KT} {cc : ByteArray} {n : Nat} {own : String} {μ : MemT} {pc : Nat} {lv : List (Option Value)} {st : List Value} {b : Bool} {off : Int} (tgt : Nat) (d : decode cc pc = .ok (.ifCond .ne off, 3)) (ht : (pc : Int) + off = (tgt : Int)) (kt : b = true → Yj l G R κ cc n own μ tgt lv st) (kf : b = false → Yj l G R κ cc n own μ (pc + 3) lv st) : Yj l G R κ cc n own μ pc lv (.int (bI b) :: st) := y_if_ne tgt d ht (fun q => kt ((bI_ne0 b).mp q)) (fun q => kf ((bI_eq0 b).mp q))
theorem y_cV0 {l : Launch} {G : GT} {R : Room} {κ : KT} {cc : ByteArray} {n : Nat} {own : String} {μ : MemT} {pc : Nat} {lv : List (Option Value)} {st : List Value} {y : MethodName} {bytes : ByteArray} {maxL index : Nat} {ret : Option FieldType} {rm : Room} {post : Option Value → MemT → Prop} {b ci N : Nat} {C : String} {T : u_T} {ty0 : Nat → FieldType} {tm : List (Nat ⊕ Nat)} (d : decode cc pc = .ok (.invokevirtual index, 3)) (me : sw_meV y bytes maxL ret C 0) (cl : sw_cl ci C T N ty0) (hb : kdL[b]? = some (.inl (ci, tm))) (hw : Cond.methodLink own index y ∈ wL) (hM : sw_Met l G y bytes maxL ret rm (.ref (G.2.1 b) :: []) μ post) (hR : rm.frames + 1 ≤ R.frames ∧ 8 + (maxL + 11) + rm.locals ≤ R.locals) (hrm : rm.cells = 0 ∧ rm.slots = 0) (hroom : (st.map fun v => v.category).sum ≤ 8) (h : ∀ (v : Option Value) (μ2 : MemT), post v μ2 → Yj l G R κ cc n own μ2 (pc + 3) lv (v.toList ++ st)) : Yj l G R κ cc n own μ pc lv (.ref (G.2.1 b) :: st) := y_callV (As := []) (rest := st) me cl hb hM hw hR hrm rfl hroom rfl d h
theorem y_cS0 {l : Launch} {G : GT} {R : Room} {κ : KT} {cc : ByteArray} {n : Nat} {own : String} {μ : MemT} {pc : Nat} {lv : List (Option Value)} {st : List Value} {y : MethodName} {bytes : ByteArray} {maxL index : Nat} {ret : Option FieldType} {rm : Room} {post : Option Value → MemT → Prop} (d : decode cc pc = .ok (.invokestatic index, 3)) (me : sw_meS y bytes maxL ret 0) (hw : Cond.methodLink own index y ∈ wL) (hM : sw_Met l G y bytes maxL ret rm [] μ post) (hR : rm.frames + 1 ≤ R.frames ∧ 8 + (maxL + 11) + rm.locals ≤ R.locals) (hrm : rm.cells = 0 ∧ rm.slots = 0) (hroom : (st.map fun v => v.category).sum ≤ 8) (h : ∀ (v : Option Value) (μ2 : MemT), post v μ2 → Yj l G R κ cc n own μ2 (pc + 3) lv (v.toList ++ st)) : Yj l G R κ cc n own μ pc lv st := y_callS (As := []) (rest := st) me hM hw hR hrm rfl hroom rfl d h
theorem y_cN0 {l : Launch} {G : GT} {R : Room} {κ : KT} {cc : ByteArray} {n : Nat} {own : String} {μ : MemT} {pc : Nat} {lv : List (Option Value)} {st : List Value} {y : MethodName} {bytes : ByteArray} {maxL index : Nat} {ret : Option FieldType} {rm : Room} {post : Option Value → MemT → Prop} {host : String} (d : decode cc pc = .ok (.invokestatic index, 3)) (me : sw_meS y bytes maxL ret 0) (hw : Cond.methodLinkNest own index y host ∈ wL_nest) (hM : sw_Met l G y bytes maxL ret rm [] μ post) (hR : rm.frames + 1 ≤ R.frames ∧ 8 + (maxL + 11) + rm.locals ≤ R.locals) (hrm : rm.cells = 0 ∧ rm.slots = 0) (hroom : (st.map fun v => v.category).sum ≤ 8) (h : ∀ (v : Option Value) (μ2 : MemT), post v μ2 → Yj l G R κ cc n own μ2 (pc + 3) lv (v.toList ++ st)) : Yj l G R κ cc n own μ pc lv st := y_callSN (As := []) (rest := st) me hM hw hR hrm rfl hroom rfl d h
theorem y_cV1 {l : Launch} {G : GT} {R : Room} {κ : KT} {cc : ByteArray} {n : Nat} {own : String} {μ : MemT} {pc : Nat} {lv : List (Option Value)} {st : List Value} {y : MethodName} {bytes : ByteArray} {maxL index : Nat} {ret : Option FieldType} {rm : Room} {post : Option Value → MemT → Prop} {a1 : Value} {b ci N : Nat} {C : String} {T : u_T} {ty0 : Nat → FieldType} {tm : List (Nat ⊕ Nat)} (d : decode cc pc = .ok (.invokevirtual index, 3)) (me : sw_meV y bytes maxL ret C 1) (cl : sw_cl ci C T N ty0) (hb : kdL[b]? = some (.inl (ci, tm))) (hw : Cond.methodLink own index y ∈ wL) (hM : sw_Met l G y bytes maxL ret rm (.ref (G.2.1 b) :: [a1]) μ post) (hR : rm.frames + 1 ≤ R.frames ∧ 8 + (maxL + 11) + rm.locals ≤ R.locals) (hrm : rm.cells = 0 ∧ rm.slots = 0) (hroom : (st.map fun v => v.category).sum ≤ 8) (h : ∀ (v : Option Value) (μ2 : MemT), post v μ2 → Yj l G R κ cc n own μ2 (pc + 3) lv (v.toList ++ st)) : Yj l G R κ cc n own μ pc lv (a1 :: .ref (G.2.1 b) :: st) := y_callV (As := [a1]) (rest := st) me cl hb hM hw hR hrm rfl hroom rfl d h
theorem y_cS1 {l : Launch} {G : GT} {R : Room} {κ : KT} {cc : ByteArray} {n : Nat} {own : String} {μ : MemT} {pc : Nat} {lv : List (Option Value)} {st : List Value} {y : MethodName} {bytes : ByteArray} {maxL index : Nat} {ret : Option FieldType} {rm : Room} {post : Option Value → MemT → Prop} {a1 : Value} (d : decode cc pc = .ok (.invokestatic index, 3)) (me : sw_meS y bytes maxL ret 1) (hw : Cond.methodLink own index y ∈ wL) (hM : sw_Met l G y bytes maxL ret rm [a1] μ post) (hR : rm.frames + 1 ≤ R.frames ∧ 8 + (maxL + 11) + rm.locals ≤ R.locals) (hrm : rm.cells = 0 ∧ rm.slots = 0) (hroom : (st.map fun v => v.category).sum ≤ 8) (h : ∀ (v : Option Value) (μ2 : MemT), post v μ2 → Yj l G R κ cc n own μ2 (pc + 3) lv (v.toList ++ st)) : Yj l G R κ cc n own μ pc lv (a1 :: st) := y_callS (As := [a1]) (rest := st) me hM hw hR hrm rfl hroom rfl d h
theorem y_cN1 {l : Launch} {G : GT} {R : Room} {κ : KT} {cc : ByteArray} {n : Nat} {own : String} {μ : MemT} {pc : Nat} {lv : List (Option Value)} {st : List Value} {y : MethodName} {bytes : ByteArray} {maxL index : Nat} {ret : Option FieldType} {rm : Room} {post : Option Value → MemT → Prop} {a1 : Value} {host : String} (d : decode cc pc = .ok (.invokestatic index, 3)) (me : sw_meS y bytes maxL ret 1) (hw : Cond.methodLinkNest own index y host ∈ wL_nest) (hM : sw_Met l G y bytes maxL ret rm [a1] μ post) (hR : rm.frames + 1 ≤ R.frames ∧ 8 + (maxL + 11) + rm.locals ≤ R.locals) (hrm : rm.cells = 0 ∧ rm.slots = 0) (hroom : (st.map fun v => v.category).sum ≤ 8) (h : ∀ (v : Option Value) (μ2 : MemT), post v μ2 → Yj l G R κ cc n own μ2 (pc + 3) lv (v.toList ++ st)) : Yj l G R κ cc n own μ pc lv (a1 :: st) := y_callSN (As := [a1]) (rest := st) me hM hw hR hrm rfl hroom rfl d h
theorem y_cV2 {l : Launch} {G : GT} {R : Room} {κ : KT} {cc : ByteArray} {n : Nat} {own : String} {μ : MemT} {pc : Nat} {lv : List (Option Value)} {st : List Value} {y : MethodName} {bytes : ByteArray} {maxL index : Nat} {ret : Option FieldType} {rm : Room} {post : Option Value → MemT → Prop} {a1 a2 : Value} {b ci N : Nat} {C : String} {T : u_T} {ty0 : Nat → FieldType} {tm : List (Nat ⊕ Nat)} (d : decode cc pc = .ok (.invokevirtual index, 3)) (me : sw_meV y bytes maxL ret C 2) (cl : sw_cl ci C T N ty0) (hb : kdL[b]? = some (.inl (ci, tm))) (hw : Cond.methodLink own index y ∈ wL) (hM : sw_Met l G y bytes maxL ret rm (.ref (G.2.1 b) :: [a1, a2]) μ post) (hR : rm.frames + 1 ≤ R.frames ∧ 8 + (maxL + 11) + rm.locals ≤ R.locals) (hrm : rm.cells = 0 ∧ rm.slots = 0) (hroom : (st.map fun v => v.category).sum ≤ 8) (h : ∀ (v : Option Value) (μ2 : MemT), post v μ2 → Yj l G R κ cc n own μ2 (pc + 3) lv (v.toList ++ st)) : Yj l G R κ cc n own μ pc lv (a2 :: a1 :: .ref (G.2.1 b) :: st) := y_callV (As := [a1, a2]) (rest := st) me cl hb hM hw hR hrm rfl hroom rfl d h
theorem y_cS2 {l : Launch} {G : GT} {R : Room} {κ : KT} {cc : ByteArray} {n : Nat} {own : String} {μ : MemT} {pc : Nat} {lv : List (Option Value)} {st : List Value} {y : MethodName} {bytes : ByteArray} {maxL index : Nat} {ret : Option FieldType} {rm : Room} {post : Option Value → MemT → Prop} {a1 a2 : Value} (d : decode cc pc = .ok (.invokestatic index, 3)) (me : sw_meS y bytes maxL ret 2) (hw : Cond.methodLink own index y ∈ wL) (hM : sw_Met l G y bytes maxL ret rm [a1, a2] μ post) (hR : rm.frames + 1 ≤ R.frames ∧ 8 + (maxL + 11) + rm.locals ≤ R.locals) (hrm : rm.cells = 0 ∧ rm.slots = 0) (hroom : (st.map fun v => v.category).sum ≤ 8) (h : ∀ (v : Option Value) (μ2 : MemT), post v μ2 → Yj l G R κ cc n own μ2 (pc + 3) lv (v.toList ++ st)) : Yj l G R κ cc n own μ pc lv (a2 :: a1 :: st) := y_callS (As := [a1, a2]) (rest := st) me hM hw hR hrm rfl hroom rfl d h
theorem y_cN2 {l : Launch} {G : GT} {R : Room} {κ : KT} {cc : ByteArray} {n : Nat} {own : String} {μ : MemT} {pc : Nat} {lv : List (Option Value)} {st : List Value} {y : MethodName} {bytes : ByteArray} {maxL index : Nat} {ret : Option FieldType} {rm : Room} {post : Option Value → MemT → Prop} {a1 a2 : Value} {host : String} (d : decode cc pc = .ok (.invokestatic index, 3)) (me : sw_meS y bytes maxL ret 2) (hw : Cond.methodLinkNest own index y host ∈ wL_nest) (hM : sw_Met l G y bytes maxL ret rm [a1, a2] μ post) (hR : rm.frames + 1 ≤ R.frames ∧ 8 + (maxL + 11) + rm.locals ≤ R.locals) (hrm : rm.cells = 0 ∧ rm.slots = 0) (hroom : (st.map fun v => v.category).sum ≤ 8) (h : ∀ (v : Option Value) (μ2 : MemT), post v μ2 → Yj l G R κ cc n own μ2 (pc + 3) lv (v.toList ++ st)) : Yj l G R κ cc n own μ pc lv (a2 :: a1 :: st) := y_callSN (As := [a1, a2]) (rest := st) me hM hw hR hrm rfl hroom rfl d h
theorem y_cV3 {l : Launch} {G : GT} {R : Room} {κ : KT} {cc : ByteArray} {n : Nat} {own : String} {μ : MemT} {pc : Nat} {lv : List (Option Value)} {st : List Value} {y : MethodName} {bytes : ByteArray} {maxL index : Nat} {ret : Option FieldType} {rm : Room} {post : Option Value → MemT → Prop} {a1 a2 a3 : Value} {b ci N : Nat} {C : String} {T : u_T} {ty0 : Nat → FieldType} {tm : List (Nat ⊕ Nat)} (d : decode cc pc = .ok (.invokevirtual index, 3)) (me : sw_meV y bytes maxL ret C 3) (cl : sw_cl ci C T N ty0) (hb : kdL[b]? = some (.inl (ci, tm))) (hw : Cond.methodLink own index y ∈ wL) (hM : sw_Met l G y bytes maxL ret rm (.ref (G.2.1 b) :: [a1, a2, a3]) μ post) (hR : rm.frames + 1 ≤ R.frames ∧ 8 + (maxL + 11) + rm.locals ≤ R.locals) (hrm : rm.cells = 0 ∧ rm.slots = 0) (hroom : (st.map fun v => v.category).sum ≤ 8) (h : ∀ (v : Option Value) (μ2 : MemT), post v μ2 → Yj l G R κ cc n own μ2 (pc + 3) lv (v.toList ++ st)) : Yj l G R κ cc n own μ pc lv (a3 :: a2 :: a1 :: .ref (G.2.1 b) :: st) := y_callV (As := [a1, a2, a3]) (rest := st) me cl hb hM hw hR hrm rfl hroom rfl d h
theorem y_cS3 {l : Launch} {G : GT} {R : Room} {κ : KT} {cc : ByteArray} {n : Nat} {own : String} {μ : MemT} {pc : Nat} {lv : List (Option Value)} {st : List Value} {y : MethodName} {bytes : ByteArray} {maxL index : Nat} {ret : Option FieldType} {rm : Room} {post : Option Value → MemT → Prop} {a1 a2 a3 : Value} (d : decode cc pc = .ok (.invokestatic index, 3)) (me : sw_meS y bytes maxL ret 3) (hw : Cond.methodLink own index y ∈ wL) (hM : sw_Met l G y bytes maxL ret rm [a1, a2, a3] μ post) (hR : rm.frames + 1 ≤ R.frames ∧ 8 + (maxL + 11) + rm.locals ≤ R.locals) (hrm : rm.cells = 0 ∧ rm.slots = 0) (hroom : (st.map fun v => v.category).sum ≤ 8) (h : ∀ (v : Option Value) (μ2 : MemT), post v μ2 → Yj l G R κ cc n own μ2 (pc + 3) lv (v.toList ++ st)) : Yj l G R κ cc n own μ pc lv (a3 :: a2 :: a1 :: st) := y_callS (As := [a1, a2, a3]) (rest := st) me hM hw hR hrm rfl hroom rfl d h
theorem y_cN3 {l : Launch} {G : GT} {R : Room} {κ : KT} {cc : ByteArray} {n : Nat} {own : String} {μ : MemT} {pc : Nat} {lv : List (Option Value)} {st : List Value} {y : MethodName} {bytes : ByteArray} {maxL index : Nat} {ret : Option FieldType} {rm : Room} {post : Option Value → MemT → Prop} {a1 a2 a3 : Value} {host : String} (d : decode cc pc = .ok (.invokestatic index, 3)) (me : sw_meS y bytes maxL ret 3) (hw : Cond.methodLinkNest own index y host ∈ wL_nest) (hM : sw_Met l G y bytes maxL ret rm [a1, a2, a3] μ post) (hR : rm.frames + 1 ≤ R.frames ∧ 8 + (maxL + 11) + rm.locals ≤ R.locals) (hrm : rm.cells = 0 ∧ rm.slots = 0) (hroom : (st.map fun v => v.category).sum ≤ 8) (h : ∀ (v : Option Value) (μ2 : MemT), post v μ2 → Yj l G R κ cc n own μ2 (pc + 3) lv (v.toList ++ st)) : Yj l G R κ cc n own μ pc lv (a3 :: a2 :: a1 :: st) := y_callSN (As := [a1, a2, a3]) (rest := st) me hM hw hR hrm rfl hroom rfl d h
theorem y_cV4 {l : Launch} {G : GT} {R : Room} {κ : KT} {cc : ByteArray} {n : Nat} {own : String} {μ : MemT} {pc : Nat} {lv : List (Option Value)} {st : List Value} {y : MethodName} {bytes : ByteArray} {maxL index : Nat} {ret : Option FieldType} {rm : Room} {post : Option Value → MemT → Prop} {a1 a2 a3 a4 : Value} {b ci N : Nat} {C : String} {T : u_T} {ty0 : Nat → FieldType} {tm : List (Nat ⊕ Nat)} (d : decode cc pc = .ok (.invokevirtual index, 3)) (me : sw_meV y bytes maxL ret C 4) (cl : sw_cl ci C T N ty0) (hb : kdL[b]? = some (.inl (ci, tm))) (hw : Cond.methodLink own index y ∈ wL) (hM : sw_Met l G y bytes maxL ret rm (.ref (G.2.1 b) :: [a1, a2, a3, a4]) μ post) (hR : rm.frames + 1 ≤ R.frames ∧ 8 + (maxL + 11) + rm.locals ≤ R.locals) (hrm : rm.cells = 0 ∧ rm.slots = 0) (hroom : (st.map fun v => v.category).sum ≤ 8) (h : ∀ (v : Option Value) (μ2 : MemT), post v μ2 → Yj l G R κ cc n own μ2 (pc + 3) lv (v.toList ++ st)) : Yj l G R κ cc n own μ pc lv (a4 :: a3 :: a2 :: a1 :: .ref (G.2.1 b) :: st) := y_callV (As := [a1, a2, a3, a4]) (rest := st) me cl hb hM hw hR hrm rfl hroom rfl d h
theorem y_cS4 {l : Launch} {G : GT} {R : Room} {κ : KT} {cc : ByteArray} {n : Nat} {own : String} {μ : MemT} {pc : Nat} {lv : List (Option Value)} {st : List Value} {y : MethodName} {bytes : ByteArray} {maxL index : Nat} {ret : Option FieldType} {rm : Room} {post : Option Value → MemT → Prop} {a1 a2 a3 a4 : Value} (d : decode cc pc = .ok (.invokestatic index, 3)) (me : sw_meS y bytes maxL ret 4) (hw : Cond.methodLink own index y ∈ wL) (hM : sw_Met l G y bytes maxL ret rm [a1, a2, a3, a4] μ post) (hR : rm.frames + 1 ≤ R.frames ∧ 8 + (maxL + 11) + rm.locals ≤ R.locals) (hrm : rm.cells = 0 ∧ rm.slots = 0) (hroom : (st.map fun v => v.category).sum ≤ 8) (h : ∀ (v : Option Value) (μ2 : MemT), post v μ2 → Yj l G R κ cc n own μ2 (pc + 3) lv (v.toList ++ st)) : Yj l G R κ cc n own μ pc lv (a4 :: a3 :: a2 :: a1 :: st) := y_callS (As := [a1, a2, a3, a4]) (rest := st) me hM hw hR hrm rfl hroom rfl d h
theorem y_cN4 {l : Launch} {G : GT} {R : Room} {κ : KT} {cc : ByteArray} {n : Nat} {own : String} {μ : MemT} {pc : Nat} {lv : List (Option Value)} {st : List Value} {y : MethodName} {bytes : ByteArray} {maxL index : Nat} {ret : Option FieldType} {rm : Room} {post : Option Value → MemT → Prop} {a1 a2 a3 a4 : Value} {host : String} (d : decode cc pc = .ok (.invokestatic index, 3)) (me : sw_meS y bytes maxL ret 4) (hw : Cond.methodLinkNest own index y host ∈ wL_nest) (hM : sw_Met l G y bytes maxL ret rm [a1, a2, a3, a4] μ post) (hR : rm.frames + 1 ≤ R.frames ∧ 8 + (maxL + 11) + rm.locals ≤ R.locals) (hrm : rm.cells = 0 ∧ rm.slots = 0) (hroom : (st.map fun v => v.category).sum ≤ 8) (h : ∀ (v : Option Value) (μ2 : MemT), post v μ2 → Yj l G R κ cc n own μ2 (pc + 3) lv (v.toList ++ st)) : Yj l G R κ cc n own μ pc lv (a4 :: a3 :: a2 :: a1 :: st) := y_callSN (As := [a1, a2, a3, a4]) (rest := st) me hM hw hR hrm rfl hroom rfl d h
theorem y_cV5 {l : Launch} {G : GT} {R : Room} {κ : KT} {cc : ByteArray} {n : Nat} {own : String} {μ : MemT} {pc : Nat} {lv : List (Option Value)} {st : List Value} {y : MethodName} {bytes : ByteArray} {maxL index : Nat} {ret : Option FieldType} {rm : Room} {post : Option Value → MemT → Prop} {a1 a2 a3 a4 a5 : Value} {b ci N : Nat} {C : String} {T : u_T} {ty0 : Nat → FieldType} {tm : List (Nat ⊕ Nat)} (d : decode cc pc = .ok (.invokevirtual index, 3)) (me : sw_meV y bytes maxL ret C 5) (cl : sw_cl ci C T N ty0) (hb : kdL[b]? = some (.inl (ci, tm))) (hw : Cond.methodLink own index y ∈ wL) (hM : sw_Met l G y bytes maxL ret rm (.ref (G.2.1 b) :: [a1, a2, a3, a4, a5]) μ post) (hR : rm.frames + 1 ≤ R.frames ∧ 8 + (maxL + 11) + rm.locals ≤ R.locals) (hrm : rm.cells = 0 ∧ rm.slots = 0) (hroom : (st.map fun v => v.category).sum ≤ 8) (h : ∀ (v : Option Value) (μ2 : MemT), post v μ2 → Yj l G R κ cc n own μ2 (pc + 3) lv (v.toList ++ st)) : Yj l G R κ cc n own μ pc lv (a5 :: a4 :: a3 :: a2 :: a1 :: .ref (G.2.1 b) :: st) := y_callV (As := [a1, a2, a3, a4, a5]) (rest := st) me cl hb hM hw hR hrm rfl hroom rfl d h
theorem y_cS5 {l : Launch} {G : GT} {R : Room} {κ : KT} {cc : ByteArray} {n : Nat} {own : String} {μ : MemT} {pc : Nat} {lv : List (Option Value)} {st : List Value} {y : MethodName} {bytes : ByteArray} {maxL index : Nat} {ret : Option FieldType} {rm : Room} {post : Option Value → MemT → Prop} {a1 a2 a3 a4 a5 : Value} (d : decode cc pc = .ok (.invokestatic index, 3)) (me : sw_meS y bytes maxL ret 5) (hw : Cond.methodLink own index y ∈ wL) (hM : sw_Met l G y bytes maxL ret rm [a1, a2, a3, a4, a5] μ post) (hR : rm.frames + 1 ≤ R.frames ∧ 8 + (maxL + 11) + rm.locals ≤ R.locals) (hrm : rm.cells = 0 ∧ rm.slots = 0) (hroom : (st.map fun v => v.category).sum ≤ 8) (h : ∀ (v : Option Value) (μ2 : MemT), post v μ2 → Yj l G R κ cc n own μ2 (pc + 3) lv (v.toList ++ st)) : Yj l G R κ cc n own μ pc lv (a5 :: a4 :: a3 :: a2 :: a1 :: st) := y_callS (As := [a1, a2, a3, a4, a5]) (rest := st) me hM hw hR hrm rfl hroom rfl d h
theorem y_cN5 {l : Launch} {G : GT} {R : Room} {κ : KT} {cc : ByteArray} {n : Nat} {own : String} {μ : MemT} {pc : Nat} {lv : List (Option Value)} {st : List Value} {y : MethodName} {bytes : ByteArray} {maxL index : Nat} {ret : Option FieldType} {rm : Room} {post : Option Value → MemT → Prop} {a1 a2 a3 a4 a5 : Value} {host : String} (d : decode cc pc = .ok (.invokestatic index, 3)) (me : sw_meS y bytes maxL ret 5) (hw : Cond.methodLinkNest own index y host ∈ wL_nest) (hM : sw_Met l G y bytes maxL ret rm [a1, a2, a3, a4, a5] μ post) (hR : rm.frames + 1 ≤ R.frames ∧ 8 + (maxL + 11) + rm.locals ≤ R.locals) (hrm : rm.cells = 0 ∧ rm.slots = 0) (hroom : (st.map fun v => v.category).sum ≤ 8) (h : ∀ (v : Option Value) (μ2 : MemT), post v μ2 → Yj l G R κ cc n own μ2 (pc + 3) lv (v.toList ++ st)) : Yj l G R κ cc n own μ pc lv (a5 :: a4 :: a3 :: a2 :: a1 :: st) := y_callSN (As := [a1, a2, a3, a4, a5]) (rest := st) me hM hw hR hrm rfl hroom rfl d h
theorem y_cV6 {l : Launch} {G : GT} {R : Room} {κ : KT} {cc : ByteArray} {n : Nat} {own : String} {μ : MemT} {pc : Nat} {lv : List (Option Value)} {st : List Value} {y : MethodName} {bytes : ByteArray} {maxL index : Nat} {ret : Option FieldType} {rm : Room} {post : Option Value → MemT → Prop} {a1 a2 a3 a4 a5 a6 : Value} {b ci N : Nat} {C : String} {T : u_T} {ty0 : Nat → FieldType} {tm : List (Nat ⊕ Nat)} (d : decode cc pc = .ok (.invokevirtual index, 3)) (me : sw_meV y bytes maxL ret C 6) (cl : sw_cl ci C T N ty0) (hb : kdL[b]? = some (.inl (ci, tm))) (hw : Cond.methodLink own index y ∈ wL) (hM : sw_Met l G y bytes maxL ret rm (.ref (G.2.1 b) :: [a1, a2, a3, a4, a5, a6]) μ post) (hR : rm.frames + 1 ≤ R.frames ∧ 8 + (maxL + 11) + rm.locals ≤ R.locals) (hrm : rm.cells = 0 ∧ rm.slots = 0) (hroom : (st.map fun v => v.category).sum ≤ 8) (h : ∀ (v : Option Value) (μ2 : MemT), post v μ2 → Yj l G R κ cc n own μ2 (pc + 3) lv (v.toList ++ st)) : Yj l G R κ cc n own μ pc lv (a6 :: a5 :: a4 :: a3 :: a2 :: a1 :: .ref (G.2.1 b) :: st) := y_callV (As := [a1, a2, a3, a4, a5, a6]) (rest := st) me cl hb hM hw hR hrm rfl hroom rfl d h
theorem y_cS6 {l : Launch} {G : GT} {R : Room} {κ : KT} {cc : ByteArray} {n : Nat} {own : String} {μ : MemT} {pc : Nat} {lv : List (Option Value)} {st : List Value} {y : MethodName} {bytes : ByteArray} {maxL index : Nat} {ret : Option FieldType} {rm : Room} {post : Option Value → MemT → Prop} {a1 a2 a3 a4 a5 a6 : Value} (d : decode cc pc = .ok (.invokestatic index, 3)) (me : sw_meS y bytes maxL ret 6) (hw : Cond.methodLink own index y ∈ wL) (hM : sw_Met l G y bytes maxL ret rm [a1, a2, a3, a4, a5, a6] μ post) (hR : rm.frames + 1 ≤ R.frames ∧ 8 + (maxL + 11) + rm.locals ≤ R.locals) (hrm : rm.cells = 0 ∧ rm.slots = 0) (hroom : (st.map fun v => v.category).sum ≤ 8) (h : ∀ (v : Option Value) (μ2 : MemT), post v μ2 → Yj l G R κ cc n own μ2 (pc + 3) lv (v.toList ++ st)) : Yj l G R κ cc n own μ pc lv (a6 :: a5 :: a4 :: a3 :: a2 :: a1 :: st) := y_callS (As := [a1, a2, a3, a4, a5, a6]) (rest := st) me hM hw hR hrm rfl hroom rfl d h
theorem y_cN6 {l : Launch} {G : GT} {R : Room} {κ : KT} {cc : ByteArray} {n : Nat} {own : String} {μ : MemT} {pc : Nat} {lv : List (Option Value)} {st : List Value} {y : MethodName} {bytes : ByteArray} {maxL index : Nat} {ret : Option FieldType} {rm : Room} {post : Option Value → MemT → Prop} {a1 a2 a3 a4 a5 a6 : Value} {host : String} (d : decode cc pc = .ok (.invokestatic index, 3)) (me : sw_meS y bytes maxL ret 6) (hw : Cond.methodLinkNest own index y host ∈ wL_nest) (hM : sw_Met l G y bytes maxL ret rm [a1, a2, a3, a4, a5, a6] μ post) (hR : rm.frames + 1 ≤ R.frames ∧ 8 + (maxL + 11) + rm.locals ≤ R.locals) (hrm : rm.cells = 0 ∧ rm.slots = 0) (hroom : (st.map fun v => v.category).sum ≤ 8) (h : ∀ (v : Option Value) (μ2 : MemT), post v μ2 → Yj l G R κ cc n own μ2 (pc + 3) lv (v.toList ++ st)) : Yj l G R κ cc n own μ pc lv (a6 :: a5 :: a4 :: a3 :: a2 :: a1 :: st) := y_callSN (As := [a1, a2, a3, a4, a5, a6]) (rest := st) me hM hw hR hrm rfl hroom rfl d h
theorem y_case {l : Launch} {G : GT} {R : Room} {κ : KT} {cc : ByteArray} {n : Nat} {own : String} {μ : MemT} {pc : Nat} {lv : List (Option Value)} {st : List Value} {x : Int32} (k : Int32) (kt : x = k → Yj l G R κ cc n own μ pc lv (.int k :: st)) (kf : ¬ x = k → Yj l G R κ cc n own μ pc lv (.int x :: st)) : Yj l G R κ cc n own μ pc lv (.int x :: st) := by
  by_cases hq : x = k
  · have := kt hq
    subst hq
    exact this
  · exact kf hq
theorem ne_toInt {x k : Int32} (h : ¬ x = k) : ¬ x.toInt = k.toInt := fun q => h (Int32.toInt_inj.mp q)
theorem sw_out3 {x : Int32} (h0 : ¬ x = 0) (h1 : ¬ x = 1) (h2 : ¬ x = 2) : x.toInt < 0 ∨ 2 < x.toInt := by
  have e0 : ¬ x.toInt = 0 := ne_toInt h0
  have e1 : ¬ x.toInt = 1 := ne_toInt h1
  have e2 : ¬ x.toInt = 2 := ne_toInt h2
  omega
theorem sw_out4 {x : Int32} (h0 : ¬ x = 0) (h1 : ¬ x = 1) (h2 : ¬ x = 2) (h3 : ¬ x = 3) : x.toInt < 0 ∨ 3 < x.toInt := by
  have e0 : ¬ x.toInt = 0 := ne_toInt h0
  have e1 : ¬ x.toInt = 1 := ne_toInt h1
  have e2 : ¬ x.toInt = 2 := ne_toInt h2
  have e3 : ¬ x.toInt = 3 := ne_toInt h3
  omega
theorem sw_out5 {x : Int32} (h0 : ¬ x = 0) (h1 : ¬ x = 1) (h2 : ¬ x = 2) (h3 : ¬ x = 3) (h4 : ¬ x = 4) : x.toInt < 0 ∨ 4 < x.toInt := by
  have e0 : ¬ x.toInt = 0 := ne_toInt h0
  have e1 : ¬ x.toInt = 1 := ne_toInt h1
  have e2 : ¬ x.toInt = 2 := ne_toInt h2
  have e3 : ¬ x.toInt = 3 := ne_toInt h3
  have e4 : ¬ x.toInt = 4 := ne_toInt h4
  omega
theorem sw_out6 {x : Int32} (h0 : ¬ x = 0) (h1 : ¬ x = 1) (h2 : ¬ x = 2) (h3 : ¬ x = 3) (h4 : ¬ x = 4) (h5 : ¬ x = 5) : x.toInt < 0 ∨ 5 < x.toInt := by
  have e0 : ¬ x.toInt = 0 := ne_toInt h0
  have e1 : ¬ x.toInt = 1 := ne_toInt h1
  have e2 : ¬ x.toInt = 2 := ne_toInt h2
  have e3 : ¬ x.toInt = 3 := ne_toInt h3
  have e4 : ¬ x.toInt = 4 := ne_toInt h4
  have e5 : ¬ x.toInt = 5 := ne_toInt h5
  omega
theorem sw_out30 {x : Int32} (h0 : ¬ x = 0) (h1 : ¬ x = 1) (h2 : ¬ x = 2) (h3 : ¬ x = 3) (h4 : ¬ x = 4) (h5 : ¬ x = 5) (h6 : ¬ x = 6) (h7 : ¬ x = 7) (h8 : ¬ x = 8) (h9 : ¬ x = 9) (h10 : ¬ x = 10) (h11 : ¬ x = 11) (h12 : ¬ x = 12) (h13 : ¬ x = 13) (h14 : ¬ x = 14) (h15 : ¬ x = 15) (h16 : ¬ x = 16) (h17 : ¬ x = 17) (h18 : ¬ x = 18) (h19 : ¬ x = 19) (h20 : ¬ x = 20) (h21 : ¬ x = 21) (h22 : ¬ x = 22) (h23 : ¬ x = 23) (h24 : ¬ x = 24) (h25 : ¬ x = 25) (h26 : ¬ x = 26) (h27 : ¬ x = 27) (h28 : ¬ x = 28) (h29 : ¬ x = 29) : x.toInt < 0 ∨ 29 < x.toInt := by
  have e0 : ¬ x.toInt = 0 := ne_toInt h0
  have e1 : ¬ x.toInt = 1 := ne_toInt h1
  have e2 : ¬ x.toInt = 2 := ne_toInt h2
  have e3 : ¬ x.toInt = 3 := ne_toInt h3
  have e4 : ¬ x.toInt = 4 := ne_toInt h4
  have e5 : ¬ x.toInt = 5 := ne_toInt h5
  have e6 : ¬ x.toInt = 6 := ne_toInt h6
  have e7 : ¬ x.toInt = 7 := ne_toInt h7
  have e8 : ¬ x.toInt = 8 := ne_toInt h8
  have e9 : ¬ x.toInt = 9 := ne_toInt h9
  have e10 : ¬ x.toInt = 10 := ne_toInt h10
  have e11 : ¬ x.toInt = 11 := ne_toInt h11
  have e12 : ¬ x.toInt = 12 := ne_toInt h12
  have e13 : ¬ x.toInt = 13 := ne_toInt h13
  have e14 : ¬ x.toInt = 14 := ne_toInt h14
  have e15 : ¬ x.toInt = 15 := ne_toInt h15
  have e16 : ¬ x.toInt = 16 := ne_toInt h16
  have e17 : ¬ x.toInt = 17 := ne_toInt h17
  have e18 : ¬ x.toInt = 18 := ne_toInt h18
  have e19 : ¬ x.toInt = 19 := ne_toInt h19
  have e20 : ¬ x.toInt = 20 := ne_toInt h20
  have e21 : ¬ x.toInt = 21 := ne_toInt h21
  have e22 : ¬ x.toInt = 22 := ne_toInt h22
  have e23 : ¬ x.toInt = 23 := ne_toInt h23
  have e24 : ¬ x.toInt = 24 := ne_toInt h24
  have e25 : ¬ x.toInt = 25 := ne_toInt h25
  have e26 : ¬ x.toInt = 26 := ne_toInt h26
  have e27 : ¬ x.toInt = 27 := ne_toInt h27
  have e28 : ¬ x.toInt = 28 := ne_toInt h28
  have e29 : ¬ x.toInt = 29 := ne_toInt h29
  omega
theorem meJ7_fill_53178 : sw_meS yJ7_fill_53178 cJ7_fill_53178 4 none 2 := ⟨wm_st_J7_fill_53178, wm_ini_J7, wm_cd_J7_fill_53178, by decide +kernel⟩
theorem meX7_person : sw_meV yX7_person cX7_person 5 (some .int) RX7 4 := ⟨wm_im_X7_person, wm_se_X7_person, wm_ini_X7, wm_cd_X7_person, rfl, by decide +kernel⟩
theorem meX7_within : sw_meS yX7_within cX7_within 3 (some .boolean) 3 := ⟨wm_st_X7_within, wm_ini_X7, wm_cd_X7_within, by decide +kernel⟩
theorem meX4_settle : sw_meV yX4_settle cX4_settle 5 none RX4 4 := ⟨wm_im_X4_settle, wm_se_X4_settle, wm_ini_X4, wm_cd_X4_settle, rfl, by decide +kernel⟩
theorem meX4_headcount : sw_meV yX4_headcount cX4_headcount 1 (some .int) RX4 0 := ⟨wm_im_X4_headcount, wm_se_X4_headcount, wm_ini_X4, wm_cd_X4_headcount, rfl, by decide +kernel⟩
theorem meJ6_bitCount_0f7a4 : sw_meS yJ6_bitCount_0f7a4 cJ6_bitCount_0f7a4 1 (some .int) 1 := ⟨wm_st_J6_bitCount_0f7a4, wm_ini_J6, wm_cd_J6_bitCount_0f7a4, by decide +kernel⟩
theorem meX8_person : sw_meV yX8_person cX8_person 5 (some .int) RX8 4 := ⟨wm_im_X8_person, wm_se_X8_person, wm_ini_X8, wm_cd_X8_person, rfl, by decide +kernel⟩
theorem meX8_in : sw_meS yX8_in cX8_in 6 (some .boolean) 3 := ⟨wm_st_X8_in, wm_ini_X8, wm_cd_X8_in, by decide +kernel⟩
theorem meX8_ones : sw_meS yX8_ones cX8_ones 3 (some .int) 1 := ⟨wm_st_X8_ones, wm_ini_X8, wm_cd_X8_ones, by decide +kernel⟩
theorem meX7_leave : sw_meV yX7_leave cX7_leave 2 (some .int) RX7 1 := ⟨wm_im_X7_leave, wm_se_X7_leave, wm_ini_X7, wm_cd_X7_leave, rfl, by decide +kernel⟩
theorem meX4_has : sw_meV yX4_has cX4_has 2 (some .boolean) RX4 1 := ⟨wm_im_X4_has, wm_se_X4_has, wm_ini_X4, wm_cd_X4_has, rfl, by decide +kernel⟩
theorem meX4_remove : sw_meV yX4_remove cX4_remove 2 none RX4 1 := ⟨wm_im_X4_remove, wm_se_X4_remove, wm_ini_X4, wm_cd_X4_remove, rfl, by decide +kernel⟩
theorem meX4_part : sw_meV yX4_part cX4_part 3 none RX4 1 := ⟨wm_im_X4_part, wm_se_X4_part, wm_ini_X4, wm_cd_X4_part, rfl, by decide +kernel⟩
theorem meX8_leave : sw_meV yX8_leave cX8_leave 2 (some .int) RX8 1 := ⟨wm_im_X8_leave, wm_se_X8_leave, wm_ini_X8, wm_cd_X8_leave, rfl, by decide +kernel⟩
theorem meX8_isPerson : sw_meV yX8_isPerson cX8_isPerson 2 (some .boolean) RX8 1 := ⟨wm_im_X8_isPerson, wm_se_X8_isPerson, wm_ini_X8, wm_cd_X8_isPerson, rfl, by decide +kernel⟩
theorem meX8_part : sw_meV yX8_part cX8_part 2 none RX8 1 := ⟨wm_im_X8_part, wm_se_X8_part, wm_ini_X8, wm_cd_X8_part, rfl, by decide +kernel⟩
theorem meX7_marry : sw_meV yX7_marry cX7_marry 4 (some .int) RX7 3 := ⟨wm_im_X7_marry, wm_se_X7_marry, wm_ini_X7, wm_cd_X7_marry, rfl, by decide +kernel⟩
theorem meX4_hasTwo : sw_meV yX4_hasTwo cX4_hasTwo 3 (some .boolean) RX4 2 := ⟨wm_im_X4_hasTwo, wm_se_X4_hasTwo, wm_ini_X4, wm_cd_X4_hasTwo, rfl, by decide +kernel⟩
theorem meX4_mayMarry : sw_meV yX4_mayMarry cX4_mayMarry 3 (some .boolean) RX4 2 := ⟨wm_im_X4_mayMarry, wm_se_X4_mayMarry, wm_ini_X4, wm_cd_X4_mayMarry, rfl, by decide +kernel⟩
theorem meX4_areMarried : sw_meV yX4_areMarried cX4_areMarried 3 (some .boolean) RX4 2 := ⟨wm_im_X4_areMarried, wm_se_X4_areMarried, wm_ini_X4, wm_cd_X4_areMarried, rfl, by decide +kernel⟩
theorem meX4_join : sw_meV yX4_join cX4_join 3 none RX4 2 := ⟨wm_im_X4_join, wm_se_X4_join, wm_ini_X4, wm_cd_X4_join, rfl, by decide +kernel⟩
theorem meX4_marriages : sw_meV yX4_marriages cX4_marriages 3 (some .int) RX4 0 := ⟨wm_im_X4_marriages, wm_se_X4_marriages, wm_ini_X4, wm_cd_X4_marriages, rfl, by decide +kernel⟩
theorem meX8_marry : sw_meV yX8_marry cX8_marry 6 (some .int) RX8 3 := ⟨wm_im_X8_marry, wm_se_X8_marry, wm_ini_X8, wm_cd_X8_marry, rfl, by decide +kernel⟩
theorem meX8_areTwo : sw_meV yX8_areTwo cX8_areTwo 3 (some .boolean) RX8 2 := ⟨wm_im_X8_areTwo, wm_se_X8_areTwo, wm_ini_X8, wm_cd_X8_areTwo, rfl, by decide +kernel⟩
theorem meX8_marriages : sw_meV yX8_marriages cX8_marriages 3 (some .int) RX8 0 := ⟨wm_im_X8_marriages, wm_se_X8_marriages, wm_ini_X8, wm_cd_X8_marriages, rfl, by decide +kernel⟩
theorem meX7_limit : sw_meV yX7_limit cX7_limit 3 (some .int) RX7 1 := ⟨wm_im_X7_limit, wm_se_X7_limit, wm_ini_X7, wm_cd_X7_limit, rfl, by decide +kernel⟩
theorem meX8_limit : sw_meV yX8_limit cX8_limit 3 (some .int) RX8 1 := ⟨wm_im_X8_limit, wm_se_X8_limit, wm_ini_X8, wm_cd_X8_limit, rfl, by decide +kernel⟩
theorem meX7_say : sw_meV yX7_say cX7_say 2 (some .int) RX7 1 := ⟨wm_im_X7_say, wm_se_X7_say, wm_ini_X7, wm_cd_X7_say, rfl, by decide +kernel⟩
theorem meX2_add : sw_meV yX2_add cX2_add 2 (some .boolean) RX2 1 := ⟨wm_im_X2_add, wm_se_X2_add, wm_ini_X2, wm_cd_X2_add, rfl, by decide +kernel⟩
theorem meX8_say : sw_meV yX8_say cX8_say 2 (some .int) RX8 1 := ⟨wm_im_X8_say, wm_se_X8_say, wm_ini_X8, wm_cd_X8_say, rfl, by decide +kernel⟩
theorem meX7_wipe : sw_meV yX7_wipe cX7_wipe 2 (some .int) RX7 0 := ⟨wm_im_X7_wipe, wm_se_X7_wipe, wm_ini_X7, wm_cd_X7_wipe, rfl, by decide +kernel⟩
theorem meX8_wipe : sw_meV yX8_wipe cX8_wipe 2 (some .int) RX8 0 := ⟨wm_im_X8_wipe, wm_se_X8_wipe, wm_ini_X8, wm_cd_X8_wipe, rfl, by decide +kernel⟩
theorem meX7_fault : sw_meV yX7_fault cX7_fault 1 (some .int) RX7 0 := ⟨wm_im_X7_fault, wm_se_X7_fault, wm_ini_X7, wm_cd_X7_fault, rfl, by decide +kernel⟩
theorem meX2_firstFault : sw_meV yX2_firstFault cX2_firstFault 3 (some .int) RX2 0 := ⟨wm_im_X2_firstFault, wm_se_X2_firstFault, wm_ini_X2, wm_cd_X2_firstFault, rfl, by decide +kernel⟩
theorem meX2_after : sw_meS yX2_after cX2_after 2 (some .int) 2 := ⟨wm_st_X2_after, wm_ini_X2, wm_cd_X2_after, by decide +kernel⟩
theorem meX2_afterNothing : sw_meS yX2_afterNothing cX2_afterNothing 1 (some .int) 1 := ⟨wm_st_X2_afterNothing, wm_ini_X2, wm_cd_X2_afterNothing, by decide +kernel⟩
theorem meX2_isLetter : sw_meS yX2_isLetter cX2_isLetter 1 (some .boolean) 1 := ⟨wm_st_X2_isLetter, wm_ini_X2, wm_cd_X2_isLetter, by decide +kernel⟩
theorem meX8_fault : sw_meV yX8_fault cX8_fault 4 (some .int) RX8 0 := ⟨wm_im_X8_fault, wm_se_X8_fault, wm_ini_X8, wm_cd_X8_fault, rfl, by decide +kernel⟩
theorem meX8_beginAct : sw_meV yX8_beginAct cX8_beginAct 2 (some .int) RX8 1 := ⟨wm_im_X8_beginAct, wm_se_X8_beginAct, wm_ini_X8, wm_cd_X8_beginAct, rfl, by decide +kernel⟩
theorem meX8_readNear : sw_meV yX8_readNear cX8_readNear 2 (some .int) RX8 1 := ⟨wm_im_X8_readNear, wm_se_X8_readNear, wm_ini_X8, wm_cd_X8_readNear, rfl, by decide +kernel⟩
theorem meX8_isLetter : sw_meS yX8_isLetter cX8_isLetter 1 (some .boolean) 1 := ⟨wm_st_X8_isLetter, wm_ini_X8, wm_cd_X8_isLetter, by decide +kernel⟩
theorem meX8_sit : sw_meV yX8_sit cX8_sit 3 none RX8 1 := ⟨wm_im_X8_sit, wm_se_X8_sit, wm_ini_X8, wm_cd_X8_sit, rfl, by decide +kernel⟩
theorem meX8_readCold : sw_meV yX8_readCold cX8_readCold 2 (some .int) RX8 1 := ⟨wm_im_X8_readCold, wm_se_X8_readCold, wm_ini_X8, wm_cd_X8_readCold, rfl, by decide +kernel⟩
theorem meX8_readAcross : sw_meV yX8_readAcross cX8_readAcross 3 (some .int) RX8 2 := ⟨wm_im_X8_readAcross, wm_se_X8_readAcross, wm_ini_X8, wm_cd_X8_readAcross, rfl, by decide +kernel⟩
theorem meX7_judge : sw_meV yX7_judge cX7_judge 3 (some .int) RX7 1 := ⟨wm_im_X7_judge, wm_se_X7_judge, wm_ini_X7, wm_cd_X7_judge, rfl, by decide +kernel⟩
theorem meX7_holdMarket : sw_meV yX7_holdMarket cX7_holdMarket 1 (some .int) RX7 0 := ⟨wm_im_X7_holdMarket, wm_se_X7_holdMarket, wm_ini_X7, wm_cd_X7_holdMarket, rfl, by decide +kernel⟩
theorem meX1_hold : sw_meV yX1_hold cX1_hold 4 none RX1 2 := ⟨wm_im_X1_hold, wm_se_X1_hold, wm_ini_X1, wm_cd_X1_hold, rfl, by decide +kernel⟩
theorem meX4_copyFrom : sw_meV yX4_copyFrom cX4_copyFrom 2 none RX4 1 := ⟨wm_im_X4_copyFrom, wm_se_X4_copyFrom, wm_ini_X4, wm_cd_X4_copyFrom, rfl, by decide +kernel⟩
theorem meX1_beginAct : sw_meV yX1_beginAct cX1_beginAct 1 none RX1 0 := ⟨wm_im_X1_beginAct, wm_se_X1_beginAct, wm_ini_X1, wm_cd_X1_beginAct, rfl, by decide +kernel⟩
theorem meX1_read : sw_meV yX1_read cX1_read 2 none RX1 1 := ⟨wm_im_X1_read, wm_se_X1_read, wm_ini_X1, wm_cd_X1_read, rfl, by decide +kernel⟩
theorem meX1_readPerson : sw_meV yX1_readPerson cX1_readPerson 2 none RX1 1 := ⟨wm_im_X1_readPerson, wm_se_X1_readPerson, wm_ini_X1, wm_cd_X1_readPerson, rfl, by decide +kernel⟩
theorem meX1_sit : sw_meV yX1_sit cX1_sit 2 none RX1 1 := ⟨wm_im_X1_sit, wm_se_X1_sit, wm_ini_X1, wm_cd_X1_sit, rfl, by decide +kernel⟩
theorem meX7_holds : sw_meS yX7_holds cX7_holds 2 (some .boolean) 2 := ⟨wm_st_X7_holds, wm_ini_X7, wm_cd_X7_holds, by decide +kernel⟩
theorem meX4_turnCold : sw_meV yX4_turnCold cX4_turnCold 2 none RX4 1 := ⟨wm_im_X4_turnCold, wm_se_X4_turnCold, wm_ini_X4, wm_cd_X4_turnCold, rfl, by decide +kernel⟩
theorem meX1_endAct : sw_meV yX1_endAct cX1_endAct 1 none RX1 0 := ⟨wm_im_X1_endAct, wm_se_X1_endAct, wm_ini_X1, wm_cd_X1_endAct, rfl, by decide +kernel⟩
theorem meX1_breakOff : sw_meV yX1_breakOff cX1_breakOff 2 none RX1 1 := ⟨wm_im_X1_breakOff, wm_se_X1_breakOff, wm_ini_X1, wm_cd_X1_breakOff, rfl, by decide +kernel⟩
theorem meX4_passDay : sw_meV yX4_passDay cX4_passDay 2 none RX4 0 := ⟨wm_im_X4_passDay, wm_se_X4_passDay, wm_ini_X4, wm_cd_X4_passDay, rfl, by decide +kernel⟩
theorem meX4_drifted : sw_meV yX4_drifted cX4_drifted 3 (some .int) RX4 2 := ⟨wm_im_X4_drifted, wm_se_X4_drifted, wm_ini_X4, wm_cd_X4_drifted, rfl, by decide +kernel⟩
theorem meX4_feast : sw_meV yX4_feast cX4_feast 2 none RX4 0 := ⟨wm_im_X4_feast, wm_se_X4_feast, wm_ini_X4, wm_cd_X4_feast, rfl, by decide +kernel⟩
theorem meX1_sell : sw_meV yX1_sell cX1_sell 4 none RX1 0 := ⟨wm_im_X1_sell, wm_se_X1_sell, wm_ini_X1, wm_cd_X1_sell, rfl, by decide +kernel⟩
theorem meX4_sumOver : sw_meV yX4_sumOver cX4_sumOver 5 (some .int) RX4 2 := ⟨wm_im_X4_sumOver, wm_se_X4_sumOver, wm_ini_X4, wm_cd_X4_sumOver, rfl, by decide +kernel⟩
theorem meX1_reasonAgainst : sw_meV yX1_reasonAgainst cX1_reasonAgainst 2 (some .int) RX1 1 := ⟨wm_im_X1_reasonAgainst, wm_se_X1_reasonAgainst, wm_ini_X1, wm_cd_X1_reasonAgainst, rfl, by decide +kernel⟩
theorem meX4_hasAll : sw_meV yX4_hasAll cX4_hasAll 2 (some .boolean) RX4 1 := ⟨wm_im_X4_hasAll, wm_se_X4_hasAll, wm_ini_X4, wm_cd_X4_hasAll, rfl, by decide +kernel⟩
theorem meX4_together : sw_meV yX4_together cX4_together 3 (some .boolean) RX4 1 := ⟨wm_im_X4_together, wm_se_X4_together, wm_ini_X4, wm_cd_X4_together, rfl, by decide +kernel⟩
theorem meX4_poundsOfAll : sw_meV yX4_poundsOfAll cX4_poundsOfAll 4 (some .int) RX4 1 := ⟨wm_im_X4_poundsOfAll, wm_se_X4_poundsOfAll, wm_ini_X4, wm_cd_X4_poundsOfAll, rfl, by decide +kernel⟩
theorem meX4_withCold : sw_meV yX4_withCold cX4_withCold 3 (some .int) RX4 2 := ⟨wm_im_X4_withCold, wm_se_X4_withCold, wm_ini_X4, wm_cd_X4_withCold, rfl, by decide +kernel⟩
theorem meX1_answer : sw_meV yX1_answer cX1_answer 2 (some .int) RX1 1 := ⟨wm_im_X1_answer, wm_se_X1_answer, wm_ini_X1, wm_cd_X1_answer, rfl, by decide +kernel⟩
theorem meX8_judge : sw_meV yX8_judge cX8_judge 3 (some .int) RX8 1 := ⟨wm_im_X8_judge, wm_se_X8_judge, wm_ini_X8, wm_cd_X8_judge, rfl, by decide +kernel⟩
theorem meX8_refusal : sw_meV yX8_refusal cX8_refusal 2 (some .int) RX8 0 := ⟨wm_im_X8_refusal, wm_se_X8_refusal, wm_ini_X8, wm_cd_X8_refusal, rfl, by decide +kernel⟩
theorem meX8_keepNow : sw_meV yX8_keepNow cX8_keepNow 2 none RX8 0 := ⟨wm_im_X8_keepNow, wm_se_X8_keepNow, wm_ini_X8, wm_cd_X8_keepNow, rfl, by decide +kernel⟩
theorem meX8_goMarket : sw_meV yX8_goMarket cX8_goMarket 3 none RX8 0 := ⟨wm_im_X8_goMarket, wm_se_X8_goMarket, wm_ini_X8, wm_cd_X8_goMarket, rfl, by decide +kernel⟩
theorem meX8_whyNot : sw_meV yX8_whyNot cX8_whyNot 2 (some .int) RX8 1 := ⟨wm_im_X8_whyNot, wm_se_X8_whyNot, wm_ini_X8, wm_cd_X8_whyNot, rfl, by decide +kernel⟩
theorem meX8_areTogether : sw_meV yX8_areTogether cX8_areTogether 4 (some .boolean) RX8 1 := ⟨wm_im_X8_areTogether, wm_se_X8_areTogether, wm_ini_X8, wm_cd_X8_areTogether, rfl, by decide +kernel⟩
theorem meX8_swornOf : sw_meV yX8_swornOf cX8_swornOf 4 (some .int) RX8 1 := ⟨wm_im_X8_swornOf, wm_se_X8_swornOf, wm_ini_X8, wm_cd_X8_swornOf, rfl, by decide +kernel⟩
theorem meX8_happen : sw_meV yX8_happen cX8_happen 2 none RX8 1 := ⟨wm_im_X8_happen, wm_se_X8_happen, wm_ini_X8, wm_cd_X8_happen, rfl, by decide +kernel⟩
theorem meX8_sell : sw_meV yX8_sell cX8_sell 4 none RX8 1 := ⟨wm_im_X8_sell, wm_se_X8_sell, wm_ini_X8, wm_cd_X8_sell, rfl, by decide +kernel⟩
theorem meX8_poundsOf : sw_meV yX8_poundsOf cX8_poundsOf 4 (some .int) RX8 1 := ⟨wm_im_X8_poundsOf, wm_se_X8_poundsOf, wm_ini_X8, wm_cd_X8_poundsOf, rfl, by decide +kernel⟩
theorem meX8_pounds : sw_meV yX8_pounds cX8_pounds 2 (some .int) RX8 1 := ⟨wm_im_X8_pounds, wm_se_X8_pounds, wm_ini_X8, wm_cd_X8_pounds, rfl, by decide +kernel⟩
theorem meX8_size : sw_meS yX8_size cX8_size 1 (some .int) 1 := ⟨wm_st_X8_size, wm_ini_X8, wm_cd_X8_size, by decide +kernel⟩
theorem meX8_passDay : sw_meV yX8_passDay cX8_passDay 2 none RX8 0 := ⟨wm_im_X8_passDay, wm_se_X8_passDay, wm_ini_X8, wm_cd_X8_passDay, rfl, by decide +kernel⟩
theorem meX8_bounded : sw_meS yX8_bounded cX8_bounded 1 (some .int) 1 := ⟨wm_st_X8_bounded, wm_ini_X8, wm_cd_X8_bounded, by decide +kernel⟩
theorem meX8_feast : sw_meV yX8_feast cX8_feast 2 none RX8 0 := ⟨wm_im_X8_feast, wm_se_X8_feast, wm_ini_X8, wm_cd_X8_feast, rfl, by decide +kernel⟩
theorem meX8_putBack : sw_meV yX8_putBack cX8_putBack 2 none RX8 0 := ⟨wm_im_X8_putBack, wm_se_X8_putBack, wm_ini_X8, wm_cd_X8_putBack, rfl, by decide +kernel⟩
theorem meX7_behind : sw_meV yX7_behind cX7_behind 5 (some .int) RX7 2 := ⟨wm_im_X7_behind, wm_se_X7_behind, wm_ini_X7, wm_cd_X7_behind, rfl, by decide +kernel⟩
theorem meX4_poundsOf : sw_meV yX4_poundsOf cX4_poundsOf 2 (some .int) RX4 1 := ⟨wm_im_X4_poundsOf, wm_se_X4_poundsOf, wm_ini_X4, wm_cd_X4_poundsOf, rfl, by decide +kernel⟩
theorem meX8_behind : sw_meV yX8_behind cX8_behind 4 (some .int) RX8 2 := ⟨wm_im_X8_behind, wm_se_X8_behind, wm_ini_X8, wm_cd_X8_behind, rfl, by decide +kernel⟩
theorem meX7_done : sw_meV yX7_done cX7_done 2 (some .int) RX7 0 := ⟨wm_im_X7_done, wm_se_X7_done, wm_ini_X7, wm_cd_X7_done, rfl, by decide +kernel⟩
theorem meX8_done : sw_meV yX8_done cX8_done 2 (some .int) RX8 0 := ⟨wm_im_X8_done, wm_se_X8_done, wm_ini_X8, wm_cd_X8_done, rfl, by decide +kernel⟩
theorem meX7_weighs : sw_meV yX7_weighs cX7_weighs 2 (some .int) RX7 1 := ⟨wm_im_X7_weighs, wm_se_X7_weighs, wm_ini_X7, wm_cd_X7_weighs, rfl, by decide +kernel⟩
theorem meX8_weighs : sw_meV yX8_weighs cX8_weighs 2 (some .int) RX8 1 := ⟨wm_im_X8_weighs, wm_se_X8_weighs, wm_ini_X8, wm_cd_X8_weighs, rfl, by decide +kernel⟩
theorem meX7_off : sw_meV yX7_off cX7_off 2 (some .int) RX7 1 := ⟨wm_im_X7_off, wm_se_X7_off, wm_ini_X7, wm_cd_X7_off, rfl, by decide +kernel⟩
theorem meX8_off : sw_meV yX8_off cX8_off 2 (some .int) RX8 1 := ⟨wm_im_X8_off, wm_se_X8_off, wm_ini_X8, wm_cd_X8_off, rfl, by decide +kernel⟩
theorem meX7_out : sw_meV yX7_out cX7_out 2 (some .int) RX7 1 := ⟨wm_im_X7_out, wm_se_X7_out, wm_ini_X7, wm_cd_X7_out, rfl, by decide +kernel⟩
theorem meX4_firstDayOff : sw_meV yX4_firstDayOff cX4_firstDayOff 4 (some .int) RX4 1 := ⟨wm_im_X4_firstDayOff, wm_se_X4_firstDayOff, wm_ini_X4, wm_cd_X4_firstDayOff, rfl, by decide +kernel⟩
theorem meX8_out : sw_meV yX8_out cX8_out 4 (some .int) RX8 1 := ⟨wm_im_X8_out, wm_se_X8_out, wm_ini_X8, wm_cd_X8_out, rfl, by decide +kernel⟩
theorem meX7_even : sw_meV yX7_even cX7_even 3 (some .int) RX7 2 := ⟨wm_im_X7_even, wm_se_X7_even, wm_ini_X7, wm_cd_X7_even, rfl, by decide +kernel⟩
theorem meX4_firstDayAlike : sw_meV yX4_firstDayAlike cX4_firstDayAlike 6 (some .int) RX4 2 := ⟨wm_im_X4_firstDayAlike, wm_se_X4_firstDayAlike, wm_ini_X4, wm_cd_X4_firstDayAlike, rfl, by decide +kernel⟩
theorem meX8_even : sw_meV yX8_even cX8_even 5 (some .int) RX8 2 := ⟨wm_im_X8_even, wm_se_X8_even, wm_ini_X8, wm_cd_X8_even, rfl, by decide +kernel⟩
theorem meX7_make : sw_meV yX7_make cX7_make 4 (some .int) RX7 3 := ⟨wm_im_X7_make, wm_se_X7_make, wm_ini_X7, wm_cd_X7_make, rfl, by decide +kernel⟩
theorem meX3_seatAll : sw_meV yX3_seatAll cX3_seatAll 8 none RX3 3 := ⟨wm_im_X3_seatAll, wm_se_X3_seatAll, wm_ini_X3, wm_cd_X3_seatAll, rfl, by decide +kernel⟩
theorem meX3_fillRows : sw_meV yX3_fillRows cX3_fillRows 9 none RX3 1 := ⟨wm_im_X3_fillRows, wm_se_X3_fillRows, wm_ini_X3, wm_cd_X3_fillRows, rfl, by decide +kernel⟩
theorem meX4_partner : sw_meV yX4_partner cX4_partner 2 (some .int) RX4 1 := ⟨wm_im_X4_partner, wm_se_X4_partner, wm_ini_X4, wm_cd_X4_partner, rfl, by decide +kernel⟩
theorem meJ7_fill_031fb : sw_meS yJ7_fill_031fb cJ7_fill_031fb 4 none 2 := ⟨wm_st_J7_fill_031fb, wm_ini_J7, wm_cd_J7_fill_031fb, by decide +kernel⟩
theorem meX7_subsetsOf : sw_meS yX7_subsetsOf cX7_subsetsOf 1 (some .int) 1 := ⟨wm_st_X7_subsetsOf, wm_ini_X7, wm_cd_X7_subsetsOf, by decide +kernel⟩
theorem meX3_mayIt : sw_meV yX3_mayIt cX3_mayIt 2 (some .boolean) RX3 1 := ⟨wm_im_X3_mayIt, wm_se_X3_mayIt, wm_ini_X3, wm_cd_X3_mayIt, rfl, by decide +kernel⟩
theorem meX3_seatSecond : sw_meV yX3_seatSecond cX3_seatSecond 9 none RX3 4 := ⟨wm_im_X3_seatSecond, wm_se_X3_seatSecond, wm_ini_X3, wm_cd_X3_seatSecond, rfl, by decide +kernel⟩
theorem meX3_note : sw_meV yX3_note cX3_note 5 none RX3 4 := ⟨wm_im_X3_note, wm_se_X3_note, wm_ini_X3, wm_cd_X3_note, rfl, by decide +kernel⟩
theorem meX3_keepFewest : sw_meV yX3_keepFewest cX3_keepFewest 4 none RX3 2 := ⟨wm_im_X3_keepFewest, wm_se_X3_keepFewest, wm_ini_X3, wm_cd_X3_keepFewest, rfl, by decide +kernel⟩
theorem meX7_nextSubset : sw_meS yX7_nextSubset cX7_nextSubset 2 (some .int) 2 := ⟨wm_st_X7_nextSubset, wm_ini_X7, wm_cd_X7_nextSubset, by decide +kernel⟩
theorem meX8_make : sw_meV yX8_make cX8_make 10 (some .int) RX8 3 := ⟨wm_im_X8_make, wm_se_X8_make, wm_ini_X8, wm_cd_X8_make, rfl, by decide +kernel⟩
theorem meX8_seat : sw_meV yX8_seat cX8_seat 4 (some .boolean) RX8 1 := ⟨wm_im_X8_seat, wm_se_X8_seat, wm_ini_X8, wm_cd_X8_seat, rfl, by decide +kernel⟩
theorem meX8_difference : sw_meV yX8_difference cX8_difference 2 (some .int) RX8 1 := ⟨wm_im_X8_difference, wm_se_X8_difference, wm_ini_X8, wm_cd_X8_difference, rfl, by decide +kernel⟩
theorem meX7_near : sw_meV yX7_near cX7_near 3 (some .int) RX7 2 := ⟨wm_im_X7_near, wm_se_X7_near, wm_ini_X7, wm_cd_X7_near, rfl, by decide +kernel⟩
theorem meX8_near : sw_meV yX8_near cX8_near 6 (some .int) RX8 2 := ⟨wm_im_X8_near, wm_se_X8_near, wm_ini_X8, wm_cd_X8_near, rfl, by decide +kernel⟩
theorem meX7_gap : sw_meV yX7_gap cX7_gap 2 (some .int) RX7 1 := ⟨wm_im_X7_gap, wm_se_X7_gap, wm_ini_X7, wm_cd_X7_gap, rfl, by decide +kernel⟩
theorem meX3_leastUnmade : sw_meV yX3_leastUnmade cX3_leastUnmade 2 (some .int) RX3 0 := ⟨wm_im_X3_leastUnmade, wm_se_X3_leastUnmade, wm_ini_X3, wm_cd_X3_leastUnmade, rfl, by decide +kernel⟩
theorem meX8_gap : sw_meV yX8_gap cX8_gap 3 (some .int) RX8 1 := ⟨wm_im_X8_gap, wm_se_X8_gap, wm_ini_X8, wm_cd_X8_gap, rfl, by decide +kernel⟩
theorem meX7_assize : sw_meV yX7_assize cX7_assize 2 (some .int) RX7 1 := ⟨wm_im_X7_assize, wm_se_X7_assize, wm_ini_X7, wm_cd_X7_assize, rfl, by decide +kernel⟩
theorem meX4_ranked : sw_meV yX4_ranked cX4_ranked 3 (some .int) RX4 1 := ⟨wm_im_X4_ranked, wm_se_X4_ranked, wm_ini_X4, wm_cd_X4_ranked, rfl, by decide +kernel⟩
theorem meX4_howManyAhead : sw_meV yX4_howManyAhead cX4_howManyAhead 5 (some .int) RX4 1 := ⟨wm_im_X4_howManyAhead, wm_se_X4_howManyAhead, wm_ini_X4, wm_cd_X4_howManyAhead, rfl, by decide +kernel⟩
theorem meX8_assize : sw_meV yX8_assize cX8_assize 5 (some .int) RX8 1 := ⟨wm_im_X8_assize, wm_se_X8_assize, wm_ini_X8, wm_cd_X8_assize, rfl, by decide +kernel⟩
theorem meX7_just : sw_meV yX7_just cX7_just 1 (some .int) RX7 0 := ⟨wm_im_X7_just, wm_se_X7_just, wm_ini_X7, wm_cd_X7_just, rfl, by decide +kernel⟩
theorem meX4_mostAlike : sw_meV yX4_mostAlike cX4_mostAlike 3 (some .int) RX4 0 := ⟨wm_im_X4_mostAlike, wm_se_X4_mostAlike, wm_ini_X4, wm_cd_X4_mostAlike, rfl, by decide +kernel⟩
theorem meX4_howManyLike : sw_meV yX4_howManyLike cX4_howManyLike 4 (some .int) RX4 1 := ⟨wm_im_X4_howManyLike, wm_se_X4_howManyLike, wm_ini_X4, wm_cd_X4_howManyLike, rfl, by decide +kernel⟩
theorem meX8_just : sw_meV yX8_just cX8_just 5 (some .int) RX8 0 := ⟨wm_im_X8_just, wm_se_X8_just, wm_ini_X8, wm_cd_X8_just, rfl, by decide +kernel⟩
theorem meX7_price : sw_meV yX7_price cX7_price 4 (some .int) RX7 3 := ⟨wm_im_X7_price, wm_se_X7_price, wm_ini_X7, wm_cd_X7_price, rfl, by decide +kernel⟩
theorem meX3_sellDearest : sw_meV yX3_sellDearest cX3_sellDearest 10 none RX3 3 := ⟨wm_im_X3_sellDearest, wm_se_X3_sellDearest, wm_ini_X3, wm_cd_X3_sellDearest, rfl, by decide +kernel⟩
theorem meX8_price : sw_meV yX8_price cX8_price 9 (some .int) RX8 3 := ⟨wm_im_X8_price, wm_se_X8_price, wm_ini_X8, wm_cd_X8_price, rfl, by decide +kernel⟩
theorem meX7_seen : sw_meV yX7_seen cX7_seen 4 (some .int) RX7 3 := ⟨wm_im_X7_seen, wm_se_X7_seen, wm_ini_X7, wm_cd_X7_seen, rfl, by decide +kernel⟩
theorem meX4_mayBeWeighed : sw_meV yX4_mayBeWeighed cX4_mayBeWeighed 3 (some .boolean) RX4 2 := ⟨wm_im_X4_mayBeWeighed, wm_se_X4_mayBeWeighed, wm_ini_X4, wm_cd_X4_mayBeWeighed, rfl, by decide +kernel⟩
theorem meX4_addSight : sw_meV yX4_addSight cX4_addSight 4 (some .boolean) RX4 3 := ⟨wm_im_X4_addSight, wm_se_X4_addSight, wm_ini_X4, wm_cd_X4_addSight, rfl, by decide +kernel⟩
theorem meX8_seen : sw_meV yX8_seen cX8_seen 4 (some .int) RX8 3 := ⟨wm_im_X8_seen, wm_se_X8_seen, wm_ini_X8, wm_cd_X8_seen, rfl, by decide +kernel⟩
theorem meX8_areSides : sw_meV yX8_areSides cX8_areSides 3 (some .boolean) RX8 2 := ⟨wm_im_X8_areSides, wm_se_X8_areSides, wm_ini_X8, wm_cd_X8_areSides, rfl, by decide +kernel⟩
theorem meX7_forget : sw_meV yX7_forget cX7_forget 2 (some .int) RX7 0 := ⟨wm_im_X7_forget, wm_se_X7_forget, wm_ini_X7, wm_cd_X7_forget, rfl, by decide +kernel⟩
theorem meX8_forget : sw_meV yX8_forget cX8_forget 2 (some .int) RX8 0 := ⟨wm_im_X8_forget, wm_se_X8_forget, wm_ini_X8, wm_cd_X8_forget, rfl, by decide +kernel⟩
theorem meX7_airs : sw_meV yX7_airs cX7_airs 2 (some .int) RX7 1 := ⟨wm_im_X7_airs, wm_se_X7_airs, wm_ini_X7, wm_cd_X7_airs, rfl, by decide +kernel⟩
theorem meX5_find : sw_meV yX5_find cX5_find 3 none RX5 1 := ⟨wm_im_X5_find, wm_se_X5_find, wm_ini_X5, wm_cd_X5_find, rfl, by decide +kernel⟩
theorem meX5_fillLeads : sw_meV yX5_fillLeads cX5_fillLeads 3 none RX5 1 := ⟨wm_im_X5_fillLeads, wm_se_X5_fillLeads, wm_ini_X5, wm_cd_X5_fillLeads, rfl, by decide +kernel⟩
theorem meX5_addIfSeen : sw_meV yX5_addIfSeen cX5_addIfSeen 4 none RX5 3 := ⟨wm_im_X5_addIfSeen, wm_se_X5_addIfSeen, wm_ini_X5, wm_cd_X5_addIfSeen, rfl, by decide +kernel⟩
theorem meX5_isAsSeen : sw_meV yX5_isAsSeen cX5_isAsSeen 6 (some .boolean) RX5 3 := ⟨wm_im_X5_isAsSeen, wm_se_X5_isAsSeen, wm_ini_X5, wm_cd_X5_isAsSeen, rfl, by decide +kernel⟩
theorem meX7_balance : sw_meS yX7_balance cX7_balance 2 (some .int) 2 := ⟨wm_st_X7_balance, wm_ini_X7, wm_cd_X7_balance, by decide +kernel⟩
theorem meX5_findOf : sw_meV yX5_findOf cX5_findOf 4 none RX5 2 := ⟨wm_im_X5_findOf, wm_se_X5_findOf, wm_ini_X5, wm_cd_X5_findOf, rfl, by decide +kernel⟩
theorem meX5_suspects : sw_meV yX5_suspects cX5_suspects 3 (some .int) RX5 0 := ⟨wm_im_X5_suspects, wm_se_X5_suspects, wm_ini_X5, wm_cd_X5_suspects, rfl, by decide +kernel⟩
theorem meX8_airs : sw_meV yX8_airs cX8_airs 4 (some .int) RX8 1 := ⟨wm_im_X8_airs, wm_se_X8_airs, wm_ini_X8, wm_cd_X8_airs, rfl, by decide +kernel⟩
theorem meX8_findWorlds : sw_meV yX8_findWorlds cX8_findWorlds 3 none RX8 0 := ⟨wm_im_X8_findWorlds, wm_se_X8_findWorlds, wm_ini_X8, wm_cd_X8_findWorlds, rfl, by decide +kernel⟩
theorem meX8_isWorld : sw_meV yX8_isWorld cX8_isWorld 5 (some .boolean) RX8 2 := ⟨wm_im_X8_isWorld, wm_se_X8_isWorld, wm_ini_X8, wm_cd_X8_isWorld, rfl, by decide +kernel⟩
theorem meX8_howAcross : sw_meV yX8_howAcross cX8_howAcross 6 (some .int) RX8 4 := ⟨wm_im_X8_howAcross, wm_se_X8_howAcross, wm_ini_X8, wm_cd_X8_howAcross, rfl, by decide +kernel⟩
theorem meX8_airyOf : sw_meV yX8_airyOf cX8_airyOf 7 (some .int) RX8 3 := ⟨wm_im_X8_airyOf, wm_se_X8_airyOf, wm_ini_X8, wm_cd_X8_airyOf, rfl, by decide +kernel⟩
theorem meX8_addWorld : sw_meV yX8_addWorld cX8_addWorld 3 none RX8 2 := ⟨wm_im_X8_addWorld, wm_se_X8_addWorld, wm_ini_X8, wm_cd_X8_addWorld, rfl, by decide +kernel⟩
theorem meX7_air : sw_meV yX7_air cX7_air 2 (some .int) RX7 1 := ⟨wm_im_X7_air, wm_se_X7_air, wm_ini_X7, wm_cd_X7_air, rfl, by decide +kernel⟩
theorem meX5_leastMore : sw_meV yX5_leastMore cX5_leastMore 3 (some .int) RX5 1 := ⟨wm_im_X5_leastMore, wm_se_X5_leastMore, wm_ini_X5, wm_cd_X5_leastMore, rfl, by decide +kernel⟩
theorem meX8_air : sw_meV yX8_air cX8_air 3 (some .int) RX8 1 := ⟨wm_im_X8_air, wm_se_X8_air, wm_ini_X8, wm_cd_X8_air, rfl, by decide +kernel⟩
theorem meX7_cross : sw_meV yX7_cross cX7_cross 2 (some .int) RX7 1 := ⟨wm_im_X7_cross, wm_se_X7_cross, wm_ini_X7, wm_cd_X7_cross, rfl, by decide +kernel⟩
theorem meX5_choosePair : sw_meV yX5_choosePair cX5_choosePair 4 none RX5 1 := ⟨wm_im_X5_choosePair, wm_se_X5_choosePair, wm_ini_X5, wm_cd_X5_choosePair, rfl, by decide +kernel⟩
theorem meX5_tryPair : sw_meV yX5_tryPair cX5_tryPair 7 none RX5 3 := ⟨wm_im_X5_tryPair, wm_se_X5_tryPair, wm_ini_X5, wm_cd_X5_tryPair, rfl, by decide +kernel⟩
theorem meX8_cross : sw_meV yX8_cross cX8_cross 6 (some .int) RX8 1 := ⟨wm_im_X8_cross, wm_se_X8_cross, wm_ini_X8, wm_cd_X8_cross, rfl, by decide +kernel⟩
theorem meX8_mostLeft : sw_meV yX8_mostLeft cX8_mostLeft 7 (some .int) RX8 2 := ⟨wm_im_X8_mostLeft, wm_se_X8_mostLeft, wm_ini_X8, wm_cd_X8_mostLeft, rfl, by decide +kernel⟩
theorem meX7_chance : sw_meV yX7_chance cX7_chance 7 (some .long) RX7 6 := ⟨wm_im_X7_chance, wm_se_X7_chance, wm_ini_X7, wm_cd_X7_chance, rfl, by decide +kernel⟩
theorem meX0_setHeavier : sw_meV yX0_setHeavier cX0_setHeavier 16 none RX0 5 := ⟨wm_im_X0_setHeavier, wm_se_X0_setHeavier, wm_ini_X0, wm_cd_X0_setHeavier, rfl, by decide +kernel⟩
theorem meX0_power : sw_meS yX0_power cX0_power 5 (some .long) 2 := ⟨wm_st_X0_power, wm_ini_X0, wm_cd_X0_power, by decide +kernel⟩
theorem meX0_put : sw_meV yX0_put cX0_put 7 none RX0 2 := ⟨wm_im_X0_put, wm_se_X0_put, wm_ini_X0, wm_cd_X0_put, rfl, by decide +kernel⟩
theorem meX0_sharedDivisor : sw_meS yX0_sharedDivisor cX0_sharedDivisor 11 (some .long) 2 := ⟨wm_st_X0_sharedDivisor, wm_ini_X0, wm_cd_X0_sharedDivisor, by decide +kernel⟩
theorem meX0_setMean : sw_meV yX0_setMean cX0_setMean 8 none RX0 5 := ⟨wm_im_X0_setMean, wm_se_X0_setMean, wm_ini_X0, wm_cd_X0_setMean, rfl, by decide +kernel⟩
theorem meX8_chance : sw_meV yX8_chance cX8_chance 20 (some .long) RX8 6 := ⟨wm_im_X8_chance, wm_se_X8_chance, wm_ini_X8, wm_cd_X8_chance, rfl, by decide +kernel⟩
theorem meX8_lowest : sw_meS yX8_lowest cX8_lowest 11 (some .long) 3 := ⟨wm_st_X8_lowest, wm_ini_X8, wm_cd_X8_lowest, by decide +kernel⟩
theorem meX7_year : sw_meV yX7_year cX7_year 4 (some .int) RX7 3 := ⟨wm_im_X7_year, wm_se_X7_year, wm_ini_X7, wm_cd_X7_year, rfl, by decide +kernel⟩
theorem meX6_pass : sw_meV yX6_pass cX6_pass 6 none RX6 3 := ⟨wm_im_X6_pass, wm_se_X6_pass, wm_ini_X6, wm_cd_X6_pass, rfl, by decide +kernel⟩
theorem meX6_sell : sw_meV yX6_sell cX6_sell 5 none RX6 1 := ⟨wm_im_X6_sell, wm_se_X6_sell, wm_ini_X6, wm_cd_X6_sell, rfl, by decide +kernel⟩
theorem meX8_year : sw_meV yX8_year cX8_year 11 (some .int) RX8 3 := ⟨wm_im_X8_year, wm_se_X8_year, wm_ini_X8, wm_cd_X8_year, rfl, by decide +kernel⟩
theorem meX7_image : sw_meV yX7_image cX7_image 2 (some .int) RX7 1 := ⟨wm_im_X7_image, wm_se_X7_image, wm_ini_X7, wm_cd_X7_image, rfl, by decide +kernel⟩
theorem meX8_image : sw_meV yX8_image cX8_image 2 (some .int) RX8 1 := ⟨wm_im_X8_image, wm_se_X8_image, wm_ini_X8, wm_cd_X8_image, rfl, by decide +kernel⟩
theorem meX8_passAll : sw_meV yX8_passAll cX8_passAll 2 none RX8 0 := ⟨wm_im_X8_passAll, wm_se_X8_passAll, wm_ini_X8, wm_cd_X8_passAll, rfl, by decide +kernel⟩
theorem meX8_pass : sw_meV yX8_pass cX8_pass 3 (some .int) RX8 1 := ⟨wm_im_X8_pass, wm_se_X8_pass, wm_ini_X8, wm_cd_X8_pass, rfl, by decide +kernel⟩
theorem meX7_restore : sw_meV yX7_restore cX7_restore 2 (some .int) RX7 1 := ⟨wm_im_X7_restore, wm_se_X7_restore, wm_ini_X7, wm_cd_X7_restore, rfl, by decide +kernel⟩
theorem meX8_restore : sw_meV yX8_restore cX8_restore 2 (some .int) RX8 1 := ⟨wm_im_X8_restore, wm_se_X8_restore, wm_ini_X8, wm_cd_X8_restore, rfl, by decide +kernel⟩
theorem meX7_told : sw_meV yX7_told cX7_told 2 (some .int) RX7 1 := ⟨wm_im_X7_told, wm_se_X7_told, wm_ini_X7, wm_cd_X7_told, rfl, by decide +kernel⟩
theorem meX7_tellPerson : sw_meV yX7_tellPerson cX7_tellPerson 3 (some .int) RX7 2 := ⟨wm_im_X7_tellPerson, wm_se_X7_tellPerson, wm_ini_X7, wm_cd_X7_tellPerson, rfl, by decide +kernel⟩
theorem meX8_told : sw_meV yX8_told cX8_told 2 (some .int) RX8 1 := ⟨wm_im_X8_told, wm_se_X8_told, wm_ini_X8, wm_cd_X8_told, rfl, by decide +kernel⟩
theorem meX8_toldOf : sw_meV yX8_toldOf cX8_toldOf 3 (some .int) RX8 2 := ⟨wm_im_X8_toldOf, wm_se_X8_toldOf, wm_ini_X8, wm_cd_X8_toldOf, rfl, by decide +kernel⟩
end
section
/-! numbers between bounds, bits, persons -/
def inR (x : Int32) (a b : Int) : Bool := decide (a ≤ x.toInt ∧ x.toInt ≤ b)
def bitI (t x : Int32) : Bool := decide ((t >>> (x &&& 31)) &&& 1 = 1)
def isP (t x : Int32) : Bool := inR x 0 7 && bitI t x
theorem le_toInt {x y : Int32} : x ≤ y ↔ x.toInt ≤ y.toInt := Int32.le_iff_toInt_le
theorem lt_toInt {x y : Int32} : x < y ↔ x.toInt < y.toInt := Int32.lt_iff_toInt_lt
theorem ti_0 : (0 : Int32).toInt = 0 := rfl
theorem ti_7 : (7 : Int32).toInt = 7 := rfl
theorem ti_8 : (8 : Int32).toInt = 8 := rfl
theorem e_b0 {B : Bool} (h : B = false) : some (Value.int 0) = some (Value.int (bI B)) := by rw [h]; rfl
theorem e_b1 {B : Bool} (h : B = true) : some (Value.int 1) = some (Value.int (bI B)) := by rw [h]; rfl
theorem inR_t {x : Int32} {a b : Int} (h1 : a ≤ x.toInt) (h2 : x.toInt ≤ b) : inR x a b = true := decide_eq_true ⟨h1, h2⟩
theorem inR_f1 {x : Int32} {a b : Int} (h1 : x.toInt < a) : inR x a b = false := decide_eq_false (fun q => by omega)
theorem inR_f2 {x : Int32} {a b : Int} (h1 : b < x.toInt) : inR x a b = false := decide_eq_false (fun q => by omega)
theorem tstg1 {x : Int32} (h1 : ¬ x < 0) (h7 : ¬ 8 ≤ x) : inR x 0 7 = true := by grind [inR, le_toInt, lt_toInt, ti_0, ti_8]
theorem tstg2 {t x : Int32} (h1 : ¬ x < 0) (h7 : ¬ 8 ≤ x) (h16 : t >>> (x &&& 31) &&& 1 = 1) : isP t x = true := by grind [isP, bitI, inR, le_toInt, lt_toInt, ti_0, ti_8]
theorem tstg3 {x y : Int32} (h1 : ¬ x < 0) (h7 : ¬ 8 ≤ x) (h : y = x + 3) : y < 20 := by grind
theorem tstg4 {x y : Int32} (h1 : ¬ x < 0) (h7 : ¬ 8 ≤ x) (h : y = x + 3) : y < 20 := by lia
theorem tstg5 {x : Int32} (h1 : ¬ x < 0) (h7 : ¬ 8 ≤ x) : ¬ (x < 0 ∨ 8 ≤ x) := by grind

set_option maxRecDepth 100000 in
set_option maxHeartbeats 4000000 in
theorem kX7_within {l : Launch} {G : GT} {μ : MemT} {x a b : Int32} : sw_Met l G yX7_within cX7_within 3 (some .boolean) (rmk 0 0) [.int x, .int a, .int b] μ (fun v μ2 => v = some (.int (bI (inR x a.toInt b.toInt))) ∧ μ2 = μ) := by
  refine sw_Met.ofY (by decide) (Nat.le_of_ble_eq_true rfl) rfl ?_
  refine y_iload_n dX7_within_0 rfl rfl ?_
  refine y_iload_n dX7_within_1 rfl rfl ?_
  refine y_icmp_gt 14 dX7_within_2 (by decide) (fun h2 => ?_) (fun h2 => ?_)
  · refine y_iconst dX7_within_14 ic_0 ?_
    refine y_zret dX7_within_15 rfl ?_
    refine ⟨e_b0 ?_, rfl⟩
    grind [inR, le_toInt, lt_toInt]
  · refine y_iload_n dX7_within_5 rfl rfl ?_
    refine y_iload_n dX7_within_6 rfl rfl ?_
    refine y_icmp_gt 14 dX7_within_7 (by decide) (fun h7 => ?_) (fun h7 => ?_)
    · refine y_iconst dX7_within_14 ic_0 ?_
      refine y_zret dX7_within_15 rfl ?_
      refine ⟨e_b0 ?_, rfl⟩
      grind [inR, le_toInt, lt_toInt]
    · refine y_iconst dX7_within_10 ic_1 ?_
      refine y_goto 15 dX7_within_11 (by decide) ?_
      refine y_zret dX7_within_15 rfl ?_
      refine ⟨e_b1 ?_, rfl⟩
      grind [inR, le_toInt, lt_toInt]

set_option maxRecDepth 100000 in
set_option maxHeartbeats 4000000 in
theorem kX7_holds {l : Launch} {G : GT} {μ : MemT} {t x : Int32} : sw_Met l G yX7_holds cX7_holds 2 (some .boolean) (rmk 0 0) [.int t, .int x] μ (fun v μ2 => v = some (.int (bI (isP t x))) ∧ μ2 = μ) := by
  refine sw_Met.ofY (by decide) (Nat.le_of_ble_eq_true rfl) rfl ?_
  refine y_iload_n dX7_holds_0 rfl rfl ?_
  refine y_if_lt 23 dX7_holds_1 (by decide) (fun h1 => ?_) (fun h1 => ?_)
  · refine y_iconst dX7_holds_23 ic_0 ?_
    refine y_zret dX7_holds_24 rfl ?_
    refine ⟨e_b0 ?_, rfl⟩
    grind [isP, bitI, inR, le_toInt, lt_toInt, ti_0, ti_8]
  · refine y_iload_n dX7_holds_4 rfl rfl ?_
    refine y_bipush dX7_holds_5 ib_8 ?_
    refine y_icmp_ge 23 dX7_holds_7 (by decide) (fun h7 => ?_) (fun h7 => ?_)
    · refine y_iconst dX7_holds_23 ic_0 ?_
      refine y_zret dX7_holds_24 rfl ?_
      refine ⟨e_b0 ?_, rfl⟩
      grind [isP, bitI, inR, le_toInt, lt_toInt, ti_0, ti_8]
    · refine y_iload_n dX7_holds_10 rfl rfl ?_
      refine y_iload_n dX7_holds_11 rfl rfl ?_
      refine y_ishr dX7_holds_12 ?_
      refine y_iconst dX7_holds_13 ic_1 ?_
      refine y_iand dX7_holds_14 ?_
      refine y_iconst dX7_holds_15 ic_1 ?_
      refine y_icmp_ne 23 dX7_holds_16 (by decide) (fun h16 => ?_) (fun h16 => ?_)
      · refine y_iconst dX7_holds_23 ic_0 ?_
        refine y_zret dX7_holds_24 rfl ?_
        refine ⟨e_b0 ?_, rfl⟩
        grind [isP, bitI, inR, le_toInt, lt_toInt, ti_0, ti_8]
      · refine y_iconst dX7_holds_19 ic_1 ?_
        refine y_goto 24 dX7_holds_20 (by decide) ?_
        refine y_zret dX7_holds_24 rfl ?_
        refine ⟨e_b1 ?_, rfl⟩
        grind [isP, bitI, inR, le_toInt, lt_toInt, ti_0, ti_8]
end
