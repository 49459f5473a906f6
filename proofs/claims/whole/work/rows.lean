section
-- ===== PART A: goes FIRST, ahead of the names: the tables' words, and 'selects' of the private methods out of them =====
/-- a private method of a class that the tables say can be made, by its rows of tables_1 -/
def lw_okq (q : MethodName × Nat) : Prop := (q.1.cls ≠ "java/lang/invoke/MethodHandle" ∧ q.1.cls ≠ "java/lang/invoke/VarHandle") ∧ Cond.instantiable q.1.cls q.2 ∈ tables_1 ∧ Cond.privateMethod q.1 ∈ tables_1 ∧ Cond.instanceMethod q.1 ∈ tables_1
theorem lw_p0 : lw_okq (⟨"ShareCoder", "countTape", "()I"⟩, 11) := ⟨⟨by decide +kernel, by decide +kernel⟩, List.mem_of_getElem? (i := 16) (by decide +kernel), List.mem_of_getElem? (i := 311) (by decide +kernel), List.mem_of_getElem? (i := 312) (by decide +kernel)⟩
theorem lw_p1 : lw_okq (⟨"ShareCoder$Table", "mostLacking", "([II)I"⟩, 2) := ⟨⟨by decide +kernel, by decide +kernel⟩, List.mem_of_getElem? (i := 144) (by decide +kernel), List.mem_of_getElem? (i := 341) (by decide +kernel), List.mem_of_getElem? (i := 342) (by decide +kernel)⟩
theorem lw_p2 : lw_okq (⟨"ShareCoder$Table", "lack", "(I[II)I"⟩, 2) := ⟨⟨by decide +kernel, by decide +kernel⟩, List.mem_of_getElem? (i := 144) (by decide +kernel), List.mem_of_getElem? (i := 345) (by decide +kernel), List.mem_of_getElem? (i := 346) (by decide +kernel)⟩
theorem lw_p3 : lw_okq (⟨"ShareCoder$Table", "leastLacking", "([II)I"⟩, 2) := ⟨⟨by decide +kernel, by decide +kernel⟩, List.mem_of_getElem? (i := 144) (by decide +kernel), List.mem_of_getElem? (i := 354) (by decide +kernel), List.mem_of_getElem? (i := 355) (by decide +kernel)⟩
theorem lw_p4 : lw_okq (⟨"ShareCoder", "tableOrNull", "(I)LShareCoder$Table;"⟩, 11) := ⟨⟨by decide +kernel, by decide +kernel⟩, List.mem_of_getElem? (i := 16) (by decide +kernel), List.mem_of_getElem? (i := 366) (by decide +kernel), List.mem_of_getElem? (i := 367) (by decide +kernel)⟩
theorem lw_p5 : lw_okq (⟨"ShareCoder", "layForPlace", "(III)Z"⟩, 11) := ⟨⟨by decide +kernel, by decide +kernel⟩, List.mem_of_getElem? (i := 16) (by decide +kernel), List.mem_of_getElem? (i := 394) (by decide +kernel), List.mem_of_getElem? (i := 395) (by decide +kernel)⟩
theorem lw_p6 : lw_okq (⟨"ShareCoder$Spread", "takeShares", "(LShareCoder$Table;)V"⟩, 10) := ⟨⟨by decide +kernel, by decide +kernel⟩, List.mem_of_getElem? (i := 55) (by decide +kernel), List.mem_of_getElem? (i := 410) (by decide +kernel), List.mem_of_getElem? (i := 411) (by decide +kernel)⟩
theorem lw_p7 : lw_okq (⟨"ShareCoder$Spread", "layEven", "()V"⟩, 10) := ⟨⟨by decide +kernel, by decide +kernel⟩, List.mem_of_getElem? (i := 55) (by decide +kernel), List.mem_of_getElem? (i := 415) (by decide +kernel), List.mem_of_getElem? (i := 416) (by decide +kernel)⟩
theorem lw_p8 : lw_okq (⟨"ShareCoder$Spread", "sink", "(I)V"⟩, 10) := ⟨⟨by decide +kernel, by decide +kernel⟩, List.mem_of_getElem? (i := 55) (by decide +kernel), List.mem_of_getElem? (i := 420) (by decide +kernel), List.mem_of_getElem? (i := 421) (by decide +kernel)⟩
theorem lw_p9 : lw_okq (⟨"ShareCoder$Spread", "isAhead", "(II)Z"⟩, 10) := ⟨⟨by decide +kernel, by decide +kernel⟩, List.mem_of_getElem? (i := 55) (by decide +kernel), List.mem_of_getElem? (i := 424) (by decide +kernel), List.mem_of_getElem? (i := 425) (by decide +kernel)⟩
theorem lw_p10 : lw_okq (⟨"ShareCoder$Spread", "layByStep", "(I)V"⟩, 10) := ⟨⟨by decide +kernel, by decide +kernel⟩, List.mem_of_getElem? (i := 55) (by decide +kernel), List.mem_of_getElem? (i := 428) (by decide +kernel), List.mem_of_getElem? (i := 429) (by decide +kernel)⟩
theorem lw_p11 : lw_okq (⟨"ShareCoder$Spread", "giveRanks", "()V"⟩, 10) := ⟨⟨by decide +kernel, by decide +kernel⟩, List.mem_of_getElem? (i := 55) (by decide +kernel), List.mem_of_getElem? (i := 432) (by decide +kernel), List.mem_of_getElem? (i := 433) (by decide +kernel)⟩
theorem lw_p12 : lw_okq (⟨"ShareCoder", "refusalOfTape", "(LShareCoder$Table;)I"⟩, 11) := ⟨⟨by decide +kernel, by decide +kernel⟩, List.mem_of_getElem? (i := 16) (by decide +kernel), List.mem_of_getElem? (i := 455) (by decide +kernel), List.mem_of_getElem? (i := 456) (by decide +kernel)⟩
theorem lw_p13 : lw_okq (⟨"ShareCoder$Coder", "divided", "(II)I"⟩, 8) := ⟨⟨by decide +kernel, by decide +kernel⟩, List.mem_of_getElem? (i := 49) (by decide +kernel), List.mem_of_getElem? (i := 504) (by decide +kernel), List.mem_of_getElem? (i := 505) (by decide +kernel)⟩
theorem lw_p14 : lw_okq (⟨"ShareCoder$Packer", "writePayload", "(ILShareCoder$Row;)V"⟩, 3) := ⟨⟨by decide +kernel, by decide +kernel⟩, List.mem_of_getElem? (i := 213) (by decide +kernel), List.mem_of_getElem? (i := 546) (by decide +kernel), List.mem_of_getElem? (i := 547) (by decide +kernel)⟩
theorem lw_p15 : lw_okq (⟨"ShareCoder$Opener", "readHead", "()V"⟩, 16) := ⟨⟨by decide +kernel, by decide +kernel⟩, List.mem_of_getElem? (i := 43) (by decide +kernel), List.mem_of_getElem? (i := 565) (by decide +kernel), List.mem_of_getElem? (i := 566) (by decide +kernel)⟩
def lw_privs_1 : List (MethodName × Nat) := [(⟨"ShareCoder", "countTape", "()I"⟩, 11), (⟨"ShareCoder$Table", "mostLacking", "([II)I"⟩, 2), (⟨"ShareCoder$Table", "lack", "(I[II)I"⟩, 2), (⟨"ShareCoder$Table", "leastLacking", "([II)I"⟩, 2), (⟨"ShareCoder", "tableOrNull", "(I)LShareCoder$Table;"⟩, 11), (⟨"ShareCoder", "layForPlace", "(III)Z"⟩, 11), (⟨"ShareCoder$Spread", "takeShares", "(LShareCoder$Table;)V"⟩, 10), (⟨"ShareCoder$Spread", "layEven", "()V"⟩, 10), (⟨"ShareCoder$Spread", "sink", "(I)V"⟩, 10), (⟨"ShareCoder$Spread", "isAhead", "(II)Z"⟩, 10), (⟨"ShareCoder$Spread", "layByStep", "(I)V"⟩, 10), (⟨"ShareCoder$Spread", "giveRanks", "()V"⟩, 10), (⟨"ShareCoder", "refusalOfTape", "(LShareCoder$Table;)I"⟩, 11), (⟨"ShareCoder$Coder", "divided", "(II)I"⟩, 8), (⟨"ShareCoder$Packer", "writePayload", "(ILShareCoder$Row;)V"⟩, 3), (⟨"ShareCoder$Opener", "readHead", "()V"⟩, 16)]
theorem lw_r1 : ∀ q ∈ lw_privs_1, lw_okq q := List.forall_mem_cons.mpr ⟨lw_p0, List.forall_mem_cons.mpr ⟨lw_p1, List.forall_mem_cons.mpr ⟨lw_p2, List.forall_mem_cons.mpr ⟨lw_p3, List.forall_mem_cons.mpr ⟨lw_p4, List.forall_mem_cons.mpr ⟨lw_p5, List.forall_mem_cons.mpr ⟨lw_p6, List.forall_mem_cons.mpr ⟨lw_p7, List.forall_mem_cons.mpr ⟨lw_p8, List.forall_mem_cons.mpr ⟨lw_p9, List.forall_mem_cons.mpr ⟨lw_p10, List.forall_mem_cons.mpr ⟨lw_p11, List.forall_mem_cons.mpr ⟨lw_p12, List.forall_mem_cons.mpr ⟨lw_p13, List.forall_mem_cons.mpr ⟨lw_p14, List.forall_mem_cons.mpr ⟨lw_p15, fun _ h => absurd h List.not_mem_nil⟩⟩⟩⟩⟩⟩⟩⟩⟩⟩⟩⟩⟩⟩⟩⟩
theorem lw_p16 : lw_okq (⟨"ShareCoder$Opener", "readNumber", "(I)I"⟩, 16) := ⟨⟨by decide +kernel, by decide +kernel⟩, List.mem_of_getElem? (i := 43) (by decide +kernel), List.mem_of_getElem? (i := 569) (by decide +kernel), List.mem_of_getElem? (i := 570) (by decide +kernel)⟩
theorem lw_p17 : lw_okq (⟨"ShareCoder$Opener", "byteCount", "()I"⟩, 16) := ⟨⟨by decide +kernel, by decide +kernel⟩, List.mem_of_getElem? (i := 43) (by decide +kernel), List.mem_of_getElem? (i := 573) (by decide +kernel), List.mem_of_getElem? (i := 574) (by decide +kernel)⟩
theorem lw_p18 : lw_okq (⟨"ShareCoder$Opener", "demand", "(ZII)V"⟩, 16) := ⟨⟨by decide +kernel, by decide +kernel⟩, List.mem_of_getElem? (i := 43) (by decide +kernel), List.mem_of_getElem? (i := 577) (by decide +kernel), List.mem_of_getElem? (i := 578) (by decide +kernel)⟩
theorem lw_p19 : lw_okq (⟨"ShareCoder$Opener", "isWhole", "()Z"⟩, 16) := ⟨⟨by decide +kernel, by decide +kernel⟩, List.mem_of_getElem? (i := 43) (by decide +kernel), List.mem_of_getElem? (i := 581) (by decide +kernel), List.mem_of_getElem? (i := 582) (by decide +kernel)⟩
theorem lw_p20 : lw_okq (⟨"ShareCoder$Opener", "byteAt", "(I)I"⟩, 16) := ⟨⟨by decide +kernel, by decide +kernel⟩, List.mem_of_getElem? (i := 43) (by decide +kernel), List.mem_of_getElem? (i := 585) (by decide +kernel), List.mem_of_getElem? (i := 586) (by decide +kernel)⟩
theorem lw_p21 : lw_okq (⟨"ShareCoder$Opener", "readShares", "()V"⟩, 16) := ⟨⟨by decide +kernel, by decide +kernel⟩, List.mem_of_getElem? (i := 43) (by decide +kernel), List.mem_of_getElem? (i := 594) (by decide +kernel), List.mem_of_getElem? (i := 595) (by decide +kernel)⟩
theorem lw_p22 : lw_okq (⟨"ShareCoder$Opener", "readSizes", "()V"⟩, 16) := ⟨⟨by decide +kernel, by decide +kernel⟩, List.mem_of_getElem? (i := 43) (by decide +kernel), List.mem_of_getElem? (i := 600) (by decide +kernel), List.mem_of_getElem? (i := 601) (by decide +kernel)⟩
theorem lw_p23 : lw_okq (⟨"ShareCoder$Opener", "readStates", "()V"⟩, 16) := ⟨⟨by decide +kernel, by decide +kernel⟩, List.mem_of_getElem? (i := 43) (by decide +kernel), List.mem_of_getElem? (i := 605) (by decide +kernel), List.mem_of_getElem? (i := 606) (by decide +kernel)⟩
theorem lw_p24 : lw_okq (⟨"ShareCoder$Opener", "findPayload", "()V"⟩, 16) := ⟨⟨by decide +kernel, by decide +kernel⟩, List.mem_of_getElem? (i := 43) (by decide +kernel), List.mem_of_getElem? (i := 616) (by decide +kernel), List.mem_of_getElem? (i := 617) (by decide +kernel)⟩
theorem lw_p25 : lw_okq (⟨"ShareCoder$Opener", "readMessage", "()V"⟩, 16) := ⟨⟨by decide +kernel, by decide +kernel⟩, List.mem_of_getElem? (i := 43) (by decide +kernel), List.mem_of_getElem? (i := 620) (by decide +kernel), List.mem_of_getElem? (i := 621) (by decide +kernel)⟩
theorem lw_p26 : lw_okq (⟨"ShareCoder$Opener", "readSymbol", "(I)V"⟩, 16) := ⟨⟨by decide +kernel, by decide +kernel⟩, List.mem_of_getElem? (i := 43) (by decide +kernel), List.mem_of_getElem? (i := 626) (by decide +kernel), List.mem_of_getElem? (i := 627) (by decide +kernel)⟩
theorem lw_p27 : lw_okq (⟨"ShareCoder$Coder", "placeOfState", "(I)I"⟩, 8) := ⟨⟨by decide +kernel, by decide +kernel⟩, List.mem_of_getElem? (i := 49) (by decide +kernel), List.mem_of_getElem? (i := 635) (by decide +kernel), List.mem_of_getElem? (i := 636) (by decide +kernel)⟩
theorem lw_p28 : lw_okq (⟨"ShareCoder$Opener", "readUnit", "()I"⟩, 16) := ⟨⟨by decide +kernel, by decide +kernel⟩, List.mem_of_getElem? (i := 43) (by decide +kernel), List.mem_of_getElem? (i := 646) (by decide +kernel), List.mem_of_getElem? (i := 647) (by decide +kernel)⟩
theorem lw_p29 : lw_okq (⟨"ShareCoder$Opener", "checkPayloadEnd", "()V"⟩, 16) := ⟨⟨by decide +kernel, by decide +kernel⟩, List.mem_of_getElem? (i := 43) (by decide +kernel), List.mem_of_getElem? (i := 652) (by decide +kernel), List.mem_of_getElem? (i := 653) (by decide +kernel)⟩
theorem lw_p30 : lw_okq (⟨"ShareCoder$Opener", "checkStates", "()V"⟩, 16) := ⟨⟨by decide +kernel, by decide +kernel⟩, List.mem_of_getElem? (i := 43) (by decide +kernel), List.mem_of_getElem? (i := 656) (by decide +kernel), List.mem_of_getElem? (i := 657) (by decide +kernel)⟩
theorem lw_p31 : lw_okq (⟨"ShareCoder$Product", "multiply", "()V"⟩, 3) := ⟨⟨by decide +kernel, by decide +kernel⟩, List.mem_of_getElem? (i := 234) (by decide +kernel), List.mem_of_getElem? (i := 699) (by decide +kernel), List.mem_of_getElem? (i := 700) (by decide +kernel)⟩
def lw_privs_2 : List (MethodName × Nat) := [(⟨"ShareCoder$Opener", "readNumber", "(I)I"⟩, 16), (⟨"ShareCoder$Opener", "byteCount", "()I"⟩, 16), (⟨"ShareCoder$Opener", "demand", "(ZII)V"⟩, 16), (⟨"ShareCoder$Opener", "isWhole", "()Z"⟩, 16), (⟨"ShareCoder$Opener", "byteAt", "(I)I"⟩, 16), (⟨"ShareCoder$Opener", "readShares", "()V"⟩, 16), (⟨"ShareCoder$Opener", "readSizes", "()V"⟩, 16), (⟨"ShareCoder$Opener", "readStates", "()V"⟩, 16), (⟨"ShareCoder$Opener", "findPayload", "()V"⟩, 16), (⟨"ShareCoder$Opener", "readMessage", "()V"⟩, 16), (⟨"ShareCoder$Opener", "readSymbol", "(I)V"⟩, 16), (⟨"ShareCoder$Coder", "placeOfState", "(I)I"⟩, 8), (⟨"ShareCoder$Opener", "readUnit", "()I"⟩, 16), (⟨"ShareCoder$Opener", "checkPayloadEnd", "()V"⟩, 16), (⟨"ShareCoder$Opener", "checkStates", "()V"⟩, 16), (⟨"ShareCoder$Product", "multiply", "()V"⟩, 3)]
theorem lw_r2 : ∀ q ∈ lw_privs_2, lw_okq q := List.forall_mem_cons.mpr ⟨lw_p16, List.forall_mem_cons.mpr ⟨lw_p17, List.forall_mem_cons.mpr ⟨lw_p18, List.forall_mem_cons.mpr ⟨lw_p19, List.forall_mem_cons.mpr ⟨lw_p20, List.forall_mem_cons.mpr ⟨lw_p21, List.forall_mem_cons.mpr ⟨lw_p22, List.forall_mem_cons.mpr ⟨lw_p23, List.forall_mem_cons.mpr ⟨lw_p24, List.forall_mem_cons.mpr ⟨lw_p25, List.forall_mem_cons.mpr ⟨lw_p26, List.forall_mem_cons.mpr ⟨lw_p27, List.forall_mem_cons.mpr ⟨lw_p28, List.forall_mem_cons.mpr ⟨lw_p29, List.forall_mem_cons.mpr ⟨lw_p30, List.forall_mem_cons.mpr ⟨lw_p31, fun _ h => absurd h List.not_mem_nil⟩⟩⟩⟩⟩⟩⟩⟩⟩⟩⟩⟩⟩⟩⟩⟩
theorem lw_p32 : lw_okq (⟨"ShareCoder", "prepareForState", "(IIII)Z"⟩, 11) := ⟨⟨by decide +kernel, by decide +kernel⟩, List.mem_of_getElem? (i := 16) (by decide +kernel), List.mem_of_getElem? (i := 715) (by decide +kernel), List.mem_of_getElem? (i := 716) (by decide +kernel)⟩
theorem lw_p33 : lw_okq (⟨"ShareCoderModel", "lack", "(III)I"⟩, 35) := ⟨⟨by decide +kernel, by decide +kernel⟩, List.mem_of_getElem? (i := 744) (by decide +kernel), List.mem_of_getElem? (i := 878) (by decide +kernel), List.mem_of_getElem? (i := 879) (by decide +kernel)⟩
theorem lw_p34 : lw_okq (⟨"ShareCoderModel", "begin", "(I)V"⟩, 35) := ⟨⟨by decide +kernel, by decide +kernel⟩, List.mem_of_getElem? (i := 744) (by decide +kernel), List.mem_of_getElem? (i := 882) (by decide +kernel), List.mem_of_getElem? (i := 883) (by decide +kernel)⟩
theorem lw_p35 : lw_okq (⟨"ShareCoderModel", "isTable", "(I)Z"⟩, 35) := ⟨⟨by decide +kernel, by decide +kernel⟩, List.mem_of_getElem? (i := 744) (by decide +kernel), List.mem_of_getElem? (i := 890) (by decide +kernel), List.mem_of_getElem? (i := 891) (by decide +kernel)⟩
theorem lw_p36 : lw_okq (⟨"ShareCoderModel", "isPlace", "(III)Z"⟩, 35) := ⟨⟨by decide +kernel, by decide +kernel⟩, List.mem_of_getElem? (i := 744) (by decide +kernel), List.mem_of_getElem? (i := 906) (by decide +kernel), List.mem_of_getElem? (i := 907) (by decide +kernel)⟩
theorem lw_p37 : lw_okq (⟨"ShareCoderModel", "lay", "(II)V"⟩, 35) := ⟨⟨by decide +kernel, by decide +kernel⟩, List.mem_of_getElem? (i := 744) (by decide +kernel), List.mem_of_getElem? (i := 910) (by decide +kernel), List.mem_of_getElem? (i := 911) (by decide +kernel)⟩
theorem lw_p38 : lw_okq (⟨"ShareCoderModel", "even", "(III)V"⟩, 35) := ⟨⟨by decide +kernel, by decide +kernel⟩, List.mem_of_getElem? (i := 744) (by decide +kernel), List.mem_of_getElem? (i := 914) (by decide +kernel), List.mem_of_getElem? (i := 915) (by decide +kernel)⟩
theorem lw_p39 : lw_okq (⟨"ShareCoderModel", "sink", "(II)V"⟩, 35) := ⟨⟨by decide +kernel, by decide +kernel⟩, List.mem_of_getElem? (i := 744) (by decide +kernel), List.mem_of_getElem? (i := 918) (by decide +kernel), List.mem_of_getElem? (i := 919) (by decide +kernel)⟩
theorem lw_p40 : lw_okq (⟨"ShareCoderModel", "isAhead", "(III)Z"⟩, 35) := ⟨⟨by decide +kernel, by decide +kernel⟩, List.mem_of_getElem? (i := 744) (by decide +kernel), List.mem_of_getElem? (i := 922) (by decide +kernel), List.mem_of_getElem? (i := 923) (by decide +kernel)⟩
theorem lw_p41 : lw_okq (⟨"ShareCoderModel", "isAsked", "(IIII)Z"⟩, 35) := ⟨⟨by decide +kernel, by decide +kernel⟩, List.mem_of_getElem? (i := 744) (by decide +kernel), List.mem_of_getElem? (i := 934) (by decide +kernel), List.mem_of_getElem? (i := 935) (by decide +kernel)⟩
theorem lw_p42 : lw_okq (⟨"ShareCoderModel", "isState", "(III)Z"⟩, 35) := ⟨⟨by decide +kernel, by decide +kernel⟩, List.mem_of_getElem? (i := 744) (by decide +kernel), List.mem_of_getElem? (i := 941) (by decide +kernel), List.mem_of_getElem? (i := 942) (by decide +kernel)⟩
theorem lw_p43 : lw_okq (⟨"ShareCoderModel", "step", "(IIIII)V"⟩, 35) := ⟨⟨by decide +kernel, by decide +kernel⟩, List.mem_of_getElem? (i := 744) (by decide +kernel), List.mem_of_getElem? (i := 946) (by decide +kernel), List.mem_of_getElem? (i := 947) (by decide +kernel)⟩
theorem lw_p44 : lw_okq (⟨"ShareCoderModel", "told", "(IIII)I"⟩, 35) := ⟨⟨by decide +kernel, by decide +kernel⟩, List.mem_of_getElem? (i := 744) (by decide +kernel), List.mem_of_getElem? (i := 958) (by decide +kernel), List.mem_of_getElem? (i := 959) (by decide +kernel)⟩
theorem lw_p45 : lw_okq (⟨"ShareCoderModel", "behind", "(IIIII)I"⟩, 35) := ⟨⟨by decide +kernel, by decide +kernel⟩, List.mem_of_getElem? (i := 744) (by decide +kernel), List.mem_of_getElem? (i := 966) (by decide +kernel), List.mem_of_getElem? (i := 967) (by decide +kernel)⟩
theorem lw_p46 : lw_okq (⟨"ShareCoderModel", "refusal", "(I)I"⟩, 35) := ⟨⟨by decide +kernel, by decide +kernel⟩, List.mem_of_getElem? (i := 744) (by decide +kernel), List.mem_of_getElem? (i := 974) (by decide +kernel), List.mem_of_getElem? (i := 975) (by decide +kernel)⟩
theorem lw_p47 : lw_okq (⟨"ShareCoderModel", "meetsNone", "()V"⟩, 35) := ⟨⟨by decide +kernel, by decide +kernel⟩, List.mem_of_getElem? (i := 744) (by decide +kernel), List.mem_of_getElem? (i := 978) (by decide +kernel), List.mem_of_getElem? (i := 979) (by decide +kernel)⟩
def lw_privs_3 : List (MethodName × Nat) := [(⟨"ShareCoder", "prepareForState", "(IIII)Z"⟩, 11), (⟨"ShareCoderModel", "lack", "(III)I"⟩, 35), (⟨"ShareCoderModel", "begin", "(I)V"⟩, 35), (⟨"ShareCoderModel", "isTable", "(I)Z"⟩, 35), (⟨"ShareCoderModel", "isPlace", "(III)Z"⟩, 35), (⟨"ShareCoderModel", "lay", "(II)V"⟩, 35), (⟨"ShareCoderModel", "even", "(III)V"⟩, 35), (⟨"ShareCoderModel", "sink", "(II)V"⟩, 35), (⟨"ShareCoderModel", "isAhead", "(III)Z"⟩, 35), (⟨"ShareCoderModel", "isAsked", "(IIII)Z"⟩, 35), (⟨"ShareCoderModel", "isState", "(III)Z"⟩, 35), (⟨"ShareCoderModel", "step", "(IIIII)V"⟩, 35), (⟨"ShareCoderModel", "told", "(IIII)I"⟩, 35), (⟨"ShareCoderModel", "behind", "(IIIII)I"⟩, 35), (⟨"ShareCoderModel", "refusal", "(I)I"⟩, 35), (⟨"ShareCoderModel", "meetsNone", "()V"⟩, 35)]
theorem lw_r3 : ∀ q ∈ lw_privs_3, lw_okq q := List.forall_mem_cons.mpr ⟨lw_p32, List.forall_mem_cons.mpr ⟨lw_p33, List.forall_mem_cons.mpr ⟨lw_p34, List.forall_mem_cons.mpr ⟨lw_p35, List.forall_mem_cons.mpr ⟨lw_p36, List.forall_mem_cons.mpr ⟨lw_p37, List.forall_mem_cons.mpr ⟨lw_p38, List.forall_mem_cons.mpr ⟨lw_p39, List.forall_mem_cons.mpr ⟨lw_p40, List.forall_mem_cons.mpr ⟨lw_p41, List.forall_mem_cons.mpr ⟨lw_p42, List.forall_mem_cons.mpr ⟨lw_p43, List.forall_mem_cons.mpr ⟨lw_p44, List.forall_mem_cons.mpr ⟨lw_p45, List.forall_mem_cons.mpr ⟨lw_p46, List.forall_mem_cons.mpr ⟨lw_p47, fun _ h => absurd h List.not_mem_nil⟩⟩⟩⟩⟩⟩⟩⟩⟩⟩⟩⟩⟩⟩⟩⟩
theorem lw_p48 : lw_okq (⟨"ShareCoderModel", "firstOf", "(II)I"⟩, 35) := ⟨⟨by decide +kernel, by decide +kernel⟩, List.mem_of_getElem? (i := 744) (by decide +kernel), List.mem_of_getElem? (i := 983) (by decide +kernel), List.mem_of_getElem? (i := 984) (by decide +kernel)⟩
theorem lw_p49 : lw_okq (⟨"ShareCoderModel", "meets", "(I)V"⟩, 35) := ⟨⟨by decide +kernel, by decide +kernel⟩, List.mem_of_getElem? (i := 744) (by decide +kernel), List.mem_of_getElem? (i := 987) (by decide +kernel), List.mem_of_getElem? (i := 988) (by decide +kernel)⟩
theorem lw_p50 : lw_okq (⟨"ShareCoderModel", "put", "(II)V"⟩, 35) := ⟨⟨by decide +kernel, by decide +kernel⟩, List.mem_of_getElem? (i := 744) (by decide +kernel), List.mem_of_getElem? (i := 991) (by decide +kernel), List.mem_of_getElem? (i := 992) (by decide +kernel)⟩
theorem lw_p51 : lw_okq (⟨"ShareCoderModel", "tells", "()V"⟩, 35) := ⟨⟨by decide +kernel, by decide +kernel⟩, List.mem_of_getElem? (i := 744) (by decide +kernel), List.mem_of_getElem? (i := 995) (by decide +kernel), List.mem_of_getElem? (i := 996) (by decide +kernel)⟩
theorem lw_p52 : lw_okq (⟨"ShareCoderModel", "reads", "()Z"⟩, 35) := ⟨⟨by decide +kernel, by decide +kernel⟩, List.mem_of_getElem? (i := 744) (by decide +kernel), List.mem_of_getElem? (i := 1012) (by decide +kernel), List.mem_of_getElem? (i := 1013) (by decide +kernel)⟩
theorem lw_p53 : lw_okq (⟨"ShareCoderModel", "number", "(I)J"⟩, 35) := ⟨⟨by decide +kernel, by decide +kernel⟩, List.mem_of_getElem? (i := 744) (by decide +kernel), List.mem_of_getElem? (i := 1016) (by decide +kernel), List.mem_of_getElem? (i := 1017) (by decide +kernel)⟩
theorem lw_p54 : lw_okq (⟨"ShareCoderModel", "fails", "(II)Z"⟩, 35) := ⟨⟨by decide +kernel, by decide +kernel⟩, List.mem_of_getElem? (i := 744) (by decide +kernel), List.mem_of_getElem? (i := 1020) (by decide +kernel), List.mem_of_getElem? (i := 1021) (by decide +kernel)⟩
theorem lw_p55 : lw_okq (⟨"ShareCoderModel", "readsShares", "()Z"⟩, 35) := ⟨⟨by decide +kernel, by decide +kernel⟩, List.mem_of_getElem? (i := 744) (by decide +kernel), List.mem_of_getElem? (i := 1027) (by decide +kernel), List.mem_of_getElem? (i := 1028) (by decide +kernel)⟩
theorem lw_p56 : lw_okq (⟨"ShareCoderModel", "readsMessage", "()Z"⟩, 35) := ⟨⟨by decide +kernel, by decide +kernel⟩, List.mem_of_getElem? (i := 744) (by decide +kernel), List.mem_of_getElem? (i := 1034) (by decide +kernel), List.mem_of_getElem? (i := 1035) (by decide +kernel)⟩
def lw_privs_4 : List (MethodName × Nat) := [(⟨"ShareCoderModel", "firstOf", "(II)I"⟩, 35), (⟨"ShareCoderModel", "meets", "(I)V"⟩, 35), (⟨"ShareCoderModel", "put", "(II)V"⟩, 35), (⟨"ShareCoderModel", "tells", "()V"⟩, 35), (⟨"ShareCoderModel", "reads", "()Z"⟩, 35), (⟨"ShareCoderModel", "number", "(I)J"⟩, 35), (⟨"ShareCoderModel", "fails", "(II)Z"⟩, 35), (⟨"ShareCoderModel", "readsShares", "()Z"⟩, 35), (⟨"ShareCoderModel", "readsMessage", "()Z"⟩, 35)]
theorem lw_r4 : ∀ q ∈ lw_privs_4, lw_okq q := List.forall_mem_cons.mpr ⟨lw_p48, List.forall_mem_cons.mpr ⟨lw_p49, List.forall_mem_cons.mpr ⟨lw_p50, List.forall_mem_cons.mpr ⟨lw_p51, List.forall_mem_cons.mpr ⟨lw_p52, List.forall_mem_cons.mpr ⟨lw_p53, List.forall_mem_cons.mpr ⟨lw_p54, List.forall_mem_cons.mpr ⟨lw_p55, List.forall_mem_cons.mpr ⟨lw_p56, fun _ h => absurd h List.not_mem_nil⟩⟩⟩⟩⟩⟩⟩⟩⟩
def lw_privs : List (MethodName × Nat) := lw_privs_1 ++ (lw_privs_2 ++ (lw_privs_3 ++ (lw_privs_4)))
def lw_tbl : List Cond := k2_sels lw_privs ++ tables_1
theorem lw_privs_ok : ∀ q ∈ lw_privs, lw_okq q := by
  show ∀ q ∈ lw_privs_1 ++ (lw_privs_2 ++ (lw_privs_3 ++ (lw_privs_4))), lw_okq q
  exact List.forall_mem_append.mpr ⟨lw_r1, List.forall_mem_append.mpr ⟨lw_r2, List.forall_mem_append.mpr ⟨lw_r3, lw_r4⟩⟩⟩
-- ===== end of PART A; then your names; then what follows =====
end
section
def RX0 : String := "ShareCoder$Coder"
def TX0 : u_T := fun k => match k with
  | 0 => ("ShareCoder$Coder", "spread", "LShareCoder$Spread;", true)
  | 1 => ("ShareCoder$Coder", "kind", "I", false)
  | 2 => ("ShareCoder$Coder", "log", "I", false)
  | 3 => ("ShareCoder$Coder", "least", "I", false)
  | 4 => ("ShareCoder$Coder", "width", "I", false)
  | 5 => ("ShareCoder$Coder", "state", "I", false)
  | 6 => ("ShareCoder$Coder", "units", "I", false)
  | _ => ("ShareCoder$Coder", "number", "I", false)
def tyX0 : Nat → FieldType := fun k => match k with
  | 0 => .object "ShareCoder$Spread"
  | 1 => .int
  | 2 => .int
  | 3 => .int
  | 4 => .int
  | 5 => .int
  | 6 => .int
  | _ => .int
abbrev wsX00 : List Cond := u_ws RX0 TX0 8
theorem nmX0 : ∀ a, a < 8 → ∀ b, b < 8 → a ≠ b → (TX0 a).2.1 ≠ (TX0 b).2.1 := by decide +kernel
theorem tyX0_ok : ∀ k, k < 8 → parseFieldDescriptor (TX0 k).2.2.1 = some (tyX0 k) := by decide +kernel
abbrev cX0_init : ByteArray := prog_2_method_1_code
def yX0_init : MethodName := ⟨RX0, "<init>", "()V"⟩
abbrev cX0_prepare : ByteArray := prog_2_method_2_code
def yX0_prepare : MethodName := ⟨RX0, "prepare", "(LShareCoder$Table;II)V"⟩
abbrev cX0_isByTable : ByteArray := prog_2_method_3_code
def yX0_isByTable : MethodName := ⟨RX0, "isByTable", "()Z"⟩
abbrev cX0_stateCount : ByteArray := prog_2_method_4_code
def yX0_stateCount : MethodName := ⟨RX0, "stateCount", "()I"⟩
abbrev cX0_stateBytes : ByteArray := prog_2_method_5_code
def yX0_stateBytes : MethodName := ⟨RX0, "stateBytes", "()I"⟩
abbrev cX0_stateBase : ByteArray := prog_2_method_6_code
def yX0_stateBase : MethodName := ⟨RX0, "stateBase", "()I"⟩
abbrev cX0_turnOf : ByteArray := prog_2_method_7_code
def yX0_turnOf : MethodName := ⟨RX0, "turnOf", "(I)I"⟩
abbrev cX0_isState : ByteArray := prog_2_method_8_code
def yX0_isState : MethodName := ⟨RX0, "isState", "(I)Z"⟩
abbrev cX0_advance : ByteArray := prog_2_method_9_code
def yX0_advance : MethodName := ⟨RX0, "advance", "(II)V"⟩
abbrev cX0_divided : ByteArray := prog_2_method_10_code
def yX0_divided : MethodName := ⟨RX0, "divided", "(II)I"⟩
abbrev cX0_symbolOf : ByteArray := prog_2_method_11_code
def yX0_symbolOf : MethodName := ⟨RX0, "symbolOf", "(I)I"⟩
abbrev cX0_behindSymbol : ByteArray := prog_2_method_12_code
def yX0_behindSymbol : MethodName := ⟨RX0, "behindSymbol", "(I)I"⟩
abbrev cX0_placeOfState : ByteArray := prog_2_method_13_code
def yX0_placeOfState : MethodName := ⟨RX0, "placeOfState", "(I)I"⟩
def RX1 : String := "ShareCoder$Opener"
def TX1 : u_T := fun k => match k with
  | 0 => ("ShareCoder$Opener", "coder", "LShareCoder$Coder;", true)
  | 1 => ("ShareCoder$Opener", "tally", "LShareCoder$Tally;", true)
  | 2 => ("ShareCoder$Opener", "states", "[I", true)
  | 3 => ("ShareCoder$Opener", "message", "[B", true)
  | 4 => ("ShareCoder$Opener", "table", "LShareCoder$Table;", false)
  | 5 => ("ShareCoder$Opener", "packet", "LShareCoder$Row;", false)
  | 6 => ("ShareCoder$Opener", "faultNumber", "I", false)
  | 7 => ("ShareCoder$Opener", "faultPlace", "I", false)
  | 8 => ("ShareCoder$Opener", "at", "I", false)
  | 9 => ("ShareCoder$Opener", "kind", "I", false)
  | 10 => ("ShareCoder$Opener", "way", "I", false)
  | 11 => ("ShareCoder$Opener", "length", "I", false)
  | 12 => ("ShareCoder$Opener", "statesAt", "I", false)
  | 13 => ("ShareCoder$Opener", "payloadAt", "I", false)
  | 14 => ("ShareCoder$Opener", "payloadBytes", "I", false)
  | _ => ("ShareCoder$Opener", "bitsRead", "I", false)
def tyX1 : Nat → FieldType := fun k => match k with
  | 0 => .object "ShareCoder$Coder"
  | 1 => .object "ShareCoder$Tally"
  | 2 => .array .int
  | 3 => .array .byte
  | 4 => .object "ShareCoder$Table"
  | 5 => .object "ShareCoder$Row"
  | 6 => .int
  | 7 => .int
  | 8 => .int
  | 9 => .int
  | 10 => .int
  | 11 => .int
  | 12 => .int
  | 13 => .int
  | 14 => .int
  | _ => .int
abbrev wsX10 : List Cond := u_ws RX1 TX1 16
theorem nmX1 : ∀ a, a < 16 → ∀ b, b < 16 → a ≠ b → (TX1 a).2.1 ≠ (TX1 b).2.1 := by decide +kernel
theorem tyX1_ok : ∀ k, k < 16 → parseFieldDescriptor (TX1 k).2.2.1 = some (tyX1 k) := by decide +kernel
abbrev cX1_init : ByteArray := prog_3_method_1_code
def yX1_init : MethodName := ⟨RX1, "<init>", "()V"⟩
abbrev cX1_readPacket : ByteArray := prog_3_method_2_code
def yX1_readPacket : MethodName := ⟨RX1, "readPacket", "(LShareCoder$Row;)Z"⟩
abbrev cX1_exchangeTable : ByteArray := prog_3_method_3_code
def yX1_exchangeTable : MethodName := ⟨RX1, "exchangeTable", "(LShareCoder$Table;)LShareCoder$Table;"⟩
abbrev cX1_writeMessage : ByteArray := prog_3_method_4_code
def yX1_writeMessage : MethodName := ⟨RX1, "writeMessage", "(LShareCoder$Row;)V"⟩
abbrev cX1_isWhole : ByteArray := prog_3_method_5_code
def yX1_isWhole : MethodName := ⟨RX1, "isWhole", "()Z"⟩
abbrev cX1_demand : ByteArray := prog_3_method_6_code
def yX1_demand : MethodName := ⟨RX1, "demand", "(ZII)V"⟩
abbrev cX1_byteCount : ByteArray := prog_3_method_7_code
def yX1_byteCount : MethodName := ⟨RX1, "byteCount", "()I"⟩
abbrev cX1_byteAt : ByteArray := prog_3_method_8_code
def yX1_byteAt : MethodName := ⟨RX1, "byteAt", "(I)I"⟩
abbrev cX1_readNumber : ByteArray := prog_3_method_9_code
def yX1_readNumber : MethodName := ⟨RX1, "readNumber", "(I)I"⟩
abbrev cX1_readHead : ByteArray := prog_3_method_10_code
def yX1_readHead : MethodName := ⟨RX1, "readHead", "()V"⟩
abbrev cX1_readShares : ByteArray := prog_3_method_11_code
def yX1_readShares : MethodName := ⟨RX1, "readShares", "()V"⟩
abbrev cX1_readSizes : ByteArray := prog_3_method_12_code
def yX1_readSizes : MethodName := ⟨RX1, "readSizes", "()V"⟩
abbrev cX1_readStates : ByteArray := prog_3_method_13_code
def yX1_readStates : MethodName := ⟨RX1, "readStates", "()V"⟩
abbrev cX1_findPayload : ByteArray := prog_3_method_14_code
def yX1_findPayload : MethodName := ⟨RX1, "findPayload", "()V"⟩
abbrev cX1_readMessage : ByteArray := prog_3_method_15_code
def yX1_readMessage : MethodName := ⟨RX1, "readMessage", "()V"⟩
abbrev cX1_readSymbol : ByteArray := prog_3_method_16_code
def yX1_readSymbol : MethodName := ⟨RX1, "readSymbol", "(I)V"⟩
abbrev cX1_readUnit : ByteArray := prog_3_method_17_code
def yX1_readUnit : MethodName := ⟨RX1, "readUnit", "()I"⟩
abbrev cX1_checkPayloadEnd : ByteArray := prog_3_method_18_code
def yX1_checkPayloadEnd : MethodName := ⟨RX1, "checkPayloadEnd", "()V"⟩
abbrev cX1_checkStates : ByteArray := prog_3_method_19_code
def yX1_checkStates : MethodName := ⟨RX1, "checkStates", "()V"⟩
def RX2 : String := "ShareCoder$Packer"
def TX2 : u_T := fun k => match k with
  | 0 => ("ShareCoder$Packer", "tally", "LShareCoder$Tally;", true)
  | 1 => ("ShareCoder$Packer", "states", "[I", true)
  | _ => ("ShareCoder$Packer", "groups", "[I", true)
def tyX2 : Nat → FieldType := fun k => match k with
  | 0 => .object "ShareCoder$Tally"
  | 1 => .array .int
  | _ => .array .int
abbrev wsX20 : List Cond := u_ws RX2 TX2 3
theorem nmX2 : ∀ a, a < 3 → ∀ b, b < 3 → a ≠ b → (TX2 a).2.1 ≠ (TX2 b).2.1 := by decide +kernel
theorem tyX2_ok : ∀ k, k < 3 → parseFieldDescriptor (TX2 k).2.2.1 = some (tyX2 k) := by decide +kernel
abbrev cX2_init : ByteArray := prog_4_method_1_code
def yX2_init : MethodName := ⟨RX2, "<init>", "()V"⟩
abbrev cX2_codeMessage : ByteArray := prog_4_method_2_code
def yX2_codeMessage : MethodName := ⟨RX2, "codeMessage", "(LShareCoder$Coder;LShareCoder$Row;)V"⟩
abbrev cX2_writePacket : ByteArray := prog_4_method_3_code
def yX2_writePacket : MethodName := ⟨RX2, "writePacket", "(LShareCoder$Coder;LShareCoder$Table;LShareCoder$Row;)V"⟩
abbrev cX2_writePayload : ByteArray := prog_4_method_4_code
def yX2_writePayload : MethodName := ⟨RX2, "writePayload", "(ILShareCoder$Row;)V"⟩
def RX3 : String := "ShareCoder$Product"
def TX3 : u_T := fun k => match k with
  | 0 => ("ShareCoder$Product", "limbs", "[I", true)
  | 1 => ("ShareCoder$Product", "size", "I", false)
  | _ => ("ShareCoder$Product", "gathered", "I", false)
def tyX3 : Nat → FieldType := fun k => match k with
  | 0 => .array .int
  | 1 => .int
  | _ => .int
abbrev wsX30 : List Cond := u_ws RX3 TX3 3
theorem nmX3 : ∀ a, a < 3 → ∀ b, b < 3 → a ≠ b → (TX3 a).2.1 ≠ (TX3 b).2.1 := by decide +kernel
theorem tyX3_ok : ∀ k, k < 3 → parseFieldDescriptor (TX3 k).2.2.1 = some (tyX3 k) := by decide +kernel
abbrev cX3_init : ByteArray := prog_5_method_1_code
def yX3_init : MethodName := ⟨RX3, "<init>", "()V"⟩
abbrev cX3_clear : ByteArray := prog_5_method_2_code
def yX3_clear : MethodName := ⟨RX3, "clear", "()V"⟩
abbrev cX3_times : ByteArray := prog_5_method_3_code
def yX3_times : MethodName := ⟨RX3, "times", "(I)V"⟩
abbrev cX3_highestBit : ByteArray := prog_5_method_4_code
def yX3_highestBit : MethodName := ⟨RX3, "highestBit", "()I"⟩
abbrev cX3_multiply : ByteArray := prog_5_method_5_code
def yX3_multiply : MethodName := ⟨RX3, "multiply", "()V"⟩
def RX4 : String := "ShareCoder$Row"
def TX4 : u_T := fun k => match k with
  | 0 => ("ShareCoder$Row", "bytes", "[B", true)
  | _ => ("ShareCoder$Row", "count", "I", false)
def tyX4 : Nat → FieldType := fun k => match k with
  | 0 => .array .byte
  | _ => .int
abbrev wsX40 : List Cond := u_ws RX4 TX4 2
theorem nmX4 : ∀ a, a < 2 → ∀ b, b < 2 → a ≠ b → (TX4 a).2.1 ≠ (TX4 b).2.1 := by decide +kernel
theorem tyX4_ok : ∀ k, k < 2 → parseFieldDescriptor (TX4 k).2.2.1 = some (tyX4 k) := by decide +kernel
abbrev cX4_init : ByteArray := prog_6_method_1_code
def yX4_init : MethodName := ⟨RX4, "<init>", "()V"⟩
abbrev cX4_byteAt : ByteArray := prog_6_method_2_code
def yX4_byteAt : MethodName := ⟨RX4, "byteAt", "(I)I"⟩
abbrev cX4_add : ByteArray := prog_6_method_3_code
def yX4_add : MethodName := ⟨RX4, "add", "(I)V"⟩
abbrev cX4_addNumber : ByteArray := prog_6_method_4_code
def yX4_addNumber : MethodName := ⟨RX4, "addNumber", "(II)V"⟩
abbrev cX4_copy : ByteArray := prog_6_method_5_code
def yX4_copy : MethodName := ⟨RX4, "copy", "(LShareCoder$Row;)V"⟩
def RX5 : String := "ShareCoder$Spread"
def TX5 : u_T := fun k => match k with
  | 0 => ("ShareCoder$Spread", "cells", "[I", true)
  | 1 => ("ShareCoder$Spread", "placesBySymbol", "[I", true)
  | 2 => ("ShareCoder$Spread", "shares", "[I", true)
  | 3 => ("ShareCoder$Spread", "starts", "[I", true)
  | 4 => ("ShareCoder$Spread", "laid", "[I", true)
  | 5 => ("ShareCoder$Spread", "heap", "[I", true)
  | 6 => ("ShareCoder$Spread", "heaped", "I", false)
  | 7 => ("ShareCoder$Spread", "places", "I", false)
  | 8 => ("ShareCoder$Spread", "way", "I", false)
  | _ => ("ShareCoder$Spread", "of", "LShareCoder$Table;", false)
def tyX5 : Nat → FieldType := fun k => match k with
  | 0 => .array .int
  | 1 => .array .int
  | 2 => .array .int
  | 3 => .array .int
  | 4 => .array .int
  | 5 => .array .int
  | 6 => .int
  | 7 => .int
  | 8 => .int
  | _ => .object "ShareCoder$Table"
abbrev wsX50 : List Cond := u_ws RX5 TX5 10
theorem nmX5 : ∀ a, a < 10 → ∀ b, b < 10 → a ≠ b → (TX5 a).2.1 ≠ (TX5 b).2.1 := by decide +kernel
theorem tyX5_ok : ∀ k, k < 10 → parseFieldDescriptor (TX5 k).2.2.1 = some (tyX5 k) := by decide +kernel
abbrev cX5_init : ByteArray := prog_7_method_1_code
def yX5_init : MethodName := ⟨RX5, "<init>", "()V"⟩
abbrev cX5_forget : ByteArray := prog_7_method_2_code
def yX5_forget : MethodName := ⟨RX5, "forget", "()V"⟩
abbrev cX5_shareOf : ByteArray := prog_7_method_3_code
def yX5_shareOf : MethodName := ⟨RX5, "shareOf", "(I)I"⟩
abbrev cX5_startOf : ByteArray := prog_7_method_4_code
def yX5_startOf : MethodName := ⟨RX5, "startOf", "(I)I"⟩
abbrev cX5_symbolAt : ByteArray := prog_7_method_5_code
def yX5_symbolAt : MethodName := ⟨RX5, "symbolAt", "(I)I"⟩
abbrev cX5_rankAt : ByteArray := prog_7_method_6_code
def yX5_rankAt : MethodName := ⟨RX5, "rankAt", "(I)I"⟩
abbrev cX5_placeOf : ByteArray := prog_7_method_7_code
def yX5_placeOf : MethodName := ⟨RX5, "placeOf", "(II)I"⟩
abbrev cX5_lay : ByteArray := prog_7_method_8_code
def yX5_lay : MethodName := ⟨RX5, "lay", "(LShareCoder$Table;I)V"⟩
abbrev cX5_takeShares : ByteArray := prog_7_method_9_code
def yX5_takeShares : MethodName := ⟨RX5, "takeShares", "(LShareCoder$Table;)V"⟩
abbrev cX5_layByStep : ByteArray := prog_7_method_10_code
def yX5_layByStep : MethodName := ⟨RX5, "layByStep", "(I)V"⟩
abbrev cX5_layEven : ByteArray := prog_7_method_11_code
def yX5_layEven : MethodName := ⟨RX5, "layEven", "()V"⟩
abbrev cX5_sink : ByteArray := prog_7_method_12_code
def yX5_sink : MethodName := ⟨RX5, "sink", "(I)V"⟩
abbrev cX5_isAhead : ByteArray := prog_7_method_13_code
def yX5_isAhead : MethodName := ⟨RX5, "isAhead", "(II)Z"⟩
abbrev cX5_giveRanks : ByteArray := prog_7_method_14_code
def yX5_giveRanks : MethodName := ⟨RX5, "giveRanks", "()V"⟩
def RX6 : String := "ShareCoder$Table"
def TX6 : u_T := fun k => match k with
  | 0 => ("ShareCoder$Table", "shares", "[I", true)
  | _ => ("ShareCoder$Table", "log", "I", false)
def tyX6 : Nat → FieldType := fun k => match k with
  | 0 => .array .int
  | _ => .int
abbrev wsX60 : List Cond := u_ws RX6 TX6 2
theorem nmX6 : ∀ a, a < 2 → ∀ b, b < 2 → a ≠ b → (TX6 a).2.1 ≠ (TX6 b).2.1 := by decide +kernel
theorem tyX6_ok : ∀ k, k < 2 → parseFieldDescriptor (TX6 k).2.2.1 = some (tyX6 k) := by decide +kernel
abbrev cX6_init : ByteArray := prog_8_method_1_code
def yX6_init : MethodName := ⟨RX6, "<init>", "()V"⟩
abbrev cX6_isThere : ByteArray := prog_8_method_2_code
def yX6_isThere : MethodName := ⟨RX6, "isThere", "()Z"⟩
abbrev cX6_places : ByteArray := prog_8_method_3_code
def yX6_places : MethodName := ⟨RX6, "places", "()I"⟩
abbrev cX6_shareOf : ByteArray := prog_8_method_4_code
def yX6_shareOf : MethodName := ⟨RX6, "shareOf", "(I)I"⟩
abbrev cX6_startOf : ByteArray := prog_8_method_5_code
def yX6_startOf : MethodName := ⟨RX6, "startOf", "(I)I"⟩
abbrev cX6_different : ByteArray := prog_8_method_6_code
def yX6_different : MethodName := ⟨RX6, "different", "()I"⟩
abbrev cX6_clear : ByteArray := prog_8_method_7_code
def yX6_clear : MethodName := ⟨RX6, "clear", "(I)V"⟩
abbrev cX6_change : ByteArray := prog_8_method_8_code
def yX6_change : MethodName := ⟨RX6, "change", "(II)V"⟩
abbrev cX6_fit : ByteArray := prog_8_method_9_code
def yX6_fit : MethodName := ⟨RX6, "fit", "([III)V"⟩
abbrev cX6_lack : ByteArray := prog_8_method_10_code
def yX6_lack : MethodName := ⟨RX6, "lack", "(I[II)I"⟩
abbrev cX6_mostLacking : ByteArray := prog_8_method_11_code
def yX6_mostLacking : MethodName := ⟨RX6, "mostLacking", "([II)I"⟩
abbrev cX6_leastLacking : ByteArray := prog_8_method_12_code
def yX6_leastLacking : MethodName := ⟨RX6, "leastLacking", "([II)I"⟩
def RX7 : String := "ShareCoder$Tally"
def TX7 : u_T := fun k => match k with
  | _ => ("ShareCoder$Tally", "figures", "[I", true)
def tyX7 : Nat → FieldType := fun k => match k with
  | _ => .array .int
abbrev wsX70 : List Cond := u_ws RX7 TX7 1
theorem nmX7 : ∀ a, a < 1 → ∀ b, b < 1 → a ≠ b → (TX7 a).2.1 ≠ (TX7 b).2.1 := by decide +kernel
theorem tyX7_ok : ∀ k, k < 1 → parseFieldDescriptor (TX7 k).2.2.1 = some (tyX7 k) := by decide +kernel
abbrev cX7_init : ByteArray := prog_9_method_1_code
def yX7_init : MethodName := ⟨RX7, "<init>", "()V"⟩
abbrev cX7_figure : ByteArray := prog_9_method_2_code
def yX7_figure : MethodName := ⟨RX7, "figure", "(I)I"⟩
abbrev cX7_begin : ByteArray := prog_9_method_3_code
def yX7_begin : MethodName := ⟨RX7, "begin", "(I)V"⟩
abbrev cX7_meet : ByteArray := prog_9_method_4_code
def yX7_meet : MethodName := ⟨RX7, "meet", "(I)V"⟩
abbrev cX7_addSymbol : ByteArray := prog_9_method_5_code
def yX7_addSymbol : MethodName := ⟨RX7, "addSymbol", "(II)V"⟩
abbrev cX7_setBytes : ByteArray := prog_9_method_6_code
def yX7_setBytes : MethodName := ⟨RX7, "setBytes", "(I)V"⟩
abbrev cX7_copy : ByteArray := prog_9_method_7_code
def yX7_copy : MethodName := ⟨RX7, "copy", "(LShareCoder$Tally;)V"⟩
def RX8 : String := "ShareCoder"
def TX8 : u_T := fun k => match k with
  | 0 => ("ShareCoder", "tape", "LShareCoder$Row;", true)
  | 1 => ("ShareCoder", "output", "LShareCoder$Row;", true)
  | 2 => ("ShareCoder", "tables", "[LShareCoder$Table;", true)
  | 3 => ("ShareCoder", "counts", "[I", true)
  | 4 => ("ShareCoder", "opener", "LShareCoder$Opener;", true)
  | 5 => ("ShareCoder", "coder", "LShareCoder$Coder;", true)
  | 6 => ("ShareCoder", "packer", "LShareCoder$Packer;", true)
  | 7 => ("ShareCoder", "tally", "LShareCoder$Tally;", true)
  | 8 => ("ShareCoder", "product", "LShareCoder$Product;", true)
  | 9 => ("ShareCoder", "goneUnits", "I", false)
  | _ => ("ShareCoder", "goneNumber", "I", false)
def tyX8 : Nat → FieldType := fun k => match k with
  | 0 => .object "ShareCoder$Row"
  | 1 => .object "ShareCoder$Row"
  | 2 => .array (.object "ShareCoder$Table")
  | 3 => .array .int
  | 4 => .object "ShareCoder$Opener"
  | 5 => .object "ShareCoder$Coder"
  | 6 => .object "ShareCoder$Packer"
  | 7 => .object "ShareCoder$Tally"
  | 8 => .object "ShareCoder$Product"
  | 9 => .int
  | _ => .int
abbrev wsX80 : List Cond := u_ws RX8 TX8 11
theorem nmX8 : ∀ a, a < 11 → ∀ b, b < 11 → a ≠ b → (TX8 a).2.1 ≠ (TX8 b).2.1 := by decide +kernel
theorem tyX8_ok : ∀ k, k < 11 → parseFieldDescriptor (TX8 k).2.2.1 = some (tyX8 k) := by decide +kernel
abbrev cX8_init : ByteArray := prog_1_method_1_code
def yX8_init : MethodName := ⟨RX8, "<init>", "()V"⟩
abbrev cX8_feed : ByteArray := prog_1_method_2_code
def yX8_feed : MethodName := ⟨RX8, "feed", "(IIIII)I"⟩
abbrev cX8_end : ByteArray := prog_1_method_3_code
def yX8_end : MethodName := ⟨RX8, "end", "(I)I"⟩
abbrev cX8_learn : ByteArray := prog_1_method_4_code
def yX8_learn : MethodName := ⟨RX8, "learn", "(II)I"⟩
abbrev cX8_log : ByteArray := prog_1_method_5_code
def yX8_log : MethodName := ⟨RX8, "log", "(I)I"⟩
abbrev cX8_share : ByteArray := prog_1_method_6_code
def yX8_share : MethodName := ⟨RX8, "share", "(II)I"⟩
abbrev cX8_start : ByteArray := prog_1_method_7_code
def yX8_start : MethodName := ⟨RX8, "start", "(II)I"⟩
abbrev cX8_place : ByteArray := prog_1_method_8_code
def yX8_place : MethodName := ⟨RX8, "place", "(III)I"⟩
abbrev cX8_rank : ByteArray := prog_1_method_9_code
def yX8_rank : MethodName := ⟨RX8, "rank", "(III)I"⟩
abbrev cX8_pack : ByteArray := prog_1_method_10_code
def yX8_pack : MethodName := ⟨RX8, "pack", "(III)I"⟩
abbrev cX8_unpack : ByteArray := prog_1_method_11_code
def yX8_unpack : MethodName := ⟨RX8, "unpack", "(I)I"⟩
abbrev cX8_fault : ByteArray := prog_1_method_12_code
def yX8_fault : MethodName := ⟨RX8, "fault", "(I)I"⟩
abbrev cX8_written : ByteArray := prog_1_method_13_code
def yX8_written : MethodName := ⟨RX8, "written", "(I)I"⟩
abbrev cX8_take : ByteArray := prog_1_method_14_code
def yX8_take : MethodName := ⟨RX8, "take", "()I"⟩
abbrev cX8_ideal : ByteArray := prog_1_method_15_code
def yX8_ideal : MethodName := ⟨RX8, "ideal", "(I)I"⟩
abbrev cX8_code : ByteArray := prog_1_method_16_code
def yX8_code : MethodName := ⟨RX8, "code", "(IIIII)I"⟩
abbrev cX8_gone : ByteArray := prog_1_method_17_code
def yX8_gone : MethodName := ⟨RX8, "gone", "(I)I"⟩
abbrev cX8_symbol : ByteArray := prog_1_method_18_code
def yX8_symbol : MethodName := ⟨RX8, "symbol", "(IIII)I"⟩
abbrev cX8_left : ByteArray := prog_1_method_19_code
def yX8_left : MethodName := ⟨RX8, "left", "(IIII)I"⟩
abbrev cX8_look : ByteArray := prog_1_method_20_code
def yX8_look : MethodName := ⟨RX8, "look", "(I)I"⟩
abbrev cX8_isTableNumber : ByteArray := prog_1_method_21_code
def yX8_isTableNumber : MethodName := ⟨RX8, "isTableNumber", "(I)Z"⟩
abbrev cX8_isLog : ByteArray := prog_1_method_22_code
def yX8_isLog : MethodName := ⟨RX8, "isLog", "(I)Z"⟩
abbrev cX8_isSymbol : ByteArray := prog_1_method_23_code
def yX8_isSymbol : MethodName := ⟨RX8, "isSymbol", "(I)Z"⟩
abbrev cX8_isSpread : ByteArray := prog_1_method_24_code
def yX8_isSpread : MethodName := ⟨RX8, "isSpread", "(I)Z"⟩
abbrev cX8_isCoding : ByteArray := prog_1_method_25_code
def yX8_isCoding : MethodName := ⟨RX8, "isCoding", "(II)Z"⟩
abbrev cX8_tableOrNull : ByteArray := prog_1_method_26_code
def yX8_tableOrNull : MethodName := ⟨RX8, "tableOrNull", "(I)LShareCoder$Table;"⟩
abbrev cX8_countTape : ByteArray := prog_1_method_27_code
def yX8_countTape : MethodName := ⟨RX8, "countTape", "()I"⟩
abbrev cX8_refusalOfTape : ByteArray := prog_1_method_28_code
def yX8_refusalOfTape : MethodName := ⟨RX8, "refusalOfTape", "(LShareCoder$Table;)I"⟩
abbrev cX8_layForPlace : ByteArray := prog_1_method_29_code
def yX8_layForPlace : MethodName := ⟨RX8, "layForPlace", "(III)Z"⟩
abbrev cX8_prepareForState : ByteArray := prog_1_method_30_code
def yX8_prepareForState : MethodName := ⟨RX8, "prepareForState", "(IIII)Z"⟩
def RX9 : String := "ShareCoderModel"
def TX9 : u_T := fun k => match k with
  | 0 => ("ShareCoderModel", "tape", "[I", true)
  | 1 => ("ShareCoderModel", "tapeSize", "I", false)
  | 2 => ("ShareCoderModel", "out", "[I", true)
  | 3 => ("ShareCoderModel", "outSize", "I", false)
  | 4 => ("ShareCoderModel", "logs", "[I", true)
  | 5 => ("ShareCoderModel", "shares", "[I", true)
  | 6 => ("ShareCoderModel", "starts", "[I", true)
  | 7 => ("ShareCoderModel", "laid", "[Z", true)
  | 8 => ("ShareCoderModel", "symbols", "[I", true)
  | 9 => ("ShareCoderModel", "ranks", "[I", true)
  | 10 => ("ShareCoderModel", "placeOf", "[I", true)
  | 11 => ("ShareCoderModel", "counts", "[I", true)
  | 12 => ("ShareCoderModel", "heap", "[I", true)
  | 13 => ("ShareCoderModel", "heapSize", "I", false)
  | 14 => ("ShareCoderModel", "taken", "[I", true)
  | 15 => ("ShareCoderModel", "looks", "[I", true)
  | 16 => ("ShareCoderModel", "faultKind", "I", false)
  | 17 => ("ShareCoderModel", "faultPlace", "I", false)
  | 18 => ("ShareCoderModel", "goneMany", "I", false)
  | 19 => ("ShareCoderModel", "goneNumber", "I", false)
  | 20 => ("ShareCoderModel", "stepMany", "I", false)
  | 21 => ("ShareCoderModel", "stepNumber", "I", false)
  | 22 => ("ShareCoderModel", "stepState", "I", false)
  | 23 => ("ShareCoderModel", "units", "[I", true)
  | 24 => ("ShareCoderModel", "state", "[I", true)
  | 25 => ("ShareCoderModel", "met", "[I", true)
  | 26 => ("ShareCoderModel", "product", "[I", true)
  | 27 => ("ShareCoderModel", "at", "I", false)
  | 28 => ("ShareCoderModel", "kindRead", "I", false)
  | 29 => ("ShareCoderModel", "spreadRead", "I", false)
  | 30 => ("ShareCoderModel", "lengthRead", "I", false)
  | 31 => ("ShareCoderModel", "payloadFrom", "I", false)
  | 32 => ("ShareCoderModel", "payloadSize", "I", false)
  | 33 => ("ShareCoderModel", "stateFrom", "I", false)
  | _ => ("ShareCoderModel", "message", "[I", true)
def tyX9 : Nat → FieldType := fun k => match k with
  | 0 => .array .int
  | 1 => .int
  | 2 => .array .int
  | 3 => .int
  | 4 => .array .int
  | 5 => .array .int
  | 6 => .array .int
  | 7 => .array .boolean
  | 8 => .array .int
  | 9 => .array .int
  | 10 => .array .int
  | 11 => .array .int
  | 12 => .array .int
  | 13 => .int
  | 14 => .array .int
  | 15 => .array .int
  | 16 => .int
  | 17 => .int
  | 18 => .int
  | 19 => .int
  | 20 => .int
  | 21 => .int
  | 22 => .int
  | 23 => .array .int
  | 24 => .array .int
  | 25 => .array .int
  | 26 => .array .int
  | 27 => .int
  | 28 => .int
  | 29 => .int
  | 30 => .int
  | 31 => .int
  | 32 => .int
  | 33 => .int
  | _ => .array .int
abbrev wsX90 : List Cond := u_ws RX9 TX9 35
theorem nmX9 : ∀ a, a < 35 → ∀ b, b < 35 → a ≠ b → (TX9 a).2.1 ≠ (TX9 b).2.1 := by decide +kernel
theorem tyX9_ok : ∀ k, k < 35 → parseFieldDescriptor (TX9 k).2.2.1 = some (tyX9 k) := by decide +kernel
abbrev cX9_init : ByteArray := prog_11_method_1_code
def yX9_init : MethodName := ⟨RX9, "<init>", "()V"⟩
abbrev cX9_feed : ByteArray := prog_11_method_2_code
def yX9_feed : MethodName := ⟨RX9, "feed", "(IIIII)I"⟩
abbrev cX9_end : ByteArray := prog_11_method_3_code
def yX9_end : MethodName := ⟨RX9, "end", "(I)I"⟩
abbrev cX9_take : ByteArray := prog_11_method_4_code
def yX9_take : MethodName := ⟨RX9, "take", "()I"⟩
abbrev cX9_written : ByteArray := prog_11_method_5_code
def yX9_written : MethodName := ⟨RX9, "written", "(I)I"⟩
abbrev cX9_isTable : ByteArray := prog_11_method_6_code
def yX9_isTable : MethodName := ⟨RX9, "isTable", "(I)Z"⟩
abbrev cX9_lack : ByteArray := prog_11_method_7_code
def yX9_lack : MethodName := ⟨RX9, "lack", "(III)I"⟩
abbrev cX9_learn : ByteArray := prog_11_method_8_code
def yX9_learn : MethodName := ⟨RX9, "learn", "(II)I"⟩
abbrev cX9_begin : ByteArray := prog_11_method_9_code
def yX9_begin : MethodName := ⟨RX9, "begin", "(I)V"⟩
abbrev cX9_log : ByteArray := prog_11_method_10_code
def yX9_log : MethodName := ⟨RX9, "log", "(I)I"⟩
abbrev cX9_share : ByteArray := prog_11_method_11_code
def yX9_share : MethodName := ⟨RX9, "share", "(II)I"⟩
abbrev cX9_start : ByteArray := prog_11_method_12_code
def yX9_start : MethodName := ⟨RX9, "start", "(II)I"⟩
abbrev cX9_lay : ByteArray := prog_11_method_13_code
def yX9_lay : MethodName := ⟨RX9, "lay", "(II)V"⟩
abbrev cX9_isAhead : ByteArray := prog_11_method_14_code
def yX9_isAhead : MethodName := ⟨RX9, "isAhead", "(III)Z"⟩
abbrev cX9_sink : ByteArray := prog_11_method_15_code
def yX9_sink : MethodName := ⟨RX9, "sink", "(II)V"⟩
abbrev cX9_even : ByteArray := prog_11_method_16_code
def yX9_even : MethodName := ⟨RX9, "even", "(III)V"⟩
abbrev cX9_isPlace : ByteArray := prog_11_method_17_code
def yX9_isPlace : MethodName := ⟨RX9, "isPlace", "(III)Z"⟩
abbrev cX9_place : ByteArray := prog_11_method_18_code
def yX9_place : MethodName := ⟨RX9, "place", "(III)I"⟩
abbrev cX9_rank : ByteArray := prog_11_method_19_code
def yX9_rank : MethodName := ⟨RX9, "rank", "(III)I"⟩
abbrev cX9_isWay : ByteArray := prog_11_method_20_code
def yX9_isWay : MethodName := ⟨RX9, "isWay", "(II)Z"⟩
abbrev cX9_step : ByteArray := prog_11_method_21_code
def yX9_step : MethodName := ⟨RX9, "step", "(IIIII)V"⟩
abbrev cX9_told : ByteArray := prog_11_method_22_code
def yX9_told : MethodName := ⟨RX9, "told", "(IIII)I"⟩
abbrev cX9_behind : ByteArray := prog_11_method_23_code
def yX9_behind : MethodName := ⟨RX9, "behind", "(IIIII)I"⟩
abbrev cX9_isState : ByteArray := prog_11_method_24_code
def yX9_isState : MethodName := ⟨RX9, "isState", "(III)Z"⟩
abbrev cX9_isAsked : ByteArray := prog_11_method_25_code
def yX9_isAsked : MethodName := ⟨RX9, "isAsked", "(IIII)Z"⟩
abbrev cX9_code : ByteArray := prog_11_method_26_code
def yX9_code : MethodName := ⟨RX9, "code", "(IIIII)I"⟩
abbrev cX9_gone : ByteArray := prog_11_method_27_code
def yX9_gone : MethodName := ⟨RX9, "gone", "(I)I"⟩
abbrev cX9_symbol : ByteArray := prog_11_method_28_code
def yX9_symbol : MethodName := ⟨RX9, "symbol", "(IIII)I"⟩
abbrev cX9_left : ByteArray := prog_11_method_29_code
def yX9_left : MethodName := ⟨RX9, "left", "(IIII)I"⟩
abbrev cX9_refusal : ByteArray := prog_11_method_30_code
def yX9_refusal : MethodName := ⟨RX9, "refusal", "(I)I"⟩
abbrev cX9_meets : ByteArray := prog_11_method_31_code
def yX9_meets : MethodName := ⟨RX9, "meets", "(I)V"⟩
abbrev cX9_meetsNone : ByteArray := prog_11_method_32_code
def yX9_meetsNone : MethodName := ⟨RX9, "meetsNone", "()V"⟩
abbrev cX9_tells : ByteArray := prog_11_method_33_code
def yX9_tells : MethodName := ⟨RX9, "tells", "()V"⟩
abbrev cX9_firstOf : ByteArray := prog_11_method_34_code
def yX9_firstOf : MethodName := ⟨RX9, "firstOf", "(II)I"⟩
abbrev cX9_pack : ByteArray := prog_11_method_35_code
def yX9_pack : MethodName := ⟨RX9, "pack", "(III)I"⟩
abbrev cX9_put : ByteArray := prog_11_method_36_code
def yX9_put : MethodName := ⟨RX9, "put", "(II)V"⟩
abbrev cX9_ideal : ByteArray := prog_11_method_37_code
def yX9_ideal : MethodName := ⟨RX9, "ideal", "(I)I"⟩
abbrev cX9_look : ByteArray := prog_11_method_38_code
def yX9_look : MethodName := ⟨RX9, "look", "(I)I"⟩
abbrev cX9_fails : ByteArray := prog_11_method_39_code
def yX9_fails : MethodName := ⟨RX9, "fails", "(II)Z"⟩
abbrev cX9_number : ByteArray := prog_11_method_40_code
def yX9_number : MethodName := ⟨RX9, "number", "(I)J"⟩
abbrev cX9_reads : ByteArray := prog_11_method_41_code
def yX9_reads : MethodName := ⟨RX9, "reads", "()Z"⟩
abbrev cX9_readsShares : ByteArray := prog_11_method_42_code
def yX9_readsShares : MethodName := ⟨RX9, "readsShares", "()Z"⟩
abbrev cX9_readsMessage : ByteArray := prog_11_method_43_code
def yX9_readsMessage : MethodName := ⟨RX9, "readsMessage", "()Z"⟩
abbrev cX9_unpack : ByteArray := prog_11_method_44_code
def yX9_unpack : MethodName := ⟨RX9, "unpack", "(I)I"⟩
abbrev cX9_fault : ByteArray := prog_11_method_45_code
def yX9_fault : MethodName := ⟨RX9, "fault", "(I)I"⟩
def RJ6 : String := "java/lang/Integer"
abbrev cJ6_numberOfLeadingZeros_0f7a4 : ByteArray := prog_12_method_47_code
def yJ6_numberOfLeadingZeros_0f7a4 : MethodName := ⟨RJ6, "numberOfLeadingZeros", "(I)I"⟩
def RJ9 : String := "java/lang/Math"
abbrev cJ9_max_7cf53 : ByteArray := prog_13_method_65_code
def yJ9_max_7cf53 : MethodName := ⟨RJ9, "max", "(II)I"⟩
abbrev cJ9_min_7cf53 : ByteArray := prog_13_method_69_code
def yJ9_min_7cf53 : MethodName := ⟨RJ9, "min", "(II)I"⟩
def RJ10 : String := "java/lang/System"
def RJ7 : String := "java/util/Arrays"
abbrev cJ7_fill_53178 : ByteArray := prog_15_method_103_code
def yJ7_fill_53178 : MethodName := ⟨RJ7, "fill", "([II)V"⟩
def RL : String := "ShareCoderLaw"
abbrev cL_law : ByteArray := code
def yL_law : MethodName := ⟨RL, "law", "([I)Z"⟩
abbrev vwCl : List vw_C := [(RX0, TX0, 8), (RX1, TX1, 16), (RX2, TX2, 3), (RX3, TX3, 3), (RX4, TX4, 2), (RX5, TX5, 10), (RX6, TX6, 2), (RX7, TX7, 1), (RX8, TX8, 11), (RX9, TX9, 35)]
end
section
theorem dX0_init_0 : decode cX0_init 0 = .ok (.aload_n 0, 1) := by decide +kernel
theorem dX0_init_1 : decode cX0_init 1 = .ok (.invokespecial 3, 3) := by decide +kernel
theorem dX0_init_4 : decode cX0_init 4 = .ok (.aload_n 0, 1) := by decide +kernel
theorem dX0_init_5 : decode cX0_init 5 = .ok (.new 9, 3) := by decide +kernel
theorem dX0_init_8 : decode cX0_init 8 = .ok (.dup, 1) := by decide +kernel
theorem dX0_init_9 : decode cX0_init 9 = .ok (.invokespecial 11, 3) := by decide +kernel
theorem dX0_init_12 : decode cX0_init 12 = .ok (.putfield 12, 3) := by decide +kernel
theorem dX0_init_15 : decode cX0_init 15 = .ok (.aload_n 0, 1) := by decide +kernel
theorem dX0_init_16 : decode cX0_init 16 = .ok (.iconst 0, 1) := by decide +kernel
theorem dX0_init_17 : decode cX0_init 17 = .ok (.putfield 18, 3) := by decide +kernel
theorem dX0_init_20 : decode cX0_init 20 = .ok (.aload_n 0, 1) := by decide +kernel
theorem dX0_init_21 : decode cX0_init 21 = .ok (.iconst 0, 1) := by decide +kernel
theorem dX0_init_22 : decode cX0_init 22 = .ok (.putfield 22, 3) := by decide +kernel
theorem dX0_init_25 : decode cX0_init 25 = .ok (.aload_n 0, 1) := by decide +kernel
theorem dX0_init_26 : decode cX0_init 26 = .ok (.iconst 1, 1) := by decide +kernel
theorem dX0_init_27 : decode cX0_init 27 = .ok (.putfield 25, 3) := by decide +kernel
theorem dX0_init_30 : decode cX0_init 30 = .ok (.aload_n 0, 1) := by decide +kernel
theorem dX0_init_31 : decode cX0_init 31 = .ok (.iconst 1, 1) := by decide +kernel
theorem dX0_init_32 : decode cX0_init 32 = .ok (.putfield 28, 3) := by decide +kernel
theorem dX0_init_35 : decode cX0_init 35 = .ok (.aload_n 0, 1) := by decide +kernel
theorem dX0_init_36 : decode cX0_init 36 = .ok (.iconst 0, 1) := by decide +kernel
theorem dX0_init_37 : decode cX0_init 37 = .ok (.putfield 31, 3) := by decide +kernel
theorem dX0_init_40 : decode cX0_init 40 = .ok (.aload_n 0, 1) := by decide +kernel
theorem dX0_init_41 : decode cX0_init 41 = .ok (.iconst 0, 1) := by decide +kernel
theorem dX0_init_42 : decode cX0_init 42 = .ok (.putfield 34, 3) := by decide +kernel
theorem dX0_init_45 : decode cX0_init 45 = .ok (.aload_n 0, 1) := by decide +kernel
theorem dX0_init_46 : decode cX0_init 46 = .ok (.iconst 0, 1) := by decide +kernel
theorem dX0_init_47 : decode cX0_init 47 = .ok (.putfield 37, 3) := by decide +kernel
theorem dX0_init_50 : decode cX0_init 50 = .ok (.return_, 1) := by decide +kernel
theorem dX0_prepare_0 : decode cX0_prepare 0 = .ok (.aload_n 0, 1) := by decide +kernel
theorem dX0_prepare_1 : decode cX0_prepare 1 = .ok (.getfield 12, 3) := by decide +kernel
theorem dX0_prepare_4 : decode cX0_prepare 4 = .ok (.aload_n 1, 1) := by decide +kernel
theorem dX0_prepare_5 : decode cX0_prepare 5 = .ok (.iload_n 3, 1) := by decide +kernel
theorem dX0_prepare_6 : decode cX0_prepare 6 = .ok (.invokevirtual 40, 3) := by decide +kernel
theorem dX0_prepare_9 : decode cX0_prepare 9 = .ok (.aload_n 0, 1) := by decide +kernel
theorem dX0_prepare_10 : decode cX0_prepare 10 = .ok (.iload_n 2, 1) := by decide +kernel
theorem dX0_prepare_11 : decode cX0_prepare 11 = .ok (.putfield 18, 3) := by decide +kernel
theorem dX0_prepare_14 : decode cX0_prepare 14 = .ok (.aload_n 0, 1) := by decide +kernel
theorem dX0_prepare_15 : decode cX0_prepare 15 = .ok (.aload_n 1, 1) := by decide +kernel
theorem dX0_prepare_16 : decode cX0_prepare 16 = .ok (.getfield 44, 3) := by decide +kernel
theorem dX0_prepare_19 : decode cX0_prepare 19 = .ok (.putfield 22, 3) := by decide +kernel
theorem dX0_prepare_22 : decode cX0_prepare 22 = .ok (.aload_n 0, 1) := by decide +kernel
theorem dX0_prepare_23 : decode cX0_prepare 23 = .ok (.aload_n 0, 1) := by decide +kernel
theorem dX0_prepare_24 : decode cX0_prepare 24 = .ok (.invokevirtual 47, 3) := by decide +kernel
theorem dX0_prepare_27 : decode cX0_prepare 27 = .ok (.ifCond .eq 12, 3) := by decide +kernel
theorem dX0_prepare_30 : decode cX0_prepare 30 = .ok (.iconst 1, 1) := by decide +kernel
theorem dX0_prepare_31 : decode cX0_prepare 31 = .ok (.aload_n 0, 1) := by decide +kernel
theorem dX0_prepare_32 : decode cX0_prepare 32 = .ok (.getfield 22, 3) := by decide +kernel
theorem dX0_prepare_35 : decode cX0_prepare 35 = .ok (.ishl, 1) := by decide +kernel
theorem dX0_prepare_36 : decode cX0_prepare 36 = .ok (.goto 5, 3) := by decide +kernel
theorem dX0_prepare_39 : decode cX0_prepare 39 = .ok (.ldc 51, 2) := by decide +kernel
theorem dX0_prepare_41 : decode cX0_prepare 41 = .ok (.putfield 25, 3) := by decide +kernel
theorem dX0_prepare_44 : decode cX0_prepare 44 = .ok (.aload_n 0, 1) := by decide +kernel
theorem dX0_prepare_45 : decode cX0_prepare 45 = .ok (.aload_n 0, 1) := by decide +kernel
theorem dX0_prepare_46 : decode cX0_prepare 46 = .ok (.invokevirtual 47, 3) := by decide +kernel
theorem dX0_prepare_49 : decode cX0_prepare 49 = .ok (.ifCond .eq 7, 3) := by decide +kernel
theorem dX0_prepare_52 : decode cX0_prepare 52 = .ok (.iconst 1, 1) := by decide +kernel
theorem dX0_prepare_53 : decode cX0_prepare 53 = .ok (.goto 5, 3) := by decide +kernel
theorem dX0_prepare_56 : decode cX0_prepare 56 = .ok (.bipush 8, 2) := by decide +kernel
theorem dX0_prepare_58 : decode cX0_prepare 58 = .ok (.putfield 28, 3) := by decide +kernel
theorem dX0_prepare_61 : decode cX0_prepare 61 = .ok (.return_, 1) := by decide +kernel
theorem dX0_isByTable_0 : decode cX0_isByTable 0 = .ok (.aload_n 0, 1) := by decide +kernel
theorem dX0_isByTable_1 : decode cX0_isByTable 1 = .ok (.getfield 18, 3) := by decide +kernel
theorem dX0_isByTable_4 : decode cX0_isByTable 4 = .ok (.ifCond .ne 7, 3) := by decide +kernel
theorem dX0_isByTable_7 : decode cX0_isByTable 7 = .ok (.iconst 1, 1) := by decide +kernel
theorem dX0_isByTable_8 : decode cX0_isByTable 8 = .ok (.goto 4, 3) := by decide +kernel
theorem dX0_isByTable_11 : decode cX0_isByTable 11 = .ok (.iconst 0, 1) := by decide +kernel
theorem dX0_isByTable_12 : decode cX0_isByTable 12 = .ok (.ireturn, 1) := by decide +kernel
theorem dX0_stateCount_0 : decode cX0_stateCount 0 = .ok (.aload_n 0, 1) := by decide +kernel
theorem dX0_stateCount_1 : decode cX0_stateCount 1 = .ok (.getfield 18, 3) := by decide +kernel
theorem dX0_stateCount_4 : decode cX0_stateCount 4 = .ok (.iconst 2, 1) := by decide +kernel
theorem dX0_stateCount_5 : decode cX0_stateCount 5 = .ok (.if_icmp .ne 7, 3) := by decide +kernel
theorem dX0_stateCount_8 : decode cX0_stateCount 8 = .ok (.iconst 2, 1) := by decide +kernel
theorem dX0_stateCount_9 : decode cX0_stateCount 9 = .ok (.goto 4, 3) := by decide +kernel
theorem dX0_stateCount_12 : decode cX0_stateCount 12 = .ok (.iconst 1, 1) := by decide +kernel
theorem dX0_stateCount_13 : decode cX0_stateCount 13 = .ok (.ireturn, 1) := by decide +kernel
theorem dX0_stateBytes_0 : decode cX0_stateBytes 0 = .ok (.aload_n 0, 1) := by decide +kernel
theorem dX0_stateBytes_1 : decode cX0_stateBytes 1 = .ok (.invokevirtual 47, 3) := by decide +kernel
theorem dX0_stateBytes_4 : decode cX0_stateBytes 4 = .ok (.ifCond .eq 7, 3) := by decide +kernel
theorem dX0_stateBytes_7 : decode cX0_stateBytes 7 = .ok (.iconst 2, 1) := by decide +kernel
theorem dX0_stateBytes_8 : decode cX0_stateBytes 8 = .ok (.goto 4, 3) := by decide +kernel
theorem dX0_stateBytes_11 : decode cX0_stateBytes 11 = .ok (.iconst 4, 1) := by decide +kernel
theorem dX0_stateBytes_12 : decode cX0_stateBytes 12 = .ok (.ireturn, 1) := by decide +kernel
theorem dX0_stateBase_0 : decode cX0_stateBase 0 = .ok (.aload_n 0, 1) := by decide +kernel
theorem dX0_stateBase_1 : decode cX0_stateBase 1 = .ok (.invokevirtual 47, 3) := by decide +kernel
theorem dX0_stateBase_4 : decode cX0_stateBase 4 = .ok (.ifCond .eq 10, 3) := by decide +kernel
theorem dX0_stateBase_7 : decode cX0_stateBase 7 = .ok (.aload_n 0, 1) := by decide +kernel
theorem dX0_stateBase_8 : decode cX0_stateBase 8 = .ok (.getfield 25, 3) := by decide +kernel
theorem dX0_stateBase_11 : decode cX0_stateBase 11 = .ok (.goto 4, 3) := by decide +kernel
theorem dX0_stateBase_14 : decode cX0_stateBase 14 = .ok (.iconst 0, 1) := by decide +kernel
theorem dX0_stateBase_15 : decode cX0_stateBase 15 = .ok (.ireturn, 1) := by decide +kernel
theorem dX0_turnOf_0 : decode cX0_turnOf 0 = .ok (.aload_n 0, 1) := by decide +kernel
theorem dX0_turnOf_1 : decode cX0_turnOf 1 = .ok (.getfield 18, 3) := by decide +kernel
theorem dX0_turnOf_4 : decode cX0_turnOf 4 = .ok (.iconst 2, 1) := by decide +kernel
theorem dX0_turnOf_5 : decode cX0_turnOf 5 = .ok (.if_icmp .ne 9, 3) := by decide +kernel
theorem dX0_turnOf_8 : decode cX0_turnOf 8 = .ok (.iload_n 1, 1) := by decide +kernel
theorem dX0_turnOf_9 : decode cX0_turnOf 9 = .ok (.iconst 1, 1) := by decide +kernel
theorem dX0_turnOf_10 : decode cX0_turnOf 10 = .ok (.iand, 1) := by decide +kernel
theorem dX0_turnOf_11 : decode cX0_turnOf 11 = .ok (.goto 4, 3) := by decide +kernel
theorem dX0_turnOf_14 : decode cX0_turnOf 14 = .ok (.iconst 0, 1) := by decide +kernel
theorem dX0_turnOf_15 : decode cX0_turnOf 15 = .ok (.ireturn, 1) := by decide +kernel
theorem dX0_isState_0 : decode cX0_isState 0 = .ok (.iload_n 1, 1) := by decide +kernel
theorem dX0_isState_1 : decode cX0_isState 1 = .ok (.aload_n 0, 1) := by decide +kernel
theorem dX0_isState_2 : decode cX0_isState 2 = .ok (.getfield 25, 3) := by decide +kernel
theorem dX0_isState_5 : decode cX0_isState 5 = .ok (.if_icmp .lt 24, 3) := by decide +kernel
theorem dX0_isState_8 : decode cX0_isState 8 = .ok (.aload_n 0, 1) := by decide +kernel
theorem dX0_isState_9 : decode cX0_isState 9 = .ok (.invokevirtual 47, 3) := by decide +kernel
theorem dX0_isState_12 : decode cX0_isState 12 = .ok (.ifCond .eq 13, 3) := by decide +kernel
theorem dX0_isState_15 : decode cX0_isState 15 = .ok (.iload_n 1, 1) := by decide +kernel
theorem dX0_isState_16 : decode cX0_isState 16 = .ok (.iconst 2, 1) := by decide +kernel
theorem dX0_isState_17 : decode cX0_isState 17 = .ok (.aload_n 0, 1) := by decide +kernel
theorem dX0_isState_18 : decode cX0_isState 18 = .ok (.getfield 25, 3) := by decide +kernel
theorem dX0_isState_21 : decode cX0_isState 21 = .ok (.imul, 1) := by decide +kernel
theorem dX0_isState_22 : decode cX0_isState 22 = .ok (.if_icmp .ge 7, 3) := by decide +kernel
theorem dX0_isState_25 : decode cX0_isState 25 = .ok (.iconst 1, 1) := by decide +kernel
theorem dX0_isState_26 : decode cX0_isState 26 = .ok (.goto 4, 3) := by decide +kernel
theorem dX0_isState_29 : decode cX0_isState 29 = .ok (.iconst 0, 1) := by decide +kernel
theorem dX0_isState_30 : decode cX0_isState 30 = .ok (.ireturn, 1) := by decide +kernel
theorem dX0_advance_0 : decode cX0_advance 0 = .ok (.aload_n 0, 1) := by decide +kernel
theorem dX0_advance_1 : decode cX0_advance 1 = .ok (.getfield 12, 3) := by decide +kernel
theorem dX0_advance_4 : decode cX0_advance 4 = .ok (.iload_n 2, 1) := by decide +kernel
theorem dX0_advance_5 : decode cX0_advance 5 = .ok (.invokevirtual 52, 3) := by decide +kernel
theorem dX0_advance_8 : decode cX0_advance 8 = .ok (.i2l, 1) := by decide +kernel
theorem dX0_advance_9 : decode cX0_advance 9 = .ok (.lstore_n 3, 1) := by decide +kernel
theorem dX0_advance_10 : decode cX0_advance 10 = .ok (.aload_n 0, 1) := by decide +kernel
theorem dX0_advance_11 : decode cX0_advance 11 = .ok (.invokevirtual 47, 3) := by decide +kernel
theorem dX0_advance_14 : decode cX0_advance 14 = .ok (.ifCond .eq 11, 3) := by decide +kernel
theorem dX0_advance_17 : decode cX0_advance 17 = .ok (.ldc2_w 56, 3) := by decide +kernel
theorem dX0_advance_20 : decode cX0_advance 20 = .ok (.lload_n 3, 1) := by decide +kernel
theorem dX0_advance_21 : decode cX0_advance 21 = .ok (.lmul, 1) := by decide +kernel
theorem dX0_advance_22 : decode cX0_advance 22 = .ok (.goto 12, 3) := by decide +kernel
theorem dX0_advance_25 : decode cX0_advance 25 = .ok (.lload_n 3, 1) := by decide +kernel
theorem dX0_advance_26 : decode cX0_advance 26 = .ok (.bipush 31, 2) := by decide +kernel
theorem dX0_advance_28 : decode cX0_advance 28 = .ok (.aload_n 0, 1) := by decide +kernel
theorem dX0_advance_29 : decode cX0_advance 29 = .ok (.getfield 22, 3) := by decide +kernel
theorem dX0_advance_32 : decode cX0_advance 32 = .ok (.isub, 1) := by decide +kernel
theorem dX0_advance_33 : decode cX0_advance 33 = .ok (.lshl, 1) := by decide +kernel
theorem dX0_advance_34 : decode cX0_advance 34 = .ok (.lstore 5, 2) := by decide +kernel
theorem dX0_advance_36 : decode cX0_advance 36 = .ok (.iconst 0, 1) := by decide +kernel
theorem dX0_advance_37 : decode cX0_advance 37 = .ok (.istore 7, 2) := by decide +kernel
theorem dX0_advance_39 : decode cX0_advance 39 = .ok (.iconst 0, 1) := by decide +kernel
theorem dX0_advance_40 : decode cX0_advance 40 = .ok (.istore 8, 2) := by decide +kernel
theorem dX0_advance_42 : decode cX0_advance 42 = .ok (.iload 8, 2) := by decide +kernel
theorem dX0_advance_44 : decode cX0_advance 44 = .ok (.bipush 12, 2) := by decide +kernel
theorem dX0_advance_46 : decode cX0_advance 46 = .ok (.if_icmp .ge 28, 3) := by decide +kernel
theorem dX0_advance_49 : decode cX0_advance 49 = .ok (.iload_n 1, 1) := by decide +kernel
theorem dX0_advance_50 : decode cX0_advance 50 = .ok (.iload 7, 2) := by decide +kernel
theorem dX0_advance_52 : decode cX0_advance 52 = .ok (.aload_n 0, 1) := by decide +kernel
theorem dX0_advance_53 : decode cX0_advance 53 = .ok (.getfield 28, 3) := by decide +kernel
theorem dX0_advance_56 : decode cX0_advance 56 = .ok (.imul, 1) := by decide +kernel
theorem dX0_advance_57 : decode cX0_advance 57 = .ok (.ishr, 1) := by decide +kernel
theorem dX0_advance_58 : decode cX0_advance 58 = .ok (.i2l, 1) := by decide +kernel
theorem dX0_advance_59 : decode cX0_advance 59 = .ok (.lload 5, 2) := by decide +kernel
theorem dX0_advance_61 : decode cX0_advance 61 = .ok (.lcmp, 1) := by decide +kernel
theorem dX0_advance_62 : decode cX0_advance 62 = .ok (.ifCond .lt 12, 3) := by decide +kernel
theorem dX0_advance_65 : decode cX0_advance 65 = .ok (.iinc 7 1, 3) := by decide +kernel
theorem dX0_advance_68 : decode cX0_advance 68 = .ok (.iinc 8 1, 3) := by decide +kernel
theorem dX0_advance_71 : decode cX0_advance 71 = .ok (.goto (-29), 3) := by decide +kernel
theorem dX0_advance_74 : decode cX0_advance 74 = .ok (.aload_n 0, 1) := by decide +kernel
theorem dX0_advance_75 : decode cX0_advance 75 = .ok (.iload 7, 2) := by decide +kernel
theorem dX0_advance_77 : decode cX0_advance 77 = .ok (.putfield 34, 3) := by decide +kernel
theorem dX0_advance_80 : decode cX0_advance 80 = .ok (.aload_n 0, 1) := by decide +kernel
theorem dX0_advance_81 : decode cX0_advance 81 = .ok (.iload_n 1, 1) := by decide +kernel
theorem dX0_advance_82 : decode cX0_advance 82 = .ok (.iconst 1, 1) := by decide +kernel
theorem dX0_advance_83 : decode cX0_advance 83 = .ok (.iload 7, 2) := by decide +kernel
theorem dX0_advance_85 : decode cX0_advance 85 = .ok (.aload_n 0, 1) := by decide +kernel
theorem dX0_advance_86 : decode cX0_advance 86 = .ok (.getfield 28, 3) := by decide +kernel
theorem dX0_advance_89 : decode cX0_advance 89 = .ok (.imul, 1) := by decide +kernel
theorem dX0_advance_90 : decode cX0_advance 90 = .ok (.ishl, 1) := by decide +kernel
theorem dX0_advance_91 : decode cX0_advance 91 = .ok (.iconst 1, 1) := by decide +kernel
theorem dX0_advance_92 : decode cX0_advance 92 = .ok (.isub, 1) := by decide +kernel
theorem dX0_advance_93 : decode cX0_advance 93 = .ok (.iand, 1) := by decide +kernel
theorem dX0_advance_94 : decode cX0_advance 94 = .ok (.putfield 37, 3) := by decide +kernel
theorem dX0_advance_97 : decode cX0_advance 97 = .ok (.iload_n 1, 1) := by decide +kernel
theorem dX0_advance_98 : decode cX0_advance 98 = .ok (.iload 7, 2) := by decide +kernel
theorem dX0_advance_100 : decode cX0_advance 100 = .ok (.aload_n 0, 1) := by decide +kernel
theorem dX0_advance_101 : decode cX0_advance 101 = .ok (.getfield 28, 3) := by decide +kernel
theorem dX0_advance_104 : decode cX0_advance 104 = .ok (.imul, 1) := by decide +kernel
theorem dX0_advance_105 : decode cX0_advance 105 = .ok (.ishr, 1) := by decide +kernel
theorem dX0_advance_106 : decode cX0_advance 106 = .ok (.istore 8, 2) := by decide +kernel
theorem dX0_advance_108 : decode cX0_advance 108 = .ok (.aload_n 0, 1) := by decide +kernel
theorem dX0_advance_109 : decode cX0_advance 109 = .ok (.aload_n 0, 1) := by decide +kernel
theorem dX0_advance_110 : decode cX0_advance 110 = .ok (.invokevirtual 47, 3) := by decide +kernel
theorem dX0_advance_113 : decode cX0_advance 113 = .ok (.ifCond .eq 21, 3) := by decide +kernel
theorem dX0_advance_116 : decode cX0_advance 116 = .ok (.aload_n 0, 1) := by decide +kernel
theorem dX0_advance_117 : decode cX0_advance 117 = .ok (.getfield 25, 3) := by decide +kernel
theorem dX0_advance_120 : decode cX0_advance 120 = .ok (.aload_n 0, 1) := by decide +kernel
theorem dX0_advance_121 : decode cX0_advance 121 = .ok (.getfield 12, 3) := by decide +kernel
theorem dX0_advance_124 : decode cX0_advance 124 = .ok (.iload_n 2, 1) := by decide +kernel
theorem dX0_advance_125 : decode cX0_advance 125 = .ok (.iload 8, 2) := by decide +kernel
theorem dX0_advance_127 : decode cX0_advance 127 = .ok (.invokevirtual 58, 3) := by decide +kernel
theorem dX0_advance_130 : decode cX0_advance 130 = .ok (.iadd, 1) := by decide +kernel
theorem dX0_advance_131 : decode cX0_advance 131 = .ok (.goto 10, 3) := by decide +kernel
theorem dX0_advance_134 : decode cX0_advance 134 = .ok (.aload_n 0, 1) := by decide +kernel
theorem dX0_advance_135 : decode cX0_advance 135 = .ok (.iload 8, 2) := by decide +kernel
theorem dX0_advance_137 : decode cX0_advance 137 = .ok (.iload_n 2, 1) := by decide +kernel
theorem dX0_advance_138 : decode cX0_advance 138 = .ok (.invokevirtual 62, 3) := by decide +kernel
theorem dX0_advance_141 : decode cX0_advance 141 = .ok (.putfield 31, 3) := by decide +kernel
theorem dX0_advance_144 : decode cX0_advance 144 = .ok (.return_, 1) := by decide +kernel
theorem dX0_divided_0 : decode cX0_divided 0 = .ok (.aload_n 0, 1) := by decide +kernel
theorem dX0_divided_1 : decode cX0_divided 1 = .ok (.getfield 12, 3) := by decide +kernel
theorem dX0_divided_4 : decode cX0_divided 4 = .ok (.iload_n 2, 1) := by decide +kernel
theorem dX0_divided_5 : decode cX0_divided 5 = .ok (.invokevirtual 52, 3) := by decide +kernel
theorem dX0_divided_8 : decode cX0_divided 8 = .ok (.istore_n 3, 1) := by decide +kernel
theorem dX0_divided_9 : decode cX0_divided 9 = .ok (.iload_n 3, 1) := by decide +kernel
theorem dX0_divided_10 : decode cX0_divided 10 = .ok (.iconst 1, 1) := by decide +kernel
theorem dX0_divided_11 : decode cX0_divided 11 = .ok (.if_icmp .ge 8, 3) := by decide +kernel
theorem dX0_divided_14 : decode cX0_divided 14 = .ok (.aload_n 0, 1) := by decide +kernel
theorem dX0_divided_15 : decode cX0_divided 15 = .ok (.getfield 25, 3) := by decide +kernel
theorem dX0_divided_18 : decode cX0_divided 18 = .ok (.ireturn, 1) := by decide +kernel
theorem dX0_divided_19 : decode cX0_divided 19 = .ok (.iload_n 1, 1) := by decide +kernel
theorem dX0_divided_20 : decode cX0_divided 20 = .ok (.iload_n 3, 1) := by decide +kernel
theorem dX0_divided_21 : decode cX0_divided 21 = .ok (.idiv, 1) := by decide +kernel
theorem dX0_divided_22 : decode cX0_divided 22 = .ok (.aload_n 0, 1) := by decide +kernel
theorem dX0_divided_23 : decode cX0_divided 23 = .ok (.getfield 22, 3) := by decide +kernel
theorem dX0_divided_26 : decode cX0_divided 26 = .ok (.ishl, 1) := by decide +kernel
theorem dX0_divided_27 : decode cX0_divided 27 = .ok (.iload_n 1, 1) := by decide +kernel
theorem dX0_divided_28 : decode cX0_divided 28 = .ok (.iload_n 3, 1) := by decide +kernel
theorem dX0_divided_29 : decode cX0_divided 29 = .ok (.irem, 1) := by decide +kernel
theorem dX0_divided_30 : decode cX0_divided 30 = .ok (.iadd, 1) := by decide +kernel
theorem dX0_divided_31 : decode cX0_divided 31 = .ok (.aload_n 0, 1) := by decide +kernel
theorem dX0_divided_32 : decode cX0_divided 32 = .ok (.getfield 12, 3) := by decide +kernel
theorem dX0_divided_35 : decode cX0_divided 35 = .ok (.iload_n 2, 1) := by decide +kernel
theorem dX0_divided_36 : decode cX0_divided 36 = .ok (.invokevirtual 65, 3) := by decide +kernel
theorem dX0_divided_39 : decode cX0_divided 39 = .ok (.iadd, 1) := by decide +kernel
theorem dX0_divided_40 : decode cX0_divided 40 = .ok (.ireturn, 1) := by decide +kernel
theorem dX0_symbolOf_0 : decode cX0_symbolOf 0 = .ok (.aload_n 0, 1) := by decide +kernel
theorem dX0_symbolOf_1 : decode cX0_symbolOf 1 = .ok (.getfield 12, 3) := by decide +kernel
theorem dX0_symbolOf_4 : decode cX0_symbolOf 4 = .ok (.aload_n 0, 1) := by decide +kernel
theorem dX0_symbolOf_5 : decode cX0_symbolOf 5 = .ok (.iload_n 1, 1) := by decide +kernel
theorem dX0_symbolOf_6 : decode cX0_symbolOf 6 = .ok (.invokevirtual 68, 3) := by decide +kernel
theorem dX0_symbolOf_9 : decode cX0_symbolOf 9 = .ok (.invokevirtual 71, 3) := by decide +kernel
theorem dX0_symbolOf_12 : decode cX0_symbolOf 12 = .ok (.ireturn, 1) := by decide +kernel
theorem dX0_behindSymbol_0 : decode cX0_behindSymbol 0 = .ok (.aload_n 0, 1) := by decide +kernel
theorem dX0_behindSymbol_1 : decode cX0_behindSymbol 1 = .ok (.invokevirtual 47, 3) := by decide +kernel
theorem dX0_behindSymbol_4 : decode cX0_behindSymbol 4 = .ok (.ifCond .eq 17, 3) := by decide +kernel
theorem dX0_behindSymbol_7 : decode cX0_behindSymbol 7 = .ok (.aload_n 0, 1) := by decide +kernel
theorem dX0_behindSymbol_8 : decode cX0_behindSymbol 8 = .ok (.getfield 12, 3) := by decide +kernel
theorem dX0_behindSymbol_11 : decode cX0_behindSymbol 11 = .ok (.iload_n 1, 1) := by decide +kernel
theorem dX0_behindSymbol_12 : decode cX0_behindSymbol 12 = .ok (.aload_n 0, 1) := by decide +kernel
theorem dX0_behindSymbol_13 : decode cX0_behindSymbol 13 = .ok (.getfield 25, 3) := by decide +kernel
theorem dX0_behindSymbol_16 : decode cX0_behindSymbol 16 = .ok (.isub, 1) := by decide +kernel
theorem dX0_behindSymbol_17 : decode cX0_behindSymbol 17 = .ok (.invokevirtual 74, 3) := by decide +kernel
theorem dX0_behindSymbol_20 : decode cX0_behindSymbol 20 = .ok (.ireturn, 1) := by decide +kernel
theorem dX0_behindSymbol_21 : decode cX0_behindSymbol 21 = .ok (.aload_n 0, 1) := by decide +kernel
theorem dX0_behindSymbol_22 : decode cX0_behindSymbol 22 = .ok (.iload_n 1, 1) := by decide +kernel
theorem dX0_behindSymbol_23 : decode cX0_behindSymbol 23 = .ok (.invokevirtual 77, 3) := by decide +kernel
theorem dX0_behindSymbol_26 : decode cX0_behindSymbol 26 = .ok (.istore_n 2, 1) := by decide +kernel
theorem dX0_behindSymbol_27 : decode cX0_behindSymbol 27 = .ok (.aload_n 0, 1) := by decide +kernel
theorem dX0_behindSymbol_28 : decode cX0_behindSymbol 28 = .ok (.getfield 12, 3) := by decide +kernel
theorem dX0_behindSymbol_31 : decode cX0_behindSymbol 31 = .ok (.iload_n 2, 1) := by decide +kernel
theorem dX0_behindSymbol_32 : decode cX0_behindSymbol 32 = .ok (.invokevirtual 52, 3) := by decide +kernel
theorem dX0_behindSymbol_35 : decode cX0_behindSymbol 35 = .ok (.iload_n 1, 1) := by decide +kernel
theorem dX0_behindSymbol_36 : decode cX0_behindSymbol 36 = .ok (.aload_n 0, 1) := by decide +kernel
theorem dX0_behindSymbol_37 : decode cX0_behindSymbol 37 = .ok (.getfield 22, 3) := by decide +kernel
theorem dX0_behindSymbol_40 : decode cX0_behindSymbol 40 = .ok (.ishr, 1) := by decide +kernel
theorem dX0_behindSymbol_41 : decode cX0_behindSymbol 41 = .ok (.imul, 1) := by decide +kernel
theorem dX0_behindSymbol_42 : decode cX0_behindSymbol 42 = .ok (.aload_n 0, 1) := by decide +kernel
theorem dX0_behindSymbol_43 : decode cX0_behindSymbol 43 = .ok (.iload_n 1, 1) := by decide +kernel
theorem dX0_behindSymbol_44 : decode cX0_behindSymbol 44 = .ok (.invokevirtual 68, 3) := by decide +kernel
theorem dX0_behindSymbol_47 : decode cX0_behindSymbol 47 = .ok (.iadd, 1) := by decide +kernel
theorem dX0_behindSymbol_48 : decode cX0_behindSymbol 48 = .ok (.aload_n 0, 1) := by decide +kernel
theorem dX0_behindSymbol_49 : decode cX0_behindSymbol 49 = .ok (.getfield 12, 3) := by decide +kernel
theorem dX0_behindSymbol_52 : decode cX0_behindSymbol 52 = .ok (.iload_n 2, 1) := by decide +kernel
theorem dX0_behindSymbol_53 : decode cX0_behindSymbol 53 = .ok (.invokevirtual 65, 3) := by decide +kernel
theorem dX0_behindSymbol_56 : decode cX0_behindSymbol 56 = .ok (.isub, 1) := by decide +kernel
theorem dX0_behindSymbol_57 : decode cX0_behindSymbol 57 = .ok (.ireturn, 1) := by decide +kernel
theorem dX0_placeOfState_0 : decode cX0_placeOfState 0 = .ok (.aload_n 0, 1) := by decide +kernel
theorem dX0_placeOfState_1 : decode cX0_placeOfState 1 = .ok (.invokevirtual 47, 3) := by decide +kernel
theorem dX0_placeOfState_4 : decode cX0_placeOfState 4 = .ok (.ifCond .eq 12, 3) := by decide +kernel
theorem dX0_placeOfState_7 : decode cX0_placeOfState 7 = .ok (.iload_n 1, 1) := by decide +kernel
theorem dX0_placeOfState_8 : decode cX0_placeOfState 8 = .ok (.aload_n 0, 1) := by decide +kernel
theorem dX0_placeOfState_9 : decode cX0_placeOfState 9 = .ok (.getfield 25, 3) := by decide +kernel
theorem dX0_placeOfState_12 : decode cX0_placeOfState 12 = .ok (.isub, 1) := by decide +kernel
theorem dX0_placeOfState_13 : decode cX0_placeOfState 13 = .ok (.goto 13, 3) := by decide +kernel
theorem dX0_placeOfState_16 : decode cX0_placeOfState 16 = .ok (.iload_n 1, 1) := by decide +kernel
theorem dX0_placeOfState_17 : decode cX0_placeOfState 17 = .ok (.iconst 1, 1) := by decide +kernel
theorem dX0_placeOfState_18 : decode cX0_placeOfState 18 = .ok (.aload_n 0, 1) := by decide +kernel
theorem dX0_placeOfState_19 : decode cX0_placeOfState 19 = .ok (.getfield 22, 3) := by decide +kernel
theorem dX0_placeOfState_22 : decode cX0_placeOfState 22 = .ok (.ishl, 1) := by decide +kernel
theorem dX0_placeOfState_23 : decode cX0_placeOfState 23 = .ok (.iconst 1, 1) := by decide +kernel
theorem dX0_placeOfState_24 : decode cX0_placeOfState 24 = .ok (.isub, 1) := by decide +kernel
theorem dX0_placeOfState_25 : decode cX0_placeOfState 25 = .ok (.iand, 1) := by decide +kernel
theorem dX0_placeOfState_26 : decode cX0_placeOfState 26 = .ok (.ireturn, 1) := by decide +kernel
theorem dX1_init_0 : decode cX1_init 0 = .ok (.aload_n 0, 1) := by decide +kernel
theorem dX1_init_1 : decode cX1_init 1 = .ok (.invokespecial 3, 3) := by decide +kernel
theorem dX1_init_4 : decode cX1_init 4 = .ok (.aload_n 0, 1) := by decide +kernel
theorem dX1_init_5 : decode cX1_init 5 = .ok (.new 9, 3) := by decide +kernel
theorem dX1_init_8 : decode cX1_init 8 = .ok (.dup, 1) := by decide +kernel
theorem dX1_init_9 : decode cX1_init 9 = .ok (.invokespecial 11, 3) := by decide +kernel
theorem dX1_init_12 : decode cX1_init 12 = .ok (.putfield 12, 3) := by decide +kernel
theorem dX1_init_15 : decode cX1_init 15 = .ok (.aload_n 0, 1) := by decide +kernel
theorem dX1_init_16 : decode cX1_init 16 = .ok (.new 18, 3) := by decide +kernel
theorem dX1_init_19 : decode cX1_init 19 = .ok (.dup, 1) := by decide +kernel
theorem dX1_init_20 : decode cX1_init 20 = .ok (.invokespecial 20, 3) := by decide +kernel
theorem dX1_init_23 : decode cX1_init 23 = .ok (.putfield 21, 3) := by decide +kernel
theorem dX1_init_26 : decode cX1_init 26 = .ok (.aload_n 0, 1) := by decide +kernel
theorem dX1_init_27 : decode cX1_init 27 = .ok (.iconst 2, 1) := by decide +kernel
theorem dX1_init_28 : decode cX1_init 28 = .ok (.newarray .int, 2) := by decide +kernel
theorem dX1_init_30 : decode cX1_init 30 = .ok (.putfield 25, 3) := by decide +kernel
theorem dX1_init_33 : decode cX1_init 33 = .ok (.aload_n 0, 1) := by decide +kernel
theorem dX1_init_34 : decode cX1_init 34 = .ok (.sipush 1400, 3) := by decide +kernel
theorem dX1_init_37 : decode cX1_init 37 = .ok (.newarray .byte, 2) := by decide +kernel
theorem dX1_init_39 : decode cX1_init 39 = .ok (.putfield 29, 3) := by decide +kernel
theorem dX1_init_42 : decode cX1_init 42 = .ok (.aload_n 0, 1) := by decide +kernel
theorem dX1_init_43 : decode cX1_init 43 = .ok (.new 33, 3) := by decide +kernel
theorem dX1_init_46 : decode cX1_init 46 = .ok (.dup, 1) := by decide +kernel
theorem dX1_init_47 : decode cX1_init 47 = .ok (.invokespecial 35, 3) := by decide +kernel
theorem dX1_init_50 : decode cX1_init 50 = .ok (.putfield 36, 3) := by decide +kernel
theorem dX1_init_53 : decode cX1_init 53 = .ok (.aload_n 0, 1) := by decide +kernel
theorem dX1_init_54 : decode cX1_init 54 = .ok (.aconst_null, 1) := by decide +kernel
theorem dX1_init_55 : decode cX1_init 55 = .ok (.putfield 40, 3) := by decide +kernel
theorem dX1_init_58 : decode cX1_init 58 = .ok (.aload_n 0, 1) := by decide +kernel
theorem dX1_init_59 : decode cX1_init 59 = .ok (.iconst 0, 1) := by decide +kernel
theorem dX1_init_60 : decode cX1_init 60 = .ok (.putfield 44, 3) := by decide +kernel
theorem dX1_init_63 : decode cX1_init 63 = .ok (.aload_n 0, 1) := by decide +kernel
theorem dX1_init_64 : decode cX1_init 64 = .ok (.iconst (-1), 1) := by decide +kernel
theorem dX1_init_65 : decode cX1_init 65 = .ok (.putfield 48, 3) := by decide +kernel
theorem dX1_init_68 : decode cX1_init 68 = .ok (.aload_n 0, 1) := by decide +kernel
theorem dX1_init_69 : decode cX1_init 69 = .ok (.iconst 0, 1) := by decide +kernel
theorem dX1_init_70 : decode cX1_init 70 = .ok (.putfield 51, 3) := by decide +kernel
theorem dX1_init_73 : decode cX1_init 73 = .ok (.aload_n 0, 1) := by decide +kernel
theorem dX1_init_74 : decode cX1_init 74 = .ok (.iconst 0, 1) := by decide +kernel
theorem dX1_init_75 : decode cX1_init 75 = .ok (.putfield 54, 3) := by decide +kernel
theorem dX1_init_78 : decode cX1_init 78 = .ok (.aload_n 0, 1) := by decide +kernel
theorem dX1_init_79 : decode cX1_init 79 = .ok (.iconst 0, 1) := by decide +kernel
theorem dX1_init_80 : decode cX1_init 80 = .ok (.putfield 57, 3) := by decide +kernel
theorem dX1_init_83 : decode cX1_init 83 = .ok (.aload_n 0, 1) := by decide +kernel
theorem dX1_init_84 : decode cX1_init 84 = .ok (.iconst 0, 1) := by decide +kernel
theorem dX1_init_85 : decode cX1_init 85 = .ok (.putfield 60, 3) := by decide +kernel
theorem dX1_init_88 : decode cX1_init 88 = .ok (.aload_n 0, 1) := by decide +kernel
theorem dX1_init_89 : decode cX1_init 89 = .ok (.iconst 0, 1) := by decide +kernel
theorem dX1_init_90 : decode cX1_init 90 = .ok (.putfield 63, 3) := by decide +kernel
theorem dX1_init_93 : decode cX1_init 93 = .ok (.aload_n 0, 1) := by decide +kernel
theorem dX1_init_94 : decode cX1_init 94 = .ok (.iconst 0, 1) := by decide +kernel
theorem dX1_init_95 : decode cX1_init 95 = .ok (.putfield 66, 3) := by decide +kernel
theorem dX1_init_98 : decode cX1_init 98 = .ok (.aload_n 0, 1) := by decide +kernel
theorem dX1_init_99 : decode cX1_init 99 = .ok (.iconst 0, 1) := by decide +kernel
theorem dX1_init_100 : decode cX1_init 100 = .ok (.putfield 69, 3) := by decide +kernel
theorem dX1_init_103 : decode cX1_init 103 = .ok (.aload_n 0, 1) := by decide +kernel
theorem dX1_init_104 : decode cX1_init 104 = .ok (.iconst 0, 1) := by decide +kernel
theorem dX1_init_105 : decode cX1_init 105 = .ok (.putfield 72, 3) := by decide +kernel
theorem dX1_init_108 : decode cX1_init 108 = .ok (.return_, 1) := by decide +kernel
theorem dX1_readPacket_0 : decode cX1_readPacket 0 = .ok (.aload_n 0, 1) := by decide +kernel
theorem dX1_readPacket_1 : decode cX1_readPacket 1 = .ok (.aload_n 1, 1) := by decide +kernel
theorem dX1_readPacket_2 : decode cX1_readPacket 2 = .ok (.putfield 40, 3) := by decide +kernel
theorem dX1_readPacket_5 : decode cX1_readPacket 5 = .ok (.aload_n 0, 1) := by decide +kernel
theorem dX1_readPacket_6 : decode cX1_readPacket 6 = .ok (.iconst 0, 1) := by decide +kernel
theorem dX1_readPacket_7 : decode cX1_readPacket 7 = .ok (.putfield 44, 3) := by decide +kernel
theorem dX1_readPacket_10 : decode cX1_readPacket 10 = .ok (.aload_n 0, 1) := by decide +kernel
theorem dX1_readPacket_11 : decode cX1_readPacket 11 = .ok (.iconst (-1), 1) := by decide +kernel
theorem dX1_readPacket_12 : decode cX1_readPacket 12 = .ok (.putfield 48, 3) := by decide +kernel
theorem dX1_readPacket_15 : decode cX1_readPacket 15 = .ok (.aload_n 0, 1) := by decide +kernel
theorem dX1_readPacket_16 : decode cX1_readPacket 16 = .ok (.iconst 0, 1) := by decide +kernel
theorem dX1_readPacket_17 : decode cX1_readPacket 17 = .ok (.putfield 51, 3) := by decide +kernel
theorem dX1_readPacket_20 : decode cX1_readPacket 20 = .ok (.aload_n 0, 1) := by decide +kernel
theorem dX1_readPacket_21 : decode cX1_readPacket 21 = .ok (.invokevirtual 75, 3) := by decide +kernel
theorem dX1_readPacket_24 : decode cX1_readPacket 24 = .ok (.aload_n 0, 1) := by decide +kernel
theorem dX1_readPacket_25 : decode cX1_readPacket 25 = .ok (.invokevirtual 78, 3) := by decide +kernel
theorem dX1_readPacket_28 : decode cX1_readPacket 28 = .ok (.aload_n 0, 1) := by decide +kernel
theorem dX1_readPacket_29 : decode cX1_readPacket 29 = .ok (.invokevirtual 81, 3) := by decide +kernel
theorem dX1_readPacket_32 : decode cX1_readPacket 32 = .ok (.aload_n 0, 1) := by decide +kernel
theorem dX1_readPacket_33 : decode cX1_readPacket 33 = .ok (.invokevirtual 84, 3) := by decide +kernel
theorem dX1_readPacket_36 : decode cX1_readPacket 36 = .ok (.ifCond .eq 26, 3) := by decide +kernel
theorem dX1_readPacket_39 : decode cX1_readPacket 39 = .ok (.aload_n 0, 1) := by decide +kernel
theorem dX1_readPacket_40 : decode cX1_readPacket 40 = .ok (.getfield 12, 3) := by decide +kernel
theorem dX1_readPacket_43 : decode cX1_readPacket 43 = .ok (.aload_n 0, 1) := by decide +kernel
theorem dX1_readPacket_44 : decode cX1_readPacket 44 = .ok (.getfield 36, 3) := by decide +kernel
theorem dX1_readPacket_47 : decode cX1_readPacket 47 = .ok (.aload_n 0, 1) := by decide +kernel
theorem dX1_readPacket_48 : decode cX1_readPacket 48 = .ok (.getfield 54, 3) := by decide +kernel
theorem dX1_readPacket_51 : decode cX1_readPacket 51 = .ok (.aload_n 0, 1) := by decide +kernel
theorem dX1_readPacket_52 : decode cX1_readPacket 52 = .ok (.getfield 57, 3) := by decide +kernel
theorem dX1_readPacket_55 : decode cX1_readPacket 55 = .ok (.invokevirtual 88, 3) := by decide +kernel
theorem dX1_readPacket_58 : decode cX1_readPacket 58 = .ok (.aload_n 0, 1) := by decide +kernel
theorem dX1_readPacket_59 : decode cX1_readPacket 59 = .ok (.invokevirtual 92, 3) := by decide +kernel
theorem dX1_readPacket_62 : decode cX1_readPacket 62 = .ok (.aload_n 0, 1) := by decide +kernel
theorem dX1_readPacket_63 : decode cX1_readPacket 63 = .ok (.invokevirtual 95, 3) := by decide +kernel
theorem dX1_readPacket_66 : decode cX1_readPacket 66 = .ok (.aload_n 0, 1) := by decide +kernel
theorem dX1_readPacket_67 : decode cX1_readPacket 67 = .ok (.invokevirtual 98, 3) := by decide +kernel
theorem dX1_readPacket_70 : decode cX1_readPacket 70 = .ok (.aload_n 0, 1) := by decide +kernel
theorem dX1_readPacket_71 : decode cX1_readPacket 71 = .ok (.invokevirtual 101, 3) := by decide +kernel
theorem dX1_readPacket_74 : decode cX1_readPacket 74 = .ok (.aload_n 0, 1) := by decide +kernel
theorem dX1_readPacket_75 : decode cX1_readPacket 75 = .ok (.invokevirtual 104, 3) := by decide +kernel
theorem dX1_readPacket_78 : decode cX1_readPacket 78 = .ok (.aload_n 0, 1) := by decide +kernel
theorem dX1_readPacket_79 : decode cX1_readPacket 79 = .ok (.aconst_null, 1) := by decide +kernel
theorem dX1_readPacket_80 : decode cX1_readPacket 80 = .ok (.putfield 40, 3) := by decide +kernel
theorem dX1_readPacket_83 : decode cX1_readPacket 83 = .ok (.aload_n 0, 1) := by decide +kernel
theorem dX1_readPacket_84 : decode cX1_readPacket 84 = .ok (.invokevirtual 84, 3) := by decide +kernel
theorem dX1_readPacket_87 : decode cX1_readPacket 87 = .ok (.ireturn, 1) := by decide +kernel
theorem dX1_exchangeTable_0 : decode cX1_exchangeTable 0 = .ok (.aload_n 0, 1) := by decide +kernel
theorem dX1_exchangeTable_1 : decode cX1_exchangeTable 1 = .ok (.getfield 36, 3) := by decide +kernel
theorem dX1_exchangeTable_4 : decode cX1_exchangeTable 4 = .ok (.astore_n 2, 1) := by decide +kernel
theorem dX1_exchangeTable_5 : decode cX1_exchangeTable 5 = .ok (.aload_n 0, 1) := by decide +kernel
theorem dX1_exchangeTable_6 : decode cX1_exchangeTable 6 = .ok (.aload_n 1, 1) := by decide +kernel
theorem dX1_exchangeTable_7 : decode cX1_exchangeTable 7 = .ok (.putfield 36, 3) := by decide +kernel
theorem dX1_exchangeTable_10 : decode cX1_exchangeTable 10 = .ok (.aload_n 2, 1) := by decide +kernel
theorem dX1_exchangeTable_11 : decode cX1_exchangeTable 11 = .ok (.areturn, 1) := by decide +kernel
theorem dX1_writeMessage_0 : decode cX1_writeMessage 0 = .ok (.aload_n 1, 1) := by decide +kernel
theorem dX1_writeMessage_1 : decode cX1_writeMessage 1 = .ok (.iconst 0, 1) := by decide +kernel
theorem dX1_writeMessage_2 : decode cX1_writeMessage 2 = .ok (.putfield 107, 3) := by decide +kernel
theorem dX1_writeMessage_5 : decode cX1_writeMessage 5 = .ok (.iconst 0, 1) := by decide +kernel
theorem dX1_writeMessage_6 : decode cX1_writeMessage 6 = .ok (.istore_n 2, 1) := by decide +kernel
theorem dX1_writeMessage_7 : decode cX1_writeMessage 7 = .ok (.iload_n 2, 1) := by decide +kernel
theorem dX1_writeMessage_8 : decode cX1_writeMessage 8 = .ok (.aload_n 0, 1) := by decide +kernel
theorem dX1_writeMessage_9 : decode cX1_writeMessage 9 = .ok (.getfield 60, 3) := by decide +kernel
theorem dX1_writeMessage_12 : decode cX1_writeMessage 12 = .ok (.if_icmp .ge 26, 3) := by decide +kernel
theorem dX1_writeMessage_15 : decode cX1_writeMessage 15 = .ok (.iload_n 2, 1) := by decide +kernel
theorem dX1_writeMessage_16 : decode cX1_writeMessage 16 = .ok (.sipush 1400, 3) := by decide +kernel
theorem dX1_writeMessage_19 : decode cX1_writeMessage 19 = .ok (.if_icmp .ge 19, 3) := by decide +kernel
theorem dX1_writeMessage_22 : decode cX1_writeMessage 22 = .ok (.aload_n 1, 1) := by decide +kernel
theorem dX1_writeMessage_23 : decode cX1_writeMessage 23 = .ok (.aload_n 0, 1) := by decide +kernel
theorem dX1_writeMessage_24 : decode cX1_writeMessage 24 = .ok (.getfield 29, 3) := by decide +kernel
theorem dX1_writeMessage_27 : decode cX1_writeMessage 27 = .ok (.iload_n 2, 1) := by decide +kernel
theorem dX1_writeMessage_28 : decode cX1_writeMessage 28 = .ok (.baload, 1) := by decide +kernel
theorem dX1_writeMessage_29 : decode cX1_writeMessage 29 = .ok (.invokevirtual 112, 3) := by decide +kernel
theorem dX1_writeMessage_32 : decode cX1_writeMessage 32 = .ok (.iinc 2 1, 3) := by decide +kernel
theorem dX1_writeMessage_35 : decode cX1_writeMessage 35 = .ok (.goto (-28), 3) := by decide +kernel
theorem dX1_writeMessage_38 : decode cX1_writeMessage 38 = .ok (.return_, 1) := by decide +kernel
theorem dX1_isWhole_0 : decode cX1_isWhole 0 = .ok (.aload_n 0, 1) := by decide +kernel
theorem dX1_isWhole_1 : decode cX1_isWhole 1 = .ok (.getfield 44, 3) := by decide +kernel
theorem dX1_isWhole_4 : decode cX1_isWhole 4 = .ok (.ifCond .ne 7, 3) := by decide +kernel
theorem dX1_isWhole_7 : decode cX1_isWhole 7 = .ok (.iconst 1, 1) := by decide +kernel
theorem dX1_isWhole_8 : decode cX1_isWhole 8 = .ok (.goto 4, 3) := by decide +kernel
theorem dX1_isWhole_11 : decode cX1_isWhole 11 = .ok (.iconst 0, 1) := by decide +kernel
theorem dX1_isWhole_12 : decode cX1_isWhole 12 = .ok (.ireturn, 1) := by decide +kernel
theorem dX1_demand_0 : decode cX1_demand 0 = .ok (.iload_n 1, 1) := by decide +kernel
theorem dX1_demand_1 : decode cX1_demand 1 = .ok (.ifCond .ne 20, 3) := by decide +kernel
theorem dX1_demand_4 : decode cX1_demand 4 = .ok (.aload_n 0, 1) := by decide +kernel
theorem dX1_demand_5 : decode cX1_demand 5 = .ok (.invokevirtual 84, 3) := by decide +kernel
theorem dX1_demand_8 : decode cX1_demand 8 = .ok (.ifCond .eq 13, 3) := by decide +kernel
theorem dX1_demand_11 : decode cX1_demand 11 = .ok (.aload_n 0, 1) := by decide +kernel
theorem dX1_demand_12 : decode cX1_demand 12 = .ok (.iload_n 2, 1) := by decide +kernel
theorem dX1_demand_13 : decode cX1_demand 13 = .ok (.putfield 44, 3) := by decide +kernel
theorem dX1_demand_16 : decode cX1_demand 16 = .ok (.aload_n 0, 1) := by decide +kernel
theorem dX1_demand_17 : decode cX1_demand 17 = .ok (.iload_n 3, 1) := by decide +kernel
theorem dX1_demand_18 : decode cX1_demand 18 = .ok (.putfield 48, 3) := by decide +kernel
theorem dX1_demand_21 : decode cX1_demand 21 = .ok (.return_, 1) := by decide +kernel
theorem dX1_byteCount_0 : decode cX1_byteCount 0 = .ok (.aload_n 0, 1) := by decide +kernel
theorem dX1_byteCount_1 : decode cX1_byteCount 1 = .ok (.getfield 40, 3) := by decide +kernel
theorem dX1_byteCount_4 : decode cX1_byteCount 4 = .ok (.ifnonnull 7, 3) := by decide +kernel
theorem dX1_byteCount_7 : decode cX1_byteCount 7 = .ok (.iconst 0, 1) := by decide +kernel
theorem dX1_byteCount_8 : decode cX1_byteCount 8 = .ok (.goto 10, 3) := by decide +kernel
theorem dX1_byteCount_11 : decode cX1_byteCount 11 = .ok (.aload_n 0, 1) := by decide +kernel
theorem dX1_byteCount_12 : decode cX1_byteCount 12 = .ok (.getfield 40, 3) := by decide +kernel
theorem dX1_byteCount_15 : decode cX1_byteCount 15 = .ok (.getfield 107, 3) := by decide +kernel
theorem dX1_byteCount_18 : decode cX1_byteCount 18 = .ok (.ireturn, 1) := by decide +kernel
theorem dX1_byteAt_0 : decode cX1_byteAt 0 = .ok (.aload_n 0, 1) := by decide +kernel
theorem dX1_byteAt_1 : decode cX1_byteAt 1 = .ok (.getfield 40, 3) := by decide +kernel
theorem dX1_byteAt_4 : decode cX1_byteAt 4 = .ok (.ifnonnull 7, 3) := by decide +kernel
theorem dX1_byteAt_7 : decode cX1_byteAt 7 = .ok (.iconst (-1), 1) := by decide +kernel
theorem dX1_byteAt_8 : decode cX1_byteAt 8 = .ok (.goto 11, 3) := by decide +kernel
theorem dX1_byteAt_11 : decode cX1_byteAt 11 = .ok (.aload_n 0, 1) := by decide +kernel
theorem dX1_byteAt_12 : decode cX1_byteAt 12 = .ok (.getfield 40, 3) := by decide +kernel
theorem dX1_byteAt_15 : decode cX1_byteAt 15 = .ok (.iload_n 1, 1) := by decide +kernel
theorem dX1_byteAt_16 : decode cX1_byteAt 16 = .ok (.invokevirtual 116, 3) := by decide +kernel
theorem dX1_byteAt_19 : decode cX1_byteAt 19 = .ok (.ireturn, 1) := by decide +kernel
theorem dX1_readNumber_0 : decode cX1_readNumber 0 = .ok (.aload_n 0, 1) := by decide +kernel
theorem dX1_readNumber_1 : decode cX1_readNumber 1 = .ok (.aload_n 0, 1) := by decide +kernel
theorem dX1_readNumber_2 : decode cX1_readNumber 2 = .ok (.getfield 51, 3) := by decide +kernel
theorem dX1_readNumber_5 : decode cX1_readNumber 5 = .ok (.iload_n 1, 1) := by decide +kernel
theorem dX1_readNumber_6 : decode cX1_readNumber 6 = .ok (.iadd, 1) := by decide +kernel
theorem dX1_readNumber_7 : decode cX1_readNumber 7 = .ok (.aload_n 0, 1) := by decide +kernel
theorem dX1_readNumber_8 : decode cX1_readNumber 8 = .ok (.invokevirtual 120, 3) := by decide +kernel
theorem dX1_readNumber_11 : decode cX1_readNumber 11 = .ok (.if_icmp .gt 7, 3) := by decide +kernel
theorem dX1_readNumber_14 : decode cX1_readNumber 14 = .ok (.iconst 1, 1) := by decide +kernel
theorem dX1_readNumber_15 : decode cX1_readNumber 15 = .ok (.goto 4, 3) := by decide +kernel
theorem dX1_readNumber_18 : decode cX1_readNumber 18 = .ok (.iconst 0, 1) := by decide +kernel
theorem dX1_readNumber_19 : decode cX1_readNumber 19 = .ok (.iconst 1, 1) := by decide +kernel
theorem dX1_readNumber_20 : decode cX1_readNumber 20 = .ok (.aload_n 0, 1) := by decide +kernel
theorem dX1_readNumber_21 : decode cX1_readNumber 21 = .ok (.invokevirtual 120, 3) := by decide +kernel
theorem dX1_readNumber_24 : decode cX1_readNumber 24 = .ok (.invokevirtual 124, 3) := by decide +kernel
theorem dX1_readNumber_27 : decode cX1_readNumber 27 = .ok (.aload_n 0, 1) := by decide +kernel
theorem dX1_readNumber_28 : decode cX1_readNumber 28 = .ok (.invokevirtual 84, 3) := by decide +kernel
theorem dX1_readNumber_31 : decode cX1_readNumber 31 = .ok (.ifCond .ne 5, 3) := by decide +kernel
theorem dX1_readNumber_34 : decode cX1_readNumber 34 = .ok (.iconst 0, 1) := by decide +kernel
theorem dX1_readNumber_35 : decode cX1_readNumber 35 = .ok (.ireturn, 1) := by decide +kernel
theorem dX1_readNumber_36 : decode cX1_readNumber 36 = .ok (.iconst 0, 1) := by decide +kernel
theorem dX1_readNumber_37 : decode cX1_readNumber 37 = .ok (.istore_n 2, 1) := by decide +kernel
theorem dX1_readNumber_38 : decode cX1_readNumber 38 = .ok (.iconst 0, 1) := by decide +kernel
theorem dX1_readNumber_39 : decode cX1_readNumber 39 = .ok (.istore_n 3, 1) := by decide +kernel
theorem dX1_readNumber_40 : decode cX1_readNumber 40 = .ok (.iload_n 3, 1) := by decide +kernel
theorem dX1_readNumber_41 : decode cX1_readNumber 41 = .ok (.iload_n 1, 1) := by decide +kernel
theorem dX1_readNumber_42 : decode cX1_readNumber 42 = .ok (.if_icmp .ge 33, 3) := by decide +kernel
theorem dX1_readNumber_45 : decode cX1_readNumber 45 = .ok (.iload_n 2, 1) := by decide +kernel
theorem dX1_readNumber_46 : decode cX1_readNumber 46 = .ok (.bipush 8, 2) := by decide +kernel
theorem dX1_readNumber_48 : decode cX1_readNumber 48 = .ok (.ishl, 1) := by decide +kernel
theorem dX1_readNumber_49 : decode cX1_readNumber 49 = .ok (.aload_n 0, 1) := by decide +kernel
theorem dX1_readNumber_50 : decode cX1_readNumber 50 = .ok (.aload_n 0, 1) := by decide +kernel
theorem dX1_readNumber_51 : decode cX1_readNumber 51 = .ok (.getfield 51, 3) := by decide +kernel
theorem dX1_readNumber_54 : decode cX1_readNumber 54 = .ok (.invokevirtual 128, 3) := by decide +kernel
theorem dX1_readNumber_57 : decode cX1_readNumber 57 = .ok (.ior, 1) := by decide +kernel
theorem dX1_readNumber_58 : decode cX1_readNumber 58 = .ok (.istore_n 2, 1) := by decide +kernel
theorem dX1_readNumber_59 : decode cX1_readNumber 59 = .ok (.aload_n 0, 1) := by decide +kernel
theorem dX1_readNumber_60 : decode cX1_readNumber 60 = .ok (.dup, 1) := by decide +kernel
theorem dX1_readNumber_61 : decode cX1_readNumber 61 = .ok (.getfield 51, 3) := by decide +kernel
theorem dX1_readNumber_64 : decode cX1_readNumber 64 = .ok (.iconst 1, 1) := by decide +kernel
theorem dX1_readNumber_65 : decode cX1_readNumber 65 = .ok (.iadd, 1) := by decide +kernel
theorem dX1_readNumber_66 : decode cX1_readNumber 66 = .ok (.putfield 51, 3) := by decide +kernel
theorem dX1_readNumber_69 : decode cX1_readNumber 69 = .ok (.iinc 3 1, 3) := by decide +kernel
theorem dX1_readNumber_72 : decode cX1_readNumber 72 = .ok (.goto (-32), 3) := by decide +kernel
theorem dX1_readNumber_75 : decode cX1_readNumber 75 = .ok (.iload_n 2, 1) := by decide +kernel
theorem dX1_readNumber_76 : decode cX1_readNumber 76 = .ok (.ireturn, 1) := by decide +kernel
theorem dX1_readHead_0 : decode cX1_readHead 0 = .ok (.aload_n 0, 1) := by decide +kernel
theorem dX1_readHead_1 : decode cX1_readHead 1 = .ok (.aload_n 0, 1) := by decide +kernel
theorem dX1_readHead_2 : decode cX1_readHead 2 = .ok (.iconst 1, 1) := by decide +kernel
theorem dX1_readHead_3 : decode cX1_readHead 3 = .ok (.invokevirtual 129, 3) := by decide +kernel
theorem dX1_readHead_6 : decode cX1_readHead 6 = .ok (.bipush 83, 2) := by decide +kernel
theorem dX1_readHead_8 : decode cX1_readHead 8 = .ok (.if_icmp .ne 7, 3) := by decide +kernel
theorem dX1_readHead_11 : decode cX1_readHead 11 = .ok (.iconst 1, 1) := by decide +kernel
theorem dX1_readHead_12 : decode cX1_readHead 12 = .ok (.goto 4, 3) := by decide +kernel
theorem dX1_readHead_15 : decode cX1_readHead 15 = .ok (.iconst 0, 1) := by decide +kernel
theorem dX1_readHead_16 : decode cX1_readHead 16 = .ok (.iconst 2, 1) := by decide +kernel
theorem dX1_readHead_17 : decode cX1_readHead 17 = .ok (.iconst 0, 1) := by decide +kernel
theorem dX1_readHead_18 : decode cX1_readHead 18 = .ok (.invokevirtual 124, 3) := by decide +kernel
theorem dX1_readHead_21 : decode cX1_readHead 21 = .ok (.aload_n 0, 1) := by decide +kernel
theorem dX1_readHead_22 : decode cX1_readHead 22 = .ok (.iconst 1, 1) := by decide +kernel
theorem dX1_readHead_23 : decode cX1_readHead 23 = .ok (.invokevirtual 129, 3) := by decide +kernel
theorem dX1_readHead_26 : decode cX1_readHead 26 = .ok (.istore_n 1, 1) := by decide +kernel
theorem dX1_readHead_27 : decode cX1_readHead 27 = .ok (.aload_n 0, 1) := by decide +kernel
theorem dX1_readHead_28 : decode cX1_readHead 28 = .ok (.iload_n 1, 1) := by decide +kernel
theorem dX1_readHead_29 : decode cX1_readHead 29 = .ok (.iconst 2, 1) := by decide +kernel
theorem dX1_readHead_30 : decode cX1_readHead 30 = .ok (.ishr, 1) := by decide +kernel
theorem dX1_readHead_31 : decode cX1_readHead 31 = .ok (.putfield 54, 3) := by decide +kernel
theorem dX1_readHead_34 : decode cX1_readHead 34 = .ok (.aload_n 0, 1) := by decide +kernel
theorem dX1_readHead_35 : decode cX1_readHead 35 = .ok (.iload_n 1, 1) := by decide +kernel
theorem dX1_readHead_36 : decode cX1_readHead 36 = .ok (.iconst 3, 1) := by decide +kernel
theorem dX1_readHead_37 : decode cX1_readHead 37 = .ok (.iand, 1) := by decide +kernel
theorem dX1_readHead_38 : decode cX1_readHead 38 = .ok (.putfield 57, 3) := by decide +kernel
theorem dX1_readHead_41 : decode cX1_readHead 41 = .ok (.aload_n 0, 1) := by decide +kernel
theorem dX1_readHead_42 : decode cX1_readHead 42 = .ok (.aload_n 0, 1) := by decide +kernel
theorem dX1_readHead_43 : decode cX1_readHead 43 = .ok (.getfield 54, 3) := by decide +kernel
theorem dX1_readHead_46 : decode cX1_readHead 46 = .ok (.aload_n 0, 1) := by decide +kernel
theorem dX1_readHead_47 : decode cX1_readHead 47 = .ok (.getfield 57, 3) := by decide +kernel
theorem dX1_readHead_50 : decode cX1_readHead 50 = .ok (.invokestatic 132, 3) := by decide +kernel
theorem dX1_readHead_53 : decode cX1_readHead 53 = .ok (.iconst 2, 1) := by decide +kernel
theorem dX1_readHead_54 : decode cX1_readHead 54 = .ok (.iconst 1, 1) := by decide +kernel
theorem dX1_readHead_55 : decode cX1_readHead 55 = .ok (.invokevirtual 124, 3) := by decide +kernel
theorem dX1_readHead_58 : decode cX1_readHead 58 = .ok (.aload_n 0, 1) := by decide +kernel
theorem dX1_readHead_59 : decode cX1_readHead 59 = .ok (.iconst 1, 1) := by decide +kernel
theorem dX1_readHead_60 : decode cX1_readHead 60 = .ok (.invokevirtual 129, 3) := by decide +kernel
theorem dX1_readHead_63 : decode cX1_readHead 63 = .ok (.istore_n 2, 1) := by decide +kernel
theorem dX1_readHead_64 : decode cX1_readHead 64 = .ok (.aload_n 0, 1) := by decide +kernel
theorem dX1_readHead_65 : decode cX1_readHead 65 = .ok (.iload_n 2, 1) := by decide +kernel
theorem dX1_readHead_66 : decode cX1_readHead 66 = .ok (.invokestatic 136, 3) := by decide +kernel
theorem dX1_readHead_69 : decode cX1_readHead 69 = .ok (.iconst 2, 1) := by decide +kernel
theorem dX1_readHead_70 : decode cX1_readHead 70 = .ok (.iconst 2, 1) := by decide +kernel
theorem dX1_readHead_71 : decode cX1_readHead 71 = .ok (.invokevirtual 124, 3) := by decide +kernel
theorem dX1_readHead_74 : decode cX1_readHead 74 = .ok (.aload_n 0, 1) := by decide +kernel
theorem dX1_readHead_75 : decode cX1_readHead 75 = .ok (.getfield 12, 3) := by decide +kernel
theorem dX1_readHead_78 : decode cX1_readHead 78 = .ok (.getfield 140, 3) := by decide +kernel
theorem dX1_readHead_81 : decode cX1_readHead 81 = .ok (.invokevirtual 144, 3) := by decide +kernel
theorem dX1_readHead_84 : decode cX1_readHead 84 = .ok (.aload_n 0, 1) := by decide +kernel
theorem dX1_readHead_85 : decode cX1_readHead 85 = .ok (.getfield 36, 3) := by decide +kernel
theorem dX1_readHead_88 : decode cX1_readHead 88 = .ok (.iload_n 2, 1) := by decide +kernel
theorem dX1_readHead_89 : decode cX1_readHead 89 = .ok (.invokestatic 136, 3) := by decide +kernel
theorem dX1_readHead_92 : decode cX1_readHead 92 = .ok (.ifCond .eq 7, 3) := by decide +kernel
theorem dX1_readHead_95 : decode cX1_readHead 95 = .ok (.iload_n 2, 1) := by decide +kernel
theorem dX1_readHead_96 : decode cX1_readHead 96 = .ok (.goto 4, 3) := by decide +kernel
theorem dX1_readHead_99 : decode cX1_readHead 99 = .ok (.iconst 1, 1) := by decide +kernel
theorem dX1_readHead_100 : decode cX1_readHead 100 = .ok (.invokevirtual 149, 3) := by decide +kernel
theorem dX1_readHead_103 : decode cX1_readHead 103 = .ok (.return_, 1) := by decide +kernel
theorem dX1_readShares_0 : decode cX1_readShares 0 = .ok (.aload_n 0, 1) := by decide +kernel
theorem dX1_readShares_1 : decode cX1_readShares 1 = .ok (.iconst 1, 1) := by decide +kernel
theorem dX1_readShares_2 : decode cX1_readShares 2 = .ok (.invokevirtual 129, 3) := by decide +kernel
theorem dX1_readShares_5 : decode cX1_readShares 5 = .ok (.iconst 1, 1) := by decide +kernel
theorem dX1_readShares_6 : decode cX1_readShares 6 = .ok (.iadd, 1) := by decide +kernel
theorem dX1_readShares_7 : decode cX1_readShares 7 = .ok (.istore_n 1, 1) := by decide +kernel
theorem dX1_readShares_8 : decode cX1_readShares 8 = .ok (.iconst (-1), 1) := by decide +kernel
theorem dX1_readShares_9 : decode cX1_readShares 9 = .ok (.istore_n 2, 1) := by decide +kernel
theorem dX1_readShares_10 : decode cX1_readShares 10 = .ok (.iconst 0, 1) := by decide +kernel
theorem dX1_readShares_11 : decode cX1_readShares 11 = .ok (.istore_n 3, 1) := by decide +kernel
theorem dX1_readShares_12 : decode cX1_readShares 12 = .ok (.aload_n 0, 1) := by decide +kernel
theorem dX1_readShares_13 : decode cX1_readShares 13 = .ok (.getfield 51, 3) := by decide +kernel
theorem dX1_readShares_16 : decode cX1_readShares 16 = .ok (.istore 4, 2) := by decide +kernel
theorem dX1_readShares_18 : decode cX1_readShares 18 = .ok (.iconst 0, 1) := by decide +kernel
theorem dX1_readShares_19 : decode cX1_readShares 19 = .ok (.istore 5, 2) := by decide +kernel
theorem dX1_readShares_21 : decode cX1_readShares 21 = .ok (.iload 5, 2) := by decide +kernel
theorem dX1_readShares_23 : decode cX1_readShares 23 = .ok (.iload_n 1, 1) := by decide +kernel
theorem dX1_readShares_24 : decode cX1_readShares 24 = .ok (.if_icmp .ge 109, 3) := by decide +kernel
theorem dX1_readShares_27 : decode cX1_readShares 27 = .ok (.aload_n 0, 1) := by decide +kernel
theorem dX1_readShares_28 : decode cX1_readShares 28 = .ok (.invokevirtual 84, 3) := by decide +kernel
theorem dX1_readShares_31 : decode cX1_readShares 31 = .ok (.ifCond .eq 102, 3) := by decide +kernel
theorem dX1_readShares_34 : decode cX1_readShares 34 = .ok (.aload_n 0, 1) := by decide +kernel
theorem dX1_readShares_35 : decode cX1_readShares 35 = .ok (.getfield 51, 3) := by decide +kernel
theorem dX1_readShares_38 : decode cX1_readShares 38 = .ok (.istore 6, 2) := by decide +kernel
theorem dX1_readShares_40 : decode cX1_readShares 40 = .ok (.aload_n 0, 1) := by decide +kernel
theorem dX1_readShares_41 : decode cX1_readShares 41 = .ok (.iconst 1, 1) := by decide +kernel
theorem dX1_readShares_42 : decode cX1_readShares 42 = .ok (.invokevirtual 129, 3) := by decide +kernel
theorem dX1_readShares_45 : decode cX1_readShares 45 = .ok (.istore 7, 2) := by decide +kernel
theorem dX1_readShares_47 : decode cX1_readShares 47 = .ok (.aload_n 0, 1) := by decide +kernel
theorem dX1_readShares_48 : decode cX1_readShares 48 = .ok (.iload 7, 2) := by decide +kernel
theorem dX1_readShares_50 : decode cX1_readShares 50 = .ok (.iload_n 2, 1) := by decide +kernel
theorem dX1_readShares_51 : decode cX1_readShares 51 = .ok (.if_icmp .le 7, 3) := by decide +kernel
theorem dX1_readShares_54 : decode cX1_readShares 54 = .ok (.iconst 1, 1) := by decide +kernel
theorem dX1_readShares_55 : decode cX1_readShares 55 = .ok (.goto 4, 3) := by decide +kernel
theorem dX1_readShares_58 : decode cX1_readShares 58 = .ok (.iconst 0, 1) := by decide +kernel
theorem dX1_readShares_59 : decode cX1_readShares 59 = .ok (.iconst 2, 1) := by decide +kernel
theorem dX1_readShares_60 : decode cX1_readShares 60 = .ok (.iload 6, 2) := by decide +kernel
theorem dX1_readShares_62 : decode cX1_readShares 62 = .ok (.invokevirtual 124, 3) := by decide +kernel
theorem dX1_readShares_65 : decode cX1_readShares 65 = .ok (.aload_n 0, 1) := by decide +kernel
theorem dX1_readShares_66 : decode cX1_readShares 66 = .ok (.getfield 51, 3) := by decide +kernel
theorem dX1_readShares_69 : decode cX1_readShares 69 = .ok (.istore 4, 2) := by decide +kernel
theorem dX1_readShares_71 : decode cX1_readShares 71 = .ok (.aload_n 0, 1) := by decide +kernel
theorem dX1_readShares_72 : decode cX1_readShares 72 = .ok (.iconst 2, 1) := by decide +kernel
theorem dX1_readShares_73 : decode cX1_readShares 73 = .ok (.invokevirtual 129, 3) := by decide +kernel
theorem dX1_readShares_76 : decode cX1_readShares 76 = .ok (.istore 8, 2) := by decide +kernel
theorem dX1_readShares_78 : decode cX1_readShares 78 = .ok (.aload_n 0, 1) := by decide +kernel
theorem dX1_readShares_79 : decode cX1_readShares 79 = .ok (.iload 8, 2) := by decide +kernel
theorem dX1_readShares_81 : decode cX1_readShares 81 = .ok (.iconst 1, 1) := by decide +kernel
theorem dX1_readShares_82 : decode cX1_readShares 82 = .ok (.if_icmp .lt 19, 3) := by decide +kernel
theorem dX1_readShares_85 : decode cX1_readShares 85 = .ok (.iload 8, 2) := by decide +kernel
theorem dX1_readShares_87 : decode cX1_readShares 87 = .ok (.aload_n 0, 1) := by decide +kernel
theorem dX1_readShares_88 : decode cX1_readShares 88 = .ok (.getfield 36, 3) := by decide +kernel
theorem dX1_readShares_91 : decode cX1_readShares 91 = .ok (.invokevirtual 152, 3) := by decide +kernel
theorem dX1_readShares_94 : decode cX1_readShares 94 = .ok (.if_icmp .gt 7, 3) := by decide +kernel
theorem dX1_readShares_97 : decode cX1_readShares 97 = .ok (.iconst 1, 1) := by decide +kernel
theorem dX1_readShares_98 : decode cX1_readShares 98 = .ok (.goto 4, 3) := by decide +kernel
theorem dX1_readShares_101 : decode cX1_readShares 101 = .ok (.iconst 0, 1) := by decide +kernel
theorem dX1_readShares_102 : decode cX1_readShares 102 = .ok (.iconst 2, 1) := by decide +kernel
theorem dX1_readShares_103 : decode cX1_readShares 103 = .ok (.iload 4, 2) := by decide +kernel
theorem dX1_readShares_105 : decode cX1_readShares 105 = .ok (.invokevirtual 124, 3) := by decide +kernel
theorem dX1_readShares_108 : decode cX1_readShares 108 = .ok (.aload_n 0, 1) := by decide +kernel
theorem dX1_readShares_109 : decode cX1_readShares 109 = .ok (.getfield 36, 3) := by decide +kernel
theorem dX1_readShares_112 : decode cX1_readShares 112 = .ok (.iload 7, 2) := by decide +kernel
theorem dX1_readShares_114 : decode cX1_readShares 114 = .ok (.iload 8, 2) := by decide +kernel
theorem dX1_readShares_116 : decode cX1_readShares 116 = .ok (.invokevirtual 155, 3) := by decide +kernel
theorem dX1_readShares_119 : decode cX1_readShares 119 = .ok (.iload 7, 2) := by decide +kernel
theorem dX1_readShares_121 : decode cX1_readShares 121 = .ok (.istore_n 2, 1) := by decide +kernel
theorem dX1_readShares_122 : decode cX1_readShares 122 = .ok (.iload_n 3, 1) := by decide +kernel
theorem dX1_readShares_123 : decode cX1_readShares 123 = .ok (.iload 8, 2) := by decide +kernel
theorem dX1_readShares_125 : decode cX1_readShares 125 = .ok (.iadd, 1) := by decide +kernel
theorem dX1_readShares_126 : decode cX1_readShares 126 = .ok (.istore_n 3, 1) := by decide +kernel
theorem dX1_readShares_127 : decode cX1_readShares 127 = .ok (.iinc 5 1, 3) := by decide +kernel
theorem dX1_readShares_130 : decode cX1_readShares 130 = .ok (.goto (-109), 3) := by decide +kernel
theorem dX1_readShares_133 : decode cX1_readShares 133 = .ok (.aload_n 0, 1) := by decide +kernel
theorem dX1_readShares_134 : decode cX1_readShares 134 = .ok (.iload_n 3, 1) := by decide +kernel
theorem dX1_readShares_135 : decode cX1_readShares 135 = .ok (.aload_n 0, 1) := by decide +kernel
theorem dX1_readShares_136 : decode cX1_readShares 136 = .ok (.getfield 36, 3) := by decide +kernel
theorem dX1_readShares_139 : decode cX1_readShares 139 = .ok (.invokevirtual 152, 3) := by decide +kernel
theorem dX1_readShares_142 : decode cX1_readShares 142 = .ok (.if_icmp .ne 7, 3) := by decide +kernel
theorem dX1_readShares_145 : decode cX1_readShares 145 = .ok (.iconst 1, 1) := by decide +kernel
theorem dX1_readShares_146 : decode cX1_readShares 146 = .ok (.goto 4, 3) := by decide +kernel
theorem dX1_readShares_149 : decode cX1_readShares 149 = .ok (.iconst 0, 1) := by decide +kernel
theorem dX1_readShares_150 : decode cX1_readShares 150 = .ok (.iconst 3, 1) := by decide +kernel
theorem dX1_readShares_151 : decode cX1_readShares 151 = .ok (.iload 4, 2) := by decide +kernel
theorem dX1_readShares_153 : decode cX1_readShares 153 = .ok (.invokevirtual 124, 3) := by decide +kernel
theorem dX1_readShares_156 : decode cX1_readShares 156 = .ok (.return_, 1) := by decide +kernel
theorem dX1_readSizes_0 : decode cX1_readSizes 0 = .ok (.aload_n 0, 1) := by decide +kernel
theorem dX1_readSizes_1 : decode cX1_readSizes 1 = .ok (.getfield 51, 3) := by decide +kernel
theorem dX1_readSizes_4 : decode cX1_readSizes 4 = .ok (.istore_n 1, 1) := by decide +kernel
theorem dX1_readSizes_5 : decode cX1_readSizes 5 = .ok (.aload_n 0, 1) := by decide +kernel
theorem dX1_readSizes_6 : decode cX1_readSizes 6 = .ok (.aload_n 0, 1) := by decide +kernel
theorem dX1_readSizes_7 : decode cX1_readSizes 7 = .ok (.iconst 2, 1) := by decide +kernel
theorem dX1_readSizes_8 : decode cX1_readSizes 8 = .ok (.invokevirtual 129, 3) := by decide +kernel
theorem dX1_readSizes_11 : decode cX1_readSizes 11 = .ok (.putfield 60, 3) := by decide +kernel
theorem dX1_readSizes_14 : decode cX1_readSizes 14 = .ok (.aload_n 0, 1) := by decide +kernel
theorem dX1_readSizes_15 : decode cX1_readSizes 15 = .ok (.aload_n 0, 1) := by decide +kernel
theorem dX1_readSizes_16 : decode cX1_readSizes 16 = .ok (.getfield 60, 3) := by decide +kernel
theorem dX1_readSizes_19 : decode cX1_readSizes 19 = .ok (.sipush 1400, 3) := by decide +kernel
theorem dX1_readSizes_22 : decode cX1_readSizes 22 = .ok (.if_icmp .gt 7, 3) := by decide +kernel
theorem dX1_readSizes_25 : decode cX1_readSizes 25 = .ok (.iconst 1, 1) := by decide +kernel
theorem dX1_readSizes_26 : decode cX1_readSizes 26 = .ok (.goto 4, 3) := by decide +kernel
theorem dX1_readSizes_29 : decode cX1_readSizes 29 = .ok (.iconst 0, 1) := by decide +kernel
theorem dX1_readSizes_30 : decode cX1_readSizes 30 = .ok (.iconst 2, 1) := by decide +kernel
theorem dX1_readSizes_31 : decode cX1_readSizes 31 = .ok (.iload_n 1, 1) := by decide +kernel
theorem dX1_readSizes_32 : decode cX1_readSizes 32 = .ok (.invokevirtual 124, 3) := by decide +kernel
theorem dX1_readSizes_35 : decode cX1_readSizes 35 = .ok (.aload_n 0, 1) := by decide +kernel
theorem dX1_readSizes_36 : decode cX1_readSizes 36 = .ok (.aload_n 0, 1) := by decide +kernel
theorem dX1_readSizes_37 : decode cX1_readSizes 37 = .ok (.iconst 2, 1) := by decide +kernel
theorem dX1_readSizes_38 : decode cX1_readSizes 38 = .ok (.invokevirtual 129, 3) := by decide +kernel
theorem dX1_readSizes_41 : decode cX1_readSizes 41 = .ok (.putfield 69, 3) := by decide +kernel
theorem dX1_readSizes_44 : decode cX1_readSizes 44 = .ok (.return_, 1) := by decide +kernel
theorem dX1_readStates_0 : decode cX1_readStates 0 = .ok (.aload_n 0, 1) := by decide +kernel
theorem dX1_readStates_1 : decode cX1_readStates 1 = .ok (.aload_n 0, 1) := by decide +kernel
theorem dX1_readStates_2 : decode cX1_readStates 2 = .ok (.getfield 51, 3) := by decide +kernel
theorem dX1_readStates_5 : decode cX1_readStates 5 = .ok (.putfield 63, 3) := by decide +kernel
theorem dX1_readStates_8 : decode cX1_readStates 8 = .ok (.iconst 0, 1) := by decide +kernel
theorem dX1_readStates_9 : decode cX1_readStates 9 = .ok (.istore_n 1, 1) := by decide +kernel
theorem dX1_readStates_10 : decode cX1_readStates 10 = .ok (.iload_n 1, 1) := by decide +kernel
theorem dX1_readStates_11 : decode cX1_readStates 11 = .ok (.aload_n 0, 1) := by decide +kernel
theorem dX1_readStates_12 : decode cX1_readStates 12 = .ok (.getfield 12, 3) := by decide +kernel
theorem dX1_readStates_15 : decode cX1_readStates 15 = .ok (.invokevirtual 159, 3) := by decide +kernel
theorem dX1_readStates_18 : decode cX1_readStates 18 = .ok (.if_icmp .ge 58, 3) := by decide +kernel
theorem dX1_readStates_21 : decode cX1_readStates 21 = .ok (.aload_n 0, 1) := by decide +kernel
theorem dX1_readStates_22 : decode cX1_readStates 22 = .ok (.getfield 51, 3) := by decide +kernel
theorem dX1_readStates_25 : decode cX1_readStates 25 = .ok (.istore_n 2, 1) := by decide +kernel
theorem dX1_readStates_26 : decode cX1_readStates 26 = .ok (.aload_n 0, 1) := by decide +kernel
theorem dX1_readStates_27 : decode cX1_readStates 27 = .ok (.getfield 25, 3) := by decide +kernel
theorem dX1_readStates_30 : decode cX1_readStates 30 = .ok (.iload_n 1, 1) := by decide +kernel
theorem dX1_readStates_31 : decode cX1_readStates 31 = .ok (.aload_n 0, 1) := by decide +kernel
theorem dX1_readStates_32 : decode cX1_readStates 32 = .ok (.getfield 12, 3) := by decide +kernel
theorem dX1_readStates_35 : decode cX1_readStates 35 = .ok (.invokevirtual 162, 3) := by decide +kernel
theorem dX1_readStates_38 : decode cX1_readStates 38 = .ok (.aload_n 0, 1) := by decide +kernel
theorem dX1_readStates_39 : decode cX1_readStates 39 = .ok (.aload_n 0, 1) := by decide +kernel
theorem dX1_readStates_40 : decode cX1_readStates 40 = .ok (.getfield 12, 3) := by decide +kernel
theorem dX1_readStates_43 : decode cX1_readStates 43 = .ok (.invokevirtual 165, 3) := by decide +kernel
theorem dX1_readStates_46 : decode cX1_readStates 46 = .ok (.invokevirtual 129, 3) := by decide +kernel
theorem dX1_readStates_49 : decode cX1_readStates 49 = .ok (.iadd, 1) := by decide +kernel
theorem dX1_readStates_50 : decode cX1_readStates 50 = .ok (.iastore, 1) := by decide +kernel
theorem dX1_readStates_51 : decode cX1_readStates 51 = .ok (.aload_n 0, 1) := by decide +kernel
theorem dX1_readStates_52 : decode cX1_readStates 52 = .ok (.aload_n 0, 1) := by decide +kernel
theorem dX1_readStates_53 : decode cX1_readStates 53 = .ok (.getfield 12, 3) := by decide +kernel
theorem dX1_readStates_56 : decode cX1_readStates 56 = .ok (.aload_n 0, 1) := by decide +kernel
theorem dX1_readStates_57 : decode cX1_readStates 57 = .ok (.getfield 25, 3) := by decide +kernel
theorem dX1_readStates_60 : decode cX1_readStates 60 = .ok (.iload_n 1, 1) := by decide +kernel
theorem dX1_readStates_61 : decode cX1_readStates 61 = .ok (.iaload, 1) := by decide +kernel
theorem dX1_readStates_62 : decode cX1_readStates 62 = .ok (.invokevirtual 168, 3) := by decide +kernel
theorem dX1_readStates_65 : decode cX1_readStates 65 = .ok (.iconst 4, 1) := by decide +kernel
theorem dX1_readStates_66 : decode cX1_readStates 66 = .ok (.iload_n 2, 1) := by decide +kernel
theorem dX1_readStates_67 : decode cX1_readStates 67 = .ok (.invokevirtual 124, 3) := by decide +kernel
theorem dX1_readStates_70 : decode cX1_readStates 70 = .ok (.iinc 1 1, 3) := by decide +kernel
theorem dX1_readStates_73 : decode cX1_readStates 73 = .ok (.goto (-63), 3) := by decide +kernel
theorem dX1_readStates_76 : decode cX1_readStates 76 = .ok (.return_, 1) := by decide +kernel
theorem dX1_findPayload_0 : decode cX1_findPayload 0 = .ok (.aload_n 0, 1) := by decide +kernel
theorem dX1_findPayload_1 : decode cX1_findPayload 1 = .ok (.aload_n 0, 1) := by decide +kernel
theorem dX1_findPayload_2 : decode cX1_findPayload 2 = .ok (.getfield 51, 3) := by decide +kernel
theorem dX1_findPayload_5 : decode cX1_findPayload 5 = .ok (.putfield 66, 3) := by decide +kernel
theorem dX1_findPayload_8 : decode cX1_findPayload 8 = .ok (.aload_n 0, 1) := by decide +kernel
theorem dX1_findPayload_9 : decode cX1_findPayload 9 = .ok (.iconst 0, 1) := by decide +kernel
theorem dX1_findPayload_10 : decode cX1_findPayload 10 = .ok (.putfield 72, 3) := by decide +kernel
theorem dX1_findPayload_13 : decode cX1_findPayload 13 = .ok (.aload_n 0, 1) := by decide +kernel
theorem dX1_findPayload_14 : decode cX1_findPayload 14 = .ok (.aload_n 0, 1) := by decide +kernel
theorem dX1_findPayload_15 : decode cX1_findPayload 15 = .ok (.getfield 51, 3) := by decide +kernel
theorem dX1_findPayload_18 : decode cX1_findPayload 18 = .ok (.aload_n 0, 1) := by decide +kernel
theorem dX1_findPayload_19 : decode cX1_findPayload 19 = .ok (.getfield 69, 3) := by decide +kernel
theorem dX1_findPayload_22 : decode cX1_findPayload 22 = .ok (.iadd, 1) := by decide +kernel
theorem dX1_findPayload_23 : decode cX1_findPayload 23 = .ok (.aload_n 0, 1) := by decide +kernel
theorem dX1_findPayload_24 : decode cX1_findPayload 24 = .ok (.invokevirtual 120, 3) := by decide +kernel
theorem dX1_findPayload_27 : decode cX1_findPayload 27 = .ok (.if_icmp .gt 7, 3) := by decide +kernel
theorem dX1_findPayload_30 : decode cX1_findPayload 30 = .ok (.iconst 1, 1) := by decide +kernel
theorem dX1_findPayload_31 : decode cX1_findPayload 31 = .ok (.goto 4, 3) := by decide +kernel
theorem dX1_findPayload_34 : decode cX1_findPayload 34 = .ok (.iconst 0, 1) := by decide +kernel
theorem dX1_findPayload_35 : decode cX1_findPayload 35 = .ok (.iconst 1, 1) := by decide +kernel
theorem dX1_findPayload_36 : decode cX1_findPayload 36 = .ok (.aload_n 0, 1) := by decide +kernel
theorem dX1_findPayload_37 : decode cX1_findPayload 37 = .ok (.invokevirtual 120, 3) := by decide +kernel
theorem dX1_findPayload_40 : decode cX1_findPayload 40 = .ok (.invokevirtual 124, 3) := by decide +kernel
theorem dX1_findPayload_43 : decode cX1_findPayload 43 = .ok (.aload_n 0, 1) := by decide +kernel
theorem dX1_findPayload_44 : decode cX1_findPayload 44 = .ok (.aload_n 0, 1) := by decide +kernel
theorem dX1_findPayload_45 : decode cX1_findPayload 45 = .ok (.getfield 51, 3) := by decide +kernel
theorem dX1_findPayload_48 : decode cX1_findPayload 48 = .ok (.aload_n 0, 1) := by decide +kernel
theorem dX1_findPayload_49 : decode cX1_findPayload 49 = .ok (.getfield 69, 3) := by decide +kernel
theorem dX1_findPayload_52 : decode cX1_findPayload 52 = .ok (.iadd, 1) := by decide +kernel
theorem dX1_findPayload_53 : decode cX1_findPayload 53 = .ok (.aload_n 0, 1) := by decide +kernel
theorem dX1_findPayload_54 : decode cX1_findPayload 54 = .ok (.invokevirtual 120, 3) := by decide +kernel
theorem dX1_findPayload_57 : decode cX1_findPayload 57 = .ok (.if_icmp .ne 7, 3) := by decide +kernel
theorem dX1_findPayload_60 : decode cX1_findPayload 60 = .ok (.iconst 1, 1) := by decide +kernel
theorem dX1_findPayload_61 : decode cX1_findPayload 61 = .ok (.goto 4, 3) := by decide +kernel
theorem dX1_findPayload_64 : decode cX1_findPayload 64 = .ok (.iconst 0, 1) := by decide +kernel
theorem dX1_findPayload_65 : decode cX1_findPayload 65 = .ok (.bipush 8, 2) := by decide +kernel
theorem dX1_findPayload_67 : decode cX1_findPayload 67 = .ok (.aload_n 0, 1) := by decide +kernel
theorem dX1_findPayload_68 : decode cX1_findPayload 68 = .ok (.getfield 51, 3) := by decide +kernel
theorem dX1_findPayload_71 : decode cX1_findPayload 71 = .ok (.aload_n 0, 1) := by decide +kernel
theorem dX1_findPayload_72 : decode cX1_findPayload 72 = .ok (.getfield 69, 3) := by decide +kernel
theorem dX1_findPayload_75 : decode cX1_findPayload 75 = .ok (.iadd, 1) := by decide +kernel
theorem dX1_findPayload_76 : decode cX1_findPayload 76 = .ok (.invokevirtual 124, 3) := by decide +kernel
theorem dX1_findPayload_79 : decode cX1_findPayload 79 = .ok (.return_, 1) := by decide +kernel
theorem dX1_readMessage_0 : decode cX1_readMessage 0 = .ok (.aload_n 0, 1) := by decide +kernel
theorem dX1_readMessage_1 : decode cX1_readMessage 1 = .ok (.invokevirtual 84, 3) := by decide +kernel
theorem dX1_readMessage_4 : decode cX1_readMessage 4 = .ok (.ifCond .ne 4, 3) := by decide +kernel
theorem dX1_readMessage_7 : decode cX1_readMessage 7 = .ok (.return_, 1) := by decide +kernel
theorem dX1_readMessage_8 : decode cX1_readMessage 8 = .ok (.aload_n 0, 1) := by decide +kernel
theorem dX1_readMessage_9 : decode cX1_readMessage 9 = .ok (.getfield 21, 3) := by decide +kernel
theorem dX1_readMessage_12 : decode cX1_readMessage 12 = .ok (.aload_n 0, 1) := by decide +kernel
theorem dX1_readMessage_13 : decode cX1_readMessage 13 = .ok (.getfield 25, 3) := by decide +kernel
theorem dX1_readMessage_16 : decode cX1_readMessage 16 = .ok (.iconst 0, 1) := by decide +kernel
theorem dX1_readMessage_17 : decode cX1_readMessage 17 = .ok (.iaload, 1) := by decide +kernel
theorem dX1_readMessage_18 : decode cX1_readMessage 18 = .ok (.invokevirtual 171, 3) := by decide +kernel
theorem dX1_readMessage_21 : decode cX1_readMessage 21 = .ok (.aload_n 0, 1) := by decide +kernel
theorem dX1_readMessage_22 : decode cX1_readMessage 22 = .ok (.getfield 21, 3) := by decide +kernel
theorem dX1_readMessage_25 : decode cX1_readMessage 25 = .ok (.aload_n 0, 1) := by decide +kernel
theorem dX1_readMessage_26 : decode cX1_readMessage 26 = .ok (.getfield 25, 3) := by decide +kernel
theorem dX1_readMessage_29 : decode cX1_readMessage 29 = .ok (.aload_n 0, 1) := by decide +kernel
theorem dX1_readMessage_30 : decode cX1_readMessage 30 = .ok (.getfield 12, 3) := by decide +kernel
theorem dX1_readMessage_33 : decode cX1_readMessage 33 = .ok (.invokevirtual 159, 3) := by decide +kernel
theorem dX1_readMessage_36 : decode cX1_readMessage 36 = .ok (.iconst 1, 1) := by decide +kernel
theorem dX1_readMessage_37 : decode cX1_readMessage 37 = .ok (.isub, 1) := by decide +kernel
theorem dX1_readMessage_38 : decode cX1_readMessage 38 = .ok (.iaload, 1) := by decide +kernel
theorem dX1_readMessage_39 : decode cX1_readMessage 39 = .ok (.invokevirtual 174, 3) := by decide +kernel
theorem dX1_readMessage_42 : decode cX1_readMessage 42 = .ok (.iconst 0, 1) := by decide +kernel
theorem dX1_readMessage_43 : decode cX1_readMessage 43 = .ok (.istore_n 1, 1) := by decide +kernel
theorem dX1_readMessage_44 : decode cX1_readMessage 44 = .ok (.iload_n 1, 1) := by decide +kernel
theorem dX1_readMessage_45 : decode cX1_readMessage 45 = .ok (.aload_n 0, 1) := by decide +kernel
theorem dX1_readMessage_46 : decode cX1_readMessage 46 = .ok (.getfield 60, 3) := by decide +kernel
theorem dX1_readMessage_49 : decode cX1_readMessage 49 = .ok (.if_icmp .ge 28, 3) := by decide +kernel
theorem dX1_readMessage_52 : decode cX1_readMessage 52 = .ok (.iload_n 1, 1) := by decide +kernel
theorem dX1_readMessage_53 : decode cX1_readMessage 53 = .ok (.sipush 1400, 3) := by decide +kernel
theorem dX1_readMessage_56 : decode cX1_readMessage 56 = .ok (.if_icmp .ge 21, 3) := by decide +kernel
theorem dX1_readMessage_59 : decode cX1_readMessage 59 = .ok (.aload_n 0, 1) := by decide +kernel
theorem dX1_readMessage_60 : decode cX1_readMessage 60 = .ok (.invokevirtual 84, 3) := by decide +kernel
theorem dX1_readMessage_63 : decode cX1_readMessage 63 = .ok (.ifCond .eq 14, 3) := by decide +kernel
theorem dX1_readMessage_66 : decode cX1_readMessage 66 = .ok (.aload_n 0, 1) := by decide +kernel
theorem dX1_readMessage_67 : decode cX1_readMessage 67 = .ok (.iload_n 1, 1) := by decide +kernel
theorem dX1_readMessage_68 : decode cX1_readMessage 68 = .ok (.invokevirtual 177, 3) := by decide +kernel
theorem dX1_readMessage_71 : decode cX1_readMessage 71 = .ok (.iinc 1 1, 3) := by decide +kernel
theorem dX1_readMessage_74 : decode cX1_readMessage 74 = .ok (.goto (-30), 3) := by decide +kernel
theorem dX1_readMessage_77 : decode cX1_readMessage 77 = .ok (.aload_n 0, 1) := by decide +kernel
theorem dX1_readMessage_78 : decode cX1_readMessage 78 = .ok (.getfield 21, 3) := by decide +kernel
theorem dX1_readMessage_81 : decode cX1_readMessage 81 = .ok (.aload_n 0, 1) := by decide +kernel
theorem dX1_readMessage_82 : decode cX1_readMessage 82 = .ok (.getfield 12, 3) := by decide +kernel
theorem dX1_readMessage_85 : decode cX1_readMessage 85 = .ok (.getfield 180, 3) := by decide +kernel
theorem dX1_readMessage_88 : decode cX1_readMessage 88 = .ok (.invokevirtual 183, 3) := by decide +kernel
theorem dX1_readMessage_91 : decode cX1_readMessage 91 = .ok (.return_, 1) := by decide +kernel
theorem dX1_readSymbol_0 : decode cX1_readSymbol 0 = .ok (.aload_n 0, 1) := by decide +kernel
theorem dX1_readSymbol_1 : decode cX1_readSymbol 1 = .ok (.getfield 12, 3) := by decide +kernel
theorem dX1_readSymbol_4 : decode cX1_readSymbol 4 = .ok (.iload_n 1, 1) := by decide +kernel
theorem dX1_readSymbol_5 : decode cX1_readSymbol 5 = .ok (.invokevirtual 186, 3) := by decide +kernel
theorem dX1_readSymbol_8 : decode cX1_readSymbol 8 = .ok (.istore_n 2, 1) := by decide +kernel
theorem dX1_readSymbol_9 : decode cX1_readSymbol 9 = .ok (.aload_n 0, 1) := by decide +kernel
theorem dX1_readSymbol_10 : decode cX1_readSymbol 10 = .ok (.getfield 25, 3) := by decide +kernel
theorem dX1_readSymbol_13 : decode cX1_readSymbol 13 = .ok (.iload_n 2, 1) := by decide +kernel
theorem dX1_readSymbol_14 : decode cX1_readSymbol 14 = .ok (.iaload, 1) := by decide +kernel
theorem dX1_readSymbol_15 : decode cX1_readSymbol 15 = .ok (.istore_n 3, 1) := by decide +kernel
theorem dX1_readSymbol_16 : decode cX1_readSymbol 16 = .ok (.aload_n 0, 1) := by decide +kernel
theorem dX1_readSymbol_17 : decode cX1_readSymbol 17 = .ok (.getfield 29, 3) := by decide +kernel
theorem dX1_readSymbol_20 : decode cX1_readSymbol 20 = .ok (.iload_n 1, 1) := by decide +kernel
theorem dX1_readSymbol_21 : decode cX1_readSymbol 21 = .ok (.aload_n 0, 1) := by decide +kernel
theorem dX1_readSymbol_22 : decode cX1_readSymbol 22 = .ok (.getfield 12, 3) := by decide +kernel
theorem dX1_readSymbol_25 : decode cX1_readSymbol 25 = .ok (.iload_n 3, 1) := by decide +kernel
theorem dX1_readSymbol_26 : decode cX1_readSymbol 26 = .ok (.invokevirtual 189, 3) := by decide +kernel
theorem dX1_readSymbol_29 : decode cX1_readSymbol 29 = .ok (.i2b, 1) := by decide +kernel
theorem dX1_readSymbol_30 : decode cX1_readSymbol 30 = .ok (.bastore, 1) := by decide +kernel
theorem dX1_readSymbol_31 : decode cX1_readSymbol 31 = .ok (.aload_n 0, 1) := by decide +kernel
theorem dX1_readSymbol_32 : decode cX1_readSymbol 32 = .ok (.getfield 12, 3) := by decide +kernel
theorem dX1_readSymbol_35 : decode cX1_readSymbol 35 = .ok (.iload_n 3, 1) := by decide +kernel
theorem dX1_readSymbol_36 : decode cX1_readSymbol 36 = .ok (.invokevirtual 192, 3) := by decide +kernel
theorem dX1_readSymbol_39 : decode cX1_readSymbol 39 = .ok (.istore_n 3, 1) := by decide +kernel
theorem dX1_readSymbol_40 : decode cX1_readSymbol 40 = .ok (.iconst 0, 1) := by decide +kernel
theorem dX1_readSymbol_41 : decode cX1_readSymbol 41 = .ok (.istore 4, 2) := by decide +kernel
theorem dX1_readSymbol_43 : decode cX1_readSymbol 43 = .ok (.iconst 0, 1) := by decide +kernel
theorem dX1_readSymbol_44 : decode cX1_readSymbol 44 = .ok (.istore 5, 2) := by decide +kernel
theorem dX1_readSymbol_46 : decode cX1_readSymbol 46 = .ok (.iload 5, 2) := by decide +kernel
theorem dX1_readSymbol_48 : decode cX1_readSymbol 48 = .ok (.bipush 12, 2) := by decide +kernel
theorem dX1_readSymbol_50 : decode cX1_readSymbol 50 = .ok (.if_icmp .ge 38, 3) := by decide +kernel
theorem dX1_readSymbol_53 : decode cX1_readSymbol 53 = .ok (.iload_n 3, 1) := by decide +kernel
theorem dX1_readSymbol_54 : decode cX1_readSymbol 54 = .ok (.aload_n 0, 1) := by decide +kernel
theorem dX1_readSymbol_55 : decode cX1_readSymbol 55 = .ok (.getfield 12, 3) := by decide +kernel
theorem dX1_readSymbol_58 : decode cX1_readSymbol 58 = .ok (.getfield 195, 3) := by decide +kernel
theorem dX1_readSymbol_61 : decode cX1_readSymbol 61 = .ok (.if_icmp .ge 27, 3) := by decide +kernel
theorem dX1_readSymbol_64 : decode cX1_readSymbol 64 = .ok (.iload_n 3, 1) := by decide +kernel
theorem dX1_readSymbol_65 : decode cX1_readSymbol 65 = .ok (.aload_n 0, 1) := by decide +kernel
theorem dX1_readSymbol_66 : decode cX1_readSymbol 66 = .ok (.getfield 12, 3) := by decide +kernel
theorem dX1_readSymbol_69 : decode cX1_readSymbol 69 = .ok (.getfield 180, 3) := by decide +kernel
theorem dX1_readSymbol_72 : decode cX1_readSymbol 72 = .ok (.ishl, 1) := by decide +kernel
theorem dX1_readSymbol_73 : decode cX1_readSymbol 73 = .ok (.aload_n 0, 1) := by decide +kernel
theorem dX1_readSymbol_74 : decode cX1_readSymbol 74 = .ok (.invokevirtual 198, 3) := by decide +kernel
theorem dX1_readSymbol_77 : decode cX1_readSymbol 77 = .ok (.ior, 1) := by decide +kernel
theorem dX1_readSymbol_78 : decode cX1_readSymbol 78 = .ok (.istore_n 3, 1) := by decide +kernel
theorem dX1_readSymbol_79 : decode cX1_readSymbol 79 = .ok (.iinc 4 1, 3) := by decide +kernel
theorem dX1_readSymbol_82 : decode cX1_readSymbol 82 = .ok (.iinc 5 1, 3) := by decide +kernel
theorem dX1_readSymbol_85 : decode cX1_readSymbol 85 = .ok (.goto (-39), 3) := by decide +kernel
theorem dX1_readSymbol_88 : decode cX1_readSymbol 88 = .ok (.aload_n 0, 1) := by decide +kernel
theorem dX1_readSymbol_89 : decode cX1_readSymbol 89 = .ok (.getfield 25, 3) := by decide +kernel
theorem dX1_readSymbol_92 : decode cX1_readSymbol 92 = .ok (.iload_n 2, 1) := by decide +kernel
theorem dX1_readSymbol_93 : decode cX1_readSymbol 93 = .ok (.iload_n 3, 1) := by decide +kernel
theorem dX1_readSymbol_94 : decode cX1_readSymbol 94 = .ok (.iastore, 1) := by decide +kernel
theorem dX1_readSymbol_95 : decode cX1_readSymbol 95 = .ok (.aload_n 0, 1) := by decide +kernel
theorem dX1_readSymbol_96 : decode cX1_readSymbol 96 = .ok (.getfield 21, 3) := by decide +kernel
theorem dX1_readSymbol_99 : decode cX1_readSymbol 99 = .ok (.iload_n 3, 1) := by decide +kernel
theorem dX1_readSymbol_100 : decode cX1_readSymbol 100 = .ok (.iload 4, 2) := by decide +kernel
theorem dX1_readSymbol_102 : decode cX1_readSymbol 102 = .ok (.invokevirtual 201, 3) := by decide +kernel
theorem dX1_readSymbol_105 : decode cX1_readSymbol 105 = .ok (.return_, 1) := by decide +kernel
theorem dX1_readUnit_0 : decode cX1_readUnit 0 = .ok (.aload_n 0, 1) := by decide +kernel
theorem dX1_readUnit_1 : decode cX1_readUnit 1 = .ok (.getfield 12, 3) := by decide +kernel
theorem dX1_readUnit_4 : decode cX1_readUnit 4 = .ok (.getfield 180, 3) := by decide +kernel
theorem dX1_readUnit_7 : decode cX1_readUnit 7 = .ok (.istore_n 1, 1) := by decide +kernel
theorem dX1_readUnit_8 : decode cX1_readUnit 8 = .ok (.aload_n 0, 1) := by decide +kernel
theorem dX1_readUnit_9 : decode cX1_readUnit 9 = .ok (.aload_n 0, 1) := by decide +kernel
theorem dX1_readUnit_10 : decode cX1_readUnit 10 = .ok (.getfield 72, 3) := by decide +kernel
theorem dX1_readUnit_13 : decode cX1_readUnit 13 = .ok (.iload_n 1, 1) := by decide +kernel
theorem dX1_readUnit_14 : decode cX1_readUnit 14 = .ok (.iadd, 1) := by decide +kernel
theorem dX1_readUnit_15 : decode cX1_readUnit 15 = .ok (.bipush 8, 2) := by decide +kernel
theorem dX1_readUnit_17 : decode cX1_readUnit 17 = .ok (.aload_n 0, 1) := by decide +kernel
theorem dX1_readUnit_18 : decode cX1_readUnit 18 = .ok (.getfield 69, 3) := by decide +kernel
theorem dX1_readUnit_21 : decode cX1_readUnit 21 = .ok (.imul, 1) := by decide +kernel
theorem dX1_readUnit_22 : decode cX1_readUnit 22 = .ok (.if_icmp .gt 7, 3) := by decide +kernel
theorem dX1_readUnit_25 : decode cX1_readUnit 25 = .ok (.iconst 1, 1) := by decide +kernel
theorem dX1_readUnit_26 : decode cX1_readUnit 26 = .ok (.goto 4, 3) := by decide +kernel
theorem dX1_readUnit_29 : decode cX1_readUnit 29 = .ok (.iconst 0, 1) := by decide +kernel
theorem dX1_readUnit_30 : decode cX1_readUnit 30 = .ok (.iconst 5, 1) := by decide +kernel
theorem dX1_readUnit_31 : decode cX1_readUnit 31 = .ok (.aload_n 0, 1) := by decide +kernel
theorem dX1_readUnit_32 : decode cX1_readUnit 32 = .ok (.getfield 66, 3) := by decide +kernel
theorem dX1_readUnit_35 : decode cX1_readUnit 35 = .ok (.aload_n 0, 1) := by decide +kernel
theorem dX1_readUnit_36 : decode cX1_readUnit 36 = .ok (.getfield 69, 3) := by decide +kernel
theorem dX1_readUnit_39 : decode cX1_readUnit 39 = .ok (.iadd, 1) := by decide +kernel
theorem dX1_readUnit_40 : decode cX1_readUnit 40 = .ok (.invokevirtual 124, 3) := by decide +kernel
theorem dX1_readUnit_43 : decode cX1_readUnit 43 = .ok (.aload_n 0, 1) := by decide +kernel
theorem dX1_readUnit_44 : decode cX1_readUnit 44 = .ok (.invokevirtual 84, 3) := by decide +kernel
theorem dX1_readUnit_47 : decode cX1_readUnit 47 = .ok (.ifCond .ne 5, 3) := by decide +kernel
theorem dX1_readUnit_50 : decode cX1_readUnit 50 = .ok (.iconst 0, 1) := by decide +kernel
theorem dX1_readUnit_51 : decode cX1_readUnit 51 = .ok (.ireturn, 1) := by decide +kernel
theorem dX1_readUnit_52 : decode cX1_readUnit 52 = .ok (.bipush 8, 2) := by decide +kernel
theorem dX1_readUnit_54 : decode cX1_readUnit 54 = .ok (.iload_n 1, 1) := by decide +kernel
theorem dX1_readUnit_55 : decode cX1_readUnit 55 = .ok (.isub, 1) := by decide +kernel
theorem dX1_readUnit_56 : decode cX1_readUnit 56 = .ok (.aload_n 0, 1) := by decide +kernel
theorem dX1_readUnit_57 : decode cX1_readUnit 57 = .ok (.getfield 72, 3) := by decide +kernel
theorem dX1_readUnit_60 : decode cX1_readUnit 60 = .ok (.bipush 8, 2) := by decide +kernel
theorem dX1_readUnit_62 : decode cX1_readUnit 62 = .ok (.irem, 1) := by decide +kernel
theorem dX1_readUnit_63 : decode cX1_readUnit 63 = .ok (.isub, 1) := by decide +kernel
theorem dX1_readUnit_64 : decode cX1_readUnit 64 = .ok (.istore_n 2, 1) := by decide +kernel
theorem dX1_readUnit_65 : decode cX1_readUnit 65 = .ok (.aload_n 0, 1) := by decide +kernel
theorem dX1_readUnit_66 : decode cX1_readUnit 66 = .ok (.aload_n 0, 1) := by decide +kernel
theorem dX1_readUnit_67 : decode cX1_readUnit 67 = .ok (.getfield 66, 3) := by decide +kernel
theorem dX1_readUnit_70 : decode cX1_readUnit 70 = .ok (.aload_n 0, 1) := by decide +kernel
theorem dX1_readUnit_71 : decode cX1_readUnit 71 = .ok (.getfield 72, 3) := by decide +kernel
theorem dX1_readUnit_74 : decode cX1_readUnit 74 = .ok (.bipush 8, 2) := by decide +kernel
theorem dX1_readUnit_76 : decode cX1_readUnit 76 = .ok (.idiv, 1) := by decide +kernel
theorem dX1_readUnit_77 : decode cX1_readUnit 77 = .ok (.iadd, 1) := by decide +kernel
theorem dX1_readUnit_78 : decode cX1_readUnit 78 = .ok (.invokevirtual 128, 3) := by decide +kernel
theorem dX1_readUnit_81 : decode cX1_readUnit 81 = .ok (.iload_n 2, 1) := by decide +kernel
theorem dX1_readUnit_82 : decode cX1_readUnit 82 = .ok (.ishr, 1) := by decide +kernel
theorem dX1_readUnit_83 : decode cX1_readUnit 83 = .ok (.iconst 1, 1) := by decide +kernel
theorem dX1_readUnit_84 : decode cX1_readUnit 84 = .ok (.iload_n 1, 1) := by decide +kernel
theorem dX1_readUnit_85 : decode cX1_readUnit 85 = .ok (.ishl, 1) := by decide +kernel
theorem dX1_readUnit_86 : decode cX1_readUnit 86 = .ok (.iconst 1, 1) := by decide +kernel
theorem dX1_readUnit_87 : decode cX1_readUnit 87 = .ok (.isub, 1) := by decide +kernel
theorem dX1_readUnit_88 : decode cX1_readUnit 88 = .ok (.iand, 1) := by decide +kernel
theorem dX1_readUnit_89 : decode cX1_readUnit 89 = .ok (.istore_n 3, 1) := by decide +kernel
theorem dX1_readUnit_90 : decode cX1_readUnit 90 = .ok (.aload_n 0, 1) := by decide +kernel
theorem dX1_readUnit_91 : decode cX1_readUnit 91 = .ok (.dup, 1) := by decide +kernel
theorem dX1_readUnit_92 : decode cX1_readUnit 92 = .ok (.getfield 72, 3) := by decide +kernel
theorem dX1_readUnit_95 : decode cX1_readUnit 95 = .ok (.iload_n 1, 1) := by decide +kernel
theorem dX1_readUnit_96 : decode cX1_readUnit 96 = .ok (.iadd, 1) := by decide +kernel
theorem dX1_readUnit_97 : decode cX1_readUnit 97 = .ok (.putfield 72, 3) := by decide +kernel
theorem dX1_readUnit_100 : decode cX1_readUnit 100 = .ok (.iload_n 3, 1) := by decide +kernel
theorem dX1_readUnit_101 : decode cX1_readUnit 101 = .ok (.ireturn, 1) := by decide +kernel
theorem dX1_checkPayloadEnd_0 : decode cX1_checkPayloadEnd 0 = .ok (.aload_n 0, 1) := by decide +kernel
theorem dX1_checkPayloadEnd_1 : decode cX1_checkPayloadEnd 1 = .ok (.getfield 72, 3) := by decide +kernel
theorem dX1_checkPayloadEnd_4 : decode cX1_checkPayloadEnd 4 = .ok (.bipush 8, 2) := by decide +kernel
theorem dX1_checkPayloadEnd_6 : decode cX1_checkPayloadEnd 6 = .ok (.idiv, 1) := by decide +kernel
theorem dX1_checkPayloadEnd_7 : decode cX1_checkPayloadEnd 7 = .ok (.istore_n 1, 1) := by decide +kernel
theorem dX1_checkPayloadEnd_8 : decode cX1_checkPayloadEnd 8 = .ok (.aload_n 0, 1) := by decide +kernel
theorem dX1_checkPayloadEnd_9 : decode cX1_checkPayloadEnd 9 = .ok (.getfield 72, 3) := by decide +kernel
theorem dX1_checkPayloadEnd_12 : decode cX1_checkPayloadEnd 12 = .ok (.bipush 8, 2) := by decide +kernel
theorem dX1_checkPayloadEnd_14 : decode cX1_checkPayloadEnd 14 = .ok (.irem, 1) := by decide +kernel
theorem dX1_checkPayloadEnd_15 : decode cX1_checkPayloadEnd 15 = .ok (.istore_n 2, 1) := by decide +kernel
theorem dX1_checkPayloadEnd_16 : decode cX1_checkPayloadEnd 16 = .ok (.iload_n 2, 1) := by decide +kernel
theorem dX1_checkPayloadEnd_17 : decode cX1_checkPayloadEnd 17 = .ok (.ifCond .le 44, 3) := by decide +kernel
theorem dX1_checkPayloadEnd_20 : decode cX1_checkPayloadEnd 20 = .ok (.aload_n 0, 1) := by decide +kernel
theorem dX1_checkPayloadEnd_21 : decode cX1_checkPayloadEnd 21 = .ok (.aload_n 0, 1) := by decide +kernel
theorem dX1_checkPayloadEnd_22 : decode cX1_checkPayloadEnd 22 = .ok (.getfield 66, 3) := by decide +kernel
theorem dX1_checkPayloadEnd_25 : decode cX1_checkPayloadEnd 25 = .ok (.iload_n 1, 1) := by decide +kernel
theorem dX1_checkPayloadEnd_26 : decode cX1_checkPayloadEnd 26 = .ok (.iadd, 1) := by decide +kernel
theorem dX1_checkPayloadEnd_27 : decode cX1_checkPayloadEnd 27 = .ok (.invokevirtual 128, 3) := by decide +kernel
theorem dX1_checkPayloadEnd_30 : decode cX1_checkPayloadEnd 30 = .ok (.iload_n 2, 1) := by decide +kernel
theorem dX1_checkPayloadEnd_31 : decode cX1_checkPayloadEnd 31 = .ok (.ishl, 1) := by decide +kernel
theorem dX1_checkPayloadEnd_32 : decode cX1_checkPayloadEnd 32 = .ok (.sipush 255, 3) := by decide +kernel
theorem dX1_checkPayloadEnd_35 : decode cX1_checkPayloadEnd 35 = .ok (.iand, 1) := by decide +kernel
theorem dX1_checkPayloadEnd_36 : decode cX1_checkPayloadEnd 36 = .ok (.istore_n 3, 1) := by decide +kernel
theorem dX1_checkPayloadEnd_37 : decode cX1_checkPayloadEnd 37 = .ok (.aload_n 0, 1) := by decide +kernel
theorem dX1_checkPayloadEnd_38 : decode cX1_checkPayloadEnd 38 = .ok (.iload_n 3, 1) := by decide +kernel
theorem dX1_checkPayloadEnd_39 : decode cX1_checkPayloadEnd 39 = .ok (.ifCond .ne 7, 3) := by decide +kernel
theorem dX1_checkPayloadEnd_42 : decode cX1_checkPayloadEnd 42 = .ok (.iconst 1, 1) := by decide +kernel
theorem dX1_checkPayloadEnd_43 : decode cX1_checkPayloadEnd 43 = .ok (.goto 4, 3) := by decide +kernel
theorem dX1_checkPayloadEnd_46 : decode cX1_checkPayloadEnd 46 = .ok (.iconst 0, 1) := by decide +kernel
theorem dX1_checkPayloadEnd_47 : decode cX1_checkPayloadEnd 47 = .ok (.bipush 6, 2) := by decide +kernel
theorem dX1_checkPayloadEnd_49 : decode cX1_checkPayloadEnd 49 = .ok (.aload_n 0, 1) := by decide +kernel
theorem dX1_checkPayloadEnd_50 : decode cX1_checkPayloadEnd 50 = .ok (.getfield 66, 3) := by decide +kernel
theorem dX1_checkPayloadEnd_53 : decode cX1_checkPayloadEnd 53 = .ok (.iload_n 1, 1) := by decide +kernel
theorem dX1_checkPayloadEnd_54 : decode cX1_checkPayloadEnd 54 = .ok (.iadd, 1) := by decide +kernel
theorem dX1_checkPayloadEnd_55 : decode cX1_checkPayloadEnd 55 = .ok (.invokevirtual 124, 3) := by decide +kernel
theorem dX1_checkPayloadEnd_58 : decode cX1_checkPayloadEnd 58 = .ok (.iinc 1 1, 3) := by decide +kernel
theorem dX1_checkPayloadEnd_61 : decode cX1_checkPayloadEnd 61 = .ok (.aload_n 0, 1) := by decide +kernel
theorem dX1_checkPayloadEnd_62 : decode cX1_checkPayloadEnd 62 = .ok (.iload_n 1, 1) := by decide +kernel
theorem dX1_checkPayloadEnd_63 : decode cX1_checkPayloadEnd 63 = .ok (.aload_n 0, 1) := by decide +kernel
theorem dX1_checkPayloadEnd_64 : decode cX1_checkPayloadEnd 64 = .ok (.getfield 69, 3) := by decide +kernel
theorem dX1_checkPayloadEnd_67 : decode cX1_checkPayloadEnd 67 = .ok (.if_icmp .lt 7, 3) := by decide +kernel
theorem dX1_checkPayloadEnd_70 : decode cX1_checkPayloadEnd 70 = .ok (.iconst 1, 1) := by decide +kernel
theorem dX1_checkPayloadEnd_71 : decode cX1_checkPayloadEnd 71 = .ok (.goto 4, 3) := by decide +kernel
theorem dX1_checkPayloadEnd_74 : decode cX1_checkPayloadEnd 74 = .ok (.iconst 0, 1) := by decide +kernel
theorem dX1_checkPayloadEnd_75 : decode cX1_checkPayloadEnd 75 = .ok (.bipush 6, 2) := by decide +kernel
theorem dX1_checkPayloadEnd_77 : decode cX1_checkPayloadEnd 77 = .ok (.aload_n 0, 1) := by decide +kernel
theorem dX1_checkPayloadEnd_78 : decode cX1_checkPayloadEnd 78 = .ok (.getfield 66, 3) := by decide +kernel
theorem dX1_checkPayloadEnd_81 : decode cX1_checkPayloadEnd 81 = .ok (.iload_n 1, 1) := by decide +kernel
theorem dX1_checkPayloadEnd_82 : decode cX1_checkPayloadEnd 82 = .ok (.iadd, 1) := by decide +kernel
theorem dX1_checkPayloadEnd_83 : decode cX1_checkPayloadEnd 83 = .ok (.invokevirtual 124, 3) := by decide +kernel
theorem dX1_checkPayloadEnd_86 : decode cX1_checkPayloadEnd 86 = .ok (.return_, 1) := by decide +kernel
theorem dX1_checkStates_0 : decode cX1_checkStates 0 = .ok (.iconst 0, 1) := by decide +kernel
theorem dX1_checkStates_1 : decode cX1_checkStates 1 = .ok (.istore_n 1, 1) := by decide +kernel
theorem dX1_checkStates_2 : decode cX1_checkStates 2 = .ok (.iload_n 1, 1) := by decide +kernel
theorem dX1_checkStates_3 : decode cX1_checkStates 3 = .ok (.aload_n 0, 1) := by decide +kernel
theorem dX1_checkStates_4 : decode cX1_checkStates 4 = .ok (.getfield 12, 3) := by decide +kernel
theorem dX1_checkStates_7 : decode cX1_checkStates 7 = .ok (.invokevirtual 159, 3) := by decide +kernel
theorem dX1_checkStates_10 : decode cX1_checkStates 10 = .ok (.if_icmp .ge 50, 3) := by decide +kernel
theorem dX1_checkStates_13 : decode cX1_checkStates 13 = .ok (.aload_n 0, 1) := by decide +kernel
theorem dX1_checkStates_14 : decode cX1_checkStates 14 = .ok (.aload_n 0, 1) := by decide +kernel
theorem dX1_checkStates_15 : decode cX1_checkStates 15 = .ok (.getfield 25, 3) := by decide +kernel
theorem dX1_checkStates_18 : decode cX1_checkStates 18 = .ok (.iload_n 1, 1) := by decide +kernel
theorem dX1_checkStates_19 : decode cX1_checkStates 19 = .ok (.iaload, 1) := by decide +kernel
theorem dX1_checkStates_20 : decode cX1_checkStates 20 = .ok (.aload_n 0, 1) := by decide +kernel
theorem dX1_checkStates_21 : decode cX1_checkStates 21 = .ok (.getfield 12, 3) := by decide +kernel
theorem dX1_checkStates_24 : decode cX1_checkStates 24 = .ok (.getfield 195, 3) := by decide +kernel
theorem dX1_checkStates_27 : decode cX1_checkStates 27 = .ok (.if_icmp .ne 7, 3) := by decide +kernel
theorem dX1_checkStates_30 : decode cX1_checkStates 30 = .ok (.iconst 1, 1) := by decide +kernel
theorem dX1_checkStates_31 : decode cX1_checkStates 31 = .ok (.goto 4, 3) := by decide +kernel
theorem dX1_checkStates_34 : decode cX1_checkStates 34 = .ok (.iconst 0, 1) := by decide +kernel
theorem dX1_checkStates_35 : decode cX1_checkStates 35 = .ok (.bipush 7, 2) := by decide +kernel
theorem dX1_checkStates_37 : decode cX1_checkStates 37 = .ok (.aload_n 0, 1) := by decide +kernel
theorem dX1_checkStates_38 : decode cX1_checkStates 38 = .ok (.getfield 63, 3) := by decide +kernel
theorem dX1_checkStates_41 : decode cX1_checkStates 41 = .ok (.iload_n 1, 1) := by decide +kernel
theorem dX1_checkStates_42 : decode cX1_checkStates 42 = .ok (.aload_n 0, 1) := by decide +kernel
theorem dX1_checkStates_43 : decode cX1_checkStates 43 = .ok (.getfield 12, 3) := by decide +kernel
theorem dX1_checkStates_46 : decode cX1_checkStates 46 = .ok (.invokevirtual 165, 3) := by decide +kernel
theorem dX1_checkStates_49 : decode cX1_checkStates 49 = .ok (.imul, 1) := by decide +kernel
theorem dX1_checkStates_50 : decode cX1_checkStates 50 = .ok (.iadd, 1) := by decide +kernel
theorem dX1_checkStates_51 : decode cX1_checkStates 51 = .ok (.invokevirtual 124, 3) := by decide +kernel
theorem dX1_checkStates_54 : decode cX1_checkStates 54 = .ok (.iinc 1 1, 3) := by decide +kernel
theorem dX1_checkStates_57 : decode cX1_checkStates 57 = .ok (.goto (-55), 3) := by decide +kernel
theorem dX1_checkStates_60 : decode cX1_checkStates 60 = .ok (.return_, 1) := by decide +kernel
theorem dX2_init_0 : decode cX2_init 0 = .ok (.aload_n 0, 1) := by decide +kernel
theorem dX2_init_1 : decode cX2_init 1 = .ok (.invokespecial 3, 3) := by decide +kernel
theorem dX2_init_4 : decode cX2_init 4 = .ok (.aload_n 0, 1) := by decide +kernel
theorem dX2_init_5 : decode cX2_init 5 = .ok (.new 9, 3) := by decide +kernel
theorem dX2_init_8 : decode cX2_init 8 = .ok (.dup, 1) := by decide +kernel
theorem dX2_init_9 : decode cX2_init 9 = .ok (.invokespecial 11, 3) := by decide +kernel
theorem dX2_init_12 : decode cX2_init 12 = .ok (.putfield 12, 3) := by decide +kernel
theorem dX2_init_15 : decode cX2_init 15 = .ok (.aload_n 0, 1) := by decide +kernel
theorem dX2_init_16 : decode cX2_init 16 = .ok (.iconst 2, 1) := by decide +kernel
theorem dX2_init_17 : decode cX2_init 17 = .ok (.newarray .int, 2) := by decide +kernel
theorem dX2_init_19 : decode cX2_init 19 = .ok (.putfield 18, 3) := by decide +kernel
theorem dX2_init_22 : decode cX2_init 22 = .ok (.aload_n 0, 1) := by decide +kernel
theorem dX2_init_23 : decode cX2_init 23 = .ok (.sipush 1400, 3) := by decide +kernel
theorem dX2_init_26 : decode cX2_init 26 = .ok (.newarray .int, 2) := by decide +kernel
theorem dX2_init_28 : decode cX2_init 28 = .ok (.putfield 22, 3) := by decide +kernel
theorem dX2_init_31 : decode cX2_init 31 = .ok (.return_, 1) := by decide +kernel
theorem dX2_codeMessage_0 : decode cX2_codeMessage 0 = .ok (.aload_n 0, 1) := by decide +kernel
theorem dX2_codeMessage_1 : decode cX2_codeMessage 1 = .ok (.getfield 18, 3) := by decide +kernel
theorem dX2_codeMessage_4 : decode cX2_codeMessage 4 = .ok (.aload_n 1, 1) := by decide +kernel
theorem dX2_codeMessage_5 : decode cX2_codeMessage 5 = .ok (.getfield 25, 3) := by decide +kernel
theorem dX2_codeMessage_8 : decode cX2_codeMessage 8 = .ok (.invokestatic 31, 3) := by decide +kernel
theorem dX2_codeMessage_11 : decode cX2_codeMessage 11 = .ok (.aload_n 0, 1) := by decide +kernel
theorem dX2_codeMessage_12 : decode cX2_codeMessage 12 = .ok (.getfield 12, 3) := by decide +kernel
theorem dX2_codeMessage_15 : decode cX2_codeMessage 15 = .ok (.aload_n 1, 1) := by decide +kernel
theorem dX2_codeMessage_16 : decode cX2_codeMessage 16 = .ok (.getfield 25, 3) := by decide +kernel
theorem dX2_codeMessage_19 : decode cX2_codeMessage 19 = .ok (.invokevirtual 37, 3) := by decide +kernel
theorem dX2_codeMessage_22 : decode cX2_codeMessage 22 = .ok (.aload_n 2, 1) := by decide +kernel
theorem dX2_codeMessage_23 : decode cX2_codeMessage 23 = .ok (.getfield 41, 3) := by decide +kernel
theorem dX2_codeMessage_26 : decode cX2_codeMessage 26 = .ok (.sipush 1400, 3) := by decide +kernel
theorem dX2_codeMessage_29 : decode cX2_codeMessage 29 = .ok (.invokestatic 46, 3) := by decide +kernel
theorem dX2_codeMessage_32 : decode cX2_codeMessage 32 = .ok (.iconst 1, 1) := by decide +kernel
theorem dX2_codeMessage_33 : decode cX2_codeMessage 33 = .ok (.isub, 1) := by decide +kernel
theorem dX2_codeMessage_34 : decode cX2_codeMessage 34 = .ok (.istore_n 3, 1) := by decide +kernel
theorem dX2_codeMessage_35 : decode cX2_codeMessage 35 = .ok (.iload_n 3, 1) := by decide +kernel
theorem dX2_codeMessage_36 : decode cX2_codeMessage 36 = .ok (.ifCond .lt 76, 3) := by decide +kernel
theorem dX2_codeMessage_39 : decode cX2_codeMessage 39 = .ok (.aload_n 1, 1) := by decide +kernel
theorem dX2_codeMessage_40 : decode cX2_codeMessage 40 = .ok (.iload_n 3, 1) := by decide +kernel
theorem dX2_codeMessage_41 : decode cX2_codeMessage 41 = .ok (.invokevirtual 52, 3) := by decide +kernel
theorem dX2_codeMessage_44 : decode cX2_codeMessage 44 = .ok (.istore 4, 2) := by decide +kernel
theorem dX2_codeMessage_46 : decode cX2_codeMessage 46 = .ok (.aload_n 1, 1) := by decide +kernel
theorem dX2_codeMessage_47 : decode cX2_codeMessage 47 = .ok (.aload_n 0, 1) := by decide +kernel
theorem dX2_codeMessage_48 : decode cX2_codeMessage 48 = .ok (.getfield 18, 3) := by decide +kernel
theorem dX2_codeMessage_51 : decode cX2_codeMessage 51 = .ok (.iload 4, 2) := by decide +kernel
theorem dX2_codeMessage_53 : decode cX2_codeMessage 53 = .ok (.iaload, 1) := by decide +kernel
theorem dX2_codeMessage_54 : decode cX2_codeMessage 54 = .ok (.aload_n 2, 1) := by decide +kernel
theorem dX2_codeMessage_55 : decode cX2_codeMessage 55 = .ok (.iload_n 3, 1) := by decide +kernel
theorem dX2_codeMessage_56 : decode cX2_codeMessage 56 = .ok (.invokevirtual 56, 3) := by decide +kernel
theorem dX2_codeMessage_59 : decode cX2_codeMessage 59 = .ok (.invokevirtual 59, 3) := by decide +kernel
theorem dX2_codeMessage_62 : decode cX2_codeMessage 62 = .ok (.aload_n 0, 1) := by decide +kernel
theorem dX2_codeMessage_63 : decode cX2_codeMessage 63 = .ok (.getfield 18, 3) := by decide +kernel
theorem dX2_codeMessage_66 : decode cX2_codeMessage 66 = .ok (.iload 4, 2) := by decide +kernel
theorem dX2_codeMessage_68 : decode cX2_codeMessage 68 = .ok (.aload_n 1, 1) := by decide +kernel
theorem dX2_codeMessage_69 : decode cX2_codeMessage 69 = .ok (.getfield 63, 3) := by decide +kernel
theorem dX2_codeMessage_72 : decode cX2_codeMessage 72 = .ok (.iastore, 1) := by decide +kernel
theorem dX2_codeMessage_73 : decode cX2_codeMessage 73 = .ok (.aload_n 0, 1) := by decide +kernel
theorem dX2_codeMessage_74 : decode cX2_codeMessage 74 = .ok (.getfield 22, 3) := by decide +kernel
theorem dX2_codeMessage_77 : decode cX2_codeMessage 77 = .ok (.iload_n 3, 1) := by decide +kernel
theorem dX2_codeMessage_78 : decode cX2_codeMessage 78 = .ok (.aload_n 1, 1) := by decide +kernel
theorem dX2_codeMessage_79 : decode cX2_codeMessage 79 = .ok (.getfield 66, 3) := by decide +kernel
theorem dX2_codeMessage_82 : decode cX2_codeMessage 82 = .ok (.bipush 16, 2) := by decide +kernel
theorem dX2_codeMessage_84 : decode cX2_codeMessage 84 = .ok (.ishl, 1) := by decide +kernel
theorem dX2_codeMessage_85 : decode cX2_codeMessage 85 = .ok (.aload_n 1, 1) := by decide +kernel
theorem dX2_codeMessage_86 : decode cX2_codeMessage 86 = .ok (.getfield 69, 3) := by decide +kernel
theorem dX2_codeMessage_89 : decode cX2_codeMessage 89 = .ok (.ior, 1) := by decide +kernel
theorem dX2_codeMessage_90 : decode cX2_codeMessage 90 = .ok (.iastore, 1) := by decide +kernel
theorem dX2_codeMessage_91 : decode cX2_codeMessage 91 = .ok (.aload_n 0, 1) := by decide +kernel
theorem dX2_codeMessage_92 : decode cX2_codeMessage 92 = .ok (.getfield 12, 3) := by decide +kernel
theorem dX2_codeMessage_95 : decode cX2_codeMessage 95 = .ok (.aload_n 1, 1) := by decide +kernel
theorem dX2_codeMessage_96 : decode cX2_codeMessage 96 = .ok (.getfield 63, 3) := by decide +kernel
theorem dX2_codeMessage_99 : decode cX2_codeMessage 99 = .ok (.aload_n 1, 1) := by decide +kernel
theorem dX2_codeMessage_100 : decode cX2_codeMessage 100 = .ok (.getfield 66, 3) := by decide +kernel
theorem dX2_codeMessage_103 : decode cX2_codeMessage 103 = .ok (.invokevirtual 72, 3) := by decide +kernel
theorem dX2_codeMessage_106 : decode cX2_codeMessage 106 = .ok (.iinc 3 (-1), 3) := by decide +kernel
theorem dX2_codeMessage_109 : decode cX2_codeMessage 109 = .ok (.goto (-74), 3) := by decide +kernel
theorem dX2_codeMessage_112 : decode cX2_codeMessage 112 = .ok (.aload_n 0, 1) := by decide +kernel
theorem dX2_codeMessage_113 : decode cX2_codeMessage 113 = .ok (.getfield 12, 3) := by decide +kernel
theorem dX2_codeMessage_116 : decode cX2_codeMessage 116 = .ok (.aload_n 1, 1) := by decide +kernel
theorem dX2_codeMessage_117 : decode cX2_codeMessage 117 = .ok (.getfield 75, 3) := by decide +kernel
theorem dX2_codeMessage_120 : decode cX2_codeMessage 120 = .ok (.invokevirtual 78, 3) := by decide +kernel
theorem dX2_codeMessage_123 : decode cX2_codeMessage 123 = .ok (.return_, 1) := by decide +kernel
theorem dX2_writePacket_0 : decode cX2_writePacket 0 = .ok (.aload_n 3, 1) := by decide +kernel
theorem dX2_writePacket_1 : decode cX2_writePacket 1 = .ok (.iconst 0, 1) := by decide +kernel
theorem dX2_writePacket_2 : decode cX2_writePacket 2 = .ok (.putfield 41, 3) := by decide +kernel
theorem dX2_writePacket_5 : decode cX2_writePacket 5 = .ok (.aload_n 3, 1) := by decide +kernel
theorem dX2_writePacket_6 : decode cX2_writePacket 6 = .ok (.bipush 83, 2) := by decide +kernel
theorem dX2_writePacket_8 : decode cX2_writePacket 8 = .ok (.invokevirtual 81, 3) := by decide +kernel
theorem dX2_writePacket_11 : decode cX2_writePacket 11 = .ok (.aload_n 3, 1) := by decide +kernel
theorem dX2_writePacket_12 : decode cX2_writePacket 12 = .ok (.iconst 4, 1) := by decide +kernel
theorem dX2_writePacket_13 : decode cX2_writePacket 13 = .ok (.aload_n 1, 1) := by decide +kernel
theorem dX2_writePacket_14 : decode cX2_writePacket 14 = .ok (.getfield 84, 3) := by decide +kernel
theorem dX2_writePacket_17 : decode cX2_writePacket 17 = .ok (.imul, 1) := by decide +kernel
theorem dX2_writePacket_18 : decode cX2_writePacket 18 = .ok (.aload_n 1, 1) := by decide +kernel
theorem dX2_writePacket_19 : decode cX2_writePacket 19 = .ok (.getfield 87, 3) := by decide +kernel
theorem dX2_writePacket_22 : decode cX2_writePacket 22 = .ok (.getfield 91, 3) := by decide +kernel
theorem dX2_writePacket_25 : decode cX2_writePacket 25 = .ok (.iadd, 1) := by decide +kernel
theorem dX2_writePacket_26 : decode cX2_writePacket 26 = .ok (.invokevirtual 81, 3) := by decide +kernel
theorem dX2_writePacket_29 : decode cX2_writePacket 29 = .ok (.aload_n 3, 1) := by decide +kernel
theorem dX2_writePacket_30 : decode cX2_writePacket 30 = .ok (.aload_n 2, 1) := by decide +kernel
theorem dX2_writePacket_31 : decode cX2_writePacket 31 = .ok (.getfield 96, 3) := by decide +kernel
theorem dX2_writePacket_34 : decode cX2_writePacket 34 = .ok (.invokevirtual 81, 3) := by decide +kernel
theorem dX2_writePacket_37 : decode cX2_writePacket 37 = .ok (.aload_n 3, 1) := by decide +kernel
theorem dX2_writePacket_38 : decode cX2_writePacket 38 = .ok (.aload_n 2, 1) := by decide +kernel
theorem dX2_writePacket_39 : decode cX2_writePacket 39 = .ok (.invokevirtual 101, 3) := by decide +kernel
theorem dX2_writePacket_42 : decode cX2_writePacket 42 = .ok (.iconst 1, 1) := by decide +kernel
theorem dX2_writePacket_43 : decode cX2_writePacket 43 = .ok (.isub, 1) := by decide +kernel
theorem dX2_writePacket_44 : decode cX2_writePacket 44 = .ok (.invokevirtual 81, 3) := by decide +kernel
theorem dX2_writePacket_47 : decode cX2_writePacket 47 = .ok (.iconst 0, 1) := by decide +kernel
theorem dX2_writePacket_48 : decode cX2_writePacket 48 = .ok (.istore 4, 2) := by decide +kernel
theorem dX2_writePacket_50 : decode cX2_writePacket 50 = .ok (.iload 4, 2) := by decide +kernel
theorem dX2_writePacket_52 : decode cX2_writePacket 52 = .ok (.sipush 256, 3) := by decide +kernel
theorem dX2_writePacket_55 : decode cX2_writePacket 55 = .ok (.if_icmp .ge 35, 3) := by decide +kernel
theorem dX2_writePacket_58 : decode cX2_writePacket 58 = .ok (.aload_n 2, 1) := by decide +kernel
theorem dX2_writePacket_59 : decode cX2_writePacket 59 = .ok (.iload 4, 2) := by decide +kernel
theorem dX2_writePacket_61 : decode cX2_writePacket 61 = .ok (.invokevirtual 105, 3) := by decide +kernel
theorem dX2_writePacket_64 : decode cX2_writePacket 64 = .ok (.ifCond .le 20, 3) := by decide +kernel
theorem dX2_writePacket_67 : decode cX2_writePacket 67 = .ok (.aload_n 3, 1) := by decide +kernel
theorem dX2_writePacket_68 : decode cX2_writePacket 68 = .ok (.iload 4, 2) := by decide +kernel
theorem dX2_writePacket_70 : decode cX2_writePacket 70 = .ok (.invokevirtual 81, 3) := by decide +kernel
theorem dX2_writePacket_73 : decode cX2_writePacket 73 = .ok (.aload_n 3, 1) := by decide +kernel
theorem dX2_writePacket_74 : decode cX2_writePacket 74 = .ok (.aload_n 2, 1) := by decide +kernel
theorem dX2_writePacket_75 : decode cX2_writePacket 75 = .ok (.iload 4, 2) := by decide +kernel
theorem dX2_writePacket_77 : decode cX2_writePacket 77 = .ok (.invokevirtual 105, 3) := by decide +kernel
theorem dX2_writePacket_80 : decode cX2_writePacket 80 = .ok (.iconst 2, 1) := by decide +kernel
theorem dX2_writePacket_81 : decode cX2_writePacket 81 = .ok (.invokevirtual 108, 3) := by decide +kernel
theorem dX2_writePacket_84 : decode cX2_writePacket 84 = .ok (.iinc 4 1, 3) := by decide +kernel
theorem dX2_writePacket_87 : decode cX2_writePacket 87 = .ok (.goto (-37), 3) := by decide +kernel
theorem dX2_writePacket_90 : decode cX2_writePacket 90 = .ok (.aload_n 3, 1) := by decide +kernel
theorem dX2_writePacket_91 : decode cX2_writePacket 91 = .ok (.aload_n 0, 1) := by decide +kernel
theorem dX2_writePacket_92 : decode cX2_writePacket 92 = .ok (.getfield 12, 3) := by decide +kernel
theorem dX2_writePacket_95 : decode cX2_writePacket 95 = .ok (.getfield 111, 3) := by decide +kernel
theorem dX2_writePacket_98 : decode cX2_writePacket 98 = .ok (.iconst 2, 1) := by decide +kernel
theorem dX2_writePacket_99 : decode cX2_writePacket 99 = .ok (.iaload, 1) := by decide +kernel
theorem dX2_writePacket_100 : decode cX2_writePacket 100 = .ok (.iconst 2, 1) := by decide +kernel
theorem dX2_writePacket_101 : decode cX2_writePacket 101 = .ok (.invokevirtual 108, 3) := by decide +kernel
theorem dX2_writePacket_104 : decode cX2_writePacket 104 = .ok (.aload_n 3, 1) := by decide +kernel
theorem dX2_writePacket_105 : decode cX2_writePacket 105 = .ok (.aload_n 0, 1) := by decide +kernel
theorem dX2_writePacket_106 : decode cX2_writePacket 106 = .ok (.getfield 12, 3) := by decide +kernel
theorem dX2_writePacket_109 : decode cX2_writePacket 109 = .ok (.getfield 111, 3) := by decide +kernel
theorem dX2_writePacket_112 : decode cX2_writePacket 112 = .ok (.iconst 4, 1) := by decide +kernel
theorem dX2_writePacket_113 : decode cX2_writePacket 113 = .ok (.iaload, 1) := by decide +kernel
theorem dX2_writePacket_114 : decode cX2_writePacket 114 = .ok (.iconst 2, 1) := by decide +kernel
theorem dX2_writePacket_115 : decode cX2_writePacket 115 = .ok (.invokevirtual 108, 3) := by decide +kernel
end
section
theorem dX2_writePacket_118 : decode cX2_writePacket 118 = .ok (.iconst 0, 1) := by decide +kernel
theorem dX2_writePacket_119 : decode cX2_writePacket 119 = .ok (.istore 4, 2) := by decide +kernel
theorem dX2_writePacket_121 : decode cX2_writePacket 121 = .ok (.iload 4, 2) := by decide +kernel
theorem dX2_writePacket_123 : decode cX2_writePacket 123 = .ok (.aload_n 1, 1) := by decide +kernel
theorem dX2_writePacket_124 : decode cX2_writePacket 124 = .ok (.invokevirtual 114, 3) := by decide +kernel
theorem dX2_writePacket_127 : decode cX2_writePacket 127 = .ok (.if_icmp .ge 29, 3) := by decide +kernel
theorem dX2_writePacket_130 : decode cX2_writePacket 130 = .ok (.aload_n 3, 1) := by decide +kernel
theorem dX2_writePacket_131 : decode cX2_writePacket 131 = .ok (.aload_n 0, 1) := by decide +kernel
theorem dX2_writePacket_132 : decode cX2_writePacket 132 = .ok (.getfield 18, 3) := by decide +kernel
theorem dX2_writePacket_135 : decode cX2_writePacket 135 = .ok (.iload 4, 2) := by decide +kernel
theorem dX2_writePacket_137 : decode cX2_writePacket 137 = .ok (.iaload, 1) := by decide +kernel
theorem dX2_writePacket_138 : decode cX2_writePacket 138 = .ok (.aload_n 1, 1) := by decide +kernel
theorem dX2_writePacket_139 : decode cX2_writePacket 139 = .ok (.invokevirtual 117, 3) := by decide +kernel
theorem dX2_writePacket_142 : decode cX2_writePacket 142 = .ok (.isub, 1) := by decide +kernel
theorem dX2_writePacket_143 : decode cX2_writePacket 143 = .ok (.aload_n 1, 1) := by decide +kernel
theorem dX2_writePacket_144 : decode cX2_writePacket 144 = .ok (.invokevirtual 120, 3) := by decide +kernel
theorem dX2_writePacket_147 : decode cX2_writePacket 147 = .ok (.invokevirtual 108, 3) := by decide +kernel
theorem dX2_writePacket_150 : decode cX2_writePacket 150 = .ok (.iinc 4 1, 3) := by decide +kernel
theorem dX2_writePacket_153 : decode cX2_writePacket 153 = .ok (.goto (-32), 3) := by decide +kernel
theorem dX2_writePacket_156 : decode cX2_writePacket 156 = .ok (.aload_n 0, 1) := by decide +kernel
theorem dX2_writePacket_157 : decode cX2_writePacket 157 = .ok (.aload_n 1, 1) := by decide +kernel
theorem dX2_writePacket_158 : decode cX2_writePacket 158 = .ok (.getfield 75, 3) := by decide +kernel
theorem dX2_writePacket_161 : decode cX2_writePacket 161 = .ok (.aload_n 3, 1) := by decide +kernel
theorem dX2_writePacket_162 : decode cX2_writePacket 162 = .ok (.invokevirtual 123, 3) := by decide +kernel
theorem dX2_writePacket_165 : decode cX2_writePacket 165 = .ok (.return_, 1) := by decide +kernel
theorem dX2_writePayload_0 : decode cX2_writePayload 0 = .ok (.iconst 1, 1) := by decide +kernel
theorem dX2_writePayload_1 : decode cX2_writePayload 1 = .ok (.iload_n 1, 1) := by decide +kernel
theorem dX2_writePayload_2 : decode cX2_writePayload 2 = .ok (.ishl, 1) := by decide +kernel
theorem dX2_writePayload_3 : decode cX2_writePayload 3 = .ok (.iconst 1, 1) := by decide +kernel
theorem dX2_writePayload_4 : decode cX2_writePayload 4 = .ok (.isub, 1) := by decide +kernel
theorem dX2_writePayload_5 : decode cX2_writePayload 5 = .ok (.istore_n 3, 1) := by decide +kernel
theorem dX2_writePayload_6 : decode cX2_writePayload 6 = .ok (.iconst 0, 1) := by decide +kernel
theorem dX2_writePayload_7 : decode cX2_writePayload 7 = .ok (.istore 4, 2) := by decide +kernel
theorem dX2_writePayload_9 : decode cX2_writePayload 9 = .ok (.iconst 0, 1) := by decide +kernel
theorem dX2_writePayload_10 : decode cX2_writePayload 10 = .ok (.istore 5, 2) := by decide +kernel
theorem dX2_writePayload_12 : decode cX2_writePayload 12 = .ok (.iconst 0, 1) := by decide +kernel
theorem dX2_writePayload_13 : decode cX2_writePayload 13 = .ok (.istore 6, 2) := by decide +kernel
theorem dX2_writePayload_15 : decode cX2_writePayload 15 = .ok (.iload 6, 2) := by decide +kernel
theorem dX2_writePayload_17 : decode cX2_writePayload 17 = .ok (.aload_n 0, 1) := by decide +kernel
theorem dX2_writePayload_18 : decode cX2_writePayload 18 = .ok (.getfield 12, 3) := by decide +kernel
theorem dX2_writePayload_21 : decode cX2_writePayload 21 = .ok (.getfield 111, 3) := by decide +kernel
theorem dX2_writePayload_24 : decode cX2_writePayload 24 = .ok (.iconst 2, 1) := by decide +kernel
theorem dX2_writePayload_25 : decode cX2_writePayload 25 = .ok (.iaload, 1) := by decide +kernel
theorem dX2_writePayload_26 : decode cX2_writePayload 26 = .ok (.if_icmp .ge 88, 3) := by decide +kernel
theorem dX2_writePayload_29 : decode cX2_writePayload 29 = .ok (.iload 6, 2) := by decide +kernel
theorem dX2_writePayload_31 : decode cX2_writePayload 31 = .ok (.sipush 1400, 3) := by decide +kernel
theorem dX2_writePayload_34 : decode cX2_writePayload 34 = .ok (.if_icmp .ge 80, 3) := by decide +kernel
theorem dX2_writePayload_37 : decode cX2_writePayload 37 = .ok (.aload_n 0, 1) := by decide +kernel
theorem dX2_writePayload_38 : decode cX2_writePayload 38 = .ok (.getfield 22, 3) := by decide +kernel
theorem dX2_writePayload_41 : decode cX2_writePayload 41 = .ok (.iload 6, 2) := by decide +kernel
theorem dX2_writePayload_43 : decode cX2_writePayload 43 = .ok (.iaload, 1) := by decide +kernel
theorem dX2_writePayload_44 : decode cX2_writePayload 44 = .ok (.bipush 16, 2) := by decide +kernel
theorem dX2_writePayload_46 : decode cX2_writePayload 46 = .ok (.ishr, 1) := by decide +kernel
theorem dX2_writePayload_47 : decode cX2_writePayload 47 = .ok (.iconst 1, 1) := by decide +kernel
theorem dX2_writePayload_48 : decode cX2_writePayload 48 = .ok (.isub, 1) := by decide +kernel
theorem dX2_writePayload_49 : decode cX2_writePayload 49 = .ok (.istore 7, 2) := by decide +kernel
theorem dX2_writePayload_51 : decode cX2_writePayload 51 = .ok (.iload 7, 2) := by decide +kernel
theorem dX2_writePayload_53 : decode cX2_writePayload 53 = .ok (.ifCond .lt 55, 3) := by decide +kernel
theorem dX2_writePayload_56 : decode cX2_writePayload 56 = .ok (.iload 4, 2) := by decide +kernel
theorem dX2_writePayload_58 : decode cX2_writePayload 58 = .ok (.iload_n 1, 1) := by decide +kernel
theorem dX2_writePayload_59 : decode cX2_writePayload 59 = .ok (.ishl, 1) := by decide +kernel
theorem dX2_writePayload_60 : decode cX2_writePayload 60 = .ok (.aload_n 0, 1) := by decide +kernel
theorem dX2_writePayload_61 : decode cX2_writePayload 61 = .ok (.getfield 22, 3) := by decide +kernel
theorem dX2_writePayload_64 : decode cX2_writePayload 64 = .ok (.iload 6, 2) := by decide +kernel
theorem dX2_writePayload_66 : decode cX2_writePayload 66 = .ok (.iaload, 1) := by decide +kernel
theorem dX2_writePayload_67 : decode cX2_writePayload 67 = .ok (.iload 7, 2) := by decide +kernel
theorem dX2_writePayload_69 : decode cX2_writePayload 69 = .ok (.iload_n 1, 1) := by decide +kernel
theorem dX2_writePayload_70 : decode cX2_writePayload 70 = .ok (.imul, 1) := by decide +kernel
theorem dX2_writePayload_71 : decode cX2_writePayload 71 = .ok (.ishr, 1) := by decide +kernel
theorem dX2_writePayload_72 : decode cX2_writePayload 72 = .ok (.iload_n 3, 1) := by decide +kernel
theorem dX2_writePayload_73 : decode cX2_writePayload 73 = .ok (.iand, 1) := by decide +kernel
theorem dX2_writePayload_74 : decode cX2_writePayload 74 = .ok (.ior, 1) := by decide +kernel
theorem dX2_writePayload_75 : decode cX2_writePayload 75 = .ok (.istore 4, 2) := by decide +kernel
theorem dX2_writePayload_77 : decode cX2_writePayload 77 = .ok (.iload 5, 2) := by decide +kernel
theorem dX2_writePayload_79 : decode cX2_writePayload 79 = .ok (.iload_n 1, 1) := by decide +kernel
theorem dX2_writePayload_80 : decode cX2_writePayload 80 = .ok (.iadd, 1) := by decide +kernel
theorem dX2_writePayload_81 : decode cX2_writePayload 81 = .ok (.istore 5, 2) := by decide +kernel
theorem dX2_writePayload_83 : decode cX2_writePayload 83 = .ok (.iload 5, 2) := by decide +kernel
theorem dX2_writePayload_85 : decode cX2_writePayload 85 = .ok (.bipush 8, 2) := by decide +kernel
theorem dX2_writePayload_87 : decode cX2_writePayload 87 = .ok (.if_icmp .ne 15, 3) := by decide +kernel
theorem dX2_writePayload_90 : decode cX2_writePayload 90 = .ok (.aload_n 2, 1) := by decide +kernel
theorem dX2_writePayload_91 : decode cX2_writePayload 91 = .ok (.iload 4, 2) := by decide +kernel
theorem dX2_writePayload_93 : decode cX2_writePayload 93 = .ok (.invokevirtual 81, 3) := by decide +kernel
theorem dX2_writePayload_96 : decode cX2_writePayload 96 = .ok (.iconst 0, 1) := by decide +kernel
theorem dX2_writePayload_97 : decode cX2_writePayload 97 = .ok (.istore 4, 2) := by decide +kernel
theorem dX2_writePayload_99 : decode cX2_writePayload 99 = .ok (.iconst 0, 1) := by decide +kernel
theorem dX2_writePayload_100 : decode cX2_writePayload 100 = .ok (.istore 5, 2) := by decide +kernel
theorem dX2_writePayload_102 : decode cX2_writePayload 102 = .ok (.iinc 7 (-1), 3) := by decide +kernel
theorem dX2_writePayload_105 : decode cX2_writePayload 105 = .ok (.goto (-54), 3) := by decide +kernel
theorem dX2_writePayload_108 : decode cX2_writePayload 108 = .ok (.iinc 6 1, 3) := by decide +kernel
theorem dX2_writePayload_111 : decode cX2_writePayload 111 = .ok (.goto (-96), 3) := by decide +kernel
theorem dX2_writePayload_114 : decode cX2_writePayload 114 = .ok (.iload 5, 2) := by decide +kernel
theorem dX2_writePayload_116 : decode cX2_writePayload 116 = .ok (.ifCond .le 15, 3) := by decide +kernel
theorem dX2_writePayload_119 : decode cX2_writePayload 119 = .ok (.aload_n 2, 1) := by decide +kernel
theorem dX2_writePayload_120 : decode cX2_writePayload 120 = .ok (.iload 4, 2) := by decide +kernel
theorem dX2_writePayload_122 : decode cX2_writePayload 122 = .ok (.bipush 8, 2) := by decide +kernel
theorem dX2_writePayload_124 : decode cX2_writePayload 124 = .ok (.iload 5, 2) := by decide +kernel
theorem dX2_writePayload_126 : decode cX2_writePayload 126 = .ok (.isub, 1) := by decide +kernel
theorem dX2_writePayload_127 : decode cX2_writePayload 127 = .ok (.ishl, 1) := by decide +kernel
theorem dX2_writePayload_128 : decode cX2_writePayload 128 = .ok (.invokevirtual 81, 3) := by decide +kernel
theorem dX2_writePayload_131 : decode cX2_writePayload 131 = .ok (.return_, 1) := by decide +kernel
theorem dX3_init_0 : decode cX3_init 0 = .ok (.aload_n 0, 1) := by decide +kernel
theorem dX3_init_1 : decode cX3_init 1 = .ok (.invokespecial 5, 3) := by decide +kernel
theorem dX3_init_4 : decode cX3_init 4 = .ok (.aload_n 0, 1) := by decide +kernel
theorem dX3_init_5 : decode cX3_init 5 = .ok (.sipush 562, 3) := by decide +kernel
theorem dX3_init_8 : decode cX3_init 8 = .ok (.newarray .int, 2) := by decide +kernel
theorem dX3_init_10 : decode cX3_init 10 = .ok (.putfield 11, 3) := by decide +kernel
theorem dX3_init_13 : decode cX3_init 13 = .ok (.aload_n 0, 1) := by decide +kernel
theorem dX3_init_14 : decode cX3_init 14 = .ok (.iconst 1, 1) := by decide +kernel
theorem dX3_init_15 : decode cX3_init 15 = .ok (.putfield 15, 3) := by decide +kernel
theorem dX3_init_18 : decode cX3_init 18 = .ok (.aload_n 0, 1) := by decide +kernel
theorem dX3_init_19 : decode cX3_init 19 = .ok (.iconst 1, 1) := by decide +kernel
theorem dX3_init_20 : decode cX3_init 20 = .ok (.putfield 19, 3) := by decide +kernel
theorem dX3_init_23 : decode cX3_init 23 = .ok (.return_, 1) := by decide +kernel
theorem dX3_clear_0 : decode cX3_clear 0 = .ok (.aload_n 0, 1) := by decide +kernel
theorem dX3_clear_1 : decode cX3_clear 1 = .ok (.getfield 11, 3) := by decide +kernel
theorem dX3_clear_4 : decode cX3_clear 4 = .ok (.iconst 0, 1) := by decide +kernel
theorem dX3_clear_5 : decode cX3_clear 5 = .ok (.iconst 1, 1) := by decide +kernel
theorem dX3_clear_6 : decode cX3_clear 6 = .ok (.iastore, 1) := by decide +kernel
theorem dX3_clear_7 : decode cX3_clear 7 = .ok (.aload_n 0, 1) := by decide +kernel
theorem dX3_clear_8 : decode cX3_clear 8 = .ok (.iconst 1, 1) := by decide +kernel
theorem dX3_clear_9 : decode cX3_clear 9 = .ok (.putfield 15, 3) := by decide +kernel
theorem dX3_clear_12 : decode cX3_clear 12 = .ok (.aload_n 0, 1) := by decide +kernel
theorem dX3_clear_13 : decode cX3_clear 13 = .ok (.iconst 1, 1) := by decide +kernel
theorem dX3_clear_14 : decode cX3_clear 14 = .ok (.putfield 19, 3) := by decide +kernel
theorem dX3_clear_17 : decode cX3_clear 17 = .ok (.return_, 1) := by decide +kernel
theorem dX3_times_0 : decode cX3_times 0 = .ok (.aload_n 0, 1) := by decide +kernel
theorem dX3_times_1 : decode cX3_times 1 = .ok (.getfield 19, 3) := by decide +kernel
theorem dX3_times_4 : decode cX3_times 4 = .ok (.i2l, 1) := by decide +kernel
theorem dX3_times_5 : decode cX3_times 5 = .ok (.iload_n 1, 1) := by decide +kernel
theorem dX3_times_6 : decode cX3_times 6 = .ok (.i2l, 1) := by decide +kernel
theorem dX3_times_7 : decode cX3_times 7 = .ok (.lmul, 1) := by decide +kernel
theorem dX3_times_8 : decode cX3_times 8 = .ok (.ldc2_w 22, 3) := by decide +kernel
theorem dX3_times_11 : decode cX3_times 11 = .ok (.lcmp, 1) := by decide +kernel
theorem dX3_times_12 : decode cX3_times 12 = .ok (.ifCond .le 7, 3) := by decide +kernel
theorem dX3_times_15 : decode cX3_times 15 = .ok (.aload_n 0, 1) := by decide +kernel
theorem dX3_times_16 : decode cX3_times 16 = .ok (.invokevirtual 24, 3) := by decide +kernel
theorem dX3_times_19 : decode cX3_times 19 = .ok (.aload_n 0, 1) := by decide +kernel
theorem dX3_times_20 : decode cX3_times 20 = .ok (.dup, 1) := by decide +kernel
theorem dX3_times_21 : decode cX3_times 21 = .ok (.getfield 19, 3) := by decide +kernel
theorem dX3_times_24 : decode cX3_times 24 = .ok (.iload_n 1, 1) := by decide +kernel
theorem dX3_times_25 : decode cX3_times 25 = .ok (.imul, 1) := by decide +kernel
theorem dX3_times_26 : decode cX3_times 26 = .ok (.putfield 19, 3) := by decide +kernel
theorem dX3_times_29 : decode cX3_times 29 = .ok (.return_, 1) := by decide +kernel
theorem dX3_highestBit_0 : decode cX3_highestBit 0 = .ok (.aload_n 0, 1) := by decide +kernel
theorem dX3_highestBit_1 : decode cX3_highestBit 1 = .ok (.invokevirtual 24, 3) := by decide +kernel
theorem dX3_highestBit_4 : decode cX3_highestBit 4 = .ok (.aload_n 0, 1) := by decide +kernel
theorem dX3_highestBit_5 : decode cX3_highestBit 5 = .ok (.getfield 11, 3) := by decide +kernel
theorem dX3_highestBit_8 : decode cX3_highestBit 8 = .ok (.aload_n 0, 1) := by decide +kernel
theorem dX3_highestBit_9 : decode cX3_highestBit 9 = .ok (.getfield 15, 3) := by decide +kernel
theorem dX3_highestBit_12 : decode cX3_highestBit 12 = .ok (.iconst 1, 1) := by decide +kernel
theorem dX3_highestBit_13 : decode cX3_highestBit 13 = .ok (.isub, 1) := by decide +kernel
theorem dX3_highestBit_14 : decode cX3_highestBit 14 = .ok (.iaload, 1) := by decide +kernel
theorem dX3_highestBit_15 : decode cX3_highestBit 15 = .ok (.istore_n 1, 1) := by decide +kernel
theorem dX3_highestBit_16 : decode cX3_highestBit 16 = .ok (.bipush 30, 2) := by decide +kernel
theorem dX3_highestBit_18 : decode cX3_highestBit 18 = .ok (.aload_n 0, 1) := by decide +kernel
theorem dX3_highestBit_19 : decode cX3_highestBit 19 = .ok (.getfield 15, 3) := by decide +kernel
theorem dX3_highestBit_22 : decode cX3_highestBit 22 = .ok (.iconst 1, 1) := by decide +kernel
theorem dX3_highestBit_23 : decode cX3_highestBit 23 = .ok (.isub, 1) := by decide +kernel
theorem dX3_highestBit_24 : decode cX3_highestBit 24 = .ok (.imul, 1) := by decide +kernel
theorem dX3_highestBit_25 : decode cX3_highestBit 25 = .ok (.bipush 31, 2) := by decide +kernel
theorem dX3_highestBit_27 : decode cX3_highestBit 27 = .ok (.iadd, 1) := by decide +kernel
theorem dX3_highestBit_28 : decode cX3_highestBit 28 = .ok (.iload_n 1, 1) := by decide +kernel
theorem dX3_highestBit_29 : decode cX3_highestBit 29 = .ok (.invokestatic 27, 3) := by decide +kernel
theorem dX3_highestBit_32 : decode cX3_highestBit 32 = .ok (.isub, 1) := by decide +kernel
theorem dX3_highestBit_33 : decode cX3_highestBit 33 = .ok (.ireturn, 1) := by decide +kernel
theorem dX3_multiply_0 : decode cX3_multiply 0 = .ok (.lconst 0, 1) := by decide +kernel
theorem dX3_multiply_1 : decode cX3_multiply 1 = .ok (.lstore_n 1, 1) := by decide +kernel
theorem dX3_multiply_2 : decode cX3_multiply 2 = .ok (.iconst 0, 1) := by decide +kernel
theorem dX3_multiply_3 : decode cX3_multiply 3 = .ok (.istore_n 3, 1) := by decide +kernel
theorem dX3_multiply_4 : decode cX3_multiply 4 = .ok (.iload_n 3, 1) := by decide +kernel
theorem dX3_multiply_5 : decode cX3_multiply 5 = .ok (.aload_n 0, 1) := by decide +kernel
theorem dX3_multiply_6 : decode cX3_multiply 6 = .ok (.getfield 15, 3) := by decide +kernel
theorem dX3_multiply_9 : decode cX3_multiply 9 = .ok (.if_icmp .ge 45, 3) := by decide +kernel
theorem dX3_multiply_12 : decode cX3_multiply 12 = .ok (.aload_n 0, 1) := by decide +kernel
theorem dX3_multiply_13 : decode cX3_multiply 13 = .ok (.getfield 11, 3) := by decide +kernel
theorem dX3_multiply_16 : decode cX3_multiply 16 = .ok (.iload_n 3, 1) := by decide +kernel
theorem dX3_multiply_17 : decode cX3_multiply 17 = .ok (.iaload, 1) := by decide +kernel
theorem dX3_multiply_18 : decode cX3_multiply 18 = .ok (.i2l, 1) := by decide +kernel
theorem dX3_multiply_19 : decode cX3_multiply 19 = .ok (.aload_n 0, 1) := by decide +kernel
theorem dX3_multiply_20 : decode cX3_multiply 20 = .ok (.getfield 19, 3) := by decide +kernel
theorem dX3_multiply_23 : decode cX3_multiply 23 = .ok (.i2l, 1) := by decide +kernel
theorem dX3_multiply_24 : decode cX3_multiply 24 = .ok (.lmul, 1) := by decide +kernel
theorem dX3_multiply_25 : decode cX3_multiply 25 = .ok (.lload_n 1, 1) := by decide +kernel
theorem dX3_multiply_26 : decode cX3_multiply 26 = .ok (.ladd, 1) := by decide +kernel
theorem dX3_multiply_27 : decode cX3_multiply 27 = .ok (.lstore 4, 2) := by decide +kernel
theorem dX3_multiply_29 : decode cX3_multiply 29 = .ok (.aload_n 0, 1) := by decide +kernel
theorem dX3_multiply_30 : decode cX3_multiply 30 = .ok (.getfield 11, 3) := by decide +kernel
theorem dX3_multiply_33 : decode cX3_multiply 33 = .ok (.iload_n 3, 1) := by decide +kernel
theorem dX3_multiply_34 : decode cX3_multiply 34 = .ok (.lload 4, 2) := by decide +kernel
theorem dX3_multiply_36 : decode cX3_multiply 36 = .ok (.ldc2_w 22, 3) := by decide +kernel
theorem dX3_multiply_39 : decode cX3_multiply 39 = .ok (.land, 1) := by decide +kernel
theorem dX3_multiply_40 : decode cX3_multiply 40 = .ok (.l2i, 1) := by decide +kernel
theorem dX3_multiply_41 : decode cX3_multiply 41 = .ok (.iastore, 1) := by decide +kernel
theorem dX3_multiply_42 : decode cX3_multiply 42 = .ok (.lload 4, 2) := by decide +kernel
theorem dX3_multiply_44 : decode cX3_multiply 44 = .ok (.bipush 30, 2) := by decide +kernel
theorem dX3_multiply_46 : decode cX3_multiply 46 = .ok (.lshr, 1) := by decide +kernel
theorem dX3_multiply_47 : decode cX3_multiply 47 = .ok (.lstore_n 1, 1) := by decide +kernel
theorem dX3_multiply_48 : decode cX3_multiply 48 = .ok (.iinc 3 1, 3) := by decide +kernel
theorem dX3_multiply_51 : decode cX3_multiply 51 = .ok (.goto (-47), 3) := by decide +kernel
theorem dX3_multiply_54 : decode cX3_multiply 54 = .ok (.lload_n 1, 1) := by decide +kernel
theorem dX3_multiply_55 : decode cX3_multiply 55 = .ok (.lconst 0, 1) := by decide +kernel
theorem dX3_multiply_56 : decode cX3_multiply 56 = .ok (.lcmp, 1) := by decide +kernel
theorem dX3_multiply_57 : decode cX3_multiply 57 = .ok (.ifCond .le 34, 3) := by decide +kernel
theorem dX3_multiply_60 : decode cX3_multiply 60 = .ok (.aload_n 0, 1) := by decide +kernel
theorem dX3_multiply_61 : decode cX3_multiply 61 = .ok (.getfield 15, 3) := by decide +kernel
theorem dX3_multiply_64 : decode cX3_multiply 64 = .ok (.sipush 562, 3) := by decide +kernel
theorem dX3_multiply_67 : decode cX3_multiply 67 = .ok (.if_icmp .ge 24, 3) := by decide +kernel
theorem dX3_multiply_70 : decode cX3_multiply 70 = .ok (.aload_n 0, 1) := by decide +kernel
theorem dX3_multiply_71 : decode cX3_multiply 71 = .ok (.getfield 11, 3) := by decide +kernel
theorem dX3_multiply_74 : decode cX3_multiply 74 = .ok (.aload_n 0, 1) := by decide +kernel
theorem dX3_multiply_75 : decode cX3_multiply 75 = .ok (.getfield 15, 3) := by decide +kernel
theorem dX3_multiply_78 : decode cX3_multiply 78 = .ok (.lload_n 1, 1) := by decide +kernel
theorem dX3_multiply_79 : decode cX3_multiply 79 = .ok (.l2i, 1) := by decide +kernel
theorem dX3_multiply_80 : decode cX3_multiply 80 = .ok (.iastore, 1) := by decide +kernel
theorem dX3_multiply_81 : decode cX3_multiply 81 = .ok (.aload_n 0, 1) := by decide +kernel
theorem dX3_multiply_82 : decode cX3_multiply 82 = .ok (.dup, 1) := by decide +kernel
theorem dX3_multiply_83 : decode cX3_multiply 83 = .ok (.getfield 15, 3) := by decide +kernel
theorem dX3_multiply_86 : decode cX3_multiply 86 = .ok (.iconst 1, 1) := by decide +kernel
theorem dX3_multiply_87 : decode cX3_multiply 87 = .ok (.iadd, 1) := by decide +kernel
theorem dX3_multiply_88 : decode cX3_multiply 88 = .ok (.putfield 15, 3) := by decide +kernel
theorem dX3_multiply_91 : decode cX3_multiply 91 = .ok (.aload_n 0, 1) := by decide +kernel
theorem dX3_multiply_92 : decode cX3_multiply 92 = .ok (.iconst 1, 1) := by decide +kernel
theorem dX3_multiply_93 : decode cX3_multiply 93 = .ok (.putfield 19, 3) := by decide +kernel
theorem dX3_multiply_96 : decode cX3_multiply 96 = .ok (.return_, 1) := by decide +kernel
theorem dX4_init_0 : decode cX4_init 0 = .ok (.aload_n 0, 1) := by decide +kernel
theorem dX4_init_1 : decode cX4_init 1 = .ok (.invokespecial 3, 3) := by decide +kernel
theorem dX4_init_4 : decode cX4_init 4 = .ok (.aload_n 0, 1) := by decide +kernel
theorem dX4_init_5 : decode cX4_init 5 = .ok (.sipush 4000, 3) := by decide +kernel
theorem dX4_init_8 : decode cX4_init 8 = .ok (.newarray .byte, 2) := by decide +kernel
theorem dX4_init_10 : decode cX4_init 10 = .ok (.putfield 9, 3) := by decide +kernel
theorem dX4_init_13 : decode cX4_init 13 = .ok (.aload_n 0, 1) := by decide +kernel
theorem dX4_init_14 : decode cX4_init 14 = .ok (.iconst 0, 1) := by decide +kernel
theorem dX4_init_15 : decode cX4_init 15 = .ok (.putfield 15, 3) := by decide +kernel
theorem dX4_init_18 : decode cX4_init 18 = .ok (.return_, 1) := by decide +kernel
theorem dX4_byteAt_0 : decode cX4_byteAt 0 = .ok (.iload_n 1, 1) := by decide +kernel
theorem dX4_byteAt_1 : decode cX4_byteAt 1 = .ok (.ifCond .lt 18, 3) := by decide +kernel
theorem dX4_byteAt_4 : decode cX4_byteAt 4 = .ok (.iload_n 1, 1) := by decide +kernel
theorem dX4_byteAt_5 : decode cX4_byteAt 5 = .ok (.aload_n 0, 1) := by decide +kernel
theorem dX4_byteAt_6 : decode cX4_byteAt 6 = .ok (.getfield 15, 3) := by decide +kernel
theorem dX4_byteAt_9 : decode cX4_byteAt 9 = .ok (.if_icmp .ge 10, 3) := by decide +kernel
theorem dX4_byteAt_12 : decode cX4_byteAt 12 = .ok (.iload_n 1, 1) := by decide +kernel
theorem dX4_byteAt_13 : decode cX4_byteAt 13 = .ok (.sipush 4000, 3) := by decide +kernel
theorem dX4_byteAt_16 : decode cX4_byteAt 16 = .ok (.if_icmp .lt 7, 3) := by decide +kernel
theorem dX4_byteAt_19 : decode cX4_byteAt 19 = .ok (.iconst (-1), 1) := by decide +kernel
theorem dX4_byteAt_20 : decode cX4_byteAt 20 = .ok (.goto 13, 3) := by decide +kernel
theorem dX4_byteAt_23 : decode cX4_byteAt 23 = .ok (.aload_n 0, 1) := by decide +kernel
theorem dX4_byteAt_24 : decode cX4_byteAt 24 = .ok (.getfield 9, 3) := by decide +kernel
theorem dX4_byteAt_27 : decode cX4_byteAt 27 = .ok (.iload_n 1, 1) := by decide +kernel
theorem dX4_byteAt_28 : decode cX4_byteAt 28 = .ok (.baload, 1) := by decide +kernel
theorem dX4_byteAt_29 : decode cX4_byteAt 29 = .ok (.sipush 255, 3) := by decide +kernel
theorem dX4_byteAt_32 : decode cX4_byteAt 32 = .ok (.iand, 1) := by decide +kernel
theorem dX4_byteAt_33 : decode cX4_byteAt 33 = .ok (.ireturn, 1) := by decide +kernel
theorem dX4_add_0 : decode cX4_add 0 = .ok (.aload_n 0, 1) := by decide +kernel
theorem dX4_add_1 : decode cX4_add 1 = .ok (.getfield 15, 3) := by decide +kernel
theorem dX4_add_4 : decode cX4_add 4 = .ok (.ifCond .lt 34, 3) := by decide +kernel
theorem dX4_add_7 : decode cX4_add 7 = .ok (.aload_n 0, 1) := by decide +kernel
theorem dX4_add_8 : decode cX4_add 8 = .ok (.getfield 15, 3) := by decide +kernel
theorem dX4_add_11 : decode cX4_add 11 = .ok (.sipush 4000, 3) := by decide +kernel
theorem dX4_add_14 : decode cX4_add 14 = .ok (.if_icmp .ge 24, 3) := by decide +kernel
theorem dX4_add_17 : decode cX4_add 17 = .ok (.aload_n 0, 1) := by decide +kernel
theorem dX4_add_18 : decode cX4_add 18 = .ok (.getfield 9, 3) := by decide +kernel
theorem dX4_add_21 : decode cX4_add 21 = .ok (.aload_n 0, 1) := by decide +kernel
theorem dX4_add_22 : decode cX4_add 22 = .ok (.getfield 15, 3) := by decide +kernel
theorem dX4_add_25 : decode cX4_add 25 = .ok (.iload_n 1, 1) := by decide +kernel
theorem dX4_add_26 : decode cX4_add 26 = .ok (.i2b, 1) := by decide +kernel
theorem dX4_add_27 : decode cX4_add 27 = .ok (.bastore, 1) := by decide +kernel
theorem dX4_add_28 : decode cX4_add 28 = .ok (.aload_n 0, 1) := by decide +kernel
theorem dX4_add_29 : decode cX4_add 29 = .ok (.dup, 1) := by decide +kernel
theorem dX4_add_30 : decode cX4_add 30 = .ok (.getfield 15, 3) := by decide +kernel
theorem dX4_add_33 : decode cX4_add 33 = .ok (.iconst 1, 1) := by decide +kernel
theorem dX4_add_34 : decode cX4_add 34 = .ok (.iadd, 1) := by decide +kernel
theorem dX4_add_35 : decode cX4_add 35 = .ok (.putfield 15, 3) := by decide +kernel
theorem dX4_add_38 : decode cX4_add 38 = .ok (.return_, 1) := by decide +kernel
theorem dX4_addNumber_0 : decode cX4_addNumber 0 = .ok (.iload_n 2, 1) := by decide +kernel
theorem dX4_addNumber_1 : decode cX4_addNumber 1 = .ok (.iconst 1, 1) := by decide +kernel
theorem dX4_addNumber_2 : decode cX4_addNumber 2 = .ok (.isub, 1) := by decide +kernel
theorem dX4_addNumber_3 : decode cX4_addNumber 3 = .ok (.istore_n 3, 1) := by decide +kernel
theorem dX4_addNumber_4 : decode cX4_addNumber 4 = .ok (.iload_n 3, 1) := by decide +kernel
theorem dX4_addNumber_5 : decode cX4_addNumber 5 = .ok (.ifCond .lt 19, 3) := by decide +kernel
theorem dX4_addNumber_8 : decode cX4_addNumber 8 = .ok (.aload_n 0, 1) := by decide +kernel
theorem dX4_addNumber_9 : decode cX4_addNumber 9 = .ok (.iload_n 1, 1) := by decide +kernel
theorem dX4_addNumber_10 : decode cX4_addNumber 10 = .ok (.bipush 8, 2) := by decide +kernel
theorem dX4_addNumber_12 : decode cX4_addNumber 12 = .ok (.iload_n 3, 1) := by decide +kernel
theorem dX4_addNumber_13 : decode cX4_addNumber 13 = .ok (.imul, 1) := by decide +kernel
theorem dX4_addNumber_14 : decode cX4_addNumber 14 = .ok (.iushr, 1) := by decide +kernel
theorem dX4_addNumber_15 : decode cX4_addNumber 15 = .ok (.invokevirtual 19, 3) := by decide +kernel
theorem dX4_addNumber_18 : decode cX4_addNumber 18 = .ok (.iinc 3 (-1), 3) := by decide +kernel
theorem dX4_addNumber_21 : decode cX4_addNumber 21 = .ok (.goto (-17), 3) := by decide +kernel
theorem dX4_addNumber_24 : decode cX4_addNumber 24 = .ok (.return_, 1) := by decide +kernel
theorem dX4_copy_0 : decode cX4_copy 0 = .ok (.aload_n 1, 1) := by decide +kernel
theorem dX4_copy_1 : decode cX4_copy 1 = .ok (.getfield 9, 3) := by decide +kernel
theorem dX4_copy_4 : decode cX4_copy 4 = .ok (.iconst 0, 1) := by decide +kernel
theorem dX4_copy_5 : decode cX4_copy 5 = .ok (.aload_n 0, 1) := by decide +kernel
theorem dX4_copy_6 : decode cX4_copy 6 = .ok (.getfield 9, 3) := by decide +kernel
theorem dX4_copy_9 : decode cX4_copy 9 = .ok (.iconst 0, 1) := by decide +kernel
theorem dX4_copy_10 : decode cX4_copy 10 = .ok (.sipush 4000, 3) := by decide +kernel
theorem dX4_copy_13 : decode cX4_copy 13 = .ok (.invokestatic 23, 3) := by decide +kernel
theorem dX4_copy_16 : decode cX4_copy 16 = .ok (.aload_n 0, 1) := by decide +kernel
theorem dX4_copy_17 : decode cX4_copy 17 = .ok (.aload_n 1, 1) := by decide +kernel
theorem dX4_copy_18 : decode cX4_copy 18 = .ok (.getfield 15, 3) := by decide +kernel
theorem dX4_copy_21 : decode cX4_copy 21 = .ok (.putfield 15, 3) := by decide +kernel
theorem dX4_copy_24 : decode cX4_copy 24 = .ok (.return_, 1) := by decide +kernel
theorem dX5_init_0 : decode cX5_init 0 = .ok (.aload_n 0, 1) := by decide +kernel
theorem dX5_init_1 : decode cX5_init 1 = .ok (.invokespecial 3, 3) := by decide +kernel
theorem dX5_init_4 : decode cX5_init 4 = .ok (.aload_n 0, 1) := by decide +kernel
theorem dX5_init_5 : decode cX5_init 5 = .ok (.sipush 4096, 3) := by decide +kernel
theorem dX5_init_8 : decode cX5_init 8 = .ok (.newarray .int, 2) := by decide +kernel
theorem dX5_init_10 : decode cX5_init 10 = .ok (.putfield 9, 3) := by decide +kernel
theorem dX5_init_13 : decode cX5_init 13 = .ok (.aload_n 0, 1) := by decide +kernel
theorem dX5_init_14 : decode cX5_init 14 = .ok (.sipush 4096, 3) := by decide +kernel
theorem dX5_init_17 : decode cX5_init 17 = .ok (.newarray .int, 2) := by decide +kernel
theorem dX5_init_19 : decode cX5_init 19 = .ok (.putfield 15, 3) := by decide +kernel
theorem dX5_init_22 : decode cX5_init 22 = .ok (.aload_n 0, 1) := by decide +kernel
theorem dX5_init_23 : decode cX5_init 23 = .ok (.sipush 256, 3) := by decide +kernel
theorem dX5_init_26 : decode cX5_init 26 = .ok (.newarray .int, 2) := by decide +kernel
theorem dX5_init_28 : decode cX5_init 28 = .ok (.putfield 18, 3) := by decide +kernel
theorem dX5_init_31 : decode cX5_init 31 = .ok (.aload_n 0, 1) := by decide +kernel
theorem dX5_init_32 : decode cX5_init 32 = .ok (.sipush 256, 3) := by decide +kernel
theorem dX5_init_35 : decode cX5_init 35 = .ok (.newarray .int, 2) := by decide +kernel
theorem dX5_init_37 : decode cX5_init 37 = .ok (.putfield 21, 3) := by decide +kernel
theorem dX5_init_40 : decode cX5_init 40 = .ok (.aload_n 0, 1) := by decide +kernel
theorem dX5_init_41 : decode cX5_init 41 = .ok (.sipush 256, 3) := by decide +kernel
theorem dX5_init_44 : decode cX5_init 44 = .ok (.newarray .int, 2) := by decide +kernel
theorem dX5_init_46 : decode cX5_init 46 = .ok (.putfield 24, 3) := by decide +kernel
theorem dX5_init_49 : decode cX5_init 49 = .ok (.aload_n 0, 1) := by decide +kernel
theorem dX5_init_50 : decode cX5_init 50 = .ok (.sipush 256, 3) := by decide +kernel
theorem dX5_init_53 : decode cX5_init 53 = .ok (.newarray .int, 2) := by decide +kernel
theorem dX5_init_55 : decode cX5_init 55 = .ok (.putfield 27, 3) := by decide +kernel
theorem dX5_init_58 : decode cX5_init 58 = .ok (.aload_n 0, 1) := by decide +kernel
theorem dX5_init_59 : decode cX5_init 59 = .ok (.iconst 0, 1) := by decide +kernel
theorem dX5_init_60 : decode cX5_init 60 = .ok (.putfield 30, 3) := by decide +kernel
theorem dX5_init_63 : decode cX5_init 63 = .ok (.aload_n 0, 1) := by decide +kernel
theorem dX5_init_64 : decode cX5_init 64 = .ok (.iconst 0, 1) := by decide +kernel
theorem dX5_init_65 : decode cX5_init 65 = .ok (.putfield 34, 3) := by decide +kernel
theorem dX5_init_68 : decode cX5_init 68 = .ok (.aload_n 0, 1) := by decide +kernel
theorem dX5_init_69 : decode cX5_init 69 = .ok (.iconst (-1), 1) := by decide +kernel
theorem dX5_init_70 : decode cX5_init 70 = .ok (.putfield 37, 3) := by decide +kernel
theorem dX5_init_73 : decode cX5_init 73 = .ok (.aload_n 0, 1) := by decide +kernel
theorem dX5_init_74 : decode cX5_init 74 = .ok (.aconst_null, 1) := by decide +kernel
theorem dX5_init_75 : decode cX5_init 75 = .ok (.putfield 40, 3) := by decide +kernel
theorem dX5_init_78 : decode cX5_init 78 = .ok (.return_, 1) := by decide +kernel
theorem dX5_forget_0 : decode cX5_forget 0 = .ok (.aload_n 0, 1) := by decide +kernel
theorem dX5_forget_1 : decode cX5_forget 1 = .ok (.aconst_null, 1) := by decide +kernel
theorem dX5_forget_2 : decode cX5_forget 2 = .ok (.putfield 40, 3) := by decide +kernel
theorem dX5_forget_5 : decode cX5_forget 5 = .ok (.return_, 1) := by decide +kernel
theorem dX5_shareOf_0 : decode cX5_shareOf 0 = .ok (.iload_n 1, 1) := by decide +kernel
theorem dX5_shareOf_1 : decode cX5_shareOf 1 = .ok (.invokestatic 44, 3) := by decide +kernel
theorem dX5_shareOf_4 : decode cX5_shareOf 4 = .ok (.ifCond .eq 12, 3) := by decide +kernel
theorem dX5_shareOf_7 : decode cX5_shareOf 7 = .ok (.aload_n 0, 1) := by decide +kernel
theorem dX5_shareOf_8 : decode cX5_shareOf 8 = .ok (.getfield 18, 3) := by decide +kernel
theorem dX5_shareOf_11 : decode cX5_shareOf 11 = .ok (.iload_n 1, 1) := by decide +kernel
theorem dX5_shareOf_12 : decode cX5_shareOf 12 = .ok (.iaload, 1) := by decide +kernel
theorem dX5_shareOf_13 : decode cX5_shareOf 13 = .ok (.goto 4, 3) := by decide +kernel
theorem dX5_shareOf_16 : decode cX5_shareOf 16 = .ok (.iconst 0, 1) := by decide +kernel
theorem dX5_shareOf_17 : decode cX5_shareOf 17 = .ok (.ireturn, 1) := by decide +kernel
theorem dX5_startOf_0 : decode cX5_startOf 0 = .ok (.iload_n 1, 1) := by decide +kernel
theorem dX5_startOf_1 : decode cX5_startOf 1 = .ok (.invokestatic 44, 3) := by decide +kernel
theorem dX5_startOf_4 : decode cX5_startOf 4 = .ok (.ifCond .eq 12, 3) := by decide +kernel
theorem dX5_startOf_7 : decode cX5_startOf 7 = .ok (.aload_n 0, 1) := by decide +kernel
theorem dX5_startOf_8 : decode cX5_startOf 8 = .ok (.getfield 21, 3) := by decide +kernel
theorem dX5_startOf_11 : decode cX5_startOf 11 = .ok (.iload_n 1, 1) := by decide +kernel
theorem dX5_startOf_12 : decode cX5_startOf 12 = .ok (.iaload, 1) := by decide +kernel
theorem dX5_startOf_13 : decode cX5_startOf 13 = .ok (.goto 4, 3) := by decide +kernel
theorem dX5_startOf_16 : decode cX5_startOf 16 = .ok (.iconst 0, 1) := by decide +kernel
theorem dX5_startOf_17 : decode cX5_startOf 17 = .ok (.ireturn, 1) := by decide +kernel
theorem dX5_symbolAt_0 : decode cX5_symbolAt 0 = .ok (.iload_n 1, 1) := by decide +kernel
theorem dX5_symbolAt_1 : decode cX5_symbolAt 1 = .ok (.ifCond .lt 24, 3) := by decide +kernel
theorem dX5_symbolAt_4 : decode cX5_symbolAt 4 = .ok (.iload_n 1, 1) := by decide +kernel
theorem dX5_symbolAt_5 : decode cX5_symbolAt 5 = .ok (.aload_n 0, 1) := by decide +kernel
theorem dX5_symbolAt_6 : decode cX5_symbolAt 6 = .ok (.getfield 34, 3) := by decide +kernel
theorem dX5_symbolAt_9 : decode cX5_symbolAt 9 = .ok (.if_icmp .ge 16, 3) := by decide +kernel
theorem dX5_symbolAt_12 : decode cX5_symbolAt 12 = .ok (.aload_n 0, 1) := by decide +kernel
theorem dX5_symbolAt_13 : decode cX5_symbolAt 13 = .ok (.getfield 9, 3) := by decide +kernel
theorem dX5_symbolAt_16 : decode cX5_symbolAt 16 = .ok (.iload_n 1, 1) := by decide +kernel
theorem dX5_symbolAt_17 : decode cX5_symbolAt 17 = .ok (.iaload, 1) := by decide +kernel
theorem dX5_symbolAt_18 : decode cX5_symbolAt 18 = .ok (.sipush 255, 3) := by decide +kernel
theorem dX5_symbolAt_21 : decode cX5_symbolAt 21 = .ok (.iand, 1) := by decide +kernel
theorem dX5_symbolAt_22 : decode cX5_symbolAt 22 = .ok (.goto 4, 3) := by decide +kernel
theorem dX5_symbolAt_25 : decode cX5_symbolAt 25 = .ok (.iconst 0, 1) := by decide +kernel
theorem dX5_symbolAt_26 : decode cX5_symbolAt 26 = .ok (.ireturn, 1) := by decide +kernel
theorem dX5_rankAt_0 : decode cX5_rankAt 0 = .ok (.iload_n 1, 1) := by decide +kernel
theorem dX5_rankAt_1 : decode cX5_rankAt 1 = .ok (.ifCond .lt 23, 3) := by decide +kernel
theorem dX5_rankAt_4 : decode cX5_rankAt 4 = .ok (.iload_n 1, 1) := by decide +kernel
theorem dX5_rankAt_5 : decode cX5_rankAt 5 = .ok (.aload_n 0, 1) := by decide +kernel
theorem dX5_rankAt_6 : decode cX5_rankAt 6 = .ok (.getfield 34, 3) := by decide +kernel
theorem dX5_rankAt_9 : decode cX5_rankAt 9 = .ok (.if_icmp .ge 15, 3) := by decide +kernel
theorem dX5_rankAt_12 : decode cX5_rankAt 12 = .ok (.aload_n 0, 1) := by decide +kernel
theorem dX5_rankAt_13 : decode cX5_rankAt 13 = .ok (.getfield 9, 3) := by decide +kernel
theorem dX5_rankAt_16 : decode cX5_rankAt 16 = .ok (.iload_n 1, 1) := by decide +kernel
theorem dX5_rankAt_17 : decode cX5_rankAt 17 = .ok (.iaload, 1) := by decide +kernel
theorem dX5_rankAt_18 : decode cX5_rankAt 18 = .ok (.bipush 8, 2) := by decide +kernel
theorem dX5_rankAt_20 : decode cX5_rankAt 20 = .ok (.ishr, 1) := by decide +kernel
theorem dX5_rankAt_21 : decode cX5_rankAt 21 = .ok (.goto 4, 3) := by decide +kernel
theorem dX5_rankAt_24 : decode cX5_rankAt 24 = .ok (.iconst 0, 1) := by decide +kernel
theorem dX5_rankAt_25 : decode cX5_rankAt 25 = .ok (.ireturn, 1) := by decide +kernel
theorem dX5_placeOf_0 : decode cX5_placeOf 0 = .ok (.aload_n 0, 1) := by decide +kernel
theorem dX5_placeOf_1 : decode cX5_placeOf 1 = .ok (.iload_n 1, 1) := by decide +kernel
theorem dX5_placeOf_2 : decode cX5_placeOf 2 = .ok (.invokevirtual 48, 3) := by decide +kernel
theorem dX5_placeOf_5 : decode cX5_placeOf 5 = .ok (.iload_n 2, 1) := by decide +kernel
theorem dX5_placeOf_6 : decode cX5_placeOf 6 = .ok (.iadd, 1) := by decide +kernel
theorem dX5_placeOf_7 : decode cX5_placeOf 7 = .ok (.aload_n 0, 1) := by decide +kernel
theorem dX5_placeOf_8 : decode cX5_placeOf 8 = .ok (.iload_n 1, 1) := by decide +kernel
theorem dX5_placeOf_9 : decode cX5_placeOf 9 = .ok (.invokevirtual 52, 3) := by decide +kernel
theorem dX5_placeOf_12 : decode cX5_placeOf 12 = .ok (.isub, 1) := by decide +kernel
theorem dX5_placeOf_13 : decode cX5_placeOf 13 = .ok (.istore_n 3, 1) := by decide +kernel
theorem dX5_placeOf_14 : decode cX5_placeOf 14 = .ok (.iload_n 3, 1) := by decide +kernel
theorem dX5_placeOf_15 : decode cX5_placeOf 15 = .ok (.ifCond .lt 20, 3) := by decide +kernel
theorem dX5_placeOf_18 : decode cX5_placeOf 18 = .ok (.iload_n 3, 1) := by decide +kernel
theorem dX5_placeOf_19 : decode cX5_placeOf 19 = .ok (.aload_n 0, 1) := by decide +kernel
theorem dX5_placeOf_20 : decode cX5_placeOf 20 = .ok (.getfield 34, 3) := by decide +kernel
theorem dX5_placeOf_23 : decode cX5_placeOf 23 = .ok (.if_icmp .ge 12, 3) := by decide +kernel
theorem dX5_placeOf_26 : decode cX5_placeOf 26 = .ok (.aload_n 0, 1) := by decide +kernel
theorem dX5_placeOf_27 : decode cX5_placeOf 27 = .ok (.getfield 15, 3) := by decide +kernel
theorem dX5_placeOf_30 : decode cX5_placeOf 30 = .ok (.iload_n 3, 1) := by decide +kernel
theorem dX5_placeOf_31 : decode cX5_placeOf 31 = .ok (.iaload, 1) := by decide +kernel
theorem dX5_placeOf_32 : decode cX5_placeOf 32 = .ok (.goto 4, 3) := by decide +kernel
theorem dX5_placeOf_35 : decode cX5_placeOf 35 = .ok (.iconst 0, 1) := by decide +kernel
theorem dX5_placeOf_36 : decode cX5_placeOf 36 = .ok (.ireturn, 1) := by decide +kernel
theorem dX5_lay_0 : decode cX5_lay 0 = .ok (.aload_n 1, 1) := by decide +kernel
theorem dX5_lay_1 : decode cX5_lay 1 = .ok (.aload_n 0, 1) := by decide +kernel
theorem dX5_lay_2 : decode cX5_lay 2 = .ok (.getfield 40, 3) := by decide +kernel
theorem dX5_lay_5 : decode cX5_lay 5 = .ok (.if_acmp .ne 12, 3) := by decide +kernel
theorem dX5_lay_8 : decode cX5_lay 8 = .ok (.iload_n 2, 1) := by decide +kernel
theorem dX5_lay_9 : decode cX5_lay 9 = .ok (.aload_n 0, 1) := by decide +kernel
theorem dX5_lay_10 : decode cX5_lay 10 = .ok (.getfield 37, 3) := by decide +kernel
theorem dX5_lay_13 : decode cX5_lay 13 = .ok (.if_icmp .ne 4, 3) := by decide +kernel
theorem dX5_lay_16 : decode cX5_lay 16 = .ok (.return_, 1) := by decide +kernel
theorem dX5_lay_17 : decode cX5_lay 17 = .ok (.aload_n 0, 1) := by decide +kernel
theorem dX5_lay_18 : decode cX5_lay 18 = .ok (.aload_n 1, 1) := by decide +kernel
theorem dX5_lay_19 : decode cX5_lay 19 = .ok (.putfield 40, 3) := by decide +kernel
theorem dX5_lay_22 : decode cX5_lay 22 = .ok (.aload_n 0, 1) := by decide +kernel
theorem dX5_lay_23 : decode cX5_lay 23 = .ok (.iload_n 2, 1) := by decide +kernel
theorem dX5_lay_24 : decode cX5_lay 24 = .ok (.putfield 37, 3) := by decide +kernel
theorem dX5_lay_27 : decode cX5_lay 27 = .ok (.aload_n 0, 1) := by decide +kernel
theorem dX5_lay_28 : decode cX5_lay 28 = .ok (.aload_n 1, 1) := by decide +kernel
theorem dX5_lay_29 : decode cX5_lay 29 = .ok (.invokevirtual 55, 3) := by decide +kernel
theorem dX5_lay_32 : decode cX5_lay 32 = .ok (.sipush 4096, 3) := by decide +kernel
theorem dX5_lay_35 : decode cX5_lay 35 = .ok (.invokestatic 60, 3) := by decide +kernel
theorem dX5_lay_38 : decode cX5_lay 38 = .ok (.putfield 34, 3) := by decide +kernel
theorem dX5_lay_41 : decode cX5_lay 41 = .ok (.aload_n 0, 1) := by decide +kernel
theorem dX5_lay_42 : decode cX5_lay 42 = .ok (.aload_n 1, 1) := by decide +kernel
theorem dX5_lay_43 : decode cX5_lay 43 = .ok (.invokevirtual 66, 3) := by decide +kernel
theorem dX5_lay_46 : decode cX5_lay 46 = .ok (.aload_n 0, 1) := by decide +kernel
theorem dX5_lay_47 : decode cX5_lay 47 = .ok (.getfield 37, 3) := by decide +kernel
theorem dX5_lay_50 : decode cX5_lay 50 = .ok (.iconst 2, 1) := by decide +kernel
theorem dX5_lay_51 : decode cX5_lay 51 = .ok (.if_icmp .ne 10, 3) := by decide +kernel
theorem dX5_lay_54 : decode cX5_lay 54 = .ok (.aload_n 0, 1) := by decide +kernel
theorem dX5_lay_55 : decode cX5_lay 55 = .ok (.invokevirtual 70, 3) := by decide +kernel
theorem dX5_lay_58 : decode cX5_lay 58 = .ok (.goto 37, 3) := by decide +kernel
theorem dX5_lay_61 : decode cX5_lay 61 = .ok (.aload_n 0, 1) := by decide +kernel
theorem dX5_lay_62 : decode cX5_lay 62 = .ok (.aload_n 0, 1) := by decide +kernel
theorem dX5_lay_63 : decode cX5_lay 63 = .ok (.getfield 37, 3) := by decide +kernel
theorem dX5_lay_66 : decode cX5_lay 66 = .ok (.iconst 1, 1) := by decide +kernel
theorem dX5_lay_67 : decode cX5_lay 67 = .ok (.if_icmp .ne 24, 3) := by decide +kernel
theorem dX5_lay_70 : decode cX5_lay 70 = .ok (.aload_n 0, 1) := by decide +kernel
theorem dX5_lay_71 : decode cX5_lay 71 = .ok (.getfield 34, 3) := by decide +kernel
theorem dX5_lay_74 : decode cX5_lay 74 = .ok (.iconst 2, 1) := by decide +kernel
theorem dX5_lay_75 : decode cX5_lay 75 = .ok (.idiv, 1) := by decide +kernel
theorem dX5_lay_76 : decode cX5_lay 76 = .ok (.aload_n 0, 1) := by decide +kernel
theorem dX5_lay_77 : decode cX5_lay 77 = .ok (.getfield 34, 3) := by decide +kernel
theorem dX5_lay_80 : decode cX5_lay 80 = .ok (.bipush 8, 2) := by decide +kernel
theorem dX5_lay_82 : decode cX5_lay 82 = .ok (.idiv, 1) := by decide +kernel
theorem dX5_lay_83 : decode cX5_lay 83 = .ok (.iadd, 1) := by decide +kernel
theorem dX5_lay_84 : decode cX5_lay 84 = .ok (.iconst 3, 1) := by decide +kernel
theorem dX5_lay_85 : decode cX5_lay 85 = .ok (.iadd, 1) := by decide +kernel
theorem dX5_lay_86 : decode cX5_lay 86 = .ok (.iconst 1, 1) := by decide +kernel
theorem dX5_lay_87 : decode cX5_lay 87 = .ok (.ior, 1) := by decide +kernel
theorem dX5_lay_88 : decode cX5_lay 88 = .ok (.goto 4, 3) := by decide +kernel
theorem dX5_lay_91 : decode cX5_lay 91 = .ok (.iconst 1, 1) := by decide +kernel
theorem dX5_lay_92 : decode cX5_lay 92 = .ok (.invokevirtual 73, 3) := by decide +kernel
theorem dX5_lay_95 : decode cX5_lay 95 = .ok (.aload_n 0, 1) := by decide +kernel
theorem dX5_lay_96 : decode cX5_lay 96 = .ok (.invokevirtual 77, 3) := by decide +kernel
theorem dX5_lay_99 : decode cX5_lay 99 = .ok (.return_, 1) := by decide +kernel
theorem dX5_takeShares_0 : decode cX5_takeShares 0 = .ok (.iconst 0, 1) := by decide +kernel
theorem dX5_takeShares_1 : decode cX5_takeShares 1 = .ok (.istore_n 2, 1) := by decide +kernel
theorem dX5_takeShares_2 : decode cX5_takeShares 2 = .ok (.iconst 0, 1) := by decide +kernel
theorem dX5_takeShares_3 : decode cX5_takeShares 3 = .ok (.istore_n 3, 1) := by decide +kernel
theorem dX5_takeShares_4 : decode cX5_takeShares 4 = .ok (.iload_n 3, 1) := by decide +kernel
theorem dX5_takeShares_5 : decode cX5_takeShares 5 = .ok (.sipush 256, 3) := by decide +kernel
theorem dX5_takeShares_8 : decode cX5_takeShares 8 = .ok (.if_icmp .ge 36, 3) := by decide +kernel
theorem dX5_takeShares_11 : decode cX5_takeShares 11 = .ok (.aload_n 0, 1) := by decide +kernel
theorem dX5_takeShares_12 : decode cX5_takeShares 12 = .ok (.getfield 18, 3) := by decide +kernel
theorem dX5_takeShares_15 : decode cX5_takeShares 15 = .ok (.iload_n 3, 1) := by decide +kernel
theorem dX5_takeShares_16 : decode cX5_takeShares 16 = .ok (.aload_n 1, 1) := by decide +kernel
theorem dX5_takeShares_17 : decode cX5_takeShares 17 = .ok (.iload_n 3, 1) := by decide +kernel
theorem dX5_takeShares_18 : decode cX5_takeShares 18 = .ok (.invokevirtual 80, 3) := by decide +kernel
theorem dX5_takeShares_21 : decode cX5_takeShares 21 = .ok (.iastore, 1) := by decide +kernel
theorem dX5_takeShares_22 : decode cX5_takeShares 22 = .ok (.aload_n 0, 1) := by decide +kernel
theorem dX5_takeShares_23 : decode cX5_takeShares 23 = .ok (.getfield 21, 3) := by decide +kernel
theorem dX5_takeShares_26 : decode cX5_takeShares 26 = .ok (.iload_n 3, 1) := by decide +kernel
theorem dX5_takeShares_27 : decode cX5_takeShares 27 = .ok (.iload_n 2, 1) := by decide +kernel
theorem dX5_takeShares_28 : decode cX5_takeShares 28 = .ok (.iastore, 1) := by decide +kernel
theorem dX5_takeShares_29 : decode cX5_takeShares 29 = .ok (.iload_n 2, 1) := by decide +kernel
theorem dX5_takeShares_30 : decode cX5_takeShares 30 = .ok (.aload_n 0, 1) := by decide +kernel
theorem dX5_takeShares_31 : decode cX5_takeShares 31 = .ok (.getfield 18, 3) := by decide +kernel
theorem dX5_takeShares_34 : decode cX5_takeShares 34 = .ok (.iload_n 3, 1) := by decide +kernel
theorem dX5_takeShares_35 : decode cX5_takeShares 35 = .ok (.iaload, 1) := by decide +kernel
theorem dX5_takeShares_36 : decode cX5_takeShares 36 = .ok (.iadd, 1) := by decide +kernel
theorem dX5_takeShares_37 : decode cX5_takeShares 37 = .ok (.istore_n 2, 1) := by decide +kernel
theorem dX5_takeShares_38 : decode cX5_takeShares 38 = .ok (.iinc 3 1, 3) := by decide +kernel
theorem dX5_takeShares_41 : decode cX5_takeShares 41 = .ok (.goto (-37), 3) := by decide +kernel
theorem dX5_takeShares_44 : decode cX5_takeShares 44 = .ok (.return_, 1) := by decide +kernel
theorem dX5_layByStep_0 : decode cX5_layByStep 0 = .ok (.iconst 0, 1) := by decide +kernel
theorem dX5_layByStep_1 : decode cX5_layByStep 1 = .ok (.istore_n 2, 1) := by decide +kernel
theorem dX5_layByStep_2 : decode cX5_layByStep 2 = .ok (.iconst 0, 1) := by decide +kernel
theorem dX5_layByStep_3 : decode cX5_layByStep 3 = .ok (.istore_n 3, 1) := by decide +kernel
theorem dX5_layByStep_4 : decode cX5_layByStep 4 = .ok (.iload_n 3, 1) := by decide +kernel
theorem dX5_layByStep_5 : decode cX5_layByStep 5 = .ok (.sipush 256, 3) := by decide +kernel
theorem dX5_layByStep_8 : decode cX5_layByStep 8 = .ok (.if_icmp .ge 47, 3) := by decide +kernel
theorem dX5_layByStep_11 : decode cX5_layByStep 11 = .ok (.iconst 0, 1) := by decide +kernel
theorem dX5_layByStep_12 : decode cX5_layByStep 12 = .ok (.istore 4, 2) := by decide +kernel
theorem dX5_layByStep_14 : decode cX5_layByStep 14 = .ok (.iload 4, 2) := by decide +kernel
theorem dX5_layByStep_16 : decode cX5_layByStep 16 = .ok (.aload_n 0, 1) := by decide +kernel
theorem dX5_layByStep_17 : decode cX5_layByStep 17 = .ok (.getfield 18, 3) := by decide +kernel
theorem dX5_layByStep_20 : decode cX5_layByStep 20 = .ok (.iload_n 3, 1) := by decide +kernel
theorem dX5_layByStep_21 : decode cX5_layByStep 21 = .ok (.iaload, 1) := by decide +kernel
theorem dX5_layByStep_22 : decode cX5_layByStep 22 = .ok (.if_icmp .ge 27, 3) := by decide +kernel
theorem dX5_layByStep_25 : decode cX5_layByStep 25 = .ok (.aload_n 0, 1) := by decide +kernel
theorem dX5_layByStep_26 : decode cX5_layByStep 26 = .ok (.getfield 9, 3) := by decide +kernel
theorem dX5_layByStep_29 : decode cX5_layByStep 29 = .ok (.iload_n 2, 1) := by decide +kernel
theorem dX5_layByStep_30 : decode cX5_layByStep 30 = .ok (.iload_n 3, 1) := by decide +kernel
theorem dX5_layByStep_31 : decode cX5_layByStep 31 = .ok (.iastore, 1) := by decide +kernel
theorem dX5_layByStep_32 : decode cX5_layByStep 32 = .ok (.iload_n 2, 1) := by decide +kernel
theorem dX5_layByStep_33 : decode cX5_layByStep 33 = .ok (.iload_n 1, 1) := by decide +kernel
theorem dX5_layByStep_34 : decode cX5_layByStep 34 = .ok (.iadd, 1) := by decide +kernel
theorem dX5_layByStep_35 : decode cX5_layByStep 35 = .ok (.aload_n 0, 1) := by decide +kernel
theorem dX5_layByStep_36 : decode cX5_layByStep 36 = .ok (.getfield 34, 3) := by decide +kernel
theorem dX5_layByStep_39 : decode cX5_layByStep 39 = .ok (.iconst 1, 1) := by decide +kernel
theorem dX5_layByStep_40 : decode cX5_layByStep 40 = .ok (.isub, 1) := by decide +kernel
theorem dX5_layByStep_41 : decode cX5_layByStep 41 = .ok (.iand, 1) := by decide +kernel
theorem dX5_layByStep_42 : decode cX5_layByStep 42 = .ok (.istore_n 2, 1) := by decide +kernel
theorem dX5_layByStep_43 : decode cX5_layByStep 43 = .ok (.iinc 4 1, 3) := by decide +kernel
theorem dX5_layByStep_46 : decode cX5_layByStep 46 = .ok (.goto (-32), 3) := by decide +kernel
theorem dX5_layByStep_49 : decode cX5_layByStep 49 = .ok (.iinc 3 1, 3) := by decide +kernel
theorem dX5_layByStep_52 : decode cX5_layByStep 52 = .ok (.goto (-48), 3) := by decide +kernel
theorem dX5_layByStep_55 : decode cX5_layByStep 55 = .ok (.return_, 1) := by decide +kernel
theorem dX5_layEven_0 : decode cX5_layEven 0 = .ok (.aload_n 0, 1) := by decide +kernel
theorem dX5_layEven_1 : decode cX5_layEven 1 = .ok (.getfield 24, 3) := by decide +kernel
theorem dX5_layEven_4 : decode cX5_layEven 4 = .ok (.iconst 0, 1) := by decide +kernel
theorem dX5_layEven_5 : decode cX5_layEven 5 = .ok (.invokestatic 81, 3) := by decide +kernel
theorem dX5_layEven_8 : decode cX5_layEven 8 = .ok (.aload_n 0, 1) := by decide +kernel
theorem dX5_layEven_9 : decode cX5_layEven 9 = .ok (.iconst 0, 1) := by decide +kernel
theorem dX5_layEven_10 : decode cX5_layEven 10 = .ok (.putfield 30, 3) := by decide +kernel
theorem dX5_layEven_13 : decode cX5_layEven 13 = .ok (.iconst 0, 1) := by decide +kernel
theorem dX5_layEven_14 : decode cX5_layEven 14 = .ok (.istore_n 1, 1) := by decide +kernel
theorem dX5_layEven_15 : decode cX5_layEven 15 = .ok (.iload_n 1, 1) := by decide +kernel
theorem dX5_layEven_16 : decode cX5_layEven 16 = .ok (.sipush 256, 3) := by decide +kernel
theorem dX5_layEven_19 : decode cX5_layEven 19 = .ok (.if_icmp .ge 38, 3) := by decide +kernel
theorem dX5_layEven_22 : decode cX5_layEven 22 = .ok (.aload_n 0, 1) := by decide +kernel
theorem dX5_layEven_23 : decode cX5_layEven 23 = .ok (.getfield 18, 3) := by decide +kernel
theorem dX5_layEven_26 : decode cX5_layEven 26 = .ok (.iload_n 1, 1) := by decide +kernel
theorem dX5_layEven_27 : decode cX5_layEven 27 = .ok (.iaload, 1) := by decide +kernel
theorem dX5_layEven_28 : decode cX5_layEven 28 = .ok (.ifCond .le 23, 3) := by decide +kernel
theorem dX5_layEven_31 : decode cX5_layEven 31 = .ok (.aload_n 0, 1) := by decide +kernel
theorem dX5_layEven_32 : decode cX5_layEven 32 = .ok (.getfield 27, 3) := by decide +kernel
theorem dX5_layEven_35 : decode cX5_layEven 35 = .ok (.aload_n 0, 1) := by decide +kernel
theorem dX5_layEven_36 : decode cX5_layEven 36 = .ok (.getfield 30, 3) := by decide +kernel
theorem dX5_layEven_39 : decode cX5_layEven 39 = .ok (.iload_n 1, 1) := by decide +kernel
theorem dX5_layEven_40 : decode cX5_layEven 40 = .ok (.iastore, 1) := by decide +kernel
theorem dX5_layEven_41 : decode cX5_layEven 41 = .ok (.aload_n 0, 1) := by decide +kernel
theorem dX5_layEven_42 : decode cX5_layEven 42 = .ok (.dup, 1) := by decide +kernel
theorem dX5_layEven_43 : decode cX5_layEven 43 = .ok (.getfield 30, 3) := by decide +kernel
theorem dX5_layEven_46 : decode cX5_layEven 46 = .ok (.iconst 1, 1) := by decide +kernel
theorem dX5_layEven_47 : decode cX5_layEven 47 = .ok (.iadd, 1) := by decide +kernel
theorem dX5_layEven_48 : decode cX5_layEven 48 = .ok (.putfield 30, 3) := by decide +kernel
theorem dX5_layEven_51 : decode cX5_layEven 51 = .ok (.iinc 1 1, 3) := by decide +kernel
theorem dX5_layEven_54 : decode cX5_layEven 54 = .ok (.goto (-39), 3) := by decide +kernel
theorem dX5_layEven_57 : decode cX5_layEven 57 = .ok (.aload_n 0, 1) := by decide +kernel
theorem dX5_layEven_58 : decode cX5_layEven 58 = .ok (.getfield 30, 3) := by decide +kernel
theorem dX5_layEven_61 : decode cX5_layEven 61 = .ok (.iconst 2, 1) := by decide +kernel
theorem dX5_layEven_62 : decode cX5_layEven 62 = .ok (.idiv, 1) := by decide +kernel
theorem dX5_layEven_63 : decode cX5_layEven 63 = .ok (.istore_n 1, 1) := by decide +kernel
theorem dX5_layEven_64 : decode cX5_layEven 64 = .ok (.iload_n 1, 1) := by decide +kernel
theorem dX5_layEven_65 : decode cX5_layEven 65 = .ok (.ifCond .lt 14, 3) := by decide +kernel
theorem dX5_layEven_68 : decode cX5_layEven 68 = .ok (.aload_n 0, 1) := by decide +kernel
theorem dX5_layEven_69 : decode cX5_layEven 69 = .ok (.iload_n 1, 1) := by decide +kernel
theorem dX5_layEven_70 : decode cX5_layEven 70 = .ok (.invokevirtual 87, 3) := by decide +kernel
theorem dX5_layEven_73 : decode cX5_layEven 73 = .ok (.iinc 1 (-1), 3) := by decide +kernel
theorem dX5_layEven_76 : decode cX5_layEven 76 = .ok (.goto (-12), 3) := by decide +kernel
theorem dX5_layEven_79 : decode cX5_layEven 79 = .ok (.iconst 0, 1) := by decide +kernel
theorem dX5_layEven_80 : decode cX5_layEven 80 = .ok (.istore_n 1, 1) := by decide +kernel
theorem dX5_layEven_81 : decode cX5_layEven 81 = .ok (.iload_n 1, 1) := by decide +kernel
theorem dX5_layEven_82 : decode cX5_layEven 82 = .ok (.aload_n 0, 1) := by decide +kernel
theorem dX5_layEven_83 : decode cX5_layEven 83 = .ok (.getfield 34, 3) := by decide +kernel
theorem dX5_layEven_86 : decode cX5_layEven 86 = .ok (.if_icmp .ge 86, 3) := by decide +kernel
theorem dX5_layEven_89 : decode cX5_layEven 89 = .ok (.aload_n 0, 1) := by decide +kernel
theorem dX5_layEven_90 : decode cX5_layEven 90 = .ok (.getfield 27, 3) := by decide +kernel
theorem dX5_layEven_93 : decode cX5_layEven 93 = .ok (.iconst 0, 1) := by decide +kernel
theorem dX5_layEven_94 : decode cX5_layEven 94 = .ok (.iaload, 1) := by decide +kernel
theorem dX5_layEven_95 : decode cX5_layEven 95 = .ok (.istore_n 2, 1) := by decide +kernel
theorem dX5_layEven_96 : decode cX5_layEven 96 = .ok (.aload_n 0, 1) := by decide +kernel
theorem dX5_layEven_97 : decode cX5_layEven 97 = .ok (.getfield 9, 3) := by decide +kernel
theorem dX5_layEven_100 : decode cX5_layEven 100 = .ok (.iload_n 1, 1) := by decide +kernel
theorem dX5_layEven_101 : decode cX5_layEven 101 = .ok (.iload_n 2, 1) := by decide +kernel
theorem dX5_layEven_102 : decode cX5_layEven 102 = .ok (.iastore, 1) := by decide +kernel
theorem dX5_layEven_103 : decode cX5_layEven 103 = .ok (.aload_n 0, 1) := by decide +kernel
theorem dX5_layEven_104 : decode cX5_layEven 104 = .ok (.getfield 24, 3) := by decide +kernel
theorem dX5_layEven_107 : decode cX5_layEven 107 = .ok (.iload_n 2, 1) := by decide +kernel
theorem dX5_layEven_108 : decode cX5_layEven 108 = .ok (.dup2, 1) := by decide +kernel
theorem dX5_layEven_109 : decode cX5_layEven 109 = .ok (.iaload, 1) := by decide +kernel
theorem dX5_layEven_110 : decode cX5_layEven 110 = .ok (.iconst 1, 1) := by decide +kernel
theorem dX5_layEven_111 : decode cX5_layEven 111 = .ok (.iadd, 1) := by decide +kernel
theorem dX5_layEven_112 : decode cX5_layEven 112 = .ok (.iastore, 1) := by decide +kernel
theorem dX5_layEven_113 : decode cX5_layEven 113 = .ok (.aload_n 0, 1) := by decide +kernel
theorem dX5_layEven_114 : decode cX5_layEven 114 = .ok (.getfield 24, 3) := by decide +kernel
theorem dX5_layEven_117 : decode cX5_layEven 117 = .ok (.iload_n 2, 1) := by decide +kernel
theorem dX5_layEven_118 : decode cX5_layEven 118 = .ok (.iaload, 1) := by decide +kernel
theorem dX5_layEven_119 : decode cX5_layEven 119 = .ok (.aload_n 0, 1) := by decide +kernel
theorem dX5_layEven_120 : decode cX5_layEven 120 = .ok (.getfield 18, 3) := by decide +kernel
theorem dX5_layEven_123 : decode cX5_layEven 123 = .ok (.iload_n 2, 1) := by decide +kernel
theorem dX5_layEven_124 : decode cX5_layEven 124 = .ok (.iaload, 1) := by decide +kernel
theorem dX5_layEven_125 : decode cX5_layEven 125 = .ok (.if_icmp .ne 36, 3) := by decide +kernel
theorem dX5_layEven_128 : decode cX5_layEven 128 = .ok (.aload_n 0, 1) := by decide +kernel
theorem dX5_layEven_129 : decode cX5_layEven 129 = .ok (.getfield 30, 3) := by decide +kernel
theorem dX5_layEven_132 : decode cX5_layEven 132 = .ok (.iconst 1, 1) := by decide +kernel
theorem dX5_layEven_133 : decode cX5_layEven 133 = .ok (.if_icmp .le 28, 3) := by decide +kernel
theorem dX5_layEven_136 : decode cX5_layEven 136 = .ok (.aload_n 0, 1) := by decide +kernel
theorem dX5_layEven_137 : decode cX5_layEven 137 = .ok (.dup, 1) := by decide +kernel
theorem dX5_layEven_138 : decode cX5_layEven 138 = .ok (.getfield 30, 3) := by decide +kernel
theorem dX5_layEven_141 : decode cX5_layEven 141 = .ok (.iconst 1, 1) := by decide +kernel
theorem dX5_layEven_142 : decode cX5_layEven 142 = .ok (.isub, 1) := by decide +kernel
theorem dX5_layEven_143 : decode cX5_layEven 143 = .ok (.putfield 30, 3) := by decide +kernel
theorem dX5_layEven_146 : decode cX5_layEven 146 = .ok (.aload_n 0, 1) := by decide +kernel
theorem dX5_layEven_147 : decode cX5_layEven 147 = .ok (.getfield 27, 3) := by decide +kernel
theorem dX5_layEven_150 : decode cX5_layEven 150 = .ok (.iconst 0, 1) := by decide +kernel
theorem dX5_layEven_151 : decode cX5_layEven 151 = .ok (.aload_n 0, 1) := by decide +kernel
theorem dX5_layEven_152 : decode cX5_layEven 152 = .ok (.getfield 27, 3) := by decide +kernel
theorem dX5_layEven_155 : decode cX5_layEven 155 = .ok (.aload_n 0, 1) := by decide +kernel
theorem dX5_layEven_156 : decode cX5_layEven 156 = .ok (.getfield 30, 3) := by decide +kernel
theorem dX5_layEven_159 : decode cX5_layEven 159 = .ok (.iaload, 1) := by decide +kernel
theorem dX5_layEven_160 : decode cX5_layEven 160 = .ok (.iastore, 1) := by decide +kernel
theorem dX5_layEven_161 : decode cX5_layEven 161 = .ok (.aload_n 0, 1) := by decide +kernel
theorem dX5_layEven_162 : decode cX5_layEven 162 = .ok (.iconst 0, 1) := by decide +kernel
theorem dX5_layEven_163 : decode cX5_layEven 163 = .ok (.invokevirtual 87, 3) := by decide +kernel
theorem dX5_layEven_166 : decode cX5_layEven 166 = .ok (.iinc 1 1, 3) := by decide +kernel
theorem dX5_layEven_169 : decode cX5_layEven 169 = .ok (.goto (-88), 3) := by decide +kernel
theorem dX5_layEven_172 : decode cX5_layEven 172 = .ok (.return_, 1) := by decide +kernel
theorem dX5_sink_0 : decode cX5_sink 0 = .ok (.iload_n 1, 1) := by decide +kernel
theorem dX5_sink_1 : decode cX5_sink 1 = .ok (.istore_n 2, 1) := by decide +kernel
theorem dX5_sink_2 : decode cX5_sink 2 = .ok (.iconst 2, 1) := by decide +kernel
theorem dX5_sink_3 : decode cX5_sink 3 = .ok (.iload_n 2, 1) := by decide +kernel
theorem dX5_sink_4 : decode cX5_sink 4 = .ok (.imul, 1) := by decide +kernel
theorem dX5_sink_5 : decode cX5_sink 5 = .ok (.iconst 1, 1) := by decide +kernel
theorem dX5_sink_6 : decode cX5_sink 6 = .ok (.iadd, 1) := by decide +kernel
theorem dX5_sink_7 : decode cX5_sink 7 = .ok (.istore_n 3, 1) := by decide +kernel
theorem dX5_sink_8 : decode cX5_sink 8 = .ok (.iload_n 3, 1) := by decide +kernel
theorem dX5_sink_9 : decode cX5_sink 9 = .ok (.aload_n 0, 1) := by decide +kernel
theorem dX5_sink_10 : decode cX5_sink 10 = .ok (.getfield 30, 3) := by decide +kernel
theorem dX5_sink_13 : decode cX5_sink 13 = .ok (.if_icmp .ge 96, 3) := by decide +kernel
theorem dX5_sink_16 : decode cX5_sink 16 = .ok (.iload_n 3, 1) := by decide +kernel
theorem dX5_sink_17 : decode cX5_sink 17 = .ok (.iconst 1, 1) := by decide +kernel
theorem dX5_sink_18 : decode cX5_sink 18 = .ok (.iadd, 1) := by decide +kernel
theorem dX5_sink_19 : decode cX5_sink 19 = .ok (.aload_n 0, 1) := by decide +kernel
theorem dX5_sink_20 : decode cX5_sink 20 = .ok (.getfield 30, 3) := by decide +kernel
theorem dX5_sink_23 : decode cX5_sink 23 = .ok (.if_icmp .ge 27, 3) := by decide +kernel
theorem dX5_sink_26 : decode cX5_sink 26 = .ok (.aload_n 0, 1) := by decide +kernel
theorem dX5_sink_27 : decode cX5_sink 27 = .ok (.aload_n 0, 1) := by decide +kernel
theorem dX5_sink_28 : decode cX5_sink 28 = .ok (.getfield 27, 3) := by decide +kernel
theorem dX5_sink_31 : decode cX5_sink 31 = .ok (.iload_n 3, 1) := by decide +kernel
theorem dX5_sink_32 : decode cX5_sink 32 = .ok (.iconst 1, 1) := by decide +kernel
theorem dX5_sink_33 : decode cX5_sink 33 = .ok (.iadd, 1) := by decide +kernel
theorem dX5_sink_34 : decode cX5_sink 34 = .ok (.iaload, 1) := by decide +kernel
theorem dX5_sink_35 : decode cX5_sink 35 = .ok (.aload_n 0, 1) := by decide +kernel
theorem dX5_sink_36 : decode cX5_sink 36 = .ok (.getfield 27, 3) := by decide +kernel
theorem dX5_sink_39 : decode cX5_sink 39 = .ok (.iload_n 3, 1) := by decide +kernel
theorem dX5_sink_40 : decode cX5_sink 40 = .ok (.iaload, 1) := by decide +kernel
theorem dX5_sink_41 : decode cX5_sink 41 = .ok (.invokevirtual 90, 3) := by decide +kernel
theorem dX5_sink_44 : decode cX5_sink 44 = .ok (.ifCond .eq 6, 3) := by decide +kernel
theorem dX5_sink_47 : decode cX5_sink 47 = .ok (.iinc 3 1, 3) := by decide +kernel
theorem dX5_sink_50 : decode cX5_sink 50 = .ok (.aload_n 0, 1) := by decide +kernel
theorem dX5_sink_51 : decode cX5_sink 51 = .ok (.aload_n 0, 1) := by decide +kernel
theorem dX5_sink_52 : decode cX5_sink 52 = .ok (.getfield 27, 3) := by decide +kernel
theorem dX5_sink_55 : decode cX5_sink 55 = .ok (.iload_n 3, 1) := by decide +kernel
theorem dX5_sink_56 : decode cX5_sink 56 = .ok (.iaload, 1) := by decide +kernel
theorem dX5_sink_57 : decode cX5_sink 57 = .ok (.aload_n 0, 1) := by decide +kernel
theorem dX5_sink_58 : decode cX5_sink 58 = .ok (.getfield 27, 3) := by decide +kernel
theorem dX5_sink_61 : decode cX5_sink 61 = .ok (.iload_n 2, 1) := by decide +kernel
theorem dX5_sink_62 : decode cX5_sink 62 = .ok (.iaload, 1) := by decide +kernel
theorem dX5_sink_63 : decode cX5_sink 63 = .ok (.invokevirtual 90, 3) := by decide +kernel
theorem dX5_sink_66 : decode cX5_sink 66 = .ok (.ifCond .ne 4, 3) := by decide +kernel
theorem dX5_sink_69 : decode cX5_sink 69 = .ok (.return_, 1) := by decide +kernel
theorem dX5_sink_70 : decode cX5_sink 70 = .ok (.aload_n 0, 1) := by decide +kernel
theorem dX5_sink_71 : decode cX5_sink 71 = .ok (.getfield 27, 3) := by decide +kernel
theorem dX5_sink_74 : decode cX5_sink 74 = .ok (.iload_n 2, 1) := by decide +kernel
theorem dX5_sink_75 : decode cX5_sink 75 = .ok (.iaload, 1) := by decide +kernel
theorem dX5_sink_76 : decode cX5_sink 76 = .ok (.istore 4, 2) := by decide +kernel
theorem dX5_sink_78 : decode cX5_sink 78 = .ok (.aload_n 0, 1) := by decide +kernel
theorem dX5_sink_79 : decode cX5_sink 79 = .ok (.getfield 27, 3) := by decide +kernel
theorem dX5_sink_82 : decode cX5_sink 82 = .ok (.iload_n 2, 1) := by decide +kernel
theorem dX5_sink_83 : decode cX5_sink 83 = .ok (.aload_n 0, 1) := by decide +kernel
theorem dX5_sink_84 : decode cX5_sink 84 = .ok (.getfield 27, 3) := by decide +kernel
theorem dX5_sink_87 : decode cX5_sink 87 = .ok (.iload_n 3, 1) := by decide +kernel
theorem dX5_sink_88 : decode cX5_sink 88 = .ok (.iaload, 1) := by decide +kernel
theorem dX5_sink_89 : decode cX5_sink 89 = .ok (.iastore, 1) := by decide +kernel
theorem dX5_sink_90 : decode cX5_sink 90 = .ok (.aload_n 0, 1) := by decide +kernel
theorem dX5_sink_91 : decode cX5_sink 91 = .ok (.getfield 27, 3) := by decide +kernel
theorem dX5_sink_94 : decode cX5_sink 94 = .ok (.iload_n 3, 1) := by decide +kernel
theorem dX5_sink_95 : decode cX5_sink 95 = .ok (.iload 4, 2) := by decide +kernel
theorem dX5_sink_97 : decode cX5_sink 97 = .ok (.iastore, 1) := by decide +kernel
theorem dX5_sink_98 : decode cX5_sink 98 = .ok (.iload_n 3, 1) := by decide +kernel
theorem dX5_sink_99 : decode cX5_sink 99 = .ok (.istore_n 2, 1) := by decide +kernel
theorem dX5_sink_100 : decode cX5_sink 100 = .ok (.iconst 2, 1) := by decide +kernel
theorem dX5_sink_101 : decode cX5_sink 101 = .ok (.iload_n 2, 1) := by decide +kernel
theorem dX5_sink_102 : decode cX5_sink 102 = .ok (.imul, 1) := by decide +kernel
theorem dX5_sink_103 : decode cX5_sink 103 = .ok (.iconst 1, 1) := by decide +kernel
theorem dX5_sink_104 : decode cX5_sink 104 = .ok (.iadd, 1) := by decide +kernel
theorem dX5_sink_105 : decode cX5_sink 105 = .ok (.istore_n 3, 1) := by decide +kernel
theorem dX5_sink_106 : decode cX5_sink 106 = .ok (.goto (-98), 3) := by decide +kernel
theorem dX5_sink_109 : decode cX5_sink 109 = .ok (.return_, 1) := by decide +kernel
theorem dX5_isAhead_0 : decode cX5_isAhead 0 = .ok (.iconst 2, 1) := by decide +kernel
theorem dX5_isAhead_1 : decode cX5_isAhead 1 = .ok (.aload_n 0, 1) := by decide +kernel
theorem dX5_isAhead_2 : decode cX5_isAhead 2 = .ok (.getfield 24, 3) := by decide +kernel
theorem dX5_isAhead_5 : decode cX5_isAhead 5 = .ok (.iload_n 1, 1) := by decide +kernel
theorem dX5_isAhead_6 : decode cX5_isAhead 6 = .ok (.iaload, 1) := by decide +kernel
theorem dX5_isAhead_7 : decode cX5_isAhead 7 = .ok (.imul, 1) := by decide +kernel
theorem dX5_isAhead_8 : decode cX5_isAhead 8 = .ok (.iconst 1, 1) := by decide +kernel
theorem dX5_isAhead_9 : decode cX5_isAhead 9 = .ok (.iadd, 1) := by decide +kernel
theorem dX5_isAhead_10 : decode cX5_isAhead 10 = .ok (.aload_n 0, 1) := by decide +kernel
theorem dX5_isAhead_11 : decode cX5_isAhead 11 = .ok (.getfield 18, 3) := by decide +kernel
theorem dX5_isAhead_14 : decode cX5_isAhead 14 = .ok (.iload_n 2, 1) := by decide +kernel
theorem dX5_isAhead_15 : decode cX5_isAhead 15 = .ok (.iaload, 1) := by decide +kernel
theorem dX5_isAhead_16 : decode cX5_isAhead 16 = .ok (.imul, 1) := by decide +kernel
theorem dX5_isAhead_17 : decode cX5_isAhead 17 = .ok (.istore_n 3, 1) := by decide +kernel
theorem dX5_isAhead_18 : decode cX5_isAhead 18 = .ok (.iconst 2, 1) := by decide +kernel
theorem dX5_isAhead_19 : decode cX5_isAhead 19 = .ok (.aload_n 0, 1) := by decide +kernel
theorem dX5_isAhead_20 : decode cX5_isAhead 20 = .ok (.getfield 24, 3) := by decide +kernel
theorem dX5_isAhead_23 : decode cX5_isAhead 23 = .ok (.iload_n 2, 1) := by decide +kernel
theorem dX5_isAhead_24 : decode cX5_isAhead 24 = .ok (.iaload, 1) := by decide +kernel
theorem dX5_isAhead_25 : decode cX5_isAhead 25 = .ok (.imul, 1) := by decide +kernel
theorem dX5_isAhead_26 : decode cX5_isAhead 26 = .ok (.iconst 1, 1) := by decide +kernel
theorem dX5_isAhead_27 : decode cX5_isAhead 27 = .ok (.iadd, 1) := by decide +kernel
theorem dX5_isAhead_28 : decode cX5_isAhead 28 = .ok (.aload_n 0, 1) := by decide +kernel
theorem dX5_isAhead_29 : decode cX5_isAhead 29 = .ok (.getfield 18, 3) := by decide +kernel
theorem dX5_isAhead_32 : decode cX5_isAhead 32 = .ok (.iload_n 1, 1) := by decide +kernel
theorem dX5_isAhead_33 : decode cX5_isAhead 33 = .ok (.iaload, 1) := by decide +kernel
theorem dX5_isAhead_34 : decode cX5_isAhead 34 = .ok (.imul, 1) := by decide +kernel
theorem dX5_isAhead_35 : decode cX5_isAhead 35 = .ok (.istore 4, 2) := by decide +kernel
theorem dX5_isAhead_37 : decode cX5_isAhead 37 = .ok (.iload_n 3, 1) := by decide +kernel
theorem dX5_isAhead_38 : decode cX5_isAhead 38 = .ok (.iload 4, 2) := by decide +kernel
theorem dX5_isAhead_40 : decode cX5_isAhead 40 = .ok (.if_icmp .lt 14, 3) := by decide +kernel
theorem dX5_isAhead_43 : decode cX5_isAhead 43 = .ok (.iload_n 3, 1) := by decide +kernel
theorem dX5_isAhead_44 : decode cX5_isAhead 44 = .ok (.iload 4, 2) := by decide +kernel
theorem dX5_isAhead_46 : decode cX5_isAhead 46 = .ok (.if_icmp .ne 12, 3) := by decide +kernel
theorem dX5_isAhead_49 : decode cX5_isAhead 49 = .ok (.iload_n 1, 1) := by decide +kernel
theorem dX5_isAhead_50 : decode cX5_isAhead 50 = .ok (.iload_n 2, 1) := by decide +kernel
theorem dX5_isAhead_51 : decode cX5_isAhead 51 = .ok (.if_icmp .ge 7, 3) := by decide +kernel
theorem dX5_isAhead_54 : decode cX5_isAhead 54 = .ok (.iconst 1, 1) := by decide +kernel
theorem dX5_isAhead_55 : decode cX5_isAhead 55 = .ok (.goto 4, 3) := by decide +kernel
theorem dX5_isAhead_58 : decode cX5_isAhead 58 = .ok (.iconst 0, 1) := by decide +kernel
theorem dX5_isAhead_59 : decode cX5_isAhead 59 = .ok (.ireturn, 1) := by decide +kernel
theorem dX5_giveRanks_0 : decode cX5_giveRanks 0 = .ok (.aload_n 0, 1) := by decide +kernel
theorem dX5_giveRanks_1 : decode cX5_giveRanks 1 = .ok (.getfield 24, 3) := by decide +kernel
theorem dX5_giveRanks_4 : decode cX5_giveRanks 4 = .ok (.iconst 0, 1) := by decide +kernel
theorem dX5_giveRanks_5 : decode cX5_giveRanks 5 = .ok (.invokestatic 81, 3) := by decide +kernel
theorem dX5_giveRanks_8 : decode cX5_giveRanks 8 = .ok (.iconst 0, 1) := by decide +kernel
theorem dX5_giveRanks_9 : decode cX5_giveRanks 9 = .ok (.istore_n 1, 1) := by decide +kernel
theorem dX5_giveRanks_10 : decode cX5_giveRanks 10 = .ok (.iload_n 1, 1) := by decide +kernel
theorem dX5_giveRanks_11 : decode cX5_giveRanks 11 = .ok (.aload_n 0, 1) := by decide +kernel
theorem dX5_giveRanks_12 : decode cX5_giveRanks 12 = .ok (.getfield 34, 3) := by decide +kernel
theorem dX5_giveRanks_15 : decode cX5_giveRanks 15 = .ok (.if_icmp .ge 82, 3) := by decide +kernel
theorem dX5_giveRanks_18 : decode cX5_giveRanks 18 = .ok (.aload_n 0, 1) := by decide +kernel
theorem dX5_giveRanks_19 : decode cX5_giveRanks 19 = .ok (.getfield 9, 3) := by decide +kernel
theorem dX5_giveRanks_22 : decode cX5_giveRanks 22 = .ok (.iload_n 1, 1) := by decide +kernel
theorem dX5_giveRanks_23 : decode cX5_giveRanks 23 = .ok (.iaload, 1) := by decide +kernel
theorem dX5_giveRanks_24 : decode cX5_giveRanks 24 = .ok (.sipush 255, 3) := by decide +kernel
theorem dX5_giveRanks_27 : decode cX5_giveRanks 27 = .ok (.iand, 1) := by decide +kernel
theorem dX5_giveRanks_28 : decode cX5_giveRanks 28 = .ok (.istore_n 2, 1) := by decide +kernel
theorem dX5_giveRanks_29 : decode cX5_giveRanks 29 = .ok (.aload_n 0, 1) := by decide +kernel
theorem dX5_giveRanks_30 : decode cX5_giveRanks 30 = .ok (.getfield 21, 3) := by decide +kernel
theorem dX5_giveRanks_33 : decode cX5_giveRanks 33 = .ok (.iload_n 2, 1) := by decide +kernel
theorem dX5_giveRanks_34 : decode cX5_giveRanks 34 = .ok (.iaload, 1) := by decide +kernel
theorem dX5_giveRanks_35 : decode cX5_giveRanks 35 = .ok (.aload_n 0, 1) := by decide +kernel
theorem dX5_giveRanks_36 : decode cX5_giveRanks 36 = .ok (.getfield 24, 3) := by decide +kernel
theorem dX5_giveRanks_39 : decode cX5_giveRanks 39 = .ok (.iload_n 2, 1) := by decide +kernel
theorem dX5_giveRanks_40 : decode cX5_giveRanks 40 = .ok (.iaload, 1) := by decide +kernel
theorem dX5_giveRanks_41 : decode cX5_giveRanks 41 = .ok (.iadd, 1) := by decide +kernel
theorem dX5_giveRanks_42 : decode cX5_giveRanks 42 = .ok (.istore_n 3, 1) := by decide +kernel
theorem dX5_giveRanks_43 : decode cX5_giveRanks 43 = .ok (.iload_n 3, 1) := by decide +kernel
theorem dX5_giveRanks_44 : decode cX5_giveRanks 44 = .ok (.sipush 4096, 3) := by decide +kernel
theorem dX5_giveRanks_47 : decode cX5_giveRanks 47 = .ok (.if_icmp .ge 10, 3) := by decide +kernel
theorem dX5_giveRanks_50 : decode cX5_giveRanks 50 = .ok (.aload_n 0, 1) := by decide +kernel
theorem dX5_giveRanks_51 : decode cX5_giveRanks 51 = .ok (.getfield 15, 3) := by decide +kernel
theorem dX5_giveRanks_54 : decode cX5_giveRanks 54 = .ok (.iload_n 3, 1) := by decide +kernel
theorem dX5_giveRanks_55 : decode cX5_giveRanks 55 = .ok (.iload_n 1, 1) := by decide +kernel
theorem dX5_giveRanks_56 : decode cX5_giveRanks 56 = .ok (.iastore, 1) := by decide +kernel
theorem dX5_giveRanks_57 : decode cX5_giveRanks 57 = .ok (.aload_n 0, 1) := by decide +kernel
theorem dX5_giveRanks_58 : decode cX5_giveRanks 58 = .ok (.getfield 9, 3) := by decide +kernel
theorem dX5_giveRanks_61 : decode cX5_giveRanks 61 = .ok (.iload_n 1, 1) := by decide +kernel
theorem dX5_giveRanks_62 : decode cX5_giveRanks 62 = .ok (.aload_n 0, 1) := by decide +kernel
theorem dX5_giveRanks_63 : decode cX5_giveRanks 63 = .ok (.getfield 18, 3) := by decide +kernel
theorem dX5_giveRanks_66 : decode cX5_giveRanks 66 = .ok (.iload_n 2, 1) := by decide +kernel
theorem dX5_giveRanks_67 : decode cX5_giveRanks 67 = .ok (.iaload, 1) := by decide +kernel
theorem dX5_giveRanks_68 : decode cX5_giveRanks 68 = .ok (.aload_n 0, 1) := by decide +kernel
theorem dX5_giveRanks_69 : decode cX5_giveRanks 69 = .ok (.getfield 24, 3) := by decide +kernel
theorem dX5_giveRanks_72 : decode cX5_giveRanks 72 = .ok (.iload_n 2, 1) := by decide +kernel
theorem dX5_giveRanks_73 : decode cX5_giveRanks 73 = .ok (.iaload, 1) := by decide +kernel
theorem dX5_giveRanks_74 : decode cX5_giveRanks 74 = .ok (.iadd, 1) := by decide +kernel
theorem dX5_giveRanks_75 : decode cX5_giveRanks 75 = .ok (.bipush 8, 2) := by decide +kernel
theorem dX5_giveRanks_77 : decode cX5_giveRanks 77 = .ok (.ishl, 1) := by decide +kernel
theorem dX5_giveRanks_78 : decode cX5_giveRanks 78 = .ok (.iload_n 2, 1) := by decide +kernel
theorem dX5_giveRanks_79 : decode cX5_giveRanks 79 = .ok (.ior, 1) := by decide +kernel
theorem dX5_giveRanks_80 : decode cX5_giveRanks 80 = .ok (.iastore, 1) := by decide +kernel
theorem dX5_giveRanks_81 : decode cX5_giveRanks 81 = .ok (.aload_n 0, 1) := by decide +kernel
theorem dX5_giveRanks_82 : decode cX5_giveRanks 82 = .ok (.getfield 24, 3) := by decide +kernel
theorem dX5_giveRanks_85 : decode cX5_giveRanks 85 = .ok (.iload_n 2, 1) := by decide +kernel
theorem dX5_giveRanks_86 : decode cX5_giveRanks 86 = .ok (.dup2, 1) := by decide +kernel
theorem dX5_giveRanks_87 : decode cX5_giveRanks 87 = .ok (.iaload, 1) := by decide +kernel
theorem dX5_giveRanks_88 : decode cX5_giveRanks 88 = .ok (.iconst 1, 1) := by decide +kernel
theorem dX5_giveRanks_89 : decode cX5_giveRanks 89 = .ok (.iadd, 1) := by decide +kernel
theorem dX5_giveRanks_90 : decode cX5_giveRanks 90 = .ok (.iastore, 1) := by decide +kernel
theorem dX5_giveRanks_91 : decode cX5_giveRanks 91 = .ok (.iinc 1 1, 3) := by decide +kernel
theorem dX5_giveRanks_94 : decode cX5_giveRanks 94 = .ok (.goto (-84), 3) := by decide +kernel
theorem dX5_giveRanks_97 : decode cX5_giveRanks 97 = .ok (.return_, 1) := by decide +kernel
theorem dX6_init_0 : decode cX6_init 0 = .ok (.aload_n 0, 1) := by decide +kernel
theorem dX6_init_1 : decode cX6_init 1 = .ok (.invokespecial 3, 3) := by decide +kernel
theorem dX6_init_4 : decode cX6_init 4 = .ok (.aload_n 0, 1) := by decide +kernel
theorem dX6_init_5 : decode cX6_init 5 = .ok (.sipush 256, 3) := by decide +kernel
theorem dX6_init_8 : decode cX6_init 8 = .ok (.newarray .int, 2) := by decide +kernel
theorem dX6_init_10 : decode cX6_init 10 = .ok (.putfield 9, 3) := by decide +kernel
theorem dX6_init_13 : decode cX6_init 13 = .ok (.aload_n 0, 1) := by decide +kernel
theorem dX6_init_14 : decode cX6_init 14 = .ok (.iconst 0, 1) := by decide +kernel
theorem dX6_init_15 : decode cX6_init 15 = .ok (.putfield 15, 3) := by decide +kernel
theorem dX6_init_18 : decode cX6_init 18 = .ok (.return_, 1) := by decide +kernel
theorem dX6_isThere_0 : decode cX6_isThere 0 = .ok (.aload_n 0, 1) := by decide +kernel
theorem dX6_isThere_1 : decode cX6_isThere 1 = .ok (.getfield 15, 3) := by decide +kernel
theorem dX6_isThere_4 : decode cX6_isThere 4 = .ok (.ifCond .le 7, 3) := by decide +kernel
theorem dX6_isThere_7 : decode cX6_isThere 7 = .ok (.iconst 1, 1) := by decide +kernel
theorem dX6_isThere_8 : decode cX6_isThere 8 = .ok (.goto 4, 3) := by decide +kernel
theorem dX6_isThere_11 : decode cX6_isThere 11 = .ok (.iconst 0, 1) := by decide +kernel
theorem dX6_isThere_12 : decode cX6_isThere 12 = .ok (.ireturn, 1) := by decide +kernel
theorem dX6_places_0 : decode cX6_places 0 = .ok (.iconst 1, 1) := by decide +kernel
theorem dX6_places_1 : decode cX6_places 1 = .ok (.aload_n 0, 1) := by decide +kernel
theorem dX6_places_2 : decode cX6_places 2 = .ok (.getfield 15, 3) := by decide +kernel
theorem dX6_places_5 : decode cX6_places 5 = .ok (.ishl, 1) := by decide +kernel
theorem dX6_places_6 : decode cX6_places 6 = .ok (.ireturn, 1) := by decide +kernel
theorem dX6_shareOf_0 : decode cX6_shareOf 0 = .ok (.iload_n 1, 1) := by decide +kernel
theorem dX6_shareOf_1 : decode cX6_shareOf 1 = .ok (.invokestatic 19, 3) := by decide +kernel
theorem dX6_shareOf_4 : decode cX6_shareOf 4 = .ok (.ifCond .eq 12, 3) := by decide +kernel
theorem dX6_shareOf_7 : decode cX6_shareOf 7 = .ok (.aload_n 0, 1) := by decide +kernel
theorem dX6_shareOf_8 : decode cX6_shareOf 8 = .ok (.getfield 9, 3) := by decide +kernel
theorem dX6_shareOf_11 : decode cX6_shareOf 11 = .ok (.iload_n 1, 1) := by decide +kernel
theorem dX6_shareOf_12 : decode cX6_shareOf 12 = .ok (.iaload, 1) := by decide +kernel
theorem dX6_shareOf_13 : decode cX6_shareOf 13 = .ok (.goto 4, 3) := by decide +kernel
theorem dX6_shareOf_16 : decode cX6_shareOf 16 = .ok (.iconst 0, 1) := by decide +kernel
theorem dX6_shareOf_17 : decode cX6_shareOf 17 = .ok (.ireturn, 1) := by decide +kernel
theorem dX6_startOf_0 : decode cX6_startOf 0 = .ok (.iconst 0, 1) := by decide +kernel
theorem dX6_startOf_1 : decode cX6_startOf 1 = .ok (.istore_n 2, 1) := by decide +kernel
theorem dX6_startOf_2 : decode cX6_startOf 2 = .ok (.iconst 0, 1) := by decide +kernel
theorem dX6_startOf_3 : decode cX6_startOf 3 = .ok (.istore_n 3, 1) := by decide +kernel
theorem dX6_startOf_4 : decode cX6_startOf 4 = .ok (.iload_n 3, 1) := by decide +kernel
theorem dX6_startOf_5 : decode cX6_startOf 5 = .ok (.iload_n 1, 1) := by decide +kernel
theorem dX6_startOf_6 : decode cX6_startOf 6 = .ok (.if_icmp .ge 25, 3) := by decide +kernel
theorem dX6_startOf_9 : decode cX6_startOf 9 = .ok (.iload_n 3, 1) := by decide +kernel
theorem dX6_startOf_10 : decode cX6_startOf 10 = .ok (.sipush 256, 3) := by decide +kernel
theorem dX6_startOf_13 : decode cX6_startOf 13 = .ok (.if_icmp .ge 18, 3) := by decide +kernel
theorem dX6_startOf_16 : decode cX6_startOf 16 = .ok (.iload_n 2, 1) := by decide +kernel
theorem dX6_startOf_17 : decode cX6_startOf 17 = .ok (.aload_n 0, 1) := by decide +kernel
theorem dX6_startOf_18 : decode cX6_startOf 18 = .ok (.getfield 9, 3) := by decide +kernel
theorem dX6_startOf_21 : decode cX6_startOf 21 = .ok (.iload_n 3, 1) := by decide +kernel
theorem dX6_startOf_22 : decode cX6_startOf 22 = .ok (.iaload, 1) := by decide +kernel
theorem dX6_startOf_23 : decode cX6_startOf 23 = .ok (.iadd, 1) := by decide +kernel
theorem dX6_startOf_24 : decode cX6_startOf 24 = .ok (.istore_n 2, 1) := by decide +kernel
theorem dX6_startOf_25 : decode cX6_startOf 25 = .ok (.iinc 3 1, 3) := by decide +kernel
theorem dX6_startOf_28 : decode cX6_startOf 28 = .ok (.goto (-24), 3) := by decide +kernel
theorem dX6_startOf_31 : decode cX6_startOf 31 = .ok (.iload_n 2, 1) := by decide +kernel
theorem dX6_startOf_32 : decode cX6_startOf 32 = .ok (.ireturn, 1) := by decide +kernel
theorem dX6_different_0 : decode cX6_different 0 = .ok (.iconst 0, 1) := by decide +kernel
theorem dX6_different_1 : decode cX6_different 1 = .ok (.istore_n 1, 1) := by decide +kernel
theorem dX6_different_2 : decode cX6_different 2 = .ok (.iconst 0, 1) := by decide +kernel
theorem dX6_different_3 : decode cX6_different 3 = .ok (.istore_n 2, 1) := by decide +kernel
theorem dX6_different_4 : decode cX6_different 4 = .ok (.iload_n 2, 1) := by decide +kernel
theorem dX6_different_5 : decode cX6_different 5 = .ok (.sipush 256, 3) := by decide +kernel
theorem dX6_different_8 : decode cX6_different 8 = .ok (.if_icmp .ge 21, 3) := by decide +kernel
theorem dX6_different_11 : decode cX6_different 11 = .ok (.aload_n 0, 1) := by decide +kernel
theorem dX6_different_12 : decode cX6_different 12 = .ok (.getfield 9, 3) := by decide +kernel
theorem dX6_different_15 : decode cX6_different 15 = .ok (.iload_n 2, 1) := by decide +kernel
theorem dX6_different_16 : decode cX6_different 16 = .ok (.iaload, 1) := by decide +kernel
theorem dX6_different_17 : decode cX6_different 17 = .ok (.ifCond .le 6, 3) := by decide +kernel
theorem dX6_different_20 : decode cX6_different 20 = .ok (.iinc 1 1, 3) := by decide +kernel
theorem dX6_different_23 : decode cX6_different 23 = .ok (.iinc 2 1, 3) := by decide +kernel
theorem dX6_different_26 : decode cX6_different 26 = .ok (.goto (-22), 3) := by decide +kernel
theorem dX6_different_29 : decode cX6_different 29 = .ok (.iload_n 1, 1) := by decide +kernel
theorem dX6_different_30 : decode cX6_different 30 = .ok (.ireturn, 1) := by decide +kernel
theorem dX6_clear_0 : decode cX6_clear 0 = .ok (.aload_n 0, 1) := by decide +kernel
theorem dX6_clear_1 : decode cX6_clear 1 = .ok (.iload_n 1, 1) := by decide +kernel
theorem dX6_clear_2 : decode cX6_clear 2 = .ok (.putfield 15, 3) := by decide +kernel
theorem dX6_clear_5 : decode cX6_clear 5 = .ok (.aload_n 0, 1) := by decide +kernel
theorem dX6_clear_6 : decode cX6_clear 6 = .ok (.getfield 9, 3) := by decide +kernel
theorem dX6_clear_9 : decode cX6_clear 9 = .ok (.iconst 0, 1) := by decide +kernel
theorem dX6_clear_10 : decode cX6_clear 10 = .ok (.invokestatic 23, 3) := by decide +kernel
theorem dX6_clear_13 : decode cX6_clear 13 = .ok (.return_, 1) := by decide +kernel
theorem dX6_change_0 : decode cX6_change 0 = .ok (.iload_n 1, 1) := by decide +kernel
theorem dX6_change_1 : decode cX6_change 1 = .ok (.invokestatic 19, 3) := by decide +kernel
theorem dX6_change_4 : decode cX6_change 4 = .ok (.ifCond .eq 13, 3) := by decide +kernel
theorem dX6_change_7 : decode cX6_change 7 = .ok (.aload_n 0, 1) := by decide +kernel
theorem dX6_change_8 : decode cX6_change 8 = .ok (.getfield 9, 3) := by decide +kernel
theorem dX6_change_11 : decode cX6_change 11 = .ok (.iload_n 1, 1) := by decide +kernel
theorem dX6_change_12 : decode cX6_change 12 = .ok (.dup2, 1) := by decide +kernel
theorem dX6_change_13 : decode cX6_change 13 = .ok (.iaload, 1) := by decide +kernel
theorem dX6_change_14 : decode cX6_change 14 = .ok (.iload_n 2, 1) := by decide +kernel
theorem dX6_change_15 : decode cX6_change 15 = .ok (.iadd, 1) := by decide +kernel
theorem dX6_change_16 : decode cX6_change 16 = .ok (.iastore, 1) := by decide +kernel
theorem dX6_change_17 : decode cX6_change 17 = .ok (.return_, 1) := by decide +kernel
theorem dX6_fit_0 : decode cX6_fit 0 = .ok (.aload_n 0, 1) := by decide +kernel
theorem dX6_fit_1 : decode cX6_fit 1 = .ok (.iload_n 3, 1) := by decide +kernel
theorem dX6_fit_2 : decode cX6_fit 2 = .ok (.invokevirtual 29, 3) := by decide +kernel
theorem dX6_fit_5 : decode cX6_fit 5 = .ok (.iconst 0, 1) := by decide +kernel
theorem dX6_fit_6 : decode cX6_fit 6 = .ok (.istore 4, 2) := by decide +kernel
theorem dX6_fit_8 : decode cX6_fit 8 = .ok (.iconst 0, 1) := by decide +kernel
theorem dX6_fit_9 : decode cX6_fit 9 = .ok (.istore 5, 2) := by decide +kernel
theorem dX6_fit_11 : decode cX6_fit 11 = .ok (.iload 5, 2) := by decide +kernel
theorem dX6_fit_13 : decode cX6_fit 13 = .ok (.sipush 256, 3) := by decide +kernel
theorem dX6_fit_16 : decode cX6_fit 16 = .ok (.if_icmp .ge 54, 3) := by decide +kernel
theorem dX6_fit_19 : decode cX6_fit 19 = .ok (.aload_n 1, 1) := by decide +kernel
theorem dX6_fit_20 : decode cX6_fit 20 = .ok (.iload 5, 2) := by decide +kernel
theorem dX6_fit_22 : decode cX6_fit 22 = .ok (.iaload, 1) := by decide +kernel
theorem dX6_fit_23 : decode cX6_fit 23 = .ok (.ifCond .le 41, 3) := by decide +kernel
theorem dX6_fit_26 : decode cX6_fit 26 = .ok (.iload_n 2, 1) := by decide +kernel
theorem dX6_fit_27 : decode cX6_fit 27 = .ok (.ifCond .le 37, 3) := by decide +kernel
theorem dX6_fit_30 : decode cX6_fit 30 = .ok (.aload_n 0, 1) := by decide +kernel
theorem dX6_fit_31 : decode cX6_fit 31 = .ok (.getfield 9, 3) := by decide +kernel
theorem dX6_fit_34 : decode cX6_fit 34 = .ok (.iload 5, 2) := by decide +kernel
theorem dX6_fit_36 : decode cX6_fit 36 = .ok (.iconst 1, 1) := by decide +kernel
theorem dX6_fit_37 : decode cX6_fit 37 = .ok (.aload_n 1, 1) := by decide +kernel
theorem dX6_fit_38 : decode cX6_fit 38 = .ok (.iload 5, 2) := by decide +kernel
theorem dX6_fit_40 : decode cX6_fit 40 = .ok (.iaload, 1) := by decide +kernel
theorem dX6_fit_41 : decode cX6_fit 41 = .ok (.aload_n 0, 1) := by decide +kernel
theorem dX6_fit_42 : decode cX6_fit 42 = .ok (.invokevirtual 33, 3) := by decide +kernel
theorem dX6_fit_45 : decode cX6_fit 45 = .ok (.imul, 1) := by decide +kernel
theorem dX6_fit_46 : decode cX6_fit 46 = .ok (.iload_n 2, 1) := by decide +kernel
theorem dX6_fit_47 : decode cX6_fit 47 = .ok (.idiv, 1) := by decide +kernel
theorem dX6_fit_48 : decode cX6_fit 48 = .ok (.invokestatic 37, 3) := by decide +kernel
theorem dX6_fit_51 : decode cX6_fit 51 = .ok (.iastore, 1) := by decide +kernel
theorem dX6_fit_52 : decode cX6_fit 52 = .ok (.iload 4, 2) := by decide +kernel
theorem dX6_fit_54 : decode cX6_fit 54 = .ok (.aload_n 0, 1) := by decide +kernel
theorem dX6_fit_55 : decode cX6_fit 55 = .ok (.getfield 9, 3) := by decide +kernel
theorem dX6_fit_58 : decode cX6_fit 58 = .ok (.iload 5, 2) := by decide +kernel
theorem dX6_fit_60 : decode cX6_fit 60 = .ok (.iaload, 1) := by decide +kernel
theorem dX6_fit_61 : decode cX6_fit 61 = .ok (.iadd, 1) := by decide +kernel
theorem dX6_fit_62 : decode cX6_fit 62 = .ok (.istore 4, 2) := by decide +kernel
theorem dX6_fit_64 : decode cX6_fit 64 = .ok (.iinc 5 1, 3) := by decide +kernel
theorem dX6_fit_67 : decode cX6_fit 67 = .ok (.goto (-56), 3) := by decide +kernel
theorem dX6_fit_70 : decode cX6_fit 70 = .ok (.aload_n 0, 1) := by decide +kernel
theorem dX6_fit_71 : decode cX6_fit 71 = .ok (.invokevirtual 33, 3) := by decide +kernel
theorem dX6_fit_74 : decode cX6_fit 74 = .ok (.iload 4, 2) := by decide +kernel
theorem dX6_fit_76 : decode cX6_fit 76 = .ok (.isub, 1) := by decide +kernel
theorem dX6_fit_77 : decode cX6_fit 77 = .ok (.istore 5, 2) := by decide +kernel
theorem dX6_fit_79 : decode cX6_fit 79 = .ok (.iload 5, 2) := by decide +kernel
theorem dX6_fit_81 : decode cX6_fit 81 = .ok (.ifCond .le 20, 3) := by decide +kernel
theorem dX6_fit_84 : decode cX6_fit 84 = .ok (.aload_n 0, 1) := by decide +kernel
theorem dX6_fit_85 : decode cX6_fit 85 = .ok (.aload_n 0, 1) := by decide +kernel
theorem dX6_fit_86 : decode cX6_fit 86 = .ok (.aload_n 1, 1) := by decide +kernel
theorem dX6_fit_87 : decode cX6_fit 87 = .ok (.iload_n 2, 1) := by decide +kernel
theorem dX6_fit_88 : decode cX6_fit 88 = .ok (.invokevirtual 43, 3) := by decide +kernel
theorem dX6_fit_91 : decode cX6_fit 91 = .ok (.iconst 1, 1) := by decide +kernel
theorem dX6_fit_92 : decode cX6_fit 92 = .ok (.invokevirtual 47, 3) := by decide +kernel
theorem dX6_fit_95 : decode cX6_fit 95 = .ok (.iinc 5 (-1), 3) := by decide +kernel
theorem dX6_fit_98 : decode cX6_fit 98 = .ok (.goto (-19), 3) := by decide +kernel
theorem dX6_fit_101 : decode cX6_fit 101 = .ok (.iload 4, 2) := by decide +kernel
theorem dX6_fit_103 : decode cX6_fit 103 = .ok (.aload_n 0, 1) := by decide +kernel
theorem dX6_fit_104 : decode cX6_fit 104 = .ok (.invokevirtual 33, 3) := by decide +kernel
theorem dX6_fit_107 : decode cX6_fit 107 = .ok (.isub, 1) := by decide +kernel
theorem dX6_fit_108 : decode cX6_fit 108 = .ok (.istore 5, 2) := by decide +kernel
theorem dX6_fit_110 : decode cX6_fit 110 = .ok (.iload 5, 2) := by decide +kernel
theorem dX6_fit_112 : decode cX6_fit 112 = .ok (.ifCond .le 20, 3) := by decide +kernel
theorem dX6_fit_115 : decode cX6_fit 115 = .ok (.aload_n 0, 1) := by decide +kernel
theorem dX6_fit_116 : decode cX6_fit 116 = .ok (.aload_n 0, 1) := by decide +kernel
theorem dX6_fit_117 : decode cX6_fit 117 = .ok (.aload_n 1, 1) := by decide +kernel
theorem dX6_fit_118 : decode cX6_fit 118 = .ok (.iload_n 2, 1) := by decide +kernel
theorem dX6_fit_119 : decode cX6_fit 119 = .ok (.invokevirtual 51, 3) := by decide +kernel
theorem dX6_fit_122 : decode cX6_fit 122 = .ok (.iconst (-1), 1) := by decide +kernel
theorem dX6_fit_123 : decode cX6_fit 123 = .ok (.invokevirtual 47, 3) := by decide +kernel
theorem dX6_fit_126 : decode cX6_fit 126 = .ok (.iinc 5 (-1), 3) := by decide +kernel
theorem dX6_fit_129 : decode cX6_fit 129 = .ok (.goto (-19), 3) := by decide +kernel
theorem dX6_fit_132 : decode cX6_fit 132 = .ok (.return_, 1) := by decide +kernel
theorem dX6_lack_0 : decode cX6_lack 0 = .ok (.aload_n 2, 1) := by decide +kernel
theorem dX6_lack_1 : decode cX6_lack 1 = .ok (.iload_n 1, 1) := by decide +kernel
theorem dX6_lack_2 : decode cX6_lack 2 = .ok (.iaload, 1) := by decide +kernel
theorem dX6_lack_3 : decode cX6_lack 3 = .ok (.aload_n 0, 1) := by decide +kernel
theorem dX6_lack_4 : decode cX6_lack 4 = .ok (.invokevirtual 33, 3) := by decide +kernel
theorem dX6_lack_7 : decode cX6_lack 7 = .ok (.imul, 1) := by decide +kernel
theorem dX6_lack_8 : decode cX6_lack 8 = .ok (.aload_n 0, 1) := by decide +kernel
theorem dX6_lack_9 : decode cX6_lack 9 = .ok (.getfield 9, 3) := by decide +kernel
theorem dX6_lack_12 : decode cX6_lack 12 = .ok (.iload_n 1, 1) := by decide +kernel
theorem dX6_lack_13 : decode cX6_lack 13 = .ok (.iaload, 1) := by decide +kernel
theorem dX6_lack_14 : decode cX6_lack 14 = .ok (.iload_n 3, 1) := by decide +kernel
theorem dX6_lack_15 : decode cX6_lack 15 = .ok (.imul, 1) := by decide +kernel
theorem dX6_lack_16 : decode cX6_lack 16 = .ok (.isub, 1) := by decide +kernel
theorem dX6_lack_17 : decode cX6_lack 17 = .ok (.ireturn, 1) := by decide +kernel
theorem dX6_mostLacking_0 : decode cX6_mostLacking 0 = .ok (.iconst (-1), 1) := by decide +kernel
theorem dX6_mostLacking_1 : decode cX6_mostLacking 1 = .ok (.istore_n 3, 1) := by decide +kernel
theorem dX6_mostLacking_2 : decode cX6_mostLacking 2 = .ok (.iconst 0, 1) := by decide +kernel
theorem dX6_mostLacking_3 : decode cX6_mostLacking 3 = .ok (.istore 4, 2) := by decide +kernel
theorem dX6_mostLacking_5 : decode cX6_mostLacking 5 = .ok (.iconst 0, 1) := by decide +kernel
theorem dX6_mostLacking_6 : decode cX6_mostLacking 6 = .ok (.istore 5, 2) := by decide +kernel
theorem dX6_mostLacking_8 : decode cX6_mostLacking 8 = .ok (.iload 5, 2) := by decide +kernel
theorem dX6_mostLacking_10 : decode cX6_mostLacking 10 = .ok (.sipush 256, 3) := by decide +kernel
theorem dX6_mostLacking_13 : decode cX6_mostLacking 13 = .ok (.if_icmp .ge 47, 3) := by decide +kernel
theorem dX6_mostLacking_16 : decode cX6_mostLacking 16 = .ok (.aload_n 1, 1) := by decide +kernel
theorem dX6_mostLacking_17 : decode cX6_mostLacking 17 = .ok (.iload 5, 2) := by decide +kernel
theorem dX6_mostLacking_19 : decode cX6_mostLacking 19 = .ok (.iaload, 1) := by decide +kernel
theorem dX6_mostLacking_20 : decode cX6_mostLacking 20 = .ok (.ifCond .le 34, 3) := by decide +kernel
theorem dX6_mostLacking_23 : decode cX6_mostLacking 23 = .ok (.iload_n 3, 1) := by decide +kernel
theorem dX6_mostLacking_24 : decode cX6_mostLacking 24 = .ok (.iconst (-1), 1) := by decide +kernel
theorem dX6_mostLacking_25 : decode cX6_mostLacking 25 = .ok (.if_icmp .eq 16, 3) := by decide +kernel
theorem dX6_mostLacking_28 : decode cX6_mostLacking 28 = .ok (.aload_n 0, 1) := by decide +kernel
theorem dX6_mostLacking_29 : decode cX6_mostLacking 29 = .ok (.iload 5, 2) := by decide +kernel
theorem dX6_mostLacking_31 : decode cX6_mostLacking 31 = .ok (.aload_n 1, 1) := by decide +kernel
theorem dX6_mostLacking_32 : decode cX6_mostLacking 32 = .ok (.iload_n 2, 1) := by decide +kernel
theorem dX6_mostLacking_33 : decode cX6_mostLacking 33 = .ok (.invokevirtual 54, 3) := by decide +kernel
theorem dX6_mostLacking_36 : decode cX6_mostLacking 36 = .ok (.iload 4, 2) := by decide +kernel
theorem dX6_mostLacking_38 : decode cX6_mostLacking 38 = .ok (.if_icmp .le 16, 3) := by decide +kernel
theorem dX6_mostLacking_41 : decode cX6_mostLacking 41 = .ok (.iload 5, 2) := by decide +kernel
theorem dX6_mostLacking_43 : decode cX6_mostLacking 43 = .ok (.istore_n 3, 1) := by decide +kernel
theorem dX6_mostLacking_44 : decode cX6_mostLacking 44 = .ok (.aload_n 0, 1) := by decide +kernel
theorem dX6_mostLacking_45 : decode cX6_mostLacking 45 = .ok (.iload 5, 2) := by decide +kernel
theorem dX6_mostLacking_47 : decode cX6_mostLacking 47 = .ok (.aload_n 1, 1) := by decide +kernel
theorem dX6_mostLacking_48 : decode cX6_mostLacking 48 = .ok (.iload_n 2, 1) := by decide +kernel
theorem dX6_mostLacking_49 : decode cX6_mostLacking 49 = .ok (.invokevirtual 54, 3) := by decide +kernel
theorem dX6_mostLacking_52 : decode cX6_mostLacking 52 = .ok (.istore 4, 2) := by decide +kernel
theorem dX6_mostLacking_54 : decode cX6_mostLacking 54 = .ok (.iinc 5 1, 3) := by decide +kernel
theorem dX6_mostLacking_57 : decode cX6_mostLacking 57 = .ok (.goto (-49), 3) := by decide +kernel
theorem dX6_mostLacking_60 : decode cX6_mostLacking 60 = .ok (.iload_n 3, 1) := by decide +kernel
theorem dX6_mostLacking_61 : decode cX6_mostLacking 61 = .ok (.ireturn, 1) := by decide +kernel
theorem dX6_leastLacking_0 : decode cX6_leastLacking 0 = .ok (.iconst (-1), 1) := by decide +kernel
theorem dX6_leastLacking_1 : decode cX6_leastLacking 1 = .ok (.istore_n 3, 1) := by decide +kernel
theorem dX6_leastLacking_2 : decode cX6_leastLacking 2 = .ok (.iconst 0, 1) := by decide +kernel
theorem dX6_leastLacking_3 : decode cX6_leastLacking 3 = .ok (.istore 4, 2) := by decide +kernel
theorem dX6_leastLacking_5 : decode cX6_leastLacking 5 = .ok (.iconst 0, 1) := by decide +kernel
theorem dX6_leastLacking_6 : decode cX6_leastLacking 6 = .ok (.istore 5, 2) := by decide +kernel
theorem dX6_leastLacking_8 : decode cX6_leastLacking 8 = .ok (.iload 5, 2) := by decide +kernel
theorem dX6_leastLacking_10 : decode cX6_leastLacking 10 = .ok (.sipush 256, 3) := by decide +kernel
theorem dX6_leastLacking_13 : decode cX6_leastLacking 13 = .ok (.if_icmp .ge 51, 3) := by decide +kernel
theorem dX6_leastLacking_16 : decode cX6_leastLacking 16 = .ok (.aload_n 0, 1) := by decide +kernel
theorem dX6_leastLacking_17 : decode cX6_leastLacking 17 = .ok (.getfield 9, 3) := by decide +kernel
theorem dX6_leastLacking_20 : decode cX6_leastLacking 20 = .ok (.iload 5, 2) := by decide +kernel
theorem dX6_leastLacking_22 : decode cX6_leastLacking 22 = .ok (.iaload, 1) := by decide +kernel
theorem dX6_leastLacking_23 : decode cX6_leastLacking 23 = .ok (.iconst 1, 1) := by decide +kernel
theorem dX6_leastLacking_24 : decode cX6_leastLacking 24 = .ok (.if_icmp .le 34, 3) := by decide +kernel
theorem dX6_leastLacking_27 : decode cX6_leastLacking 27 = .ok (.iload_n 3, 1) := by decide +kernel
theorem dX6_leastLacking_28 : decode cX6_leastLacking 28 = .ok (.iconst (-1), 1) := by decide +kernel
theorem dX6_leastLacking_29 : decode cX6_leastLacking 29 = .ok (.if_icmp .eq 16, 3) := by decide +kernel
theorem dX6_leastLacking_32 : decode cX6_leastLacking 32 = .ok (.aload_n 0, 1) := by decide +kernel
theorem dX6_leastLacking_33 : decode cX6_leastLacking 33 = .ok (.iload 5, 2) := by decide +kernel
theorem dX6_leastLacking_35 : decode cX6_leastLacking 35 = .ok (.aload_n 1, 1) := by decide +kernel
theorem dX6_leastLacking_36 : decode cX6_leastLacking 36 = .ok (.iload_n 2, 1) := by decide +kernel
theorem dX6_leastLacking_37 : decode cX6_leastLacking 37 = .ok (.invokevirtual 54, 3) := by decide +kernel
theorem dX6_leastLacking_40 : decode cX6_leastLacking 40 = .ok (.iload 4, 2) := by decide +kernel
theorem dX6_leastLacking_42 : decode cX6_leastLacking 42 = .ok (.if_icmp .gt 16, 3) := by decide +kernel
theorem dX6_leastLacking_45 : decode cX6_leastLacking 45 = .ok (.iload 5, 2) := by decide +kernel
theorem dX6_leastLacking_47 : decode cX6_leastLacking 47 = .ok (.istore_n 3, 1) := by decide +kernel
theorem dX6_leastLacking_48 : decode cX6_leastLacking 48 = .ok (.aload_n 0, 1) := by decide +kernel
theorem dX6_leastLacking_49 : decode cX6_leastLacking 49 = .ok (.iload 5, 2) := by decide +kernel
theorem dX6_leastLacking_51 : decode cX6_leastLacking 51 = .ok (.aload_n 1, 1) := by decide +kernel
theorem dX6_leastLacking_52 : decode cX6_leastLacking 52 = .ok (.iload_n 2, 1) := by decide +kernel
theorem dX6_leastLacking_53 : decode cX6_leastLacking 53 = .ok (.invokevirtual 54, 3) := by decide +kernel
theorem dX6_leastLacking_56 : decode cX6_leastLacking 56 = .ok (.istore 4, 2) := by decide +kernel
theorem dX6_leastLacking_58 : decode cX6_leastLacking 58 = .ok (.iinc 5 1, 3) := by decide +kernel
theorem dX6_leastLacking_61 : decode cX6_leastLacking 61 = .ok (.goto (-53), 3) := by decide +kernel
theorem dX6_leastLacking_64 : decode cX6_leastLacking 64 = .ok (.iload_n 3, 1) := by decide +kernel
theorem dX6_leastLacking_65 : decode cX6_leastLacking 65 = .ok (.ireturn, 1) := by decide +kernel
theorem dX7_init_0 : decode cX7_init 0 = .ok (.aload_n 0, 1) := by decide +kernel
theorem dX7_init_1 : decode cX7_init 1 = .ok (.invokespecial 3, 3) := by decide +kernel
theorem dX7_init_4 : decode cX7_init 4 = .ok (.aload_n 0, 1) := by decide +kernel
theorem dX7_init_5 : decode cX7_init 5 = .ok (.bipush 6, 2) := by decide +kernel
theorem dX7_init_7 : decode cX7_init 7 = .ok (.newarray .int, 2) := by decide +kernel
theorem dX7_init_9 : decode cX7_init 9 = .ok (.putfield 11, 3) := by decide +kernel
theorem dX7_init_12 : decode cX7_init 12 = .ok (.return_, 1) := by decide +kernel
theorem dX7_figure_0 : decode cX7_figure 0 = .ok (.iload_n 1, 1) := by decide +kernel
theorem dX7_figure_1 : decode cX7_figure 1 = .ok (.ifCond .lt 18, 3) := by decide +kernel
theorem dX7_figure_4 : decode cX7_figure 4 = .ok (.iload_n 1, 1) := by decide +kernel
theorem dX7_figure_5 : decode cX7_figure 5 = .ok (.bipush 6, 2) := by decide +kernel
theorem dX7_figure_7 : decode cX7_figure 7 = .ok (.if_icmp .ge 12, 3) := by decide +kernel
theorem dX7_figure_10 : decode cX7_figure 10 = .ok (.aload_n 0, 1) := by decide +kernel
theorem dX7_figure_11 : decode cX7_figure 11 = .ok (.getfield 11, 3) := by decide +kernel
theorem dX7_figure_14 : decode cX7_figure 14 = .ok (.iload_n 1, 1) := by decide +kernel
theorem dX7_figure_15 : decode cX7_figure 15 = .ok (.iaload, 1) := by decide +kernel
theorem dX7_figure_16 : decode cX7_figure 16 = .ok (.goto 4, 3) := by decide +kernel
theorem dX7_figure_19 : decode cX7_figure 19 = .ok (.iconst (-1), 1) := by decide +kernel
theorem dX7_figure_20 : decode cX7_figure 20 = .ok (.ireturn, 1) := by decide +kernel
theorem dX7_begin_0 : decode cX7_begin 0 = .ok (.aload_n 0, 1) := by decide +kernel
theorem dX7_begin_1 : decode cX7_begin 1 = .ok (.getfield 11, 3) := by decide +kernel
theorem dX7_begin_4 : decode cX7_begin 4 = .ok (.iconst 0, 1) := by decide +kernel
theorem dX7_begin_5 : decode cX7_begin 5 = .ok (.invokestatic 15, 3) := by decide +kernel
theorem dX7_begin_8 : decode cX7_begin 8 = .ok (.aload_n 0, 1) := by decide +kernel
theorem dX7_begin_9 : decode cX7_begin 9 = .ok (.getfield 11, 3) := by decide +kernel
theorem dX7_begin_12 : decode cX7_begin 12 = .ok (.iconst 0, 1) := by decide +kernel
theorem dX7_begin_13 : decode cX7_begin 13 = .ok (.iload_n 1, 1) := by decide +kernel
theorem dX7_begin_14 : decode cX7_begin 14 = .ok (.iastore, 1) := by decide +kernel
theorem dX7_begin_15 : decode cX7_begin 15 = .ok (.aload_n 0, 1) := by decide +kernel
theorem dX7_begin_16 : decode cX7_begin 16 = .ok (.getfield 11, 3) := by decide +kernel
theorem dX7_begin_19 : decode cX7_begin 19 = .ok (.iconst 1, 1) := by decide +kernel
theorem dX7_begin_20 : decode cX7_begin 20 = .ok (.iload_n 1, 1) := by decide +kernel
theorem dX7_begin_21 : decode cX7_begin 21 = .ok (.iastore, 1) := by decide +kernel
theorem dX7_begin_22 : decode cX7_begin 22 = .ok (.return_, 1) := by decide +kernel
theorem dX7_meet_0 : decode cX7_meet 0 = .ok (.aload_n 0, 1) := by decide +kernel
theorem dX7_meet_1 : decode cX7_meet 1 = .ok (.getfield 11, 3) := by decide +kernel
theorem dX7_meet_4 : decode cX7_meet 4 = .ok (.iconst 0, 1) := by decide +kernel
theorem dX7_meet_5 : decode cX7_meet 5 = .ok (.aload_n 0, 1) := by decide +kernel
theorem dX7_meet_6 : decode cX7_meet 6 = .ok (.getfield 11, 3) := by decide +kernel
theorem dX7_meet_9 : decode cX7_meet 9 = .ok (.iconst 0, 1) := by decide +kernel
theorem dX7_meet_10 : decode cX7_meet 10 = .ok (.iaload, 1) := by decide +kernel
theorem dX7_meet_11 : decode cX7_meet 11 = .ok (.iload_n 1, 1) := by decide +kernel
theorem dX7_meet_12 : decode cX7_meet 12 = .ok (.invokestatic 21, 3) := by decide +kernel
theorem dX7_meet_15 : decode cX7_meet 15 = .ok (.iastore, 1) := by decide +kernel
theorem dX7_meet_16 : decode cX7_meet 16 = .ok (.aload_n 0, 1) := by decide +kernel
theorem dX7_meet_17 : decode cX7_meet 17 = .ok (.getfield 11, 3) := by decide +kernel
theorem dX7_meet_20 : decode cX7_meet 20 = .ok (.iconst 1, 1) := by decide +kernel
theorem dX7_meet_21 : decode cX7_meet 21 = .ok (.aload_n 0, 1) := by decide +kernel
theorem dX7_meet_22 : decode cX7_meet 22 = .ok (.getfield 11, 3) := by decide +kernel
theorem dX7_meet_25 : decode cX7_meet 25 = .ok (.iconst 1, 1) := by decide +kernel
theorem dX7_meet_26 : decode cX7_meet 26 = .ok (.iaload, 1) := by decide +kernel
theorem dX7_meet_27 : decode cX7_meet 27 = .ok (.iload_n 1, 1) := by decide +kernel
theorem dX7_meet_28 : decode cX7_meet 28 = .ok (.invokestatic 27, 3) := by decide +kernel
theorem dX7_meet_31 : decode cX7_meet 31 = .ok (.iastore, 1) := by decide +kernel
theorem dX7_meet_32 : decode cX7_meet 32 = .ok (.return_, 1) := by decide +kernel
theorem dX7_addSymbol_0 : decode cX7_addSymbol 0 = .ok (.aload_n 0, 1) := by decide +kernel
theorem dX7_addSymbol_1 : decode cX7_addSymbol 1 = .ok (.iload_n 1, 1) := by decide +kernel
theorem dX7_addSymbol_2 : decode cX7_addSymbol 2 = .ok (.invokevirtual 30, 3) := by decide +kernel
theorem dX7_addSymbol_5 : decode cX7_addSymbol 5 = .ok (.aload_n 0, 1) := by decide +kernel
theorem dX7_addSymbol_6 : decode cX7_addSymbol 6 = .ok (.getfield 11, 3) := by decide +kernel
theorem dX7_addSymbol_9 : decode cX7_addSymbol 9 = .ok (.iconst 2, 1) := by decide +kernel
theorem dX7_addSymbol_10 : decode cX7_addSymbol 10 = .ok (.dup2, 1) := by decide +kernel
theorem dX7_addSymbol_11 : decode cX7_addSymbol 11 = .ok (.iaload, 1) := by decide +kernel
theorem dX7_addSymbol_12 : decode cX7_addSymbol 12 = .ok (.iconst 1, 1) := by decide +kernel
theorem dX7_addSymbol_13 : decode cX7_addSymbol 13 = .ok (.iadd, 1) := by decide +kernel
theorem dX7_addSymbol_14 : decode cX7_addSymbol 14 = .ok (.iastore, 1) := by decide +kernel
theorem dX7_addSymbol_15 : decode cX7_addSymbol 15 = .ok (.aload_n 0, 1) := by decide +kernel
theorem dX7_addSymbol_16 : decode cX7_addSymbol 16 = .ok (.getfield 11, 3) := by decide +kernel
theorem dX7_addSymbol_19 : decode cX7_addSymbol 19 = .ok (.iconst 3, 1) := by decide +kernel
theorem dX7_addSymbol_20 : decode cX7_addSymbol 20 = .ok (.dup2, 1) := by decide +kernel
theorem dX7_addSymbol_21 : decode cX7_addSymbol 21 = .ok (.iaload, 1) := by decide +kernel
theorem dX7_addSymbol_22 : decode cX7_addSymbol 22 = .ok (.iload_n 2, 1) := by decide +kernel
theorem dX7_addSymbol_23 : decode cX7_addSymbol 23 = .ok (.iadd, 1) := by decide +kernel
theorem dX7_addSymbol_24 : decode cX7_addSymbol 24 = .ok (.iastore, 1) := by decide +kernel
theorem dX7_addSymbol_25 : decode cX7_addSymbol 25 = .ok (.aload_n 0, 1) := by decide +kernel
theorem dX7_addSymbol_26 : decode cX7_addSymbol 26 = .ok (.getfield 11, 3) := by decide +kernel
theorem dX7_addSymbol_29 : decode cX7_addSymbol 29 = .ok (.iconst 5, 1) := by decide +kernel
theorem dX7_addSymbol_30 : decode cX7_addSymbol 30 = .ok (.aload_n 0, 1) := by decide +kernel
theorem dX7_addSymbol_31 : decode cX7_addSymbol 31 = .ok (.getfield 11, 3) := by decide +kernel
theorem dX7_addSymbol_34 : decode cX7_addSymbol 34 = .ok (.iconst 5, 1) := by decide +kernel
theorem dX7_addSymbol_35 : decode cX7_addSymbol 35 = .ok (.iaload, 1) := by decide +kernel
theorem dX7_addSymbol_36 : decode cX7_addSymbol 36 = .ok (.iload_n 2, 1) := by decide +kernel
theorem dX7_addSymbol_37 : decode cX7_addSymbol 37 = .ok (.invokestatic 27, 3) := by decide +kernel
theorem dX7_addSymbol_40 : decode cX7_addSymbol 40 = .ok (.iastore, 1) := by decide +kernel
theorem dX7_addSymbol_41 : decode cX7_addSymbol 41 = .ok (.return_, 1) := by decide +kernel
theorem dX7_setBytes_0 : decode cX7_setBytes 0 = .ok (.aload_n 0, 1) := by decide +kernel
theorem dX7_setBytes_1 : decode cX7_setBytes 1 = .ok (.getfield 11, 3) := by decide +kernel
theorem dX7_setBytes_4 : decode cX7_setBytes 4 = .ok (.iconst 4, 1) := by decide +kernel
end
section
theorem dX7_setBytes_5 : decode cX7_setBytes 5 = .ok (.aload_n 0, 1) := by decide +kernel
theorem dX7_setBytes_6 : decode cX7_setBytes 6 = .ok (.getfield 11, 3) := by decide +kernel
theorem dX7_setBytes_9 : decode cX7_setBytes 9 = .ok (.iconst 3, 1) := by decide +kernel
theorem dX7_setBytes_10 : decode cX7_setBytes 10 = .ok (.iaload, 1) := by decide +kernel
theorem dX7_setBytes_11 : decode cX7_setBytes 11 = .ok (.iload_n 1, 1) := by decide +kernel
theorem dX7_setBytes_12 : decode cX7_setBytes 12 = .ok (.imul, 1) := by decide +kernel
theorem dX7_setBytes_13 : decode cX7_setBytes 13 = .ok (.bipush 7, 2) := by decide +kernel
theorem dX7_setBytes_15 : decode cX7_setBytes 15 = .ok (.iadd, 1) := by decide +kernel
theorem dX7_setBytes_16 : decode cX7_setBytes 16 = .ok (.bipush 8, 2) := by decide +kernel
theorem dX7_setBytes_18 : decode cX7_setBytes 18 = .ok (.idiv, 1) := by decide +kernel
theorem dX7_setBytes_19 : decode cX7_setBytes 19 = .ok (.iastore, 1) := by decide +kernel
theorem dX7_setBytes_20 : decode cX7_setBytes 20 = .ok (.return_, 1) := by decide +kernel
theorem dX7_copy_0 : decode cX7_copy 0 = .ok (.aload_n 1, 1) := by decide +kernel
theorem dX7_copy_1 : decode cX7_copy 1 = .ok (.getfield 11, 3) := by decide +kernel
theorem dX7_copy_4 : decode cX7_copy 4 = .ok (.iconst 0, 1) := by decide +kernel
theorem dX7_copy_5 : decode cX7_copy 5 = .ok (.aload_n 0, 1) := by decide +kernel
theorem dX7_copy_6 : decode cX7_copy 6 = .ok (.getfield 11, 3) := by decide +kernel
theorem dX7_copy_9 : decode cX7_copy 9 = .ok (.iconst 0, 1) := by decide +kernel
theorem dX7_copy_10 : decode cX7_copy 10 = .ok (.bipush 6, 2) := by decide +kernel
theorem dX7_copy_12 : decode cX7_copy 12 = .ok (.invokestatic 34, 3) := by decide +kernel
theorem dX7_copy_15 : decode cX7_copy 15 = .ok (.return_, 1) := by decide +kernel
theorem dX8_init_0 : decode cX8_init 0 = .ok (.aload_n 0, 1) := by decide +kernel
theorem dX8_init_1 : decode cX8_init 1 = .ok (.invokespecial 3, 3) := by decide +kernel
theorem dX8_init_4 : decode cX8_init 4 = .ok (.aload_n 0, 1) := by decide +kernel
theorem dX8_init_5 : decode cX8_init 5 = .ok (.new 9, 3) := by decide +kernel
theorem dX8_init_8 : decode cX8_init 8 = .ok (.dup, 1) := by decide +kernel
theorem dX8_init_9 : decode cX8_init 9 = .ok (.invokespecial 11, 3) := by decide +kernel
theorem dX8_init_12 : decode cX8_init 12 = .ok (.putfield 12, 3) := by decide +kernel
theorem dX8_init_15 : decode cX8_init 15 = .ok (.aload_n 0, 1) := by decide +kernel
theorem dX8_init_16 : decode cX8_init 16 = .ok (.new 9, 3) := by decide +kernel
theorem dX8_init_19 : decode cX8_init 19 = .ok (.dup, 1) := by decide +kernel
theorem dX8_init_20 : decode cX8_init 20 = .ok (.invokespecial 11, 3) := by decide +kernel
theorem dX8_init_23 : decode cX8_init 23 = .ok (.putfield 16, 3) := by decide +kernel
theorem dX8_init_26 : decode cX8_init 26 = .ok (.aload_n 0, 1) := by decide +kernel
theorem dX8_init_27 : decode cX8_init 27 = .ok (.bipush 6, 2) := by decide +kernel
theorem dX8_init_29 : decode cX8_init 29 = .ok (.anewarray 19, 3) := by decide +kernel
theorem dX8_init_32 : decode cX8_init 32 = .ok (.putfield 21, 3) := by decide +kernel
theorem dX8_init_35 : decode cX8_init 35 = .ok (.aload_n 0, 1) := by decide +kernel
theorem dX8_init_36 : decode cX8_init 36 = .ok (.sipush 256, 3) := by decide +kernel
theorem dX8_init_39 : decode cX8_init 39 = .ok (.newarray .int, 2) := by decide +kernel
theorem dX8_init_41 : decode cX8_init 41 = .ok (.putfield 25, 3) := by decide +kernel
theorem dX8_init_44 : decode cX8_init 44 = .ok (.aload_n 0, 1) := by decide +kernel
theorem dX8_init_45 : decode cX8_init 45 = .ok (.new 29, 3) := by decide +kernel
theorem dX8_init_48 : decode cX8_init 48 = .ok (.dup, 1) := by decide +kernel
theorem dX8_init_49 : decode cX8_init 49 = .ok (.invokespecial 31, 3) := by decide +kernel
theorem dX8_init_52 : decode cX8_init 52 = .ok (.putfield 32, 3) := by decide +kernel
theorem dX8_init_55 : decode cX8_init 55 = .ok (.aload_n 0, 1) := by decide +kernel
theorem dX8_init_56 : decode cX8_init 56 = .ok (.aload_n 0, 1) := by decide +kernel
theorem dX8_init_57 : decode cX8_init 57 = .ok (.getfield 32, 3) := by decide +kernel
theorem dX8_init_60 : decode cX8_init 60 = .ok (.getfield 36, 3) := by decide +kernel
theorem dX8_init_63 : decode cX8_init 63 = .ok (.putfield 40, 3) := by decide +kernel
theorem dX8_init_66 : decode cX8_init 66 = .ok (.aload_n 0, 1) := by decide +kernel
theorem dX8_init_67 : decode cX8_init 67 = .ok (.new 41, 3) := by decide +kernel
theorem dX8_init_70 : decode cX8_init 70 = .ok (.dup, 1) := by decide +kernel
theorem dX8_init_71 : decode cX8_init 71 = .ok (.invokespecial 43, 3) := by decide +kernel
theorem dX8_init_74 : decode cX8_init 74 = .ok (.putfield 44, 3) := by decide +kernel
theorem dX8_init_77 : decode cX8_init 77 = .ok (.aload_n 0, 1) := by decide +kernel
theorem dX8_init_78 : decode cX8_init 78 = .ok (.new 48, 3) := by decide +kernel
theorem dX8_init_81 : decode cX8_init 81 = .ok (.dup, 1) := by decide +kernel
theorem dX8_init_82 : decode cX8_init 82 = .ok (.invokespecial 50, 3) := by decide +kernel
theorem dX8_init_85 : decode cX8_init 85 = .ok (.putfield 51, 3) := by decide +kernel
theorem dX8_init_88 : decode cX8_init 88 = .ok (.aload_n 0, 1) := by decide +kernel
theorem dX8_init_89 : decode cX8_init 89 = .ok (.new 55, 3) := by decide +kernel
theorem dX8_init_92 : decode cX8_init 92 = .ok (.dup, 1) := by decide +kernel
theorem dX8_init_93 : decode cX8_init 93 = .ok (.invokespecial 57, 3) := by decide +kernel
theorem dX8_init_96 : decode cX8_init 96 = .ok (.putfield 58, 3) := by decide +kernel
theorem dX8_init_99 : decode cX8_init 99 = .ok (.aload_n 0, 1) := by decide +kernel
theorem dX8_init_100 : decode cX8_init 100 = .ok (.iconst 0, 1) := by decide +kernel
theorem dX8_init_101 : decode cX8_init 101 = .ok (.putfield 62, 3) := by decide +kernel
theorem dX8_init_104 : decode cX8_init 104 = .ok (.aload_n 0, 1) := by decide +kernel
theorem dX8_init_105 : decode cX8_init 105 = .ok (.iconst 0, 1) := by decide +kernel
theorem dX8_init_106 : decode cX8_init 106 = .ok (.putfield 66, 3) := by decide +kernel
theorem dX8_init_109 : decode cX8_init 109 = .ok (.iconst 0, 1) := by decide +kernel
theorem dX8_init_110 : decode cX8_init 110 = .ok (.istore_n 1, 1) := by decide +kernel
theorem dX8_init_111 : decode cX8_init 111 = .ok (.iload_n 1, 1) := by decide +kernel
theorem dX8_init_112 : decode cX8_init 112 = .ok (.bipush 6, 2) := by decide +kernel
theorem dX8_init_114 : decode cX8_init 114 = .ok (.if_icmp .ge 22, 3) := by decide +kernel
theorem dX8_init_117 : decode cX8_init 117 = .ok (.aload_n 0, 1) := by decide +kernel
theorem dX8_init_118 : decode cX8_init 118 = .ok (.getfield 21, 3) := by decide +kernel
theorem dX8_init_121 : decode cX8_init 121 = .ok (.iload_n 1, 1) := by decide +kernel
theorem dX8_init_122 : decode cX8_init 122 = .ok (.new 19, 3) := by decide +kernel
theorem dX8_init_125 : decode cX8_init 125 = .ok (.dup, 1) := by decide +kernel
theorem dX8_init_126 : decode cX8_init 126 = .ok (.invokespecial 69, 3) := by decide +kernel
theorem dX8_init_129 : decode cX8_init 129 = .ok (.aastore, 1) := by decide +kernel
theorem dX8_init_130 : decode cX8_init 130 = .ok (.iinc 1 1, 3) := by decide +kernel
theorem dX8_init_133 : decode cX8_init 133 = .ok (.goto (-22), 3) := by decide +kernel
theorem dX8_init_136 : decode cX8_init 136 = .ok (.return_, 1) := by decide +kernel
theorem dX8_feed_0 : decode cX8_feed 0 = .ok (.aload_n 0, 1) := by decide +kernel
theorem dX8_feed_1 : decode cX8_feed 1 = .ok (.getfield 12, 3) := by decide +kernel
theorem dX8_feed_4 : decode cX8_feed 4 = .ok (.getfield 70, 3) := by decide +kernel
theorem dX8_feed_7 : decode cX8_feed 7 = .ok (.bipush 20, 2) := by decide +kernel
theorem dX8_feed_9 : decode cX8_feed 9 = .ok (.iadd, 1) := by decide +kernel
theorem dX8_feed_10 : decode cX8_feed 10 = .ok (.sipush 4000, 3) := by decide +kernel
theorem dX8_feed_13 : decode cX8_feed 13 = .ok (.if_icmp .le 5, 3) := by decide +kernel
theorem dX8_feed_16 : decode cX8_feed 16 = .ok (.iconst (-1), 1) := by decide +kernel
theorem dX8_feed_17 : decode cX8_feed 17 = .ok (.ireturn, 1) := by decide +kernel
theorem dX8_feed_18 : decode cX8_feed 18 = .ok (.aload_n 0, 1) := by decide +kernel
theorem dX8_feed_19 : decode cX8_feed 19 = .ok (.getfield 12, 3) := by decide +kernel
theorem dX8_feed_22 : decode cX8_feed 22 = .ok (.iload_n 1, 1) := by decide +kernel
theorem dX8_feed_23 : decode cX8_feed 23 = .ok (.iconst 4, 1) := by decide +kernel
theorem dX8_feed_24 : decode cX8_feed 24 = .ok (.invokevirtual 73, 3) := by decide +kernel
theorem dX8_feed_27 : decode cX8_feed 27 = .ok (.aload_n 0, 1) := by decide +kernel
theorem dX8_feed_28 : decode cX8_feed 28 = .ok (.getfield 12, 3) := by decide +kernel
theorem dX8_feed_31 : decode cX8_feed 31 = .ok (.iload_n 2, 1) := by decide +kernel
theorem dX8_feed_32 : decode cX8_feed 32 = .ok (.iconst 4, 1) := by decide +kernel
theorem dX8_feed_33 : decode cX8_feed 33 = .ok (.invokevirtual 73, 3) := by decide +kernel
theorem dX8_feed_36 : decode cX8_feed 36 = .ok (.aload_n 0, 1) := by decide +kernel
theorem dX8_feed_37 : decode cX8_feed 37 = .ok (.getfield 12, 3) := by decide +kernel
theorem dX8_feed_40 : decode cX8_feed 40 = .ok (.iload_n 3, 1) := by decide +kernel
theorem dX8_feed_41 : decode cX8_feed 41 = .ok (.iconst 4, 1) := by decide +kernel
theorem dX8_feed_42 : decode cX8_feed 42 = .ok (.invokevirtual 73, 3) := by decide +kernel
theorem dX8_feed_45 : decode cX8_feed 45 = .ok (.aload_n 0, 1) := by decide +kernel
theorem dX8_feed_46 : decode cX8_feed 46 = .ok (.getfield 12, 3) := by decide +kernel
theorem dX8_feed_49 : decode cX8_feed 49 = .ok (.iload 4, 2) := by decide +kernel
theorem dX8_feed_51 : decode cX8_feed 51 = .ok (.iconst 4, 1) := by decide +kernel
theorem dX8_feed_52 : decode cX8_feed 52 = .ok (.invokevirtual 73, 3) := by decide +kernel
theorem dX8_feed_55 : decode cX8_feed 55 = .ok (.aload_n 0, 1) := by decide +kernel
theorem dX8_feed_56 : decode cX8_feed 56 = .ok (.getfield 12, 3) := by decide +kernel
theorem dX8_feed_59 : decode cX8_feed 59 = .ok (.iload 5, 2) := by decide +kernel
theorem dX8_feed_61 : decode cX8_feed 61 = .ok (.iconst 4, 1) := by decide +kernel
theorem dX8_feed_62 : decode cX8_feed 62 = .ok (.invokevirtual 73, 3) := by decide +kernel
theorem dX8_feed_65 : decode cX8_feed 65 = .ok (.aload_n 0, 1) := by decide +kernel
theorem dX8_feed_66 : decode cX8_feed 66 = .ok (.getfield 12, 3) := by decide +kernel
theorem dX8_feed_69 : decode cX8_feed 69 = .ok (.getfield 70, 3) := by decide +kernel
theorem dX8_feed_72 : decode cX8_feed 72 = .ok (.ireturn, 1) := by decide +kernel
theorem dX8_end_0 : decode cX8_end 0 = .ok (.iload_n 1, 1) := by decide +kernel
theorem dX8_end_1 : decode cX8_end 1 = .ok (.ifCond .lt 14, 3) := by decide +kernel
theorem dX8_end_4 : decode cX8_end 4 = .ok (.iload_n 1, 1) := by decide +kernel
theorem dX8_end_5 : decode cX8_end 5 = .ok (.aload_n 0, 1) := by decide +kernel
theorem dX8_end_6 : decode cX8_end 6 = .ok (.getfield 12, 3) := by decide +kernel
theorem dX8_end_9 : decode cX8_end 9 = .ok (.getfield 70, 3) := by decide +kernel
theorem dX8_end_12 : decode cX8_end 12 = .ok (.if_icmp .le 5, 3) := by decide +kernel
theorem dX8_end_15 : decode cX8_end 15 = .ok (.iconst (-1), 1) := by decide +kernel
theorem dX8_end_16 : decode cX8_end 16 = .ok (.ireturn, 1) := by decide +kernel
theorem dX8_end_17 : decode cX8_end 17 = .ok (.aload_n 0, 1) := by decide +kernel
theorem dX8_end_18 : decode cX8_end 18 = .ok (.getfield 12, 3) := by decide +kernel
theorem dX8_end_21 : decode cX8_end 21 = .ok (.iload_n 1, 1) := by decide +kernel
theorem dX8_end_22 : decode cX8_end 22 = .ok (.putfield 70, 3) := by decide +kernel
theorem dX8_end_25 : decode cX8_end 25 = .ok (.iload_n 1, 1) := by decide +kernel
theorem dX8_end_26 : decode cX8_end 26 = .ok (.ireturn, 1) := by decide +kernel
theorem dX8_learn_0 : decode cX8_learn 0 = .ok (.iload_n 1, 1) := by decide +kernel
theorem dX8_learn_1 : decode cX8_learn 1 = .ok (.invokestatic 77, 3) := by decide +kernel
theorem dX8_learn_4 : decode cX8_learn 4 = .ok (.ifCond .eq 10, 3) := by decide +kernel
theorem dX8_learn_7 : decode cX8_learn 7 = .ok (.iload_n 2, 1) := by decide +kernel
theorem dX8_learn_8 : decode cX8_learn 8 = .ok (.invokestatic 81, 3) := by decide +kernel
theorem dX8_learn_11 : decode cX8_learn 11 = .ok (.ifCond .ne 5, 3) := by decide +kernel
theorem dX8_learn_14 : decode cX8_learn 14 = .ok (.iconst (-1), 1) := by decide +kernel
theorem dX8_learn_15 : decode cX8_learn 15 = .ok (.ireturn, 1) := by decide +kernel
theorem dX8_learn_16 : decode cX8_learn 16 = .ok (.aload_n 0, 1) := by decide +kernel
theorem dX8_learn_17 : decode cX8_learn 17 = .ok (.getfield 12, 3) := by decide +kernel
theorem dX8_learn_20 : decode cX8_learn 20 = .ok (.getfield 70, 3) := by decide +kernel
theorem dX8_learn_23 : decode cX8_learn 23 = .ok (.ifCond .ne 6, 3) := by decide +kernel
theorem dX8_learn_26 : decode cX8_learn 26 = .ok (.bipush (-2), 2) := by decide +kernel
theorem dX8_learn_28 : decode cX8_learn 28 = .ok (.ireturn, 1) := by decide +kernel
theorem dX8_learn_29 : decode cX8_learn 29 = .ok (.aload_n 0, 1) := by decide +kernel
theorem dX8_learn_30 : decode cX8_learn 30 = .ok (.invokevirtual 84, 3) := by decide +kernel
theorem dX8_learn_33 : decode cX8_learn 33 = .ok (.istore_n 3, 1) := by decide +kernel
theorem dX8_learn_34 : decode cX8_learn 34 = .ok (.iload_n 3, 1) := by decide +kernel
theorem dX8_learn_35 : decode cX8_learn 35 = .ok (.iconst 1, 1) := by decide +kernel
theorem dX8_learn_36 : decode cX8_learn 36 = .ok (.iload_n 2, 1) := by decide +kernel
theorem dX8_learn_37 : decode cX8_learn 37 = .ok (.ishl, 1) := by decide +kernel
theorem dX8_learn_38 : decode cX8_learn 38 = .ok (.if_icmp .le 6, 3) := by decide +kernel
theorem dX8_learn_41 : decode cX8_learn 41 = .ok (.bipush (-3), 2) := by decide +kernel
theorem dX8_learn_43 : decode cX8_learn 43 = .ok (.ireturn, 1) := by decide +kernel
theorem dX8_learn_44 : decode cX8_learn 44 = .ok (.aload_n 0, 1) := by decide +kernel
theorem dX8_learn_45 : decode cX8_learn 45 = .ok (.getfield 21, 3) := by decide +kernel
theorem dX8_learn_48 : decode cX8_learn 48 = .ok (.iload_n 1, 1) := by decide +kernel
theorem dX8_learn_49 : decode cX8_learn 49 = .ok (.aaload, 1) := by decide +kernel
theorem dX8_learn_50 : decode cX8_learn 50 = .ok (.aload_n 0, 1) := by decide +kernel
theorem dX8_learn_51 : decode cX8_learn 51 = .ok (.getfield 25, 3) := by decide +kernel
theorem dX8_learn_54 : decode cX8_learn 54 = .ok (.aload_n 0, 1) := by decide +kernel
theorem dX8_learn_55 : decode cX8_learn 55 = .ok (.getfield 12, 3) := by decide +kernel
theorem dX8_learn_58 : decode cX8_learn 58 = .ok (.getfield 70, 3) := by decide +kernel
theorem dX8_learn_61 : decode cX8_learn 61 = .ok (.iload_n 2, 1) := by decide +kernel
theorem dX8_learn_62 : decode cX8_learn 62 = .ok (.invokevirtual 88, 3) := by decide +kernel
theorem dX8_learn_65 : decode cX8_learn 65 = .ok (.aload_n 0, 1) := by decide +kernel
theorem dX8_learn_66 : decode cX8_learn 66 = .ok (.getfield 40, 3) := by decide +kernel
theorem dX8_learn_69 : decode cX8_learn 69 = .ok (.getfield 92, 3) := by decide +kernel
theorem dX8_learn_72 : decode cX8_learn 72 = .ok (.invokevirtual 98, 3) := by decide +kernel
theorem dX8_learn_75 : decode cX8_learn 75 = .ok (.iload_n 3, 1) := by decide +kernel
theorem dX8_learn_76 : decode cX8_learn 76 = .ok (.ireturn, 1) := by decide +kernel
theorem dX8_log_0 : decode cX8_log 0 = .ok (.aload_n 0, 1) := by decide +kernel
theorem dX8_log_1 : decode cX8_log 1 = .ok (.iload_n 1, 1) := by decide +kernel
theorem dX8_log_2 : decode cX8_log 2 = .ok (.invokevirtual 103, 3) := by decide +kernel
theorem dX8_log_5 : decode cX8_log 5 = .ok (.astore_n 2, 1) := by decide +kernel
theorem dX8_log_6 : decode cX8_log 6 = .ok (.aload_n 2, 1) := by decide +kernel
theorem dX8_log_7 : decode cX8_log 7 = .ok (.ifnonnull 7, 3) := by decide +kernel
theorem dX8_log_10 : decode cX8_log 10 = .ok (.iconst (-1), 1) := by decide +kernel
theorem dX8_log_11 : decode cX8_log 11 = .ok (.goto 7, 3) := by decide +kernel
theorem dX8_log_14 : decode cX8_log 14 = .ok (.aload_n 2, 1) := by decide +kernel
theorem dX8_log_15 : decode cX8_log 15 = .ok (.getfield 107, 3) := by decide +kernel
theorem dX8_log_18 : decode cX8_log 18 = .ok (.ireturn, 1) := by decide +kernel
theorem dX8_share_0 : decode cX8_share 0 = .ok (.aload_n 0, 1) := by decide +kernel
theorem dX8_share_1 : decode cX8_share 1 = .ok (.iload_n 1, 1) := by decide +kernel
theorem dX8_share_2 : decode cX8_share 2 = .ok (.invokevirtual 103, 3) := by decide +kernel
theorem dX8_share_5 : decode cX8_share 5 = .ok (.astore_n 3, 1) := by decide +kernel
theorem dX8_share_6 : decode cX8_share 6 = .ok (.aload_n 3, 1) := by decide +kernel
theorem dX8_share_7 : decode cX8_share 7 = .ok (.ifnull 10, 3) := by decide +kernel
theorem dX8_share_10 : decode cX8_share 10 = .ok (.iload_n 2, 1) := by decide +kernel
theorem dX8_share_11 : decode cX8_share 11 = .ok (.invokestatic 110, 3) := by decide +kernel
theorem dX8_share_14 : decode cX8_share 14 = .ok (.ifCond .ne 7, 3) := by decide +kernel
theorem dX8_share_17 : decode cX8_share 17 = .ok (.iconst (-1), 1) := by decide +kernel
theorem dX8_share_18 : decode cX8_share 18 = .ok (.goto 8, 3) := by decide +kernel
theorem dX8_share_21 : decode cX8_share 21 = .ok (.aload_n 3, 1) := by decide +kernel
theorem dX8_share_22 : decode cX8_share 22 = .ok (.iload_n 2, 1) := by decide +kernel
theorem dX8_share_23 : decode cX8_share 23 = .ok (.invokevirtual 113, 3) := by decide +kernel
theorem dX8_share_26 : decode cX8_share 26 = .ok (.ireturn, 1) := by decide +kernel
theorem dX8_start_0 : decode cX8_start 0 = .ok (.aload_n 0, 1) := by decide +kernel
theorem dX8_start_1 : decode cX8_start 1 = .ok (.iload_n 1, 1) := by decide +kernel
theorem dX8_start_2 : decode cX8_start 2 = .ok (.invokevirtual 103, 3) := by decide +kernel
theorem dX8_start_5 : decode cX8_start 5 = .ok (.astore_n 3, 1) := by decide +kernel
theorem dX8_start_6 : decode cX8_start 6 = .ok (.aload_n 3, 1) := by decide +kernel
theorem dX8_start_7 : decode cX8_start 7 = .ok (.ifnull 10, 3) := by decide +kernel
theorem dX8_start_10 : decode cX8_start 10 = .ok (.iload_n 2, 1) := by decide +kernel
theorem dX8_start_11 : decode cX8_start 11 = .ok (.invokestatic 110, 3) := by decide +kernel
theorem dX8_start_14 : decode cX8_start 14 = .ok (.ifCond .ne 7, 3) := by decide +kernel
theorem dX8_start_17 : decode cX8_start 17 = .ok (.iconst (-1), 1) := by decide +kernel
theorem dX8_start_18 : decode cX8_start 18 = .ok (.goto 8, 3) := by decide +kernel
theorem dX8_start_21 : decode cX8_start 21 = .ok (.aload_n 3, 1) := by decide +kernel
theorem dX8_start_22 : decode cX8_start 22 = .ok (.iload_n 2, 1) := by decide +kernel
theorem dX8_start_23 : decode cX8_start 23 = .ok (.invokevirtual 117, 3) := by decide +kernel
theorem dX8_start_26 : decode cX8_start 26 = .ok (.ireturn, 1) := by decide +kernel
theorem dX8_place_0 : decode cX8_place 0 = .ok (.aload_n 0, 1) := by decide +kernel
theorem dX8_place_1 : decode cX8_place 1 = .ok (.iload_n 1, 1) := by decide +kernel
theorem dX8_place_2 : decode cX8_place 2 = .ok (.iload_n 2, 1) := by decide +kernel
theorem dX8_place_3 : decode cX8_place 3 = .ok (.iload_n 3, 1) := by decide +kernel
theorem dX8_place_4 : decode cX8_place 4 = .ok (.invokevirtual 120, 3) := by decide +kernel
theorem dX8_place_7 : decode cX8_place 7 = .ok (.ifCond .eq 17, 3) := by decide +kernel
theorem dX8_place_10 : decode cX8_place 10 = .ok (.aload_n 0, 1) := by decide +kernel
theorem dX8_place_11 : decode cX8_place 11 = .ok (.getfield 40, 3) := by decide +kernel
theorem dX8_place_14 : decode cX8_place 14 = .ok (.getfield 92, 3) := by decide +kernel
theorem dX8_place_17 : decode cX8_place 17 = .ok (.iload_n 3, 1) := by decide +kernel
theorem dX8_place_18 : decode cX8_place 18 = .ok (.invokevirtual 124, 3) := by decide +kernel
theorem dX8_place_21 : decode cX8_place 21 = .ok (.goto 4, 3) := by decide +kernel
theorem dX8_place_24 : decode cX8_place 24 = .ok (.iconst (-1), 1) := by decide +kernel
theorem dX8_place_25 : decode cX8_place 25 = .ok (.ireturn, 1) := by decide +kernel
theorem dX8_rank_0 : decode cX8_rank 0 = .ok (.aload_n 0, 1) := by decide +kernel
theorem dX8_rank_1 : decode cX8_rank 1 = .ok (.iload_n 1, 1) := by decide +kernel
theorem dX8_rank_2 : decode cX8_rank 2 = .ok (.iload_n 2, 1) := by decide +kernel
theorem dX8_rank_3 : decode cX8_rank 3 = .ok (.iload_n 3, 1) := by decide +kernel
theorem dX8_rank_4 : decode cX8_rank 4 = .ok (.invokevirtual 120, 3) := by decide +kernel
theorem dX8_rank_7 : decode cX8_rank 7 = .ok (.ifCond .eq 17, 3) := by decide +kernel
theorem dX8_rank_10 : decode cX8_rank 10 = .ok (.aload_n 0, 1) := by decide +kernel
theorem dX8_rank_11 : decode cX8_rank 11 = .ok (.getfield 40, 3) := by decide +kernel
theorem dX8_rank_14 : decode cX8_rank 14 = .ok (.getfield 92, 3) := by decide +kernel
theorem dX8_rank_17 : decode cX8_rank 17 = .ok (.iload_n 3, 1) := by decide +kernel
theorem dX8_rank_18 : decode cX8_rank 18 = .ok (.invokevirtual 127, 3) := by decide +kernel
theorem dX8_rank_21 : decode cX8_rank 21 = .ok (.goto 4, 3) := by decide +kernel
theorem dX8_rank_24 : decode cX8_rank 24 = .ok (.iconst (-1), 1) := by decide +kernel
theorem dX8_rank_25 : decode cX8_rank 25 = .ok (.ireturn, 1) := by decide +kernel
theorem dX8_pack_0 : decode cX8_pack 0 = .ok (.aload_n 0, 1) := by decide +kernel
theorem dX8_pack_1 : decode cX8_pack 1 = .ok (.iload_n 1, 1) := by decide +kernel
theorem dX8_pack_2 : decode cX8_pack 2 = .ok (.invokevirtual 103, 3) := by decide +kernel
theorem dX8_pack_5 : decode cX8_pack 5 = .ok (.astore 4, 2) := by decide +kernel
theorem dX8_pack_7 : decode cX8_pack 7 = .ok (.aload 4, 2) := by decide +kernel
theorem dX8_pack_9 : decode cX8_pack 9 = .ok (.ifnull 11, 3) := by decide +kernel
theorem dX8_pack_12 : decode cX8_pack 12 = .ok (.iload_n 2, 1) := by decide +kernel
theorem dX8_pack_13 : decode cX8_pack 13 = .ok (.iload_n 3, 1) := by decide +kernel
theorem dX8_pack_14 : decode cX8_pack 14 = .ok (.invokestatic 130, 3) := by decide +kernel
theorem dX8_pack_17 : decode cX8_pack 17 = .ok (.ifCond .ne 5, 3) := by decide +kernel
theorem dX8_pack_20 : decode cX8_pack 20 = .ok (.iconst (-1), 1) := by decide +kernel
theorem dX8_pack_21 : decode cX8_pack 21 = .ok (.ireturn, 1) := by decide +kernel
theorem dX8_pack_22 : decode cX8_pack 22 = .ok (.aload_n 0, 1) := by decide +kernel
theorem dX8_pack_23 : decode cX8_pack 23 = .ok (.aload 4, 2) := by decide +kernel
theorem dX8_pack_25 : decode cX8_pack 25 = .ok (.invokevirtual 134, 3) := by decide +kernel
theorem dX8_pack_28 : decode cX8_pack 28 = .ok (.istore 5, 2) := by decide +kernel
theorem dX8_pack_30 : decode cX8_pack 30 = .ok (.iload 5, 2) := by decide +kernel
theorem dX8_pack_32 : decode cX8_pack 32 = .ok (.ifCond .eq 6, 3) := by decide +kernel
theorem dX8_pack_35 : decode cX8_pack 35 = .ok (.iload 5, 2) := by decide +kernel
theorem dX8_pack_37 : decode cX8_pack 37 = .ok (.ireturn, 1) := by decide +kernel
theorem dX8_pack_38 : decode cX8_pack 38 = .ok (.aload_n 0, 1) := by decide +kernel
theorem dX8_pack_39 : decode cX8_pack 39 = .ok (.getfield 40, 3) := by decide +kernel
theorem dX8_pack_42 : decode cX8_pack 42 = .ok (.aload 4, 2) := by decide +kernel
theorem dX8_pack_44 : decode cX8_pack 44 = .ok (.iload_n 2, 1) := by decide +kernel
theorem dX8_pack_45 : decode cX8_pack 45 = .ok (.iload_n 3, 1) := by decide +kernel
theorem dX8_pack_46 : decode cX8_pack 46 = .ok (.invokevirtual 138, 3) := by decide +kernel
theorem dX8_pack_49 : decode cX8_pack 49 = .ok (.aload_n 0, 1) := by decide +kernel
theorem dX8_pack_50 : decode cX8_pack 50 = .ok (.getfield 44, 3) := by decide +kernel
theorem dX8_pack_53 : decode cX8_pack 53 = .ok (.aload_n 0, 1) := by decide +kernel
theorem dX8_pack_54 : decode cX8_pack 54 = .ok (.getfield 40, 3) := by decide +kernel
theorem dX8_pack_57 : decode cX8_pack 57 = .ok (.aload_n 0, 1) := by decide +kernel
theorem dX8_pack_58 : decode cX8_pack 58 = .ok (.getfield 12, 3) := by decide +kernel
theorem dX8_pack_61 : decode cX8_pack 61 = .ok (.invokevirtual 142, 3) := by decide +kernel
theorem dX8_pack_64 : decode cX8_pack 64 = .ok (.aload_n 0, 1) := by decide +kernel
theorem dX8_pack_65 : decode cX8_pack 65 = .ok (.getfield 44, 3) := by decide +kernel
theorem dX8_pack_68 : decode cX8_pack 68 = .ok (.aload_n 0, 1) := by decide +kernel
theorem dX8_pack_69 : decode cX8_pack 69 = .ok (.getfield 40, 3) := by decide +kernel
theorem dX8_pack_72 : decode cX8_pack 72 = .ok (.aload 4, 2) := by decide +kernel
theorem dX8_pack_74 : decode cX8_pack 74 = .ok (.aload_n 0, 1) := by decide +kernel
theorem dX8_pack_75 : decode cX8_pack 75 = .ok (.getfield 16, 3) := by decide +kernel
theorem dX8_pack_78 : decode cX8_pack 78 = .ok (.invokevirtual 146, 3) := by decide +kernel
theorem dX8_pack_81 : decode cX8_pack 81 = .ok (.aload_n 0, 1) := by decide +kernel
theorem dX8_pack_82 : decode cX8_pack 82 = .ok (.getfield 51, 3) := by decide +kernel
theorem dX8_pack_85 : decode cX8_pack 85 = .ok (.aload_n 0, 1) := by decide +kernel
theorem dX8_pack_86 : decode cX8_pack 86 = .ok (.getfield 44, 3) := by decide +kernel
theorem dX8_pack_89 : decode cX8_pack 89 = .ok (.getfield 150, 3) := by decide +kernel
theorem dX8_pack_92 : decode cX8_pack 92 = .ok (.invokevirtual 151, 3) := by decide +kernel
theorem dX8_pack_95 : decode cX8_pack 95 = .ok (.aload_n 0, 1) := by decide +kernel
theorem dX8_pack_96 : decode cX8_pack 96 = .ok (.getfield 16, 3) := by decide +kernel
theorem dX8_pack_99 : decode cX8_pack 99 = .ok (.getfield 70, 3) := by decide +kernel
theorem dX8_pack_102 : decode cX8_pack 102 = .ok (.ireturn, 1) := by decide +kernel
theorem dX8_unpack_0 : decode cX8_unpack 0 = .ok (.iload_n 1, 1) := by decide +kernel
theorem dX8_unpack_1 : decode cX8_unpack 1 = .ok (.invokestatic 77, 3) := by decide +kernel
theorem dX8_unpack_4 : decode cX8_unpack 4 = .ok (.ifCond .ne 5, 3) := by decide +kernel
theorem dX8_unpack_7 : decode cX8_unpack 7 = .ok (.iconst (-1), 1) := by decide +kernel
theorem dX8_unpack_8 : decode cX8_unpack 8 = .ok (.ireturn, 1) := by decide +kernel
theorem dX8_unpack_9 : decode cX8_unpack 9 = .ok (.aload_n 0, 1) := by decide +kernel
theorem dX8_unpack_10 : decode cX8_unpack 10 = .ok (.getfield 32, 3) := by decide +kernel
theorem dX8_unpack_13 : decode cX8_unpack 13 = .ok (.aload_n 0, 1) := by decide +kernel
theorem dX8_unpack_14 : decode cX8_unpack 14 = .ok (.getfield 12, 3) := by decide +kernel
theorem dX8_unpack_17 : decode cX8_unpack 17 = .ok (.invokevirtual 155, 3) := by decide +kernel
theorem dX8_unpack_20 : decode cX8_unpack 20 = .ok (.istore_n 2, 1) := by decide +kernel
theorem dX8_unpack_21 : decode cX8_unpack 21 = .ok (.aload_n 0, 1) := by decide +kernel
theorem dX8_unpack_22 : decode cX8_unpack 22 = .ok (.getfield 12, 3) := by decide +kernel
theorem dX8_unpack_25 : decode cX8_unpack 25 = .ok (.iconst 0, 1) := by decide +kernel
theorem dX8_unpack_26 : decode cX8_unpack 26 = .ok (.putfield 70, 3) := by decide +kernel
theorem dX8_unpack_29 : decode cX8_unpack 29 = .ok (.iload_n 2, 1) := by decide +kernel
theorem dX8_unpack_30 : decode cX8_unpack 30 = .ok (.ifCond .ne 5, 3) := by decide +kernel
theorem dX8_unpack_33 : decode cX8_unpack 33 = .ok (.iconst (-1), 1) := by decide +kernel
theorem dX8_unpack_34 : decode cX8_unpack 34 = .ok (.ireturn, 1) := by decide +kernel
theorem dX8_unpack_35 : decode cX8_unpack 35 = .ok (.aload_n 0, 1) := by decide +kernel
theorem dX8_unpack_36 : decode cX8_unpack 36 = .ok (.getfield 21, 3) := by decide +kernel
theorem dX8_unpack_39 : decode cX8_unpack 39 = .ok (.iload_n 1, 1) := by decide +kernel
theorem dX8_unpack_40 : decode cX8_unpack 40 = .ok (.aload_n 0, 1) := by decide +kernel
theorem dX8_unpack_41 : decode cX8_unpack 41 = .ok (.getfield 32, 3) := by decide +kernel
theorem dX8_unpack_44 : decode cX8_unpack 44 = .ok (.aload_n 0, 1) := by decide +kernel
theorem dX8_unpack_45 : decode cX8_unpack 45 = .ok (.getfield 21, 3) := by decide +kernel
theorem dX8_unpack_48 : decode cX8_unpack 48 = .ok (.iload_n 1, 1) := by decide +kernel
theorem dX8_unpack_49 : decode cX8_unpack 49 = .ok (.aaload, 1) := by decide +kernel
theorem dX8_unpack_50 : decode cX8_unpack 50 = .ok (.invokevirtual 159, 3) := by decide +kernel
theorem dX8_unpack_53 : decode cX8_unpack 53 = .ok (.aastore, 1) := by decide +kernel
theorem dX8_unpack_54 : decode cX8_unpack 54 = .ok (.aload_n 0, 1) := by decide +kernel
theorem dX8_unpack_55 : decode cX8_unpack 55 = .ok (.getfield 32, 3) := by decide +kernel
theorem dX8_unpack_58 : decode cX8_unpack 58 = .ok (.aload_n 0, 1) := by decide +kernel
theorem dX8_unpack_59 : decode cX8_unpack 59 = .ok (.getfield 16, 3) := by decide +kernel
theorem dX8_unpack_62 : decode cX8_unpack 62 = .ok (.invokevirtual 163, 3) := by decide +kernel
theorem dX8_unpack_65 : decode cX8_unpack 65 = .ok (.aload_n 0, 1) := by decide +kernel
theorem dX8_unpack_66 : decode cX8_unpack 66 = .ok (.getfield 51, 3) := by decide +kernel
theorem dX8_unpack_69 : decode cX8_unpack 69 = .ok (.aload_n 0, 1) := by decide +kernel
theorem dX8_unpack_70 : decode cX8_unpack 70 = .ok (.getfield 32, 3) := by decide +kernel
theorem dX8_unpack_73 : decode cX8_unpack 73 = .ok (.getfield 167, 3) := by decide +kernel
theorem dX8_unpack_76 : decode cX8_unpack 76 = .ok (.invokevirtual 151, 3) := by decide +kernel
theorem dX8_unpack_79 : decode cX8_unpack 79 = .ok (.aload_n 0, 1) := by decide +kernel
theorem dX8_unpack_80 : decode cX8_unpack 80 = .ok (.getfield 16, 3) := by decide +kernel
theorem dX8_unpack_83 : decode cX8_unpack 83 = .ok (.getfield 70, 3) := by decide +kernel
theorem dX8_unpack_86 : decode cX8_unpack 86 = .ok (.ireturn, 1) := by decide +kernel
theorem dX8_fault_0 : decode cX8_fault 0 = .ok (.iload_n 1, 1) := by decide +kernel
theorem dX8_fault_1 : decode cX8_fault 1 = .ok (.ifCond .ne 11, 3) := by decide +kernel
theorem dX8_fault_4 : decode cX8_fault 4 = .ok (.aload_n 0, 1) := by decide +kernel
theorem dX8_fault_5 : decode cX8_fault 5 = .ok (.getfield 32, 3) := by decide +kernel
theorem dX8_fault_8 : decode cX8_fault 8 = .ok (.getfield 168, 3) := by decide +kernel
theorem dX8_fault_11 : decode cX8_fault 11 = .ok (.ireturn, 1) := by decide +kernel
theorem dX8_fault_12 : decode cX8_fault 12 = .ok (.iload_n 1, 1) := by decide +kernel
theorem dX8_fault_13 : decode cX8_fault 13 = .ok (.iconst 1, 1) := by decide +kernel
theorem dX8_fault_14 : decode cX8_fault 14 = .ok (.if_icmp .ne 13, 3) := by decide +kernel
theorem dX8_fault_17 : decode cX8_fault 17 = .ok (.aload_n 0, 1) := by decide +kernel
theorem dX8_fault_18 : decode cX8_fault 18 = .ok (.getfield 32, 3) := by decide +kernel
theorem dX8_fault_21 : decode cX8_fault 21 = .ok (.getfield 171, 3) := by decide +kernel
theorem dX8_fault_24 : decode cX8_fault 24 = .ok (.goto 4, 3) := by decide +kernel
theorem dX8_fault_27 : decode cX8_fault 27 = .ok (.iconst (-1), 1) := by decide +kernel
theorem dX8_fault_28 : decode cX8_fault 28 = .ok (.ireturn, 1) := by decide +kernel
theorem dX8_written_0 : decode cX8_written 0 = .ok (.aload_n 0, 1) := by decide +kernel
theorem dX8_written_1 : decode cX8_written 1 = .ok (.getfield 16, 3) := by decide +kernel
theorem dX8_written_4 : decode cX8_written 4 = .ok (.iload_n 1, 1) := by decide +kernel
theorem dX8_written_5 : decode cX8_written 5 = .ok (.invokevirtual 174, 3) := by decide +kernel
theorem dX8_written_8 : decode cX8_written 8 = .ok (.ireturn, 1) := by decide +kernel
theorem dX8_take_0 : decode cX8_take 0 = .ok (.aload_n 0, 1) := by decide +kernel
theorem dX8_take_1 : decode cX8_take 1 = .ok (.getfield 12, 3) := by decide +kernel
theorem dX8_take_4 : decode cX8_take 4 = .ok (.aload_n 0, 1) := by decide +kernel
theorem dX8_take_5 : decode cX8_take 5 = .ok (.getfield 16, 3) := by decide +kernel
theorem dX8_take_8 : decode cX8_take 8 = .ok (.invokevirtual 177, 3) := by decide +kernel
theorem dX8_take_11 : decode cX8_take 11 = .ok (.aload_n 0, 1) := by decide +kernel
theorem dX8_take_12 : decode cX8_take 12 = .ok (.getfield 12, 3) := by decide +kernel
theorem dX8_take_15 : decode cX8_take 15 = .ok (.getfield 70, 3) := by decide +kernel
theorem dX8_take_18 : decode cX8_take 18 = .ok (.ireturn, 1) := by decide +kernel
theorem dX8_ideal_0 : decode cX8_ideal 0 = .ok (.aload_n 0, 1) := by decide +kernel
theorem dX8_ideal_1 : decode cX8_ideal 1 = .ok (.iload_n 1, 1) := by decide +kernel
theorem dX8_ideal_2 : decode cX8_ideal 2 = .ok (.invokevirtual 103, 3) := by decide +kernel
theorem dX8_ideal_5 : decode cX8_ideal 5 = .ok (.astore_n 2, 1) := by decide +kernel
theorem dX8_ideal_6 : decode cX8_ideal 6 = .ok (.aload_n 2, 1) := by decide +kernel
theorem dX8_ideal_7 : decode cX8_ideal 7 = .ok (.ifnonnull 5, 3) := by decide +kernel
theorem dX8_ideal_10 : decode cX8_ideal 10 = .ok (.iconst (-1), 1) := by decide +kernel
theorem dX8_ideal_11 : decode cX8_ideal 11 = .ok (.ireturn, 1) := by decide +kernel
theorem dX8_ideal_12 : decode cX8_ideal 12 = .ok (.aload_n 0, 1) := by decide +kernel
theorem dX8_ideal_13 : decode cX8_ideal 13 = .ok (.aload_n 2, 1) := by decide +kernel
theorem dX8_ideal_14 : decode cX8_ideal 14 = .ok (.invokevirtual 134, 3) := by decide +kernel
theorem dX8_ideal_17 : decode cX8_ideal 17 = .ok (.istore_n 3, 1) := by decide +kernel
theorem dX8_ideal_18 : decode cX8_ideal 18 = .ok (.iload_n 3, 1) := by decide +kernel
theorem dX8_ideal_19 : decode cX8_ideal 19 = .ok (.ifCond .eq 5, 3) := by decide +kernel
theorem dX8_ideal_22 : decode cX8_ideal 22 = .ok (.iload_n 3, 1) := by decide +kernel
theorem dX8_ideal_23 : decode cX8_ideal 23 = .ok (.ireturn, 1) := by decide +kernel
theorem dX8_ideal_24 : decode cX8_ideal 24 = .ok (.aload_n 0, 1) := by decide +kernel
theorem dX8_ideal_25 : decode cX8_ideal 25 = .ok (.getfield 58, 3) := by decide +kernel
theorem dX8_ideal_28 : decode cX8_ideal 28 = .ok (.invokevirtual 179, 3) := by decide +kernel
theorem dX8_ideal_31 : decode cX8_ideal 31 = .ok (.iconst 0, 1) := by decide +kernel
theorem dX8_ideal_32 : decode cX8_ideal 32 = .ok (.istore 4, 2) := by decide +kernel
theorem dX8_ideal_34 : decode cX8_ideal 34 = .ok (.iload 4, 2) := by decide +kernel
theorem dX8_ideal_36 : decode cX8_ideal 36 = .ok (.aload_n 0, 1) := by decide +kernel
theorem dX8_ideal_37 : decode cX8_ideal 37 = .ok (.getfield 12, 3) := by decide +kernel
theorem dX8_ideal_40 : decode cX8_ideal 40 = .ok (.getfield 70, 3) := by decide +kernel
theorem dX8_ideal_43 : decode cX8_ideal 43 = .ok (.if_icmp .ge 29, 3) := by decide +kernel
theorem dX8_ideal_46 : decode cX8_ideal 46 = .ok (.aload_n 0, 1) := by decide +kernel
theorem dX8_ideal_47 : decode cX8_ideal 47 = .ok (.getfield 58, 3) := by decide +kernel
theorem dX8_ideal_50 : decode cX8_ideal 50 = .ok (.aload_n 2, 1) := by decide +kernel
theorem dX8_ideal_51 : decode cX8_ideal 51 = .ok (.aload_n 0, 1) := by decide +kernel
theorem dX8_ideal_52 : decode cX8_ideal 52 = .ok (.getfield 12, 3) := by decide +kernel
theorem dX8_ideal_55 : decode cX8_ideal 55 = .ok (.iload 4, 2) := by decide +kernel
theorem dX8_ideal_57 : decode cX8_ideal 57 = .ok (.invokevirtual 174, 3) := by decide +kernel
theorem dX8_ideal_60 : decode cX8_ideal 60 = .ok (.invokevirtual 113, 3) := by decide +kernel
theorem dX8_ideal_63 : decode cX8_ideal 63 = .ok (.invokevirtual 182, 3) := by decide +kernel
theorem dX8_ideal_66 : decode cX8_ideal 66 = .ok (.iinc 4 1, 3) := by decide +kernel
theorem dX8_ideal_69 : decode cX8_ideal 69 = .ok (.goto (-35), 3) := by decide +kernel
theorem dX8_ideal_72 : decode cX8_ideal 72 = .ok (.aload_n 2, 1) := by decide +kernel
theorem dX8_ideal_73 : decode cX8_ideal 73 = .ok (.getfield 107, 3) := by decide +kernel
theorem dX8_ideal_76 : decode cX8_ideal 76 = .ok (.aload_n 0, 1) := by decide +kernel
theorem dX8_ideal_77 : decode cX8_ideal 77 = .ok (.getfield 12, 3) := by decide +kernel
theorem dX8_ideal_80 : decode cX8_ideal 80 = .ok (.getfield 70, 3) := by decide +kernel
theorem dX8_ideal_83 : decode cX8_ideal 83 = .ok (.imul, 1) := by decide +kernel
theorem dX8_ideal_84 : decode cX8_ideal 84 = .ok (.aload_n 0, 1) := by decide +kernel
theorem dX8_ideal_85 : decode cX8_ideal 85 = .ok (.getfield 58, 3) := by decide +kernel
theorem dX8_ideal_88 : decode cX8_ideal 88 = .ok (.invokevirtual 186, 3) := by decide +kernel
theorem dX8_ideal_91 : decode cX8_ideal 91 = .ok (.isub, 1) := by decide +kernel
theorem dX8_ideal_92 : decode cX8_ideal 92 = .ok (.ireturn, 1) := by decide +kernel
theorem dX8_code_0 : decode cX8_code 0 = .ok (.aload_n 0, 1) := by decide +kernel
theorem dX8_code_1 : decode cX8_code 1 = .ok (.iload_n 1, 1) := by decide +kernel
theorem dX8_code_2 : decode cX8_code 2 = .ok (.iload_n 2, 1) := by decide +kernel
theorem dX8_code_3 : decode cX8_code 3 = .ok (.iload_n 3, 1) := by decide +kernel
theorem dX8_code_4 : decode cX8_code 4 = .ok (.iload 4, 2) := by decide +kernel
theorem dX8_code_6 : decode cX8_code 6 = .ok (.invokevirtual 189, 3) := by decide +kernel
theorem dX8_code_9 : decode cX8_code 9 = .ok (.ifCond .eq 18, 3) := by decide +kernel
theorem dX8_code_12 : decode cX8_code 12 = .ok (.aload_n 0, 1) := by decide +kernel
theorem dX8_code_13 : decode cX8_code 13 = .ok (.getfield 40, 3) := by decide +kernel
theorem dX8_code_16 : decode cX8_code 16 = .ok (.getfield 92, 3) := by decide +kernel
theorem dX8_code_19 : decode cX8_code 19 = .ok (.iload 5, 2) := by decide +kernel
theorem dX8_code_21 : decode cX8_code 21 = .ok (.invokevirtual 193, 3) := by decide +kernel
theorem dX8_code_24 : decode cX8_code 24 = .ok (.ifCond .ne 5, 3) := by decide +kernel
theorem dX8_code_27 : decode cX8_code 27 = .ok (.iconst (-1), 1) := by decide +kernel
theorem dX8_code_28 : decode cX8_code 28 = .ok (.ireturn, 1) := by decide +kernel
theorem dX8_code_29 : decode cX8_code 29 = .ok (.aload_n 0, 1) := by decide +kernel
theorem dX8_code_30 : decode cX8_code 30 = .ok (.getfield 40, 3) := by decide +kernel
theorem dX8_code_33 : decode cX8_code 33 = .ok (.iload 4, 2) := by decide +kernel
theorem dX8_code_35 : decode cX8_code 35 = .ok (.iload 5, 2) := by decide +kernel
theorem dX8_code_37 : decode cX8_code 37 = .ok (.invokevirtual 194, 3) := by decide +kernel
theorem dX8_code_40 : decode cX8_code 40 = .ok (.aload_n 0, 1) := by decide +kernel
theorem dX8_code_41 : decode cX8_code 41 = .ok (.aload_n 0, 1) := by decide +kernel
theorem dX8_code_42 : decode cX8_code 42 = .ok (.getfield 40, 3) := by decide +kernel
theorem dX8_code_45 : decode cX8_code 45 = .ok (.getfield 197, 3) := by decide +kernel
theorem dX8_code_48 : decode cX8_code 48 = .ok (.putfield 62, 3) := by decide +kernel
theorem dX8_code_51 : decode cX8_code 51 = .ok (.aload_n 0, 1) := by decide +kernel
theorem dX8_code_52 : decode cX8_code 52 = .ok (.aload_n 0, 1) := by decide +kernel
theorem dX8_code_53 : decode cX8_code 53 = .ok (.getfield 40, 3) := by decide +kernel
theorem dX8_code_56 : decode cX8_code 56 = .ok (.getfield 200, 3) := by decide +kernel
theorem dX8_code_59 : decode cX8_code 59 = .ok (.putfield 66, 3) := by decide +kernel
theorem dX8_code_62 : decode cX8_code 62 = .ok (.aload_n 0, 1) := by decide +kernel
theorem dX8_code_63 : decode cX8_code 63 = .ok (.getfield 40, 3) := by decide +kernel
theorem dX8_code_66 : decode cX8_code 66 = .ok (.getfield 203, 3) := by decide +kernel
theorem dX8_code_69 : decode cX8_code 69 = .ok (.ireturn, 1) := by decide +kernel
theorem dX8_gone_0 : decode cX8_gone 0 = .ok (.iload_n 1, 1) := by decide +kernel
theorem dX8_gone_1 : decode cX8_gone 1 = .ok (.ifCond .ne 8, 3) := by decide +kernel
theorem dX8_gone_4 : decode cX8_gone 4 = .ok (.aload_n 0, 1) := by decide +kernel
theorem dX8_gone_5 : decode cX8_gone 5 = .ok (.getfield 62, 3) := by decide +kernel
theorem dX8_gone_8 : decode cX8_gone 8 = .ok (.ireturn, 1) := by decide +kernel
theorem dX8_gone_9 : decode cX8_gone 9 = .ok (.iload_n 1, 1) := by decide +kernel
theorem dX8_gone_10 : decode cX8_gone 10 = .ok (.iconst 1, 1) := by decide +kernel
theorem dX8_gone_11 : decode cX8_gone 11 = .ok (.if_icmp .ne 10, 3) := by decide +kernel
theorem dX8_gone_14 : decode cX8_gone 14 = .ok (.aload_n 0, 1) := by decide +kernel
theorem dX8_gone_15 : decode cX8_gone 15 = .ok (.getfield 66, 3) := by decide +kernel
theorem dX8_gone_18 : decode cX8_gone 18 = .ok (.goto 4, 3) := by decide +kernel
theorem dX8_gone_21 : decode cX8_gone 21 = .ok (.iconst (-1), 1) := by decide +kernel
theorem dX8_gone_22 : decode cX8_gone 22 = .ok (.ireturn, 1) := by decide +kernel
theorem dX8_symbol_0 : decode cX8_symbol 0 = .ok (.aload_n 0, 1) := by decide +kernel
theorem dX8_symbol_1 : decode cX8_symbol 1 = .ok (.iload_n 1, 1) := by decide +kernel
theorem dX8_symbol_2 : decode cX8_symbol 2 = .ok (.iload_n 2, 1) := by decide +kernel
theorem dX8_symbol_3 : decode cX8_symbol 3 = .ok (.iload_n 3, 1) := by decide +kernel
theorem dX8_symbol_4 : decode cX8_symbol 4 = .ok (.iload 4, 2) := by decide +kernel
theorem dX8_symbol_6 : decode cX8_symbol 6 = .ok (.invokevirtual 189, 3) := by decide +kernel
theorem dX8_symbol_9 : decode cX8_symbol 9 = .ok (.ifCond .eq 15, 3) := by decide +kernel
theorem dX8_symbol_12 : decode cX8_symbol 12 = .ok (.aload_n 0, 1) := by decide +kernel
theorem dX8_symbol_13 : decode cX8_symbol 13 = .ok (.getfield 40, 3) := by decide +kernel
theorem dX8_symbol_16 : decode cX8_symbol 16 = .ok (.iload 4, 2) := by decide +kernel
theorem dX8_symbol_18 : decode cX8_symbol 18 = .ok (.invokevirtual 206, 3) := by decide +kernel
theorem dX8_symbol_21 : decode cX8_symbol 21 = .ok (.goto 4, 3) := by decide +kernel
theorem dX8_symbol_24 : decode cX8_symbol 24 = .ok (.iconst (-1), 1) := by decide +kernel
theorem dX8_symbol_25 : decode cX8_symbol 25 = .ok (.ireturn, 1) := by decide +kernel
theorem dX8_left_0 : decode cX8_left 0 = .ok (.aload_n 0, 1) := by decide +kernel
theorem dX8_left_1 : decode cX8_left 1 = .ok (.iload_n 1, 1) := by decide +kernel
theorem dX8_left_2 : decode cX8_left 2 = .ok (.iload_n 2, 1) := by decide +kernel
theorem dX8_left_3 : decode cX8_left 3 = .ok (.iload_n 3, 1) := by decide +kernel
theorem dX8_left_4 : decode cX8_left 4 = .ok (.iload 4, 2) := by decide +kernel
theorem dX8_left_6 : decode cX8_left 6 = .ok (.invokevirtual 189, 3) := by decide +kernel
theorem dX8_left_9 : decode cX8_left 9 = .ok (.ifCond .eq 15, 3) := by decide +kernel
theorem dX8_left_12 : decode cX8_left 12 = .ok (.aload_n 0, 1) := by decide +kernel
theorem dX8_left_13 : decode cX8_left 13 = .ok (.getfield 40, 3) := by decide +kernel
theorem dX8_left_16 : decode cX8_left 16 = .ok (.iload 4, 2) := by decide +kernel
theorem dX8_left_18 : decode cX8_left 18 = .ok (.invokevirtual 209, 3) := by decide +kernel
theorem dX8_left_21 : decode cX8_left 21 = .ok (.goto 4, 3) := by decide +kernel
theorem dX8_left_24 : decode cX8_left 24 = .ok (.iconst (-1), 1) := by decide +kernel
theorem dX8_left_25 : decode cX8_left 25 = .ok (.ireturn, 1) := by decide +kernel
theorem dX8_look_0 : decode cX8_look 0 = .ok (.aload_n 0, 1) := by decide +kernel
theorem dX8_look_1 : decode cX8_look 1 = .ok (.getfield 51, 3) := by decide +kernel
theorem dX8_look_4 : decode cX8_look 4 = .ok (.iload_n 1, 1) := by decide +kernel
theorem dX8_look_5 : decode cX8_look 5 = .ok (.invokevirtual 212, 3) := by decide +kernel
theorem dX8_look_8 : decode cX8_look 8 = .ok (.ireturn, 1) := by decide +kernel
theorem dX8_isTableNumber_0 : decode cX8_isTableNumber 0 = .ok (.iload_n 0, 1) := by decide +kernel
theorem dX8_isTableNumber_1 : decode cX8_isTableNumber 1 = .ok (.ifCond .lt 13, 3) := by decide +kernel
theorem dX8_isTableNumber_4 : decode cX8_isTableNumber 4 = .ok (.iload_n 0, 1) := by decide +kernel
theorem dX8_isTableNumber_5 : decode cX8_isTableNumber 5 = .ok (.bipush 6, 2) := by decide +kernel
theorem dX8_isTableNumber_7 : decode cX8_isTableNumber 7 = .ok (.if_icmp .ge 7, 3) := by decide +kernel
theorem dX8_isTableNumber_10 : decode cX8_isTableNumber 10 = .ok (.iconst 1, 1) := by decide +kernel
theorem dX8_isTableNumber_11 : decode cX8_isTableNumber 11 = .ok (.goto 4, 3) := by decide +kernel
theorem dX8_isTableNumber_14 : decode cX8_isTableNumber 14 = .ok (.iconst 0, 1) := by decide +kernel
theorem dX8_isTableNumber_15 : decode cX8_isTableNumber 15 = .ok (.ireturn, 1) := by decide +kernel
theorem dX8_isLog_0 : decode cX8_isLog 0 = .ok (.iload_n 0, 1) := by decide +kernel
theorem dX8_isLog_1 : decode cX8_isLog 1 = .ok (.iconst 1, 1) := by decide +kernel
theorem dX8_isLog_2 : decode cX8_isLog 2 = .ok (.if_icmp .lt 13, 3) := by decide +kernel
theorem dX8_isLog_5 : decode cX8_isLog 5 = .ok (.iload_n 0, 1) := by decide +kernel
theorem dX8_isLog_6 : decode cX8_isLog 6 = .ok (.bipush 12, 2) := by decide +kernel
theorem dX8_isLog_8 : decode cX8_isLog 8 = .ok (.if_icmp .gt 7, 3) := by decide +kernel
theorem dX8_isLog_11 : decode cX8_isLog 11 = .ok (.iconst 1, 1) := by decide +kernel
theorem dX8_isLog_12 : decode cX8_isLog 12 = .ok (.goto 4, 3) := by decide +kernel
theorem dX8_isLog_15 : decode cX8_isLog 15 = .ok (.iconst 0, 1) := by decide +kernel
theorem dX8_isLog_16 : decode cX8_isLog 16 = .ok (.ireturn, 1) := by decide +kernel
theorem dX8_isSymbol_0 : decode cX8_isSymbol 0 = .ok (.iload_n 0, 1) := by decide +kernel
theorem dX8_isSymbol_1 : decode cX8_isSymbol 1 = .ok (.ifCond .lt 14, 3) := by decide +kernel
theorem dX8_isSymbol_4 : decode cX8_isSymbol 4 = .ok (.iload_n 0, 1) := by decide +kernel
theorem dX8_isSymbol_5 : decode cX8_isSymbol 5 = .ok (.sipush 256, 3) := by decide +kernel
theorem dX8_isSymbol_8 : decode cX8_isSymbol 8 = .ok (.if_icmp .ge 7, 3) := by decide +kernel
theorem dX8_isSymbol_11 : decode cX8_isSymbol 11 = .ok (.iconst 1, 1) := by decide +kernel
theorem dX8_isSymbol_12 : decode cX8_isSymbol 12 = .ok (.goto 4, 3) := by decide +kernel
theorem dX8_isSymbol_15 : decode cX8_isSymbol 15 = .ok (.iconst 0, 1) := by decide +kernel
theorem dX8_isSymbol_16 : decode cX8_isSymbol 16 = .ok (.ireturn, 1) := by decide +kernel
theorem dX8_isSpread_0 : decode cX8_isSpread 0 = .ok (.iload_n 0, 1) := by decide +kernel
theorem dX8_isSpread_1 : decode cX8_isSpread 1 = .ok (.ifCond .lt 12, 3) := by decide +kernel
theorem dX8_isSpread_4 : decode cX8_isSpread 4 = .ok (.iload_n 0, 1) := by decide +kernel
theorem dX8_isSpread_5 : decode cX8_isSpread 5 = .ok (.iconst 2, 1) := by decide +kernel
theorem dX8_isSpread_6 : decode cX8_isSpread 6 = .ok (.if_icmp .gt 7, 3) := by decide +kernel
theorem dX8_isSpread_9 : decode cX8_isSpread 9 = .ok (.iconst 1, 1) := by decide +kernel
theorem dX8_isSpread_10 : decode cX8_isSpread 10 = .ok (.goto 4, 3) := by decide +kernel
theorem dX8_isSpread_13 : decode cX8_isSpread 13 = .ok (.iconst 0, 1) := by decide +kernel
theorem dX8_isSpread_14 : decode cX8_isSpread 14 = .ok (.ireturn, 1) := by decide +kernel
theorem dX8_isCoding_0 : decode cX8_isCoding 0 = .ok (.iload_n 0, 1) := by decide +kernel
theorem dX8_isCoding_1 : decode cX8_isCoding 1 = .ok (.ifCond .ne 8, 3) := by decide +kernel
theorem dX8_isCoding_4 : decode cX8_isCoding 4 = .ok (.iload_n 1, 1) := by decide +kernel
theorem dX8_isCoding_5 : decode cX8_isCoding 5 = .ok (.invokestatic 215, 3) := by decide +kernel
theorem dX8_isCoding_8 : decode cX8_isCoding 8 = .ok (.ireturn, 1) := by decide +kernel
theorem dX8_isCoding_9 : decode cX8_isCoding 9 = .ok (.iload_n 0, 1) := by decide +kernel
theorem dX8_isCoding_10 : decode cX8_isCoding 10 = .ok (.iconst 1, 1) := by decide +kernel
theorem dX8_isCoding_11 : decode cX8_isCoding 11 = .ok (.if_icmp .eq 8, 3) := by decide +kernel
theorem dX8_isCoding_14 : decode cX8_isCoding 14 = .ok (.iload_n 0, 1) := by decide +kernel
theorem dX8_isCoding_15 : decode cX8_isCoding 15 = .ok (.iconst 2, 1) := by decide +kernel
theorem dX8_isCoding_16 : decode cX8_isCoding 16 = .ok (.if_icmp .ne 11, 3) := by decide +kernel
theorem dX8_isCoding_19 : decode cX8_isCoding 19 = .ok (.iload_n 1, 1) := by decide +kernel
theorem dX8_isCoding_20 : decode cX8_isCoding 20 = .ok (.ifCond .ne 7, 3) := by decide +kernel
theorem dX8_isCoding_23 : decode cX8_isCoding 23 = .ok (.iconst 1, 1) := by decide +kernel
theorem dX8_isCoding_24 : decode cX8_isCoding 24 = .ok (.goto 4, 3) := by decide +kernel
theorem dX8_isCoding_27 : decode cX8_isCoding 27 = .ok (.iconst 0, 1) := by decide +kernel
theorem dX8_isCoding_28 : decode cX8_isCoding 28 = .ok (.ireturn, 1) := by decide +kernel
theorem dX8_tableOrNull_0 : decode cX8_tableOrNull 0 = .ok (.iload_n 1, 1) := by decide +kernel
theorem dX8_tableOrNull_1 : decode cX8_tableOrNull 1 = .ok (.invokestatic 77, 3) := by decide +kernel
theorem dX8_tableOrNull_4 : decode cX8_tableOrNull 4 = .ok (.ifCond .ne 5, 3) := by decide +kernel
theorem dX8_tableOrNull_7 : decode cX8_tableOrNull 7 = .ok (.aconst_null, 1) := by decide +kernel
theorem dX8_tableOrNull_8 : decode cX8_tableOrNull 8 = .ok (.areturn, 1) := by decide +kernel
theorem dX8_tableOrNull_9 : decode cX8_tableOrNull 9 = .ok (.aload_n 0, 1) := by decide +kernel
theorem dX8_tableOrNull_10 : decode cX8_tableOrNull 10 = .ok (.getfield 21, 3) := by decide +kernel
theorem dX8_tableOrNull_13 : decode cX8_tableOrNull 13 = .ok (.iload_n 1, 1) := by decide +kernel
theorem dX8_tableOrNull_14 : decode cX8_tableOrNull 14 = .ok (.aaload, 1) := by decide +kernel
theorem dX8_tableOrNull_15 : decode cX8_tableOrNull 15 = .ok (.astore_n 2, 1) := by decide +kernel
theorem dX8_tableOrNull_16 : decode cX8_tableOrNull 16 = .ok (.aload_n 2, 1) := by decide +kernel
theorem dX8_tableOrNull_17 : decode cX8_tableOrNull 17 = .ok (.invokevirtual 218, 3) := by decide +kernel
theorem dX8_tableOrNull_20 : decode cX8_tableOrNull 20 = .ok (.ifCond .eq 7, 3) := by decide +kernel
theorem dX8_tableOrNull_23 : decode cX8_tableOrNull 23 = .ok (.aload_n 2, 1) := by decide +kernel
theorem dX8_tableOrNull_24 : decode cX8_tableOrNull 24 = .ok (.goto 4, 3) := by decide +kernel
theorem dX8_tableOrNull_27 : decode cX8_tableOrNull 27 = .ok (.aconst_null, 1) := by decide +kernel
theorem dX8_tableOrNull_28 : decode cX8_tableOrNull 28 = .ok (.areturn, 1) := by decide +kernel
theorem dX8_countTape_0 : decode cX8_countTape 0 = .ok (.aload_n 0, 1) := by decide +kernel
theorem dX8_countTape_1 : decode cX8_countTape 1 = .ok (.getfield 25, 3) := by decide +kernel
theorem dX8_countTape_4 : decode cX8_countTape 4 = .ok (.iconst 0, 1) := by decide +kernel
theorem dX8_countTape_5 : decode cX8_countTape 5 = .ok (.invokestatic 222, 3) := by decide +kernel
theorem dX8_countTape_8 : decode cX8_countTape 8 = .ok (.iconst 0, 1) := by decide +kernel
theorem dX8_countTape_9 : decode cX8_countTape 9 = .ok (.istore_n 1, 1) := by decide +kernel
theorem dX8_countTape_10 : decode cX8_countTape 10 = .ok (.iconst 0, 1) := by decide +kernel
theorem dX8_countTape_11 : decode cX8_countTape 11 = .ok (.istore_n 2, 1) := by decide +kernel
theorem dX8_countTape_12 : decode cX8_countTape 12 = .ok (.iload_n 2, 1) := by decide +kernel
theorem dX8_countTape_13 : decode cX8_countTape 13 = .ok (.aload_n 0, 1) := by decide +kernel
theorem dX8_countTape_14 : decode cX8_countTape 14 = .ok (.getfield 12, 3) := by decide +kernel
theorem dX8_countTape_17 : decode cX8_countTape 17 = .ok (.getfield 70, 3) := by decide +kernel
theorem dX8_countTape_20 : decode cX8_countTape 20 = .ok (.if_icmp .ge 47, 3) := by decide +kernel
theorem dX8_countTape_23 : decode cX8_countTape 23 = .ok (.aload_n 0, 1) := by decide +kernel
theorem dX8_countTape_24 : decode cX8_countTape 24 = .ok (.getfield 12, 3) := by decide +kernel
theorem dX8_countTape_27 : decode cX8_countTape 27 = .ok (.iload_n 2, 1) := by decide +kernel
theorem dX8_countTape_28 : decode cX8_countTape 28 = .ok (.invokevirtual 174, 3) := by decide +kernel
theorem dX8_countTape_31 : decode cX8_countTape 31 = .ok (.istore_n 3, 1) := by decide +kernel
theorem dX8_countTape_32 : decode cX8_countTape 32 = .ok (.iload_n 3, 1) := by decide +kernel
theorem dX8_countTape_33 : decode cX8_countTape 33 = .ok (.invokestatic 110, 3) := by decide +kernel
theorem dX8_countTape_36 : decode cX8_countTape 36 = .ok (.ifCond .eq 25, 3) := by decide +kernel
theorem dX8_countTape_39 : decode cX8_countTape 39 = .ok (.aload_n 0, 1) := by decide +kernel
theorem dX8_countTape_40 : decode cX8_countTape 40 = .ok (.getfield 25, 3) := by decide +kernel
theorem dX8_countTape_43 : decode cX8_countTape 43 = .ok (.iload_n 3, 1) := by decide +kernel
theorem dX8_countTape_44 : decode cX8_countTape 44 = .ok (.iaload, 1) := by decide +kernel
theorem dX8_countTape_45 : decode cX8_countTape 45 = .ok (.ifCond .ne 6, 3) := by decide +kernel
theorem dX8_countTape_48 : decode cX8_countTape 48 = .ok (.iinc 1 1, 3) := by decide +kernel
theorem dX8_countTape_51 : decode cX8_countTape 51 = .ok (.aload_n 0, 1) := by decide +kernel
theorem dX8_countTape_52 : decode cX8_countTape 52 = .ok (.getfield 25, 3) := by decide +kernel
theorem dX8_countTape_55 : decode cX8_countTape 55 = .ok (.iload_n 3, 1) := by decide +kernel
theorem dX8_countTape_56 : decode cX8_countTape 56 = .ok (.dup2, 1) := by decide +kernel
theorem dX8_countTape_57 : decode cX8_countTape 57 = .ok (.iaload, 1) := by decide +kernel
theorem dX8_countTape_58 : decode cX8_countTape 58 = .ok (.iconst 1, 1) := by decide +kernel
theorem dX8_countTape_59 : decode cX8_countTape 59 = .ok (.iadd, 1) := by decide +kernel
theorem dX8_countTape_60 : decode cX8_countTape 60 = .ok (.iastore, 1) := by decide +kernel
theorem dX8_countTape_61 : decode cX8_countTape 61 = .ok (.iinc 2 1, 3) := by decide +kernel
theorem dX8_countTape_64 : decode cX8_countTape 64 = .ok (.goto (-52), 3) := by decide +kernel
theorem dX8_countTape_67 : decode cX8_countTape 67 = .ok (.iload_n 1, 1) := by decide +kernel
theorem dX8_countTape_68 : decode cX8_countTape 68 = .ok (.ireturn, 1) := by decide +kernel
theorem dX8_refusalOfTape_0 : decode cX8_refusalOfTape 0 = .ok (.aload_n 0, 1) := by decide +kernel
theorem dX8_refusalOfTape_1 : decode cX8_refusalOfTape 1 = .ok (.getfield 12, 3) := by decide +kernel
theorem dX8_refusalOfTape_4 : decode cX8_refusalOfTape 4 = .ok (.getfield 70, 3) := by decide +kernel
theorem dX8_refusalOfTape_7 : decode cX8_refusalOfTape 7 = .ok (.sipush 1400, 3) := by decide +kernel
theorem dX8_refusalOfTape_10 : decode cX8_refusalOfTape 10 = .ok (.if_icmp .le 6, 3) := by decide +kernel
theorem dX8_refusalOfTape_13 : decode cX8_refusalOfTape 13 = .ok (.bipush (-2), 2) := by decide +kernel
theorem dX8_refusalOfTape_15 : decode cX8_refusalOfTape 15 = .ok (.ireturn, 1) := by decide +kernel
theorem dX8_refusalOfTape_16 : decode cX8_refusalOfTape 16 = .ok (.iconst 0, 1) := by decide +kernel
theorem dX8_refusalOfTape_17 : decode cX8_refusalOfTape 17 = .ok (.istore_n 2, 1) := by decide +kernel
theorem dX8_refusalOfTape_18 : decode cX8_refusalOfTape 18 = .ok (.iload_n 2, 1) := by decide +kernel
theorem dX8_refusalOfTape_19 : decode cX8_refusalOfTape 19 = .ok (.aload_n 0, 1) := by decide +kernel
theorem dX8_refusalOfTape_20 : decode cX8_refusalOfTape 20 = .ok (.getfield 12, 3) := by decide +kernel
theorem dX8_refusalOfTape_23 : decode cX8_refusalOfTape 23 = .ok (.getfield 70, 3) := by decide +kernel
theorem dX8_refusalOfTape_26 : decode cX8_refusalOfTape 26 = .ok (.if_icmp .ge 27, 3) := by decide +kernel
theorem dX8_refusalOfTape_29 : decode cX8_refusalOfTape 29 = .ok (.aload_n 1, 1) := by decide +kernel
theorem dX8_refusalOfTape_30 : decode cX8_refusalOfTape 30 = .ok (.aload_n 0, 1) := by decide +kernel
theorem dX8_refusalOfTape_31 : decode cX8_refusalOfTape 31 = .ok (.getfield 12, 3) := by decide +kernel
theorem dX8_refusalOfTape_34 : decode cX8_refusalOfTape 34 = .ok (.iload_n 2, 1) := by decide +kernel
theorem dX8_refusalOfTape_35 : decode cX8_refusalOfTape 35 = .ok (.invokevirtual 174, 3) := by decide +kernel
theorem dX8_refusalOfTape_38 : decode cX8_refusalOfTape 38 = .ok (.invokevirtual 113, 3) := by decide +kernel
theorem dX8_refusalOfTape_41 : decode cX8_refusalOfTape 41 = .ok (.ifCond .ne 6, 3) := by decide +kernel
theorem dX8_refusalOfTape_44 : decode cX8_refusalOfTape 44 = .ok (.bipush (-3), 2) := by decide +kernel
theorem dX8_refusalOfTape_46 : decode cX8_refusalOfTape 46 = .ok (.ireturn, 1) := by decide +kernel
theorem dX8_refusalOfTape_47 : decode cX8_refusalOfTape 47 = .ok (.iinc 2 1, 3) := by decide +kernel
theorem dX8_refusalOfTape_50 : decode cX8_refusalOfTape 50 = .ok (.goto (-32), 3) := by decide +kernel
theorem dX8_refusalOfTape_53 : decode cX8_refusalOfTape 53 = .ok (.iconst 0, 1) := by decide +kernel
theorem dX8_refusalOfTape_54 : decode cX8_refusalOfTape 54 = .ok (.ireturn, 1) := by decide +kernel
theorem dX8_layForPlace_0 : decode cX8_layForPlace 0 = .ok (.aload_n 0, 1) := by decide +kernel
theorem dX8_layForPlace_1 : decode cX8_layForPlace 1 = .ok (.iload_n 1, 1) := by decide +kernel
theorem dX8_layForPlace_2 : decode cX8_layForPlace 2 = .ok (.invokevirtual 103, 3) := by decide +kernel
theorem dX8_layForPlace_5 : decode cX8_layForPlace 5 = .ok (.astore 4, 2) := by decide +kernel
theorem dX8_layForPlace_7 : decode cX8_layForPlace 7 = .ok (.aload 4, 2) := by decide +kernel
theorem dX8_layForPlace_9 : decode cX8_layForPlace 9 = .ok (.ifnull 23, 3) := by decide +kernel
theorem dX8_layForPlace_12 : decode cX8_layForPlace 12 = .ok (.iload_n 2, 1) := by decide +kernel
theorem dX8_layForPlace_13 : decode cX8_layForPlace 13 = .ok (.invokestatic 215, 3) := by decide +kernel
theorem dX8_layForPlace_16 : decode cX8_layForPlace 16 = .ok (.ifCond .eq 16, 3) := by decide +kernel
theorem dX8_layForPlace_19 : decode cX8_layForPlace 19 = .ok (.iload_n 3, 1) := by decide +kernel
theorem dX8_layForPlace_20 : decode cX8_layForPlace 20 = .ok (.ifCond .lt 12, 3) := by decide +kernel
theorem dX8_layForPlace_23 : decode cX8_layForPlace 23 = .ok (.iload_n 3, 1) := by decide +kernel
theorem dX8_layForPlace_24 : decode cX8_layForPlace 24 = .ok (.aload 4, 2) := by decide +kernel
theorem dX8_layForPlace_26 : decode cX8_layForPlace 26 = .ok (.invokevirtual 228, 3) := by decide +kernel
theorem dX8_layForPlace_29 : decode cX8_layForPlace 29 = .ok (.if_icmp .lt 5, 3) := by decide +kernel
theorem dX8_layForPlace_32 : decode cX8_layForPlace 32 = .ok (.iconst 0, 1) := by decide +kernel
theorem dX8_layForPlace_33 : decode cX8_layForPlace 33 = .ok (.ireturn, 1) := by decide +kernel
theorem dX8_layForPlace_34 : decode cX8_layForPlace 34 = .ok (.aload_n 0, 1) := by decide +kernel
theorem dX8_layForPlace_35 : decode cX8_layForPlace 35 = .ok (.getfield 40, 3) := by decide +kernel
theorem dX8_layForPlace_38 : decode cX8_layForPlace 38 = .ok (.getfield 92, 3) := by decide +kernel
theorem dX8_layForPlace_41 : decode cX8_layForPlace 41 = .ok (.aload 4, 2) := by decide +kernel
theorem dX8_layForPlace_43 : decode cX8_layForPlace 43 = .ok (.iload_n 2, 1) := by decide +kernel
theorem dX8_layForPlace_44 : decode cX8_layForPlace 44 = .ok (.invokevirtual 231, 3) := by decide +kernel
theorem dX8_layForPlace_47 : decode cX8_layForPlace 47 = .ok (.iconst 1, 1) := by decide +kernel
theorem dX8_layForPlace_48 : decode cX8_layForPlace 48 = .ok (.ireturn, 1) := by decide +kernel
theorem dX8_prepareForState_0 : decode cX8_prepareForState 0 = .ok (.aload_n 0, 1) := by decide +kernel
theorem dX8_prepareForState_1 : decode cX8_prepareForState 1 = .ok (.iload_n 1, 1) := by decide +kernel
theorem dX8_prepareForState_2 : decode cX8_prepareForState 2 = .ok (.invokevirtual 103, 3) := by decide +kernel
theorem dX8_prepareForState_5 : decode cX8_prepareForState 5 = .ok (.astore 5, 2) := by decide +kernel
theorem dX8_prepareForState_7 : decode cX8_prepareForState 7 = .ok (.aload 5, 2) := by decide +kernel
theorem dX8_prepareForState_9 : decode cX8_prepareForState 9 = .ok (.ifnull 11, 3) := by decide +kernel
theorem dX8_prepareForState_12 : decode cX8_prepareForState 12 = .ok (.iload_n 2, 1) := by decide +kernel
theorem dX8_prepareForState_13 : decode cX8_prepareForState 13 = .ok (.iload_n 3, 1) := by decide +kernel
theorem dX8_prepareForState_14 : decode cX8_prepareForState 14 = .ok (.invokestatic 130, 3) := by decide +kernel
theorem dX8_prepareForState_17 : decode cX8_prepareForState 17 = .ok (.ifCond .ne 5, 3) := by decide +kernel
theorem dX8_prepareForState_20 : decode cX8_prepareForState 20 = .ok (.iconst 0, 1) := by decide +kernel
theorem dX8_prepareForState_21 : decode cX8_prepareForState 21 = .ok (.ireturn, 1) := by decide +kernel
theorem dX8_prepareForState_22 : decode cX8_prepareForState 22 = .ok (.aload_n 0, 1) := by decide +kernel
theorem dX8_prepareForState_23 : decode cX8_prepareForState 23 = .ok (.getfield 40, 3) := by decide +kernel
theorem dX8_prepareForState_26 : decode cX8_prepareForState 26 = .ok (.aload 5, 2) := by decide +kernel
theorem dX8_prepareForState_28 : decode cX8_prepareForState 28 = .ok (.iload_n 2, 1) := by decide +kernel
theorem dX8_prepareForState_29 : decode cX8_prepareForState 29 = .ok (.iload_n 3, 1) := by decide +kernel
theorem dX8_prepareForState_30 : decode cX8_prepareForState 30 = .ok (.invokevirtual 138, 3) := by decide +kernel
theorem dX8_prepareForState_33 : decode cX8_prepareForState 33 = .ok (.aload_n 0, 1) := by decide +kernel
theorem dX8_prepareForState_34 : decode cX8_prepareForState 34 = .ok (.getfield 40, 3) := by decide +kernel
theorem dX8_prepareForState_37 : decode cX8_prepareForState 37 = .ok (.iload 4, 2) := by decide +kernel
theorem dX8_prepareForState_39 : decode cX8_prepareForState 39 = .ok (.invokevirtual 235, 3) := by decide +kernel
theorem dX8_prepareForState_42 : decode cX8_prepareForState 42 = .ok (.ireturn, 1) := by decide +kernel
theorem dX9_init_0 : decode cX9_init 0 = .ok (.aload_n 0, 1) := by decide +kernel
theorem dX9_init_1 : decode cX9_init 1 = .ok (.invokespecial 1, 3) := by decide +kernel
theorem dX9_init_4 : decode cX9_init 4 = .ok (.aload_n 0, 1) := by decide +kernel
theorem dX9_init_5 : decode cX9_init 5 = .ok (.sipush 4000, 3) := by decide +kernel
theorem dX9_init_8 : decode cX9_init 8 = .ok (.newarray .int, 2) := by decide +kernel
theorem dX9_init_10 : decode cX9_init 10 = .ok (.putfield 7, 3) := by decide +kernel
theorem dX9_init_13 : decode cX9_init 13 = .ok (.aload_n 0, 1) := by decide +kernel
theorem dX9_init_14 : decode cX9_init 14 = .ok (.sipush 4000, 3) := by decide +kernel
theorem dX9_init_17 : decode cX9_init 17 = .ok (.newarray .int, 2) := by decide +kernel
theorem dX9_init_19 : decode cX9_init 19 = .ok (.putfield 13, 3) := by decide +kernel
theorem dX9_init_22 : decode cX9_init 22 = .ok (.aload_n 0, 1) := by decide +kernel
theorem dX9_init_23 : decode cX9_init 23 = .ok (.bipush 7, 2) := by decide +kernel
theorem dX9_init_25 : decode cX9_init 25 = .ok (.newarray .int, 2) := by decide +kernel
theorem dX9_init_27 : decode cX9_init 27 = .ok (.putfield 16, 3) := by decide +kernel
theorem dX9_init_30 : decode cX9_init 30 = .ok (.aload_n 0, 1) := by decide +kernel
theorem dX9_init_31 : decode cX9_init 31 = .ok (.sipush 1792, 3) := by decide +kernel
theorem dX9_init_34 : decode cX9_init 34 = .ok (.newarray .int, 2) := by decide +kernel
theorem dX9_init_36 : decode cX9_init 36 = .ok (.putfield 19, 3) := by decide +kernel
theorem dX9_init_39 : decode cX9_init 39 = .ok (.aload_n 0, 1) := by decide +kernel
theorem dX9_init_40 : decode cX9_init 40 = .ok (.sipush 1792, 3) := by decide +kernel
theorem dX9_init_43 : decode cX9_init 43 = .ok (.newarray .int, 2) := by decide +kernel
theorem dX9_init_45 : decode cX9_init 45 = .ok (.putfield 22, 3) := by decide +kernel
theorem dX9_init_48 : decode cX9_init 48 = .ok (.aload_n 0, 1) := by decide +kernel
theorem dX9_init_49 : decode cX9_init 49 = .ok (.bipush 21, 2) := by decide +kernel
theorem dX9_init_51 : decode cX9_init 51 = .ok (.newarray .boolean, 2) := by decide +kernel
theorem dX9_init_53 : decode cX9_init 53 = .ok (.putfield 25, 3) := by decide +kernel
theorem dX9_init_56 : decode cX9_init 56 = .ok (.aload_n 0, 1) := by decide +kernel
theorem dX9_init_57 : decode cX9_init 57 = .ok (.ldc 29, 2) := by decide +kernel
theorem dX9_init_59 : decode cX9_init 59 = .ok (.newarray .int, 2) := by decide +kernel
theorem dX9_init_61 : decode cX9_init 61 = .ok (.putfield 30, 3) := by decide +kernel
theorem dX9_init_64 : decode cX9_init 64 = .ok (.aload_n 0, 1) := by decide +kernel
theorem dX9_init_65 : decode cX9_init 65 = .ok (.ldc 29, 2) := by decide +kernel
theorem dX9_init_67 : decode cX9_init 67 = .ok (.newarray .int, 2) := by decide +kernel
theorem dX9_init_69 : decode cX9_init 69 = .ok (.putfield 33, 3) := by decide +kernel
theorem dX9_init_72 : decode cX9_init 72 = .ok (.aload_n 0, 1) := by decide +kernel
theorem dX9_init_73 : decode cX9_init 73 = .ok (.ldc 29, 2) := by decide +kernel
theorem dX9_init_75 : decode cX9_init 75 = .ok (.newarray .int, 2) := by decide +kernel
theorem dX9_init_77 : decode cX9_init 77 = .ok (.putfield 36, 3) := by decide +kernel
theorem dX9_init_80 : decode cX9_init 80 = .ok (.aload_n 0, 1) := by decide +kernel
theorem dX9_init_81 : decode cX9_init 81 = .ok (.sipush 256, 3) := by decide +kernel
theorem dX9_init_84 : decode cX9_init 84 = .ok (.newarray .int, 2) := by decide +kernel
theorem dX9_init_86 : decode cX9_init 86 = .ok (.putfield 39, 3) := by decide +kernel
theorem dX9_init_89 : decode cX9_init 89 = .ok (.aload_n 0, 1) := by decide +kernel
theorem dX9_init_90 : decode cX9_init 90 = .ok (.sipush 256, 3) := by decide +kernel
theorem dX9_init_93 : decode cX9_init 93 = .ok (.newarray .int, 2) := by decide +kernel
theorem dX9_init_95 : decode cX9_init 95 = .ok (.putfield 42, 3) := by decide +kernel
theorem dX9_init_98 : decode cX9_init 98 = .ok (.aload_n 0, 1) := by decide +kernel
theorem dX9_init_99 : decode cX9_init 99 = .ok (.sipush 256, 3) := by decide +kernel
theorem dX9_init_102 : decode cX9_init 102 = .ok (.newarray .int, 2) := by decide +kernel
theorem dX9_init_104 : decode cX9_init 104 = .ok (.putfield 45, 3) := by decide +kernel
theorem dX9_init_107 : decode cX9_init 107 = .ok (.aload_n 0, 1) := by decide +kernel
theorem dX9_init_108 : decode cX9_init 108 = .ok (.bipush 6, 2) := by decide +kernel
theorem dX9_init_110 : decode cX9_init 110 = .ok (.newarray .int, 2) := by decide +kernel
theorem dX9_init_112 : decode cX9_init 112 = .ok (.putfield 48, 3) := by decide +kernel
theorem dX9_init_115 : decode cX9_init 115 = .ok (.aload_n 0, 1) := by decide +kernel
theorem dX9_init_116 : decode cX9_init 116 = .ok (.iconst (-1), 1) := by decide +kernel
theorem dX9_init_117 : decode cX9_init 117 = .ok (.putfield 51, 3) := by decide +kernel
theorem dX9_init_120 : decode cX9_init 120 = .ok (.aload_n 0, 1) := by decide +kernel
theorem dX9_init_121 : decode cX9_init 121 = .ok (.sipush 17000, 3) := by decide +kernel
theorem dX9_init_124 : decode cX9_init 124 = .ok (.newarray .int, 2) := by decide +kernel
theorem dX9_init_126 : decode cX9_init 126 = .ok (.putfield 55, 3) := by decide +kernel
theorem dX9_init_129 : decode cX9_init 129 = .ok (.aload_n 0, 1) := by decide +kernel
theorem dX9_init_130 : decode cX9_init 130 = .ok (.iconst 2, 1) := by decide +kernel
theorem dX9_init_131 : decode cX9_init 131 = .ok (.newarray .int, 2) := by decide +kernel
theorem dX9_init_133 : decode cX9_init 133 = .ok (.putfield 58, 3) := by decide +kernel
theorem dX9_init_136 : decode cX9_init 136 = .ok (.aload_n 0, 1) := by decide +kernel
theorem dX9_init_137 : decode cX9_init 137 = .ok (.bipush 6, 2) := by decide +kernel
theorem dX9_init_139 : decode cX9_init 139 = .ok (.newarray .int, 2) := by decide +kernel
theorem dX9_init_141 : decode cX9_init 141 = .ok (.putfield 61, 3) := by decide +kernel
theorem dX9_init_144 : decode cX9_init 144 = .ok (.aload_n 0, 1) := by decide +kernel
theorem dX9_init_145 : decode cX9_init 145 = .ok (.sipush 1060, 3) := by decide +kernel
theorem dX9_init_148 : decode cX9_init 148 = .ok (.newarray .int, 2) := by decide +kernel
theorem dX9_init_150 : decode cX9_init 150 = .ok (.putfield 64, 3) := by decide +kernel
theorem dX9_init_153 : decode cX9_init 153 = .ok (.aload_n 0, 1) := by decide +kernel
theorem dX9_init_154 : decode cX9_init 154 = .ok (.sipush 1400, 3) := by decide +kernel
theorem dX9_init_157 : decode cX9_init 157 = .ok (.newarray .int, 2) := by decide +kernel
theorem dX9_init_159 : decode cX9_init 159 = .ok (.putfield 67, 3) := by decide +kernel
theorem dX9_init_162 : decode cX9_init 162 = .ok (.return_, 1) := by decide +kernel
theorem dX9_feed_0 : decode cX9_feed 0 = .ok (.aload_n 0, 1) := by decide +kernel
theorem dX9_feed_1 : decode cX9_feed 1 = .ok (.getfield 70, 3) := by decide +kernel
theorem dX9_feed_4 : decode cX9_feed 4 = .ok (.bipush 20, 2) := by decide +kernel
theorem dX9_feed_6 : decode cX9_feed 6 = .ok (.iadd, 1) := by decide +kernel
theorem dX9_feed_7 : decode cX9_feed 7 = .ok (.sipush 4000, 3) := by decide +kernel
theorem dX9_feed_10 : decode cX9_feed 10 = .ok (.if_icmp .le 5, 3) := by decide +kernel
theorem dX9_feed_13 : decode cX9_feed 13 = .ok (.iconst (-1), 1) := by decide +kernel
theorem dX9_feed_14 : decode cX9_feed 14 = .ok (.ireturn, 1) := by decide +kernel
theorem dX9_feed_15 : decode cX9_feed 15 = .ok (.iconst 0, 1) := by decide +kernel
theorem dX9_feed_16 : decode cX9_feed 16 = .ok (.istore 6, 2) := by decide +kernel
theorem dX9_feed_18 : decode cX9_feed 18 = .ok (.iload 6, 2) := by decide +kernel
theorem dX9_feed_20 : decode cX9_feed 20 = .ok (.bipush 20, 2) := by decide +kernel
theorem dX9_feed_22 : decode cX9_feed 22 = .ok (.if_icmp .ge 86, 3) := by decide +kernel
theorem dX9_feed_25 : decode cX9_feed 25 = .ok (.iload 6, 2) := by decide +kernel
theorem dX9_feed_27 : decode cX9_feed 27 = .ok (.iconst 4, 1) := by decide +kernel
theorem dX9_feed_28 : decode cX9_feed 28 = .ok (.if_icmp .ge 7, 3) := by decide +kernel
theorem dX9_feed_31 : decode cX9_feed 31 = .ok (.iload_n 1, 1) := by decide +kernel
theorem dX9_feed_32 : decode cX9_feed 32 = .ok (.goto 39, 3) := by decide +kernel
theorem dX9_feed_35 : decode cX9_feed 35 = .ok (.iload 6, 2) := by decide +kernel
theorem dX9_feed_37 : decode cX9_feed 37 = .ok (.bipush 8, 2) := by decide +kernel
theorem dX9_feed_39 : decode cX9_feed 39 = .ok (.if_icmp .ge 7, 3) := by decide +kernel
theorem dX9_feed_42 : decode cX9_feed 42 = .ok (.iload_n 2, 1) := by decide +kernel
theorem dX9_feed_43 : decode cX9_feed 43 = .ok (.goto 28, 3) := by decide +kernel
theorem dX9_feed_46 : decode cX9_feed 46 = .ok (.iload 6, 2) := by decide +kernel
theorem dX9_feed_48 : decode cX9_feed 48 = .ok (.bipush 12, 2) := by decide +kernel
theorem dX9_feed_50 : decode cX9_feed 50 = .ok (.if_icmp .ge 7, 3) := by decide +kernel
theorem dX9_feed_53 : decode cX9_feed 53 = .ok (.iload_n 3, 1) := by decide +kernel
theorem dX9_feed_54 : decode cX9_feed 54 = .ok (.goto 17, 3) := by decide +kernel
theorem dX9_feed_57 : decode cX9_feed 57 = .ok (.iload 6, 2) := by decide +kernel
theorem dX9_feed_59 : decode cX9_feed 59 = .ok (.bipush 16, 2) := by decide +kernel
theorem dX9_feed_61 : decode cX9_feed 61 = .ok (.if_icmp .ge 8, 3) := by decide +kernel
theorem dX9_feed_64 : decode cX9_feed 64 = .ok (.iload 4, 2) := by decide +kernel
theorem dX9_feed_66 : decode cX9_feed 66 = .ok (.goto 5, 3) := by decide +kernel
theorem dX9_feed_69 : decode cX9_feed 69 = .ok (.iload 5, 2) := by decide +kernel
theorem dX9_feed_71 : decode cX9_feed 71 = .ok (.istore 7, 2) := by decide +kernel
theorem dX9_feed_73 : decode cX9_feed 73 = .ok (.aload_n 0, 1) := by decide +kernel
theorem dX9_feed_74 : decode cX9_feed 74 = .ok (.getfield 7, 3) := by decide +kernel
theorem dX9_feed_77 : decode cX9_feed 77 = .ok (.aload_n 0, 1) := by decide +kernel
theorem dX9_feed_78 : decode cX9_feed 78 = .ok (.getfield 70, 3) := by decide +kernel
theorem dX9_feed_81 : decode cX9_feed 81 = .ok (.iload 6, 2) := by decide +kernel
theorem dX9_feed_83 : decode cX9_feed 83 = .ok (.iadd, 1) := by decide +kernel
theorem dX9_feed_84 : decode cX9_feed 84 = .ok (.iload 7, 2) := by decide +kernel
theorem dX9_feed_86 : decode cX9_feed 86 = .ok (.bipush 24, 2) := by decide +kernel
theorem dX9_feed_88 : decode cX9_feed 88 = .ok (.bipush 8, 2) := by decide +kernel
theorem dX9_feed_90 : decode cX9_feed 90 = .ok (.iload 6, 2) := by decide +kernel
theorem dX9_feed_92 : decode cX9_feed 92 = .ok (.iconst 4, 1) := by decide +kernel
theorem dX9_feed_93 : decode cX9_feed 93 = .ok (.irem, 1) := by decide +kernel
theorem dX9_feed_94 : decode cX9_feed 94 = .ok (.imul, 1) := by decide +kernel
theorem dX9_feed_95 : decode cX9_feed 95 = .ok (.isub, 1) := by decide +kernel
theorem dX9_feed_96 : decode cX9_feed 96 = .ok (.ishr, 1) := by decide +kernel
theorem dX9_feed_97 : decode cX9_feed 97 = .ok (.sipush 255, 3) := by decide +kernel
theorem dX9_feed_100 : decode cX9_feed 100 = .ok (.iand, 1) := by decide +kernel
theorem dX9_feed_101 : decode cX9_feed 101 = .ok (.iastore, 1) := by decide +kernel
theorem dX9_feed_102 : decode cX9_feed 102 = .ok (.iinc 6 1, 3) := by decide +kernel
theorem dX9_feed_105 : decode cX9_feed 105 = .ok (.goto (-87), 3) := by decide +kernel
theorem dX9_feed_108 : decode cX9_feed 108 = .ok (.aload_n 0, 1) := by decide +kernel
theorem dX9_feed_109 : decode cX9_feed 109 = .ok (.dup, 1) := by decide +kernel
theorem dX9_feed_110 : decode cX9_feed 110 = .ok (.getfield 70, 3) := by decide +kernel
theorem dX9_feed_113 : decode cX9_feed 113 = .ok (.bipush 20, 2) := by decide +kernel
theorem dX9_feed_115 : decode cX9_feed 115 = .ok (.iadd, 1) := by decide +kernel
theorem dX9_feed_116 : decode cX9_feed 116 = .ok (.putfield 70, 3) := by decide +kernel
theorem dX9_feed_119 : decode cX9_feed 119 = .ok (.aload_n 0, 1) := by decide +kernel
theorem dX9_feed_120 : decode cX9_feed 120 = .ok (.getfield 70, 3) := by decide +kernel
theorem dX9_feed_123 : decode cX9_feed 123 = .ok (.ireturn, 1) := by decide +kernel
theorem dX9_end_0 : decode cX9_end 0 = .ok (.iload_n 1, 1) := by decide +kernel
theorem dX9_end_1 : decode cX9_end 1 = .ok (.ifCond .lt 11, 3) := by decide +kernel
theorem dX9_end_4 : decode cX9_end 4 = .ok (.iload_n 1, 1) := by decide +kernel
theorem dX9_end_5 : decode cX9_end 5 = .ok (.aload_n 0, 1) := by decide +kernel
theorem dX9_end_6 : decode cX9_end 6 = .ok (.getfield 70, 3) := by decide +kernel
theorem dX9_end_9 : decode cX9_end 9 = .ok (.if_icmp .le 5, 3) := by decide +kernel
theorem dX9_end_12 : decode cX9_end 12 = .ok (.iconst (-1), 1) := by decide +kernel
theorem dX9_end_13 : decode cX9_end 13 = .ok (.ireturn, 1) := by decide +kernel
theorem dX9_end_14 : decode cX9_end 14 = .ok (.aload_n 0, 1) := by decide +kernel
theorem dX9_end_15 : decode cX9_end 15 = .ok (.iload_n 1, 1) := by decide +kernel
theorem dX9_end_16 : decode cX9_end 16 = .ok (.putfield 70, 3) := by decide +kernel
theorem dX9_end_19 : decode cX9_end 19 = .ok (.iload_n 1, 1) := by decide +kernel
theorem dX9_end_20 : decode cX9_end 20 = .ok (.ireturn, 1) := by decide +kernel
theorem dX9_take_0 : decode cX9_take 0 = .ok (.iconst 0, 1) := by decide +kernel
theorem dX9_take_1 : decode cX9_take 1 = .ok (.istore_n 1, 1) := by decide +kernel
theorem dX9_take_2 : decode cX9_take 2 = .ok (.iload_n 1, 1) := by decide +kernel
theorem dX9_take_3 : decode cX9_take 3 = .ok (.aload_n 0, 1) := by decide +kernel
theorem dX9_take_4 : decode cX9_take 4 = .ok (.getfield 73, 3) := by decide +kernel
theorem dX9_take_7 : decode cX9_take 7 = .ok (.if_icmp .ge 21, 3) := by decide +kernel
theorem dX9_take_10 : decode cX9_take 10 = .ok (.aload_n 0, 1) := by decide +kernel
theorem dX9_take_11 : decode cX9_take 11 = .ok (.getfield 7, 3) := by decide +kernel
theorem dX9_take_14 : decode cX9_take 14 = .ok (.iload_n 1, 1) := by decide +kernel
theorem dX9_take_15 : decode cX9_take 15 = .ok (.aload_n 0, 1) := by decide +kernel
theorem dX9_take_16 : decode cX9_take 16 = .ok (.getfield 13, 3) := by decide +kernel
theorem dX9_take_19 : decode cX9_take 19 = .ok (.iload_n 1, 1) := by decide +kernel
theorem dX9_take_20 : decode cX9_take 20 = .ok (.iaload, 1) := by decide +kernel
theorem dX9_take_21 : decode cX9_take 21 = .ok (.iastore, 1) := by decide +kernel
theorem dX9_take_22 : decode cX9_take 22 = .ok (.iinc 1 1, 3) := by decide +kernel
theorem dX9_take_25 : decode cX9_take 25 = .ok (.goto (-23), 3) := by decide +kernel
theorem dX9_take_28 : decode cX9_take 28 = .ok (.aload_n 0, 1) := by decide +kernel
theorem dX9_take_29 : decode cX9_take 29 = .ok (.aload_n 0, 1) := by decide +kernel
theorem dX9_take_30 : decode cX9_take 30 = .ok (.getfield 73, 3) := by decide +kernel
theorem dX9_take_33 : decode cX9_take 33 = .ok (.putfield 70, 3) := by decide +kernel
theorem dX9_take_36 : decode cX9_take 36 = .ok (.aload_n 0, 1) := by decide +kernel
theorem dX9_take_37 : decode cX9_take 37 = .ok (.getfield 70, 3) := by decide +kernel
theorem dX9_take_40 : decode cX9_take 40 = .ok (.ireturn, 1) := by decide +kernel
theorem dX9_written_0 : decode cX9_written 0 = .ok (.iload_n 1, 1) := by decide +kernel
theorem dX9_written_1 : decode cX9_written 1 = .ok (.ifCond .lt 11, 3) := by decide +kernel
theorem dX9_written_4 : decode cX9_written 4 = .ok (.iload_n 1, 1) := by decide +kernel
theorem dX9_written_5 : decode cX9_written 5 = .ok (.aload_n 0, 1) := by decide +kernel
theorem dX9_written_6 : decode cX9_written 6 = .ok (.getfield 73, 3) := by decide +kernel
theorem dX9_written_9 : decode cX9_written 9 = .ok (.if_icmp .lt 7, 3) := by decide +kernel
theorem dX9_written_12 : decode cX9_written 12 = .ok (.iconst (-1), 1) := by decide +kernel
theorem dX9_written_13 : decode cX9_written 13 = .ok (.goto 9, 3) := by decide +kernel
theorem dX9_written_16 : decode cX9_written 16 = .ok (.aload_n 0, 1) := by decide +kernel
theorem dX9_written_17 : decode cX9_written 17 = .ok (.getfield 13, 3) := by decide +kernel
theorem dX9_written_20 : decode cX9_written 20 = .ok (.iload_n 1, 1) := by decide +kernel
theorem dX9_written_21 : decode cX9_written 21 = .ok (.iaload, 1) := by decide +kernel
theorem dX9_written_22 : decode cX9_written 22 = .ok (.ireturn, 1) := by decide +kernel
theorem dX9_isTable_0 : decode cX9_isTable 0 = .ok (.iload_n 1, 1) := by decide +kernel
theorem dX9_isTable_1 : decode cX9_isTable 1 = .ok (.ifCond .lt 22, 3) := by decide +kernel
theorem dX9_isTable_4 : decode cX9_isTable 4 = .ok (.iload_n 1, 1) := by decide +kernel
theorem dX9_isTable_5 : decode cX9_isTable 5 = .ok (.bipush 6, 2) := by decide +kernel
theorem dX9_isTable_7 : decode cX9_isTable 7 = .ok (.if_icmp .ge 16, 3) := by decide +kernel
theorem dX9_isTable_10 : decode cX9_isTable 10 = .ok (.aload_n 0, 1) := by decide +kernel
theorem dX9_isTable_11 : decode cX9_isTable 11 = .ok (.getfield 16, 3) := by decide +kernel
theorem dX9_isTable_14 : decode cX9_isTable 14 = .ok (.iload_n 1, 1) := by decide +kernel
theorem dX9_isTable_15 : decode cX9_isTable 15 = .ok (.iaload, 1) := by decide +kernel
theorem dX9_isTable_16 : decode cX9_isTable 16 = .ok (.ifCond .le 7, 3) := by decide +kernel
theorem dX9_isTable_19 : decode cX9_isTable 19 = .ok (.iconst 1, 1) := by decide +kernel
theorem dX9_isTable_20 : decode cX9_isTable 20 = .ok (.goto 4, 3) := by decide +kernel
theorem dX9_isTable_23 : decode cX9_isTable 23 = .ok (.iconst 0, 1) := by decide +kernel
theorem dX9_isTable_24 : decode cX9_isTable 24 = .ok (.ireturn, 1) := by decide +kernel
theorem dX9_lack_0 : decode cX9_lack 0 = .ok (.aload_n 0, 1) := by decide +kernel
theorem dX9_lack_1 : decode cX9_lack 1 = .ok (.getfield 39, 3) := by decide +kernel
theorem dX9_lack_4 : decode cX9_lack 4 = .ok (.iload_n 2, 1) := by decide +kernel
theorem dX9_lack_5 : decode cX9_lack 5 = .ok (.iaload, 1) := by decide +kernel
theorem dX9_lack_6 : decode cX9_lack 6 = .ok (.aload_n 0, 1) := by decide +kernel
theorem dX9_lack_7 : decode cX9_lack 7 = .ok (.getfield 16, 3) := by decide +kernel
theorem dX9_lack_10 : decode cX9_lack 10 = .ok (.iload_n 1, 1) := by decide +kernel
theorem dX9_lack_11 : decode cX9_lack 11 = .ok (.iaload, 1) := by decide +kernel
theorem dX9_lack_12 : decode cX9_lack 12 = .ok (.ishl, 1) := by decide +kernel
theorem dX9_lack_13 : decode cX9_lack 13 = .ok (.aload_n 0, 1) := by decide +kernel
theorem dX9_lack_14 : decode cX9_lack 14 = .ok (.getfield 19, 3) := by decide +kernel
theorem dX9_lack_17 : decode cX9_lack 17 = .ok (.sipush 256, 3) := by decide +kernel
theorem dX9_lack_20 : decode cX9_lack 20 = .ok (.iload_n 1, 1) := by decide +kernel
theorem dX9_lack_21 : decode cX9_lack 21 = .ok (.imul, 1) := by decide +kernel
theorem dX9_lack_22 : decode cX9_lack 22 = .ok (.iload_n 2, 1) := by decide +kernel
theorem dX9_lack_23 : decode cX9_lack 23 = .ok (.iadd, 1) := by decide +kernel
theorem dX9_lack_24 : decode cX9_lack 24 = .ok (.iaload, 1) := by decide +kernel
theorem dX9_lack_25 : decode cX9_lack 25 = .ok (.iload_n 3, 1) := by decide +kernel
theorem dX9_lack_26 : decode cX9_lack 26 = .ok (.imul, 1) := by decide +kernel
theorem dX9_lack_27 : decode cX9_lack 27 = .ok (.isub, 1) := by decide +kernel
theorem dX9_lack_28 : decode cX9_lack 28 = .ok (.ireturn, 1) := by decide +kernel
theorem dX9_learn_0 : decode cX9_learn 0 = .ok (.iload_n 1, 1) := by decide +kernel
theorem dX9_learn_1 : decode cX9_learn 1 = .ok (.ifCond .lt 19, 3) := by decide +kernel
theorem dX9_learn_4 : decode cX9_learn 4 = .ok (.iload_n 1, 1) := by decide +kernel
theorem dX9_learn_5 : decode cX9_learn 5 = .ok (.iconst 5, 1) := by decide +kernel
theorem dX9_learn_6 : decode cX9_learn 6 = .ok (.if_icmp .gt 14, 3) := by decide +kernel
theorem dX9_learn_9 : decode cX9_learn 9 = .ok (.iload_n 2, 1) := by decide +kernel
theorem dX9_learn_10 : decode cX9_learn 10 = .ok (.iconst 1, 1) := by decide +kernel
theorem dX9_learn_11 : decode cX9_learn 11 = .ok (.if_icmp .lt 9, 3) := by decide +kernel
theorem dX9_learn_14 : decode cX9_learn 14 = .ok (.iload_n 2, 1) := by decide +kernel
theorem dX9_learn_15 : decode cX9_learn 15 = .ok (.bipush 12, 2) := by decide +kernel
theorem dX9_learn_17 : decode cX9_learn 17 = .ok (.if_icmp .le 5, 3) := by decide +kernel
theorem dX9_learn_20 : decode cX9_learn 20 = .ok (.iconst (-1), 1) := by decide +kernel
theorem dX9_learn_21 : decode cX9_learn 21 = .ok (.ireturn, 1) := by decide +kernel
theorem dX9_learn_22 : decode cX9_learn 22 = .ok (.aload_n 0, 1) := by decide +kernel
theorem dX9_learn_23 : decode cX9_learn 23 = .ok (.getfield 70, 3) := by decide +kernel
theorem dX9_learn_26 : decode cX9_learn 26 = .ok (.ifCond .ne 6, 3) := by decide +kernel
theorem dX9_learn_29 : decode cX9_learn 29 = .ok (.bipush (-2), 2) := by decide +kernel
theorem dX9_learn_31 : decode cX9_learn 31 = .ok (.ireturn, 1) := by decide +kernel
theorem dX9_learn_32 : decode cX9_learn 32 = .ok (.iconst 0, 1) := by decide +kernel
theorem dX9_learn_33 : decode cX9_learn 33 = .ok (.istore_n 3, 1) := by decide +kernel
theorem dX9_learn_34 : decode cX9_learn 34 = .ok (.iload_n 3, 1) := by decide +kernel
theorem dX9_learn_35 : decode cX9_learn 35 = .ok (.sipush 256, 3) := by decide +kernel
theorem dX9_learn_38 : decode cX9_learn 38 = .ok (.if_icmp .ge 16, 3) := by decide +kernel
theorem dX9_learn_41 : decode cX9_learn 41 = .ok (.aload_n 0, 1) := by decide +kernel
theorem dX9_learn_42 : decode cX9_learn 42 = .ok (.getfield 39, 3) := by decide +kernel
theorem dX9_learn_45 : decode cX9_learn 45 = .ok (.iload_n 3, 1) := by decide +kernel
theorem dX9_learn_46 : decode cX9_learn 46 = .ok (.iconst 0, 1) := by decide +kernel
theorem dX9_learn_47 : decode cX9_learn 47 = .ok (.iastore, 1) := by decide +kernel
theorem dX9_learn_48 : decode cX9_learn 48 = .ok (.iinc 3 1, 3) := by decide +kernel
theorem dX9_learn_51 : decode cX9_learn 51 = .ok (.goto (-17), 3) := by decide +kernel
theorem dX9_learn_54 : decode cX9_learn 54 = .ok (.iconst 0, 1) := by decide +kernel
theorem dX9_learn_55 : decode cX9_learn 55 = .ok (.istore_n 3, 1) := by decide +kernel
theorem dX9_learn_56 : decode cX9_learn 56 = .ok (.iload_n 3, 1) := by decide +kernel
theorem dX9_learn_57 : decode cX9_learn 57 = .ok (.aload_n 0, 1) := by decide +kernel
theorem dX9_learn_58 : decode cX9_learn 58 = .ok (.getfield 70, 3) := by decide +kernel
theorem dX9_learn_61 : decode cX9_learn 61 = .ok (.if_icmp .ge 24, 3) := by decide +kernel
theorem dX9_learn_64 : decode cX9_learn 64 = .ok (.aload_n 0, 1) := by decide +kernel
theorem dX9_learn_65 : decode cX9_learn 65 = .ok (.getfield 39, 3) := by decide +kernel
theorem dX9_learn_68 : decode cX9_learn 68 = .ok (.aload_n 0, 1) := by decide +kernel
theorem dX9_learn_69 : decode cX9_learn 69 = .ok (.getfield 7, 3) := by decide +kernel
theorem dX9_learn_72 : decode cX9_learn 72 = .ok (.iload_n 3, 1) := by decide +kernel
theorem dX9_learn_73 : decode cX9_learn 73 = .ok (.iaload, 1) := by decide +kernel
theorem dX9_learn_74 : decode cX9_learn 74 = .ok (.dup2, 1) := by decide +kernel
theorem dX9_learn_75 : decode cX9_learn 75 = .ok (.iaload, 1) := by decide +kernel
theorem dX9_learn_76 : decode cX9_learn 76 = .ok (.iconst 1, 1) := by decide +kernel
theorem dX9_learn_77 : decode cX9_learn 77 = .ok (.iadd, 1) := by decide +kernel
theorem dX9_learn_78 : decode cX9_learn 78 = .ok (.iastore, 1) := by decide +kernel
theorem dX9_learn_79 : decode cX9_learn 79 = .ok (.iinc 3 1, 3) := by decide +kernel
theorem dX9_learn_82 : decode cX9_learn 82 = .ok (.goto (-26), 3) := by decide +kernel
theorem dX9_learn_85 : decode cX9_learn 85 = .ok (.iconst 0, 1) := by decide +kernel
theorem dX9_learn_86 : decode cX9_learn 86 = .ok (.istore_n 3, 1) := by decide +kernel
theorem dX9_learn_87 : decode cX9_learn 87 = .ok (.iconst 0, 1) := by decide +kernel
theorem dX9_learn_88 : decode cX9_learn 88 = .ok (.istore 4, 2) := by decide +kernel
theorem dX9_learn_90 : decode cX9_learn 90 = .ok (.iload 4, 2) := by decide +kernel
theorem dX9_learn_92 : decode cX9_learn 92 = .ok (.sipush 256, 3) := by decide +kernel
theorem dX9_learn_95 : decode cX9_learn 95 = .ok (.if_icmp .ge 27, 3) := by decide +kernel
theorem dX9_learn_98 : decode cX9_learn 98 = .ok (.iload_n 3, 1) := by decide +kernel
theorem dX9_learn_99 : decode cX9_learn 99 = .ok (.aload_n 0, 1) := by decide +kernel
theorem dX9_learn_100 : decode cX9_learn 100 = .ok (.getfield 39, 3) := by decide +kernel
theorem dX9_learn_103 : decode cX9_learn 103 = .ok (.iload 4, 2) := by decide +kernel
theorem dX9_learn_105 : decode cX9_learn 105 = .ok (.iaload, 1) := by decide +kernel
theorem dX9_learn_106 : decode cX9_learn 106 = .ok (.ifCond .le 7, 3) := by decide +kernel
theorem dX9_learn_109 : decode cX9_learn 109 = .ok (.iconst 1, 1) := by decide +kernel
theorem dX9_learn_110 : decode cX9_learn 110 = .ok (.goto 4, 3) := by decide +kernel
theorem dX9_learn_113 : decode cX9_learn 113 = .ok (.iconst 0, 1) := by decide +kernel
theorem dX9_learn_114 : decode cX9_learn 114 = .ok (.iadd, 1) := by decide +kernel
theorem dX9_learn_115 : decode cX9_learn 115 = .ok (.istore_n 3, 1) := by decide +kernel
theorem dX9_learn_116 : decode cX9_learn 116 = .ok (.iinc 4 1, 3) := by decide +kernel
theorem dX9_learn_119 : decode cX9_learn 119 = .ok (.goto (-29), 3) := by decide +kernel
theorem dX9_learn_122 : decode cX9_learn 122 = .ok (.iconst 1, 1) := by decide +kernel
theorem dX9_learn_123 : decode cX9_learn 123 = .ok (.iload_n 2, 1) := by decide +kernel
theorem dX9_learn_124 : decode cX9_learn 124 = .ok (.ishl, 1) := by decide +kernel
theorem dX9_learn_125 : decode cX9_learn 125 = .ok (.istore 4, 2) := by decide +kernel
theorem dX9_learn_127 : decode cX9_learn 127 = .ok (.iload_n 3, 1) := by decide +kernel
theorem dX9_learn_128 : decode cX9_learn 128 = .ok (.iload 4, 2) := by decide +kernel
theorem dX9_learn_130 : decode cX9_learn 130 = .ok (.if_icmp .le 6, 3) := by decide +kernel
theorem dX9_learn_133 : decode cX9_learn 133 = .ok (.bipush (-3), 2) := by decide +kernel
theorem dX9_learn_135 : decode cX9_learn 135 = .ok (.ireturn, 1) := by decide +kernel
theorem dX9_learn_136 : decode cX9_learn 136 = .ok (.aload_n 0, 1) := by decide +kernel
theorem dX9_learn_137 : decode cX9_learn 137 = .ok (.getfield 16, 3) := by decide +kernel
theorem dX9_learn_140 : decode cX9_learn 140 = .ok (.iload_n 1, 1) := by decide +kernel
theorem dX9_learn_141 : decode cX9_learn 141 = .ok (.iload_n 2, 1) := by decide +kernel
theorem dX9_learn_142 : decode cX9_learn 142 = .ok (.iastore, 1) := by decide +kernel
theorem dX9_learn_143 : decode cX9_learn 143 = .ok (.iconst 0, 1) := by decide +kernel
theorem dX9_learn_144 : decode cX9_learn 144 = .ok (.istore 5, 2) := by decide +kernel
theorem dX9_learn_146 : decode cX9_learn 146 = .ok (.iconst 0, 1) := by decide +kernel
theorem dX9_learn_147 : decode cX9_learn 147 = .ok (.istore 6, 2) := by decide +kernel
theorem dX9_learn_149 : decode cX9_learn 149 = .ok (.iload 6, 2) := by decide +kernel
theorem dX9_learn_151 : decode cX9_learn 151 = .ok (.sipush 256, 3) := by decide +kernel
theorem dX9_learn_154 : decode cX9_learn 154 = .ok (.if_icmp .ge 66, 3) := by decide +kernel
theorem dX9_learn_157 : decode cX9_learn 157 = .ok (.aload_n 0, 1) := by decide +kernel
theorem dX9_learn_158 : decode cX9_learn 158 = .ok (.getfield 39, 3) := by decide +kernel
theorem dX9_learn_161 : decode cX9_learn 161 = .ok (.iload 6, 2) := by decide +kernel
theorem dX9_learn_163 : decode cX9_learn 163 = .ok (.iaload, 1) := by decide +kernel
theorem dX9_learn_164 : decode cX9_learn 164 = .ok (.iload 4, 2) := by decide +kernel
theorem dX9_learn_166 : decode cX9_learn 166 = .ok (.imul, 1) := by decide +kernel
theorem dX9_learn_167 : decode cX9_learn 167 = .ok (.aload_n 0, 1) := by decide +kernel
theorem dX9_learn_168 : decode cX9_learn 168 = .ok (.getfield 70, 3) := by decide +kernel
theorem dX9_learn_171 : decode cX9_learn 171 = .ok (.idiv, 1) := by decide +kernel
theorem dX9_learn_172 : decode cX9_learn 172 = .ok (.istore 7, 2) := by decide +kernel
theorem dX9_learn_174 : decode cX9_learn 174 = .ok (.aload_n 0, 1) := by decide +kernel
theorem dX9_learn_175 : decode cX9_learn 175 = .ok (.getfield 39, 3) := by decide +kernel
theorem dX9_learn_178 : decode cX9_learn 178 = .ok (.iload 6, 2) := by decide +kernel
theorem dX9_learn_180 : decode cX9_learn 180 = .ok (.iaload, 1) := by decide +kernel
theorem dX9_learn_181 : decode cX9_learn 181 = .ok (.ifCond .le 11, 3) := by decide +kernel
theorem dX9_learn_184 : decode cX9_learn 184 = .ok (.iload 7, 2) := by decide +kernel
theorem dX9_learn_186 : decode cX9_learn 186 = .ok (.ifCond .ne 6, 3) := by decide +kernel
theorem dX9_learn_189 : decode cX9_learn 189 = .ok (.iconst 1, 1) := by decide +kernel
theorem dX9_learn_190 : decode cX9_learn 190 = .ok (.istore 7, 2) := by decide +kernel
theorem dX9_learn_192 : decode cX9_learn 192 = .ok (.aload_n 0, 1) := by decide +kernel
theorem dX9_learn_193 : decode cX9_learn 193 = .ok (.getfield 19, 3) := by decide +kernel
theorem dX9_learn_196 : decode cX9_learn 196 = .ok (.sipush 256, 3) := by decide +kernel
theorem dX9_learn_199 : decode cX9_learn 199 = .ok (.iload_n 1, 1) := by decide +kernel
theorem dX9_learn_200 : decode cX9_learn 200 = .ok (.imul, 1) := by decide +kernel
theorem dX9_learn_201 : decode cX9_learn 201 = .ok (.iload 6, 2) := by decide +kernel
theorem dX9_learn_203 : decode cX9_learn 203 = .ok (.iadd, 1) := by decide +kernel
theorem dX9_learn_204 : decode cX9_learn 204 = .ok (.iload 7, 2) := by decide +kernel
theorem dX9_learn_206 : decode cX9_learn 206 = .ok (.iastore, 1) := by decide +kernel
theorem dX9_learn_207 : decode cX9_learn 207 = .ok (.iload 5, 2) := by decide +kernel
theorem dX9_learn_209 : decode cX9_learn 209 = .ok (.iload 7, 2) := by decide +kernel
theorem dX9_learn_211 : decode cX9_learn 211 = .ok (.iadd, 1) := by decide +kernel
theorem dX9_learn_212 : decode cX9_learn 212 = .ok (.istore 5, 2) := by decide +kernel
theorem dX9_learn_214 : decode cX9_learn 214 = .ok (.iinc 6 1, 3) := by decide +kernel
theorem dX9_learn_217 : decode cX9_learn 217 = .ok (.goto (-68), 3) := by decide +kernel
theorem dX9_learn_220 : decode cX9_learn 220 = .ok (.iload 5, 2) := by decide +kernel
theorem dX9_learn_222 : decode cX9_learn 222 = .ok (.iload 4, 2) := by decide +kernel
theorem dX9_learn_224 : decode cX9_learn 224 = .ok (.if_icmp .ge 90, 3) := by decide +kernel
theorem dX9_learn_227 : decode cX9_learn 227 = .ok (.iconst (-1), 1) := by decide +kernel
theorem dX9_learn_228 : decode cX9_learn 228 = .ok (.istore 6, 2) := by decide +kernel
theorem dX9_learn_230 : decode cX9_learn 230 = .ok (.iconst 0, 1) := by decide +kernel
theorem dX9_learn_231 : decode cX9_learn 231 = .ok (.istore 7, 2) := by decide +kernel
theorem dX9_learn_233 : decode cX9_learn 233 = .ok (.iload 7, 2) := by decide +kernel
theorem dX9_learn_235 : decode cX9_learn 235 = .ok (.sipush 256, 3) := by decide +kernel
theorem dX9_learn_238 : decode cX9_learn 238 = .ok (.if_icmp .ge 53, 3) := by decide +kernel
theorem dX9_learn_241 : decode cX9_learn 241 = .ok (.aload_n 0, 1) := by decide +kernel
theorem dX9_learn_242 : decode cX9_learn 242 = .ok (.getfield 39, 3) := by decide +kernel
theorem dX9_learn_245 : decode cX9_learn 245 = .ok (.iload 7, 2) := by decide +kernel
theorem dX9_learn_247 : decode cX9_learn 247 = .ok (.iaload, 1) := by decide +kernel
theorem dX9_learn_248 : decode cX9_learn 248 = .ok (.ifCond .le 37, 3) := by decide +kernel
theorem dX9_learn_251 : decode cX9_learn 251 = .ok (.iload 6, 2) := by decide +kernel
theorem dX9_learn_253 : decode cX9_learn 253 = .ok (.ifCond .lt 28, 3) := by decide +kernel
theorem dX9_learn_256 : decode cX9_learn 256 = .ok (.aload_n 0, 1) := by decide +kernel
theorem dX9_learn_257 : decode cX9_learn 257 = .ok (.iload_n 1, 1) := by decide +kernel
theorem dX9_learn_258 : decode cX9_learn 258 = .ok (.iload 7, 2) := by decide +kernel
theorem dX9_learn_260 : decode cX9_learn 260 = .ok (.aload_n 0, 1) := by decide +kernel
theorem dX9_learn_261 : decode cX9_learn 261 = .ok (.getfield 70, 3) := by decide +kernel
theorem dX9_learn_264 : decode cX9_learn 264 = .ok (.invokevirtual 76, 3) := by decide +kernel
theorem dX9_learn_267 : decode cX9_learn 267 = .ok (.aload_n 0, 1) := by decide +kernel
theorem dX9_learn_268 : decode cX9_learn 268 = .ok (.iload_n 1, 1) := by decide +kernel
theorem dX9_learn_269 : decode cX9_learn 269 = .ok (.iload 6, 2) := by decide +kernel
theorem dX9_learn_271 : decode cX9_learn 271 = .ok (.aload_n 0, 1) := by decide +kernel
theorem dX9_learn_272 : decode cX9_learn 272 = .ok (.getfield 70, 3) := by decide +kernel
theorem dX9_learn_275 : decode cX9_learn 275 = .ok (.invokevirtual 76, 3) := by decide +kernel
theorem dX9_learn_278 : decode cX9_learn 278 = .ok (.if_icmp .le 7, 3) := by decide +kernel
theorem dX9_learn_281 : decode cX9_learn 281 = .ok (.iload 7, 2) := by decide +kernel
theorem dX9_learn_283 : decode cX9_learn 283 = .ok (.istore 6, 2) := by decide +kernel
theorem dX9_learn_285 : decode cX9_learn 285 = .ok (.iinc 7 1, 3) := by decide +kernel
theorem dX9_learn_288 : decode cX9_learn 288 = .ok (.goto (-55), 3) := by decide +kernel
theorem dX9_learn_291 : decode cX9_learn 291 = .ok (.aload_n 0, 1) := by decide +kernel
theorem dX9_learn_292 : decode cX9_learn 292 = .ok (.getfield 19, 3) := by decide +kernel
theorem dX9_learn_295 : decode cX9_learn 295 = .ok (.sipush 256, 3) := by decide +kernel
theorem dX9_learn_298 : decode cX9_learn 298 = .ok (.iload_n 1, 1) := by decide +kernel
theorem dX9_learn_299 : decode cX9_learn 299 = .ok (.imul, 1) := by decide +kernel
theorem dX9_learn_300 : decode cX9_learn 300 = .ok (.iload 6, 2) := by decide +kernel
theorem dX9_learn_302 : decode cX9_learn 302 = .ok (.iadd, 1) := by decide +kernel
theorem dX9_learn_303 : decode cX9_learn 303 = .ok (.dup2, 1) := by decide +kernel
theorem dX9_learn_304 : decode cX9_learn 304 = .ok (.iaload, 1) := by decide +kernel
theorem dX9_learn_305 : decode cX9_learn 305 = .ok (.iconst 1, 1) := by decide +kernel
theorem dX9_learn_306 : decode cX9_learn 306 = .ok (.iadd, 1) := by decide +kernel
theorem dX9_learn_307 : decode cX9_learn 307 = .ok (.iastore, 1) := by decide +kernel
theorem dX9_learn_308 : decode cX9_learn 308 = .ok (.iinc 5 1, 3) := by decide +kernel
theorem dX9_learn_311 : decode cX9_learn 311 = .ok (.goto (-91), 3) := by decide +kernel
theorem dX9_learn_314 : decode cX9_learn 314 = .ok (.iload 5, 2) := by decide +kernel
theorem dX9_learn_316 : decode cX9_learn 316 = .ok (.iload 4, 2) := by decide +kernel
theorem dX9_learn_318 : decode cX9_learn 318 = .ok (.if_icmp .le 96, 3) := by decide +kernel
theorem dX9_learn_321 : decode cX9_learn 321 = .ok (.iconst (-1), 1) := by decide +kernel
theorem dX9_learn_322 : decode cX9_learn 322 = .ok (.istore 6, 2) := by decide +kernel
theorem dX9_learn_324 : decode cX9_learn 324 = .ok (.sipush 255, 3) := by decide +kernel
theorem dX9_learn_327 : decode cX9_learn 327 = .ok (.istore 7, 2) := by decide +kernel
theorem dX9_learn_329 : decode cX9_learn 329 = .ok (.iload 7, 2) := by decide +kernel
theorem dX9_learn_331 : decode cX9_learn 331 = .ok (.ifCond .lt 60, 3) := by decide +kernel
theorem dX9_learn_334 : decode cX9_learn 334 = .ok (.aload_n 0, 1) := by decide +kernel
theorem dX9_learn_335 : decode cX9_learn 335 = .ok (.getfield 19, 3) := by decide +kernel
theorem dX9_learn_338 : decode cX9_learn 338 = .ok (.sipush 256, 3) := by decide +kernel
theorem dX9_learn_341 : decode cX9_learn 341 = .ok (.iload_n 1, 1) := by decide +kernel
theorem dX9_learn_342 : decode cX9_learn 342 = .ok (.imul, 1) := by decide +kernel
theorem dX9_learn_343 : decode cX9_learn 343 = .ok (.iload 7, 2) := by decide +kernel
theorem dX9_learn_345 : decode cX9_learn 345 = .ok (.iadd, 1) := by decide +kernel
theorem dX9_learn_346 : decode cX9_learn 346 = .ok (.iaload, 1) := by decide +kernel
theorem dX9_learn_347 : decode cX9_learn 347 = .ok (.iconst 1, 1) := by decide +kernel
theorem dX9_learn_348 : decode cX9_learn 348 = .ok (.if_icmp .le 37, 3) := by decide +kernel
theorem dX9_learn_351 : decode cX9_learn 351 = .ok (.iload 6, 2) := by decide +kernel
theorem dX9_learn_353 : decode cX9_learn 353 = .ok (.ifCond .lt 28, 3) := by decide +kernel
theorem dX9_learn_356 : decode cX9_learn 356 = .ok (.aload_n 0, 1) := by decide +kernel
theorem dX9_learn_357 : decode cX9_learn 357 = .ok (.iload_n 1, 1) := by decide +kernel
theorem dX9_learn_358 : decode cX9_learn 358 = .ok (.iload 7, 2) := by decide +kernel
theorem dX9_learn_360 : decode cX9_learn 360 = .ok (.aload_n 0, 1) := by decide +kernel
theorem dX9_learn_361 : decode cX9_learn 361 = .ok (.getfield 70, 3) := by decide +kernel
theorem dX9_learn_364 : decode cX9_learn 364 = .ok (.invokevirtual 76, 3) := by decide +kernel
theorem dX9_learn_367 : decode cX9_learn 367 = .ok (.aload_n 0, 1) := by decide +kernel
theorem dX9_learn_368 : decode cX9_learn 368 = .ok (.iload_n 1, 1) := by decide +kernel
theorem dX9_learn_369 : decode cX9_learn 369 = .ok (.iload 6, 2) := by decide +kernel
theorem dX9_learn_371 : decode cX9_learn 371 = .ok (.aload_n 0, 1) := by decide +kernel
theorem dX9_learn_372 : decode cX9_learn 372 = .ok (.getfield 70, 3) := by decide +kernel
theorem dX9_learn_375 : decode cX9_learn 375 = .ok (.invokevirtual 76, 3) := by decide +kernel
theorem dX9_learn_378 : decode cX9_learn 378 = .ok (.if_icmp .ge 7, 3) := by decide +kernel
theorem dX9_learn_381 : decode cX9_learn 381 = .ok (.iload 7, 2) := by decide +kernel
theorem dX9_learn_383 : decode cX9_learn 383 = .ok (.istore 6, 2) := by decide +kernel
theorem dX9_learn_385 : decode cX9_learn 385 = .ok (.iinc 7 (-1), 3) := by decide +kernel
theorem dX9_learn_388 : decode cX9_learn 388 = .ok (.goto (-59), 3) := by decide +kernel
theorem dX9_learn_391 : decode cX9_learn 391 = .ok (.aload_n 0, 1) := by decide +kernel
theorem dX9_learn_392 : decode cX9_learn 392 = .ok (.getfield 19, 3) := by decide +kernel
theorem dX9_learn_395 : decode cX9_learn 395 = .ok (.sipush 256, 3) := by decide +kernel
theorem dX9_learn_398 : decode cX9_learn 398 = .ok (.iload_n 1, 1) := by decide +kernel
theorem dX9_learn_399 : decode cX9_learn 399 = .ok (.imul, 1) := by decide +kernel
theorem dX9_learn_400 : decode cX9_learn 400 = .ok (.iload 6, 2) := by decide +kernel
theorem dX9_learn_402 : decode cX9_learn 402 = .ok (.iadd, 1) := by decide +kernel
theorem dX9_learn_403 : decode cX9_learn 403 = .ok (.dup2, 1) := by decide +kernel
theorem dX9_learn_404 : decode cX9_learn 404 = .ok (.iaload, 1) := by decide +kernel
theorem dX9_learn_405 : decode cX9_learn 405 = .ok (.iconst 1, 1) := by decide +kernel
theorem dX9_learn_406 : decode cX9_learn 406 = .ok (.isub, 1) := by decide +kernel
theorem dX9_learn_407 : decode cX9_learn 407 = .ok (.iastore, 1) := by decide +kernel
theorem dX9_learn_408 : decode cX9_learn 408 = .ok (.iinc 5 (-1), 3) := by decide +kernel
theorem dX9_learn_411 : decode cX9_learn 411 = .ok (.goto (-97), 3) := by decide +kernel
theorem dX9_learn_414 : decode cX9_learn 414 = .ok (.aload_n 0, 1) := by decide +kernel
theorem dX9_learn_415 : decode cX9_learn 415 = .ok (.iload_n 1, 1) := by decide +kernel
theorem dX9_learn_416 : decode cX9_learn 416 = .ok (.invokevirtual 80, 3) := by decide +kernel
theorem dX9_learn_419 : decode cX9_learn 419 = .ok (.iload_n 3, 1) := by decide +kernel
theorem dX9_learn_420 : decode cX9_learn 420 = .ok (.ireturn, 1) := by decide +kernel
theorem dX9_begin_0 : decode cX9_begin 0 = .ok (.iconst 0, 1) := by decide +kernel
theorem dX9_begin_1 : decode cX9_begin 1 = .ok (.istore_n 2, 1) := by decide +kernel
theorem dX9_begin_2 : decode cX9_begin 2 = .ok (.iconst 0, 1) := by decide +kernel
theorem dX9_begin_3 : decode cX9_begin 3 = .ok (.istore_n 3, 1) := by decide +kernel
theorem dX9_begin_4 : decode cX9_begin 4 = .ok (.iload_n 3, 1) := by decide +kernel
theorem dX9_begin_5 : decode cX9_begin 5 = .ok (.sipush 256, 3) := by decide +kernel
theorem dX9_begin_8 : decode cX9_begin 8 = .ok (.if_icmp .ge 37, 3) := by decide +kernel
end
section
theorem dX9_begin_11 : decode cX9_begin 11 = .ok (.aload_n 0, 1) := by decide +kernel
theorem dX9_begin_12 : decode cX9_begin 12 = .ok (.getfield 22, 3) := by decide +kernel
theorem dX9_begin_15 : decode cX9_begin 15 = .ok (.sipush 256, 3) := by decide +kernel
theorem dX9_begin_18 : decode cX9_begin 18 = .ok (.iload_n 1, 1) := by decide +kernel
theorem dX9_begin_19 : decode cX9_begin 19 = .ok (.imul, 1) := by decide +kernel
theorem dX9_begin_20 : decode cX9_begin 20 = .ok (.iload_n 3, 1) := by decide +kernel
theorem dX9_begin_21 : decode cX9_begin 21 = .ok (.iadd, 1) := by decide +kernel
theorem dX9_begin_22 : decode cX9_begin 22 = .ok (.iload_n 2, 1) := by decide +kernel
theorem dX9_begin_23 : decode cX9_begin 23 = .ok (.iastore, 1) := by decide +kernel
theorem dX9_begin_24 : decode cX9_begin 24 = .ok (.iload_n 2, 1) := by decide +kernel
theorem dX9_begin_25 : decode cX9_begin 25 = .ok (.aload_n 0, 1) := by decide +kernel
theorem dX9_begin_26 : decode cX9_begin 26 = .ok (.getfield 19, 3) := by decide +kernel
theorem dX9_begin_29 : decode cX9_begin 29 = .ok (.sipush 256, 3) := by decide +kernel
theorem dX9_begin_32 : decode cX9_begin 32 = .ok (.iload_n 1, 1) := by decide +kernel
theorem dX9_begin_33 : decode cX9_begin 33 = .ok (.imul, 1) := by decide +kernel
theorem dX9_begin_34 : decode cX9_begin 34 = .ok (.iload_n 3, 1) := by decide +kernel
theorem dX9_begin_35 : decode cX9_begin 35 = .ok (.iadd, 1) := by decide +kernel
theorem dX9_begin_36 : decode cX9_begin 36 = .ok (.iaload, 1) := by decide +kernel
theorem dX9_begin_37 : decode cX9_begin 37 = .ok (.iadd, 1) := by decide +kernel
theorem dX9_begin_38 : decode cX9_begin 38 = .ok (.istore_n 2, 1) := by decide +kernel
theorem dX9_begin_39 : decode cX9_begin 39 = .ok (.iinc 3 1, 3) := by decide +kernel
theorem dX9_begin_42 : decode cX9_begin 42 = .ok (.goto (-38), 3) := by decide +kernel
theorem dX9_begin_45 : decode cX9_begin 45 = .ok (.iconst 0, 1) := by decide +kernel
theorem dX9_begin_46 : decode cX9_begin 46 = .ok (.istore_n 3, 1) := by decide +kernel
theorem dX9_begin_47 : decode cX9_begin 47 = .ok (.iload_n 3, 1) := by decide +kernel
theorem dX9_begin_48 : decode cX9_begin 48 = .ok (.iconst 3, 1) := by decide +kernel
theorem dX9_begin_49 : decode cX9_begin 49 = .ok (.if_icmp .ge 20, 3) := by decide +kernel
theorem dX9_begin_52 : decode cX9_begin 52 = .ok (.aload_n 0, 1) := by decide +kernel
theorem dX9_begin_53 : decode cX9_begin 53 = .ok (.getfield 25, 3) := by decide +kernel
theorem dX9_begin_56 : decode cX9_begin 56 = .ok (.iconst 3, 1) := by decide +kernel
theorem dX9_begin_57 : decode cX9_begin 57 = .ok (.iload_n 1, 1) := by decide +kernel
theorem dX9_begin_58 : decode cX9_begin 58 = .ok (.imul, 1) := by decide +kernel
theorem dX9_begin_59 : decode cX9_begin 59 = .ok (.iload_n 3, 1) := by decide +kernel
theorem dX9_begin_60 : decode cX9_begin 60 = .ok (.iadd, 1) := by decide +kernel
theorem dX9_begin_61 : decode cX9_begin 61 = .ok (.iconst 0, 1) := by decide +kernel
theorem dX9_begin_62 : decode cX9_begin 62 = .ok (.bastore, 1) := by decide +kernel
theorem dX9_begin_63 : decode cX9_begin 63 = .ok (.iinc 3 1, 3) := by decide +kernel
theorem dX9_begin_66 : decode cX9_begin 66 = .ok (.goto (-19), 3) := by decide +kernel
theorem dX9_begin_69 : decode cX9_begin 69 = .ok (.return_, 1) := by decide +kernel
theorem dX9_log_0 : decode cX9_log 0 = .ok (.aload_n 0, 1) := by decide +kernel
theorem dX9_log_1 : decode cX9_log 1 = .ok (.iload_n 1, 1) := by decide +kernel
theorem dX9_log_2 : decode cX9_log 2 = .ok (.invokevirtual 84, 3) := by decide +kernel
theorem dX9_log_5 : decode cX9_log 5 = .ok (.ifCond .eq 12, 3) := by decide +kernel
theorem dX9_log_8 : decode cX9_log 8 = .ok (.aload_n 0, 1) := by decide +kernel
theorem dX9_log_9 : decode cX9_log 9 = .ok (.getfield 16, 3) := by decide +kernel
theorem dX9_log_12 : decode cX9_log 12 = .ok (.iload_n 1, 1) := by decide +kernel
theorem dX9_log_13 : decode cX9_log 13 = .ok (.iaload, 1) := by decide +kernel
theorem dX9_log_14 : decode cX9_log 14 = .ok (.goto 4, 3) := by decide +kernel
theorem dX9_log_17 : decode cX9_log 17 = .ok (.iconst (-1), 1) := by decide +kernel
theorem dX9_log_18 : decode cX9_log 18 = .ok (.ireturn, 1) := by decide +kernel
theorem dX9_share_0 : decode cX9_share 0 = .ok (.aload_n 0, 1) := by decide +kernel
theorem dX9_share_1 : decode cX9_share 1 = .ok (.iload_n 1, 1) := by decide +kernel
theorem dX9_share_2 : decode cX9_share 2 = .ok (.invokevirtual 84, 3) := by decide +kernel
theorem dX9_share_5 : decode cX9_share 5 = .ok (.ifCond .eq 29, 3) := by decide +kernel
theorem dX9_share_8 : decode cX9_share 8 = .ok (.iload_n 2, 1) := by decide +kernel
theorem dX9_share_9 : decode cX9_share 9 = .ok (.ifCond .lt 25, 3) := by decide +kernel
theorem dX9_share_12 : decode cX9_share 12 = .ok (.iload_n 2, 1) := by decide +kernel
theorem dX9_share_13 : decode cX9_share 13 = .ok (.sipush 256, 3) := by decide +kernel
theorem dX9_share_16 : decode cX9_share 16 = .ok (.if_icmp .ge 18, 3) := by decide +kernel
theorem dX9_share_19 : decode cX9_share 19 = .ok (.aload_n 0, 1) := by decide +kernel
theorem dX9_share_20 : decode cX9_share 20 = .ok (.getfield 19, 3) := by decide +kernel
theorem dX9_share_23 : decode cX9_share 23 = .ok (.sipush 256, 3) := by decide +kernel
theorem dX9_share_26 : decode cX9_share 26 = .ok (.iload_n 1, 1) := by decide +kernel
theorem dX9_share_27 : decode cX9_share 27 = .ok (.imul, 1) := by decide +kernel
theorem dX9_share_28 : decode cX9_share 28 = .ok (.iload_n 2, 1) := by decide +kernel
theorem dX9_share_29 : decode cX9_share 29 = .ok (.iadd, 1) := by decide +kernel
theorem dX9_share_30 : decode cX9_share 30 = .ok (.iaload, 1) := by decide +kernel
theorem dX9_share_31 : decode cX9_share 31 = .ok (.goto 4, 3) := by decide +kernel
theorem dX9_share_34 : decode cX9_share 34 = .ok (.iconst (-1), 1) := by decide +kernel
theorem dX9_share_35 : decode cX9_share 35 = .ok (.ireturn, 1) := by decide +kernel
theorem dX9_start_0 : decode cX9_start 0 = .ok (.aload_n 0, 1) := by decide +kernel
theorem dX9_start_1 : decode cX9_start 1 = .ok (.iload_n 1, 1) := by decide +kernel
theorem dX9_start_2 : decode cX9_start 2 = .ok (.invokevirtual 84, 3) := by decide +kernel
theorem dX9_start_5 : decode cX9_start 5 = .ok (.ifCond .eq 29, 3) := by decide +kernel
theorem dX9_start_8 : decode cX9_start 8 = .ok (.iload_n 2, 1) := by decide +kernel
theorem dX9_start_9 : decode cX9_start 9 = .ok (.ifCond .lt 25, 3) := by decide +kernel
theorem dX9_start_12 : decode cX9_start 12 = .ok (.iload_n 2, 1) := by decide +kernel
theorem dX9_start_13 : decode cX9_start 13 = .ok (.sipush 256, 3) := by decide +kernel
theorem dX9_start_16 : decode cX9_start 16 = .ok (.if_icmp .ge 18, 3) := by decide +kernel
theorem dX9_start_19 : decode cX9_start 19 = .ok (.aload_n 0, 1) := by decide +kernel
theorem dX9_start_20 : decode cX9_start 20 = .ok (.getfield 22, 3) := by decide +kernel
theorem dX9_start_23 : decode cX9_start 23 = .ok (.sipush 256, 3) := by decide +kernel
theorem dX9_start_26 : decode cX9_start 26 = .ok (.iload_n 1, 1) := by decide +kernel
theorem dX9_start_27 : decode cX9_start 27 = .ok (.imul, 1) := by decide +kernel
theorem dX9_start_28 : decode cX9_start 28 = .ok (.iload_n 2, 1) := by decide +kernel
theorem dX9_start_29 : decode cX9_start 29 = .ok (.iadd, 1) := by decide +kernel
theorem dX9_start_30 : decode cX9_start 30 = .ok (.iaload, 1) := by decide +kernel
theorem dX9_start_31 : decode cX9_start 31 = .ok (.goto 4, 3) := by decide +kernel
theorem dX9_start_34 : decode cX9_start 34 = .ok (.iconst (-1), 1) := by decide +kernel
theorem dX9_start_35 : decode cX9_start 35 = .ok (.ireturn, 1) := by decide +kernel
theorem dX9_lay_0 : decode cX9_lay 0 = .ok (.aload_n 0, 1) := by decide +kernel
theorem dX9_lay_1 : decode cX9_lay 1 = .ok (.getfield 25, 3) := by decide +kernel
theorem dX9_lay_4 : decode cX9_lay 4 = .ok (.iconst 3, 1) := by decide +kernel
theorem dX9_lay_5 : decode cX9_lay 5 = .ok (.iload_n 1, 1) := by decide +kernel
theorem dX9_lay_6 : decode cX9_lay 6 = .ok (.imul, 1) := by decide +kernel
theorem dX9_lay_7 : decode cX9_lay 7 = .ok (.iload_n 2, 1) := by decide +kernel
theorem dX9_lay_8 : decode cX9_lay 8 = .ok (.iadd, 1) := by decide +kernel
theorem dX9_lay_9 : decode cX9_lay 9 = .ok (.baload, 1) := by decide +kernel
theorem dX9_lay_10 : decode cX9_lay 10 = .ok (.ifCond .eq 4, 3) := by decide +kernel
theorem dX9_lay_13 : decode cX9_lay 13 = .ok (.return_, 1) := by decide +kernel
theorem dX9_lay_14 : decode cX9_lay 14 = .ok (.aload_n 0, 1) := by decide +kernel
theorem dX9_lay_15 : decode cX9_lay 15 = .ok (.getfield 25, 3) := by decide +kernel
theorem dX9_lay_18 : decode cX9_lay 18 = .ok (.iconst 3, 1) := by decide +kernel
theorem dX9_lay_19 : decode cX9_lay 19 = .ok (.iload_n 1, 1) := by decide +kernel
theorem dX9_lay_20 : decode cX9_lay 20 = .ok (.imul, 1) := by decide +kernel
theorem dX9_lay_21 : decode cX9_lay 21 = .ok (.iload_n 2, 1) := by decide +kernel
theorem dX9_lay_22 : decode cX9_lay 22 = .ok (.iadd, 1) := by decide +kernel
theorem dX9_lay_23 : decode cX9_lay 23 = .ok (.iconst 1, 1) := by decide +kernel
theorem dX9_lay_24 : decode cX9_lay 24 = .ok (.bastore, 1) := by decide +kernel
theorem dX9_lay_25 : decode cX9_lay 25 = .ok (.sipush 4096, 3) := by decide +kernel
theorem dX9_lay_28 : decode cX9_lay 28 = .ok (.iconst 3, 1) := by decide +kernel
theorem dX9_lay_29 : decode cX9_lay 29 = .ok (.iload_n 1, 1) := by decide +kernel
theorem dX9_lay_30 : decode cX9_lay 30 = .ok (.imul, 1) := by decide +kernel
theorem dX9_lay_31 : decode cX9_lay 31 = .ok (.iload_n 2, 1) := by decide +kernel
theorem dX9_lay_32 : decode cX9_lay 32 = .ok (.iadd, 1) := by decide +kernel
theorem dX9_lay_33 : decode cX9_lay 33 = .ok (.imul, 1) := by decide +kernel
theorem dX9_lay_34 : decode cX9_lay 34 = .ok (.istore_n 3, 1) := by decide +kernel
theorem dX9_lay_35 : decode cX9_lay 35 = .ok (.iconst 1, 1) := by decide +kernel
theorem dX9_lay_36 : decode cX9_lay 36 = .ok (.aload_n 0, 1) := by decide +kernel
theorem dX9_lay_37 : decode cX9_lay 37 = .ok (.getfield 16, 3) := by decide +kernel
theorem dX9_lay_40 : decode cX9_lay 40 = .ok (.iload_n 1, 1) := by decide +kernel
theorem dX9_lay_41 : decode cX9_lay 41 = .ok (.iaload, 1) := by decide +kernel
theorem dX9_lay_42 : decode cX9_lay 42 = .ok (.ishl, 1) := by decide +kernel
theorem dX9_lay_43 : decode cX9_lay 43 = .ok (.istore 4, 2) := by decide +kernel
theorem dX9_lay_45 : decode cX9_lay 45 = .ok (.iload_n 2, 1) := by decide +kernel
theorem dX9_lay_46 : decode cX9_lay 46 = .ok (.iconst 2, 1) := by decide +kernel
theorem dX9_lay_47 : decode cX9_lay 47 = .ok (.if_icmp .ne 14, 3) := by decide +kernel
theorem dX9_lay_50 : decode cX9_lay 50 = .ok (.aload_n 0, 1) := by decide +kernel
theorem dX9_lay_51 : decode cX9_lay 51 = .ok (.iload_n 1, 1) := by decide +kernel
theorem dX9_lay_52 : decode cX9_lay 52 = .ok (.iload_n 3, 1) := by decide +kernel
theorem dX9_lay_53 : decode cX9_lay 53 = .ok (.iload 4, 2) := by decide +kernel
theorem dX9_lay_55 : decode cX9_lay 55 = .ok (.invokevirtual 88, 3) := by decide +kernel
theorem dX9_lay_58 : decode cX9_lay 58 = .ok (.goto 108, 3) := by decide +kernel
theorem dX9_lay_61 : decode cX9_lay 61 = .ok (.iload_n 2, 1) := by decide +kernel
theorem dX9_lay_62 : decode cX9_lay 62 = .ok (.ifCond .ne 7, 3) := by decide +kernel
theorem dX9_lay_65 : decode cX9_lay 65 = .ok (.iconst 1, 1) := by decide +kernel
theorem dX9_lay_66 : decode cX9_lay 66 = .ok (.goto 15, 3) := by decide +kernel
theorem dX9_lay_69 : decode cX9_lay 69 = .ok (.iload 4, 2) := by decide +kernel
theorem dX9_lay_71 : decode cX9_lay 71 = .ok (.iconst 2, 1) := by decide +kernel
theorem dX9_lay_72 : decode cX9_lay 72 = .ok (.idiv, 1) := by decide +kernel
theorem dX9_lay_73 : decode cX9_lay 73 = .ok (.iload 4, 2) := by decide +kernel
theorem dX9_lay_75 : decode cX9_lay 75 = .ok (.bipush 8, 2) := by decide +kernel
theorem dX9_lay_77 : decode cX9_lay 77 = .ok (.idiv, 1) := by decide +kernel
theorem dX9_lay_78 : decode cX9_lay 78 = .ok (.iadd, 1) := by decide +kernel
theorem dX9_lay_79 : decode cX9_lay 79 = .ok (.iconst 3, 1) := by decide +kernel
theorem dX9_lay_80 : decode cX9_lay 80 = .ok (.iadd, 1) := by decide +kernel
theorem dX9_lay_81 : decode cX9_lay 81 = .ok (.istore 5, 2) := by decide +kernel
theorem dX9_lay_83 : decode cX9_lay 83 = .ok (.iload_n 2, 1) := by decide +kernel
theorem dX9_lay_84 : decode cX9_lay 84 = .ok (.iconst 1, 1) := by decide +kernel
theorem dX9_lay_85 : decode cX9_lay 85 = .ok (.if_icmp .ne 13, 3) := by decide +kernel
theorem dX9_lay_88 : decode cX9_lay 88 = .ok (.iload 5, 2) := by decide +kernel
theorem dX9_lay_90 : decode cX9_lay 90 = .ok (.iconst 2, 1) := by decide +kernel
theorem dX9_lay_91 : decode cX9_lay 91 = .ok (.irem, 1) := by decide +kernel
theorem dX9_lay_92 : decode cX9_lay 92 = .ok (.ifCond .ne 6, 3) := by decide +kernel
theorem dX9_lay_95 : decode cX9_lay 95 = .ok (.iinc 5 1, 3) := by decide +kernel
theorem dX9_lay_98 : decode cX9_lay 98 = .ok (.iconst 0, 1) := by decide +kernel
theorem dX9_lay_99 : decode cX9_lay 99 = .ok (.istore 6, 2) := by decide +kernel
theorem dX9_lay_101 : decode cX9_lay 101 = .ok (.iconst 0, 1) := by decide +kernel
theorem dX9_lay_102 : decode cX9_lay 102 = .ok (.istore 7, 2) := by decide +kernel
theorem dX9_lay_104 : decode cX9_lay 104 = .ok (.iload 7, 2) := by decide +kernel
theorem dX9_lay_106 : decode cX9_lay 106 = .ok (.sipush 256, 3) := by decide +kernel
theorem dX9_lay_109 : decode cX9_lay 109 = .ok (.if_icmp .ge 57, 3) := by decide +kernel
theorem dX9_lay_112 : decode cX9_lay 112 = .ok (.iconst 0, 1) := by decide +kernel
theorem dX9_lay_113 : decode cX9_lay 113 = .ok (.istore 8, 2) := by decide +kernel
theorem dX9_lay_115 : decode cX9_lay 115 = .ok (.iload 8, 2) := by decide +kernel
theorem dX9_lay_117 : decode cX9_lay 117 = .ok (.aload_n 0, 1) := by decide +kernel
theorem dX9_lay_118 : decode cX9_lay 118 = .ok (.getfield 19, 3) := by decide +kernel
theorem dX9_lay_121 : decode cX9_lay 121 = .ok (.sipush 256, 3) := by decide +kernel
theorem dX9_lay_124 : decode cX9_lay 124 = .ok (.iload_n 1, 1) := by decide +kernel
theorem dX9_lay_125 : decode cX9_lay 125 = .ok (.imul, 1) := by decide +kernel
theorem dX9_lay_126 : decode cX9_lay 126 = .ok (.iload 7, 2) := by decide +kernel
theorem dX9_lay_128 : decode cX9_lay 128 = .ok (.iadd, 1) := by decide +kernel
theorem dX9_lay_129 : decode cX9_lay 129 = .ok (.iaload, 1) := by decide +kernel
theorem dX9_lay_130 : decode cX9_lay 130 = .ok (.if_icmp .ge 30, 3) := by decide +kernel
theorem dX9_lay_133 : decode cX9_lay 133 = .ok (.aload_n 0, 1) := by decide +kernel
theorem dX9_lay_134 : decode cX9_lay 134 = .ok (.getfield 30, 3) := by decide +kernel
theorem dX9_lay_137 : decode cX9_lay 137 = .ok (.iload_n 3, 1) := by decide +kernel
theorem dX9_lay_138 : decode cX9_lay 138 = .ok (.iload 6, 2) := by decide +kernel
theorem dX9_lay_140 : decode cX9_lay 140 = .ok (.iadd, 1) := by decide +kernel
theorem dX9_lay_141 : decode cX9_lay 141 = .ok (.iload 7, 2) := by decide +kernel
theorem dX9_lay_143 : decode cX9_lay 143 = .ok (.iastore, 1) := by decide +kernel
theorem dX9_lay_144 : decode cX9_lay 144 = .ok (.iload 6, 2) := by decide +kernel
theorem dX9_lay_146 : decode cX9_lay 146 = .ok (.iload 5, 2) := by decide +kernel
theorem dX9_lay_148 : decode cX9_lay 148 = .ok (.iadd, 1) := by decide +kernel
theorem dX9_lay_149 : decode cX9_lay 149 = .ok (.iload 4, 2) := by decide +kernel
theorem dX9_lay_151 : decode cX9_lay 151 = .ok (.irem, 1) := by decide +kernel
theorem dX9_lay_152 : decode cX9_lay 152 = .ok (.istore 6, 2) := by decide +kernel
theorem dX9_lay_154 : decode cX9_lay 154 = .ok (.iinc 8 1, 3) := by decide +kernel
theorem dX9_lay_157 : decode cX9_lay 157 = .ok (.goto (-42), 3) := by decide +kernel
theorem dX9_lay_160 : decode cX9_lay 160 = .ok (.iinc 7 1, 3) := by decide +kernel
theorem dX9_lay_163 : decode cX9_lay 163 = .ok (.goto (-59), 3) := by decide +kernel
theorem dX9_lay_166 : decode cX9_lay 166 = .ok (.iconst 0, 1) := by decide +kernel
theorem dX9_lay_167 : decode cX9_lay 167 = .ok (.istore 5, 2) := by decide +kernel
theorem dX9_lay_169 : decode cX9_lay 169 = .ok (.iload 5, 2) := by decide +kernel
theorem dX9_lay_171 : decode cX9_lay 171 = .ok (.sipush 256, 3) := by decide +kernel
theorem dX9_lay_174 : decode cX9_lay 174 = .ok (.if_icmp .ge 17, 3) := by decide +kernel
theorem dX9_lay_177 : decode cX9_lay 177 = .ok (.aload_n 0, 1) := by decide +kernel
theorem dX9_lay_178 : decode cX9_lay 178 = .ok (.getfield 45, 3) := by decide +kernel
theorem dX9_lay_181 : decode cX9_lay 181 = .ok (.iload 5, 2) := by decide +kernel
theorem dX9_lay_183 : decode cX9_lay 183 = .ok (.iconst 0, 1) := by decide +kernel
theorem dX9_lay_184 : decode cX9_lay 184 = .ok (.iastore, 1) := by decide +kernel
theorem dX9_lay_185 : decode cX9_lay 185 = .ok (.iinc 5 1, 3) := by decide +kernel
theorem dX9_lay_188 : decode cX9_lay 188 = .ok (.goto (-19), 3) := by decide +kernel
theorem dX9_lay_191 : decode cX9_lay 191 = .ok (.iconst 0, 1) := by decide +kernel
theorem dX9_lay_192 : decode cX9_lay 192 = .ok (.istore 5, 2) := by decide +kernel
theorem dX9_lay_194 : decode cX9_lay 194 = .ok (.iload 5, 2) := by decide +kernel
theorem dX9_lay_196 : decode cX9_lay 196 = .ok (.iload 4, 2) := by decide +kernel
theorem dX9_lay_198 : decode cX9_lay 198 = .ok (.if_icmp .ge 91, 3) := by decide +kernel
theorem dX9_lay_201 : decode cX9_lay 201 = .ok (.aload_n 0, 1) := by decide +kernel
theorem dX9_lay_202 : decode cX9_lay 202 = .ok (.getfield 30, 3) := by decide +kernel
theorem dX9_lay_205 : decode cX9_lay 205 = .ok (.iload_n 3, 1) := by decide +kernel
theorem dX9_lay_206 : decode cX9_lay 206 = .ok (.iload 5, 2) := by decide +kernel
theorem dX9_lay_208 : decode cX9_lay 208 = .ok (.iadd, 1) := by decide +kernel
theorem dX9_lay_209 : decode cX9_lay 209 = .ok (.iaload, 1) := by decide +kernel
theorem dX9_lay_210 : decode cX9_lay 210 = .ok (.istore 6, 2) := by decide +kernel
theorem dX9_lay_212 : decode cX9_lay 212 = .ok (.aload_n 0, 1) := by decide +kernel
theorem dX9_lay_213 : decode cX9_lay 213 = .ok (.getfield 33, 3) := by decide +kernel
theorem dX9_lay_216 : decode cX9_lay 216 = .ok (.iload_n 3, 1) := by decide +kernel
theorem dX9_lay_217 : decode cX9_lay 217 = .ok (.iload 5, 2) := by decide +kernel
theorem dX9_lay_219 : decode cX9_lay 219 = .ok (.iadd, 1) := by decide +kernel
theorem dX9_lay_220 : decode cX9_lay 220 = .ok (.aload_n 0, 1) := by decide +kernel
theorem dX9_lay_221 : decode cX9_lay 221 = .ok (.getfield 19, 3) := by decide +kernel
theorem dX9_lay_224 : decode cX9_lay 224 = .ok (.sipush 256, 3) := by decide +kernel
theorem dX9_lay_227 : decode cX9_lay 227 = .ok (.iload_n 1, 1) := by decide +kernel
theorem dX9_lay_228 : decode cX9_lay 228 = .ok (.imul, 1) := by decide +kernel
theorem dX9_lay_229 : decode cX9_lay 229 = .ok (.iload 6, 2) := by decide +kernel
theorem dX9_lay_231 : decode cX9_lay 231 = .ok (.iadd, 1) := by decide +kernel
theorem dX9_lay_232 : decode cX9_lay 232 = .ok (.iaload, 1) := by decide +kernel
theorem dX9_lay_233 : decode cX9_lay 233 = .ok (.aload_n 0, 1) := by decide +kernel
theorem dX9_lay_234 : decode cX9_lay 234 = .ok (.getfield 45, 3) := by decide +kernel
theorem dX9_lay_237 : decode cX9_lay 237 = .ok (.iload 6, 2) := by decide +kernel
theorem dX9_lay_239 : decode cX9_lay 239 = .ok (.iaload, 1) := by decide +kernel
theorem dX9_lay_240 : decode cX9_lay 240 = .ok (.iadd, 1) := by decide +kernel
theorem dX9_lay_241 : decode cX9_lay 241 = .ok (.iastore, 1) := by decide +kernel
theorem dX9_lay_242 : decode cX9_lay 242 = .ok (.aload_n 0, 1) := by decide +kernel
theorem dX9_lay_243 : decode cX9_lay 243 = .ok (.getfield 36, 3) := by decide +kernel
theorem dX9_lay_246 : decode cX9_lay 246 = .ok (.iload_n 3, 1) := by decide +kernel
theorem dX9_lay_247 : decode cX9_lay 247 = .ok (.aload_n 0, 1) := by decide +kernel
theorem dX9_lay_248 : decode cX9_lay 248 = .ok (.getfield 22, 3) := by decide +kernel
theorem dX9_lay_251 : decode cX9_lay 251 = .ok (.sipush 256, 3) := by decide +kernel
theorem dX9_lay_254 : decode cX9_lay 254 = .ok (.iload_n 1, 1) := by decide +kernel
theorem dX9_lay_255 : decode cX9_lay 255 = .ok (.imul, 1) := by decide +kernel
theorem dX9_lay_256 : decode cX9_lay 256 = .ok (.iload 6, 2) := by decide +kernel
theorem dX9_lay_258 : decode cX9_lay 258 = .ok (.iadd, 1) := by decide +kernel
theorem dX9_lay_259 : decode cX9_lay 259 = .ok (.iaload, 1) := by decide +kernel
theorem dX9_lay_260 : decode cX9_lay 260 = .ok (.iadd, 1) := by decide +kernel
theorem dX9_lay_261 : decode cX9_lay 261 = .ok (.aload_n 0, 1) := by decide +kernel
theorem dX9_lay_262 : decode cX9_lay 262 = .ok (.getfield 45, 3) := by decide +kernel
theorem dX9_lay_265 : decode cX9_lay 265 = .ok (.iload 6, 2) := by decide +kernel
theorem dX9_lay_267 : decode cX9_lay 267 = .ok (.iaload, 1) := by decide +kernel
theorem dX9_lay_268 : decode cX9_lay 268 = .ok (.iadd, 1) := by decide +kernel
theorem dX9_lay_269 : decode cX9_lay 269 = .ok (.iload 5, 2) := by decide +kernel
theorem dX9_lay_271 : decode cX9_lay 271 = .ok (.iastore, 1) := by decide +kernel
theorem dX9_lay_272 : decode cX9_lay 272 = .ok (.aload_n 0, 1) := by decide +kernel
theorem dX9_lay_273 : decode cX9_lay 273 = .ok (.getfield 45, 3) := by decide +kernel
theorem dX9_lay_276 : decode cX9_lay 276 = .ok (.iload 6, 2) := by decide +kernel
theorem dX9_lay_278 : decode cX9_lay 278 = .ok (.dup2, 1) := by decide +kernel
theorem dX9_lay_279 : decode cX9_lay 279 = .ok (.iaload, 1) := by decide +kernel
theorem dX9_lay_280 : decode cX9_lay 280 = .ok (.iconst 1, 1) := by decide +kernel
theorem dX9_lay_281 : decode cX9_lay 281 = .ok (.iadd, 1) := by decide +kernel
theorem dX9_lay_282 : decode cX9_lay 282 = .ok (.iastore, 1) := by decide +kernel
theorem dX9_lay_283 : decode cX9_lay 283 = .ok (.iinc 5 1, 3) := by decide +kernel
theorem dX9_lay_286 : decode cX9_lay 286 = .ok (.goto (-92), 3) := by decide +kernel
theorem dX9_lay_289 : decode cX9_lay 289 = .ok (.return_, 1) := by decide +kernel
theorem dX9_isAhead_0 : decode cX9_isAhead 0 = .ok (.iconst 2, 1) := by decide +kernel
theorem dX9_isAhead_1 : decode cX9_isAhead 1 = .ok (.aload_n 0, 1) := by decide +kernel
theorem dX9_isAhead_2 : decode cX9_isAhead 2 = .ok (.getfield 45, 3) := by decide +kernel
theorem dX9_isAhead_5 : decode cX9_isAhead 5 = .ok (.iload_n 2, 1) := by decide +kernel
theorem dX9_isAhead_6 : decode cX9_isAhead 6 = .ok (.iaload, 1) := by decide +kernel
theorem dX9_isAhead_7 : decode cX9_isAhead 7 = .ok (.imul, 1) := by decide +kernel
theorem dX9_isAhead_8 : decode cX9_isAhead 8 = .ok (.iconst 1, 1) := by decide +kernel
theorem dX9_isAhead_9 : decode cX9_isAhead 9 = .ok (.iadd, 1) := by decide +kernel
theorem dX9_isAhead_10 : decode cX9_isAhead 10 = .ok (.aload_n 0, 1) := by decide +kernel
theorem dX9_isAhead_11 : decode cX9_isAhead 11 = .ok (.getfield 19, 3) := by decide +kernel
theorem dX9_isAhead_14 : decode cX9_isAhead 14 = .ok (.sipush 256, 3) := by decide +kernel
theorem dX9_isAhead_17 : decode cX9_isAhead 17 = .ok (.iload_n 1, 1) := by decide +kernel
theorem dX9_isAhead_18 : decode cX9_isAhead 18 = .ok (.imul, 1) := by decide +kernel
theorem dX9_isAhead_19 : decode cX9_isAhead 19 = .ok (.iload_n 3, 1) := by decide +kernel
theorem dX9_isAhead_20 : decode cX9_isAhead 20 = .ok (.iadd, 1) := by decide +kernel
theorem dX9_isAhead_21 : decode cX9_isAhead 21 = .ok (.iaload, 1) := by decide +kernel
theorem dX9_isAhead_22 : decode cX9_isAhead 22 = .ok (.imul, 1) := by decide +kernel
theorem dX9_isAhead_23 : decode cX9_isAhead 23 = .ok (.istore 4, 2) := by decide +kernel
theorem dX9_isAhead_25 : decode cX9_isAhead 25 = .ok (.iconst 2, 1) := by decide +kernel
theorem dX9_isAhead_26 : decode cX9_isAhead 26 = .ok (.aload_n 0, 1) := by decide +kernel
theorem dX9_isAhead_27 : decode cX9_isAhead 27 = .ok (.getfield 45, 3) := by decide +kernel
theorem dX9_isAhead_30 : decode cX9_isAhead 30 = .ok (.iload_n 3, 1) := by decide +kernel
theorem dX9_isAhead_31 : decode cX9_isAhead 31 = .ok (.iaload, 1) := by decide +kernel
theorem dX9_isAhead_32 : decode cX9_isAhead 32 = .ok (.imul, 1) := by decide +kernel
theorem dX9_isAhead_33 : decode cX9_isAhead 33 = .ok (.iconst 1, 1) := by decide +kernel
theorem dX9_isAhead_34 : decode cX9_isAhead 34 = .ok (.iadd, 1) := by decide +kernel
theorem dX9_isAhead_35 : decode cX9_isAhead 35 = .ok (.aload_n 0, 1) := by decide +kernel
theorem dX9_isAhead_36 : decode cX9_isAhead 36 = .ok (.getfield 19, 3) := by decide +kernel
theorem dX9_isAhead_39 : decode cX9_isAhead 39 = .ok (.sipush 256, 3) := by decide +kernel
theorem dX9_isAhead_42 : decode cX9_isAhead 42 = .ok (.iload_n 1, 1) := by decide +kernel
theorem dX9_isAhead_43 : decode cX9_isAhead 43 = .ok (.imul, 1) := by decide +kernel
theorem dX9_isAhead_44 : decode cX9_isAhead 44 = .ok (.iload_n 2, 1) := by decide +kernel
theorem dX9_isAhead_45 : decode cX9_isAhead 45 = .ok (.iadd, 1) := by decide +kernel
theorem dX9_isAhead_46 : decode cX9_isAhead 46 = .ok (.iaload, 1) := by decide +kernel
theorem dX9_isAhead_47 : decode cX9_isAhead 47 = .ok (.imul, 1) := by decide +kernel
theorem dX9_isAhead_48 : decode cX9_isAhead 48 = .ok (.istore 5, 2) := by decide +kernel
theorem dX9_isAhead_50 : decode cX9_isAhead 50 = .ok (.iload 4, 2) := by decide +kernel
theorem dX9_isAhead_52 : decode cX9_isAhead 52 = .ok (.iload 5, 2) := by decide +kernel
theorem dX9_isAhead_54 : decode cX9_isAhead 54 = .ok (.if_icmp .lt 15, 3) := by decide +kernel
theorem dX9_isAhead_57 : decode cX9_isAhead 57 = .ok (.iload 4, 2) := by decide +kernel
theorem dX9_isAhead_59 : decode cX9_isAhead 59 = .ok (.iload 5, 2) := by decide +kernel
theorem dX9_isAhead_61 : decode cX9_isAhead 61 = .ok (.if_icmp .ne 12, 3) := by decide +kernel
theorem dX9_isAhead_64 : decode cX9_isAhead 64 = .ok (.iload_n 2, 1) := by decide +kernel
theorem dX9_isAhead_65 : decode cX9_isAhead 65 = .ok (.iload_n 3, 1) := by decide +kernel
theorem dX9_isAhead_66 : decode cX9_isAhead 66 = .ok (.if_icmp .ge 7, 3) := by decide +kernel
theorem dX9_isAhead_69 : decode cX9_isAhead 69 = .ok (.iconst 1, 1) := by decide +kernel
theorem dX9_isAhead_70 : decode cX9_isAhead 70 = .ok (.goto 4, 3) := by decide +kernel
theorem dX9_isAhead_73 : decode cX9_isAhead 73 = .ok (.iconst 0, 1) := by decide +kernel
theorem dX9_isAhead_74 : decode cX9_isAhead 74 = .ok (.ireturn, 1) := by decide +kernel
theorem dX9_sink_0 : decode cX9_sink 0 = .ok (.iload_n 2, 1) := by decide +kernel
theorem dX9_sink_1 : decode cX9_sink 1 = .ok (.istore_n 3, 1) := by decide +kernel
theorem dX9_sink_2 : decode cX9_sink 2 = .ok (.iconst 2, 1) := by decide +kernel
theorem dX9_sink_3 : decode cX9_sink 3 = .ok (.iload_n 3, 1) := by decide +kernel
theorem dX9_sink_4 : decode cX9_sink 4 = .ok (.imul, 1) := by decide +kernel
theorem dX9_sink_5 : decode cX9_sink 5 = .ok (.iconst 1, 1) := by decide +kernel
theorem dX9_sink_6 : decode cX9_sink 6 = .ok (.iadd, 1) := by decide +kernel
theorem dX9_sink_7 : decode cX9_sink 7 = .ok (.aload_n 0, 1) := by decide +kernel
theorem dX9_sink_8 : decode cX9_sink 8 = .ok (.getfield 92, 3) := by decide +kernel
theorem dX9_sink_11 : decode cX9_sink 11 = .ok (.if_icmp .ge 106, 3) := by decide +kernel
theorem dX9_sink_14 : decode cX9_sink 14 = .ok (.iconst 2, 1) := by decide +kernel
theorem dX9_sink_15 : decode cX9_sink 15 = .ok (.iload_n 3, 1) := by decide +kernel
theorem dX9_sink_16 : decode cX9_sink 16 = .ok (.imul, 1) := by decide +kernel
theorem dX9_sink_17 : decode cX9_sink 17 = .ok (.iconst 1, 1) := by decide +kernel
theorem dX9_sink_18 : decode cX9_sink 18 = .ok (.iadd, 1) := by decide +kernel
theorem dX9_sink_19 : decode cX9_sink 19 = .ok (.istore 4, 2) := by decide +kernel
theorem dX9_sink_21 : decode cX9_sink 21 = .ok (.iload 4, 2) := by decide +kernel
theorem dX9_sink_23 : decode cX9_sink 23 = .ok (.iconst 1, 1) := by decide +kernel
theorem dX9_sink_24 : decode cX9_sink 24 = .ok (.iadd, 1) := by decide +kernel
theorem dX9_sink_25 : decode cX9_sink 25 = .ok (.aload_n 0, 1) := by decide +kernel
theorem dX9_sink_26 : decode cX9_sink 26 = .ok (.getfield 92, 3) := by decide +kernel
theorem dX9_sink_29 : decode cX9_sink 29 = .ok (.if_icmp .ge 30, 3) := by decide +kernel
theorem dX9_sink_32 : decode cX9_sink 32 = .ok (.aload_n 0, 1) := by decide +kernel
theorem dX9_sink_33 : decode cX9_sink 33 = .ok (.iload_n 1, 1) := by decide +kernel
theorem dX9_sink_34 : decode cX9_sink 34 = .ok (.aload_n 0, 1) := by decide +kernel
theorem dX9_sink_35 : decode cX9_sink 35 = .ok (.getfield 42, 3) := by decide +kernel
theorem dX9_sink_38 : decode cX9_sink 38 = .ok (.iload 4, 2) := by decide +kernel
theorem dX9_sink_40 : decode cX9_sink 40 = .ok (.iconst 1, 1) := by decide +kernel
theorem dX9_sink_41 : decode cX9_sink 41 = .ok (.iadd, 1) := by decide +kernel
theorem dX9_sink_42 : decode cX9_sink 42 = .ok (.iaload, 1) := by decide +kernel
theorem dX9_sink_43 : decode cX9_sink 43 = .ok (.aload_n 0, 1) := by decide +kernel
theorem dX9_sink_44 : decode cX9_sink 44 = .ok (.getfield 42, 3) := by decide +kernel
theorem dX9_sink_47 : decode cX9_sink 47 = .ok (.iload 4, 2) := by decide +kernel
theorem dX9_sink_49 : decode cX9_sink 49 = .ok (.iaload, 1) := by decide +kernel
theorem dX9_sink_50 : decode cX9_sink 50 = .ok (.invokevirtual 95, 3) := by decide +kernel
theorem dX9_sink_53 : decode cX9_sink 53 = .ok (.ifCond .eq 6, 3) := by decide +kernel
theorem dX9_sink_56 : decode cX9_sink 56 = .ok (.iinc 4 1, 3) := by decide +kernel
theorem dX9_sink_59 : decode cX9_sink 59 = .ok (.aload_n 0, 1) := by decide +kernel
theorem dX9_sink_60 : decode cX9_sink 60 = .ok (.iload_n 1, 1) := by decide +kernel
theorem dX9_sink_61 : decode cX9_sink 61 = .ok (.aload_n 0, 1) := by decide +kernel
theorem dX9_sink_62 : decode cX9_sink 62 = .ok (.getfield 42, 3) := by decide +kernel
theorem dX9_sink_65 : decode cX9_sink 65 = .ok (.iload 4, 2) := by decide +kernel
theorem dX9_sink_67 : decode cX9_sink 67 = .ok (.iaload, 1) := by decide +kernel
theorem dX9_sink_68 : decode cX9_sink 68 = .ok (.aload_n 0, 1) := by decide +kernel
theorem dX9_sink_69 : decode cX9_sink 69 = .ok (.getfield 42, 3) := by decide +kernel
theorem dX9_sink_72 : decode cX9_sink 72 = .ok (.iload_n 3, 1) := by decide +kernel
theorem dX9_sink_73 : decode cX9_sink 73 = .ok (.iaload, 1) := by decide +kernel
theorem dX9_sink_74 : decode cX9_sink 74 = .ok (.invokevirtual 95, 3) := by decide +kernel
theorem dX9_sink_77 : decode cX9_sink 77 = .ok (.ifCond .ne 4, 3) := by decide +kernel
theorem dX9_sink_80 : decode cX9_sink 80 = .ok (.return_, 1) := by decide +kernel
theorem dX9_sink_81 : decode cX9_sink 81 = .ok (.aload_n 0, 1) := by decide +kernel
theorem dX9_sink_82 : decode cX9_sink 82 = .ok (.getfield 42, 3) := by decide +kernel
theorem dX9_sink_85 : decode cX9_sink 85 = .ok (.iload 4, 2) := by decide +kernel
theorem dX9_sink_87 : decode cX9_sink 87 = .ok (.iaload, 1) := by decide +kernel
theorem dX9_sink_88 : decode cX9_sink 88 = .ok (.istore 5, 2) := by decide +kernel
theorem dX9_sink_90 : decode cX9_sink 90 = .ok (.aload_n 0, 1) := by decide +kernel
theorem dX9_sink_91 : decode cX9_sink 91 = .ok (.getfield 42, 3) := by decide +kernel
theorem dX9_sink_94 : decode cX9_sink 94 = .ok (.iload 4, 2) := by decide +kernel
theorem dX9_sink_96 : decode cX9_sink 96 = .ok (.aload_n 0, 1) := by decide +kernel
theorem dX9_sink_97 : decode cX9_sink 97 = .ok (.getfield 42, 3) := by decide +kernel
theorem dX9_sink_100 : decode cX9_sink 100 = .ok (.iload_n 3, 1) := by decide +kernel
theorem dX9_sink_101 : decode cX9_sink 101 = .ok (.iaload, 1) := by decide +kernel
theorem dX9_sink_102 : decode cX9_sink 102 = .ok (.iastore, 1) := by decide +kernel
theorem dX9_sink_103 : decode cX9_sink 103 = .ok (.aload_n 0, 1) := by decide +kernel
theorem dX9_sink_104 : decode cX9_sink 104 = .ok (.getfield 42, 3) := by decide +kernel
theorem dX9_sink_107 : decode cX9_sink 107 = .ok (.iload_n 3, 1) := by decide +kernel
theorem dX9_sink_108 : decode cX9_sink 108 = .ok (.iload 5, 2) := by decide +kernel
theorem dX9_sink_110 : decode cX9_sink 110 = .ok (.iastore, 1) := by decide +kernel
theorem dX9_sink_111 : decode cX9_sink 111 = .ok (.iload 4, 2) := by decide +kernel
theorem dX9_sink_113 : decode cX9_sink 113 = .ok (.istore_n 3, 1) := by decide +kernel
theorem dX9_sink_114 : decode cX9_sink 114 = .ok (.goto (-112), 3) := by decide +kernel
theorem dX9_sink_117 : decode cX9_sink 117 = .ok (.return_, 1) := by decide +kernel
theorem dX9_even_0 : decode cX9_even 0 = .ok (.aload_n 0, 1) := by decide +kernel
theorem dX9_even_1 : decode cX9_even 1 = .ok (.iconst 0, 1) := by decide +kernel
theorem dX9_even_2 : decode cX9_even 2 = .ok (.putfield 92, 3) := by decide +kernel
theorem dX9_even_5 : decode cX9_even 5 = .ok (.iconst 0, 1) := by decide +kernel
theorem dX9_even_6 : decode cX9_even 6 = .ok (.istore 4, 2) := by decide +kernel
theorem dX9_even_8 : decode cX9_even 8 = .ok (.iload 4, 2) := by decide +kernel
theorem dX9_even_10 : decode cX9_even 10 = .ok (.sipush 256, 3) := by decide +kernel
theorem dX9_even_13 : decode cX9_even 13 = .ok (.if_icmp .ge 54, 3) := by decide +kernel
theorem dX9_even_16 : decode cX9_even 16 = .ok (.aload_n 0, 1) := by decide +kernel
theorem dX9_even_17 : decode cX9_even 17 = .ok (.getfield 45, 3) := by decide +kernel
theorem dX9_even_20 : decode cX9_even 20 = .ok (.iload 4, 2) := by decide +kernel
theorem dX9_even_22 : decode cX9_even 22 = .ok (.iconst 0, 1) := by decide +kernel
theorem dX9_even_23 : decode cX9_even 23 = .ok (.iastore, 1) := by decide +kernel
theorem dX9_even_24 : decode cX9_even 24 = .ok (.aload_n 0, 1) := by decide +kernel
theorem dX9_even_25 : decode cX9_even 25 = .ok (.getfield 19, 3) := by decide +kernel
theorem dX9_even_28 : decode cX9_even 28 = .ok (.sipush 256, 3) := by decide +kernel
theorem dX9_even_31 : decode cX9_even 31 = .ok (.iload_n 1, 1) := by decide +kernel
theorem dX9_even_32 : decode cX9_even 32 = .ok (.imul, 1) := by decide +kernel
theorem dX9_even_33 : decode cX9_even 33 = .ok (.iload 4, 2) := by decide +kernel
theorem dX9_even_35 : decode cX9_even 35 = .ok (.iadd, 1) := by decide +kernel
theorem dX9_even_36 : decode cX9_even 36 = .ok (.iaload, 1) := by decide +kernel
theorem dX9_even_37 : decode cX9_even 37 = .ok (.ifCond .le 24, 3) := by decide +kernel
theorem dX9_even_40 : decode cX9_even 40 = .ok (.aload_n 0, 1) := by decide +kernel
theorem dX9_even_41 : decode cX9_even 41 = .ok (.getfield 42, 3) := by decide +kernel
theorem dX9_even_44 : decode cX9_even 44 = .ok (.aload_n 0, 1) := by decide +kernel
theorem dX9_even_45 : decode cX9_even 45 = .ok (.getfield 92, 3) := by decide +kernel
theorem dX9_even_48 : decode cX9_even 48 = .ok (.iload 4, 2) := by decide +kernel
theorem dX9_even_50 : decode cX9_even 50 = .ok (.iastore, 1) := by decide +kernel
theorem dX9_even_51 : decode cX9_even 51 = .ok (.aload_n 0, 1) := by decide +kernel
theorem dX9_even_52 : decode cX9_even 52 = .ok (.dup, 1) := by decide +kernel
theorem dX9_even_53 : decode cX9_even 53 = .ok (.getfield 92, 3) := by decide +kernel
theorem dX9_even_56 : decode cX9_even 56 = .ok (.iconst 1, 1) := by decide +kernel
theorem dX9_even_57 : decode cX9_even 57 = .ok (.iadd, 1) := by decide +kernel
theorem dX9_even_58 : decode cX9_even 58 = .ok (.putfield 92, 3) := by decide +kernel
theorem dX9_even_61 : decode cX9_even 61 = .ok (.iinc 4 1, 3) := by decide +kernel
theorem dX9_even_64 : decode cX9_even 64 = .ok (.goto (-56), 3) := by decide +kernel
theorem dX9_even_67 : decode cX9_even 67 = .ok (.aload_n 0, 1) := by decide +kernel
theorem dX9_even_68 : decode cX9_even 68 = .ok (.getfield 92, 3) := by decide +kernel
theorem dX9_even_71 : decode cX9_even 71 = .ok (.iconst 2, 1) := by decide +kernel
theorem dX9_even_72 : decode cX9_even 72 = .ok (.idiv, 1) := by decide +kernel
theorem dX9_even_73 : decode cX9_even 73 = .ok (.istore 4, 2) := by decide +kernel
theorem dX9_even_75 : decode cX9_even 75 = .ok (.iload 4, 2) := by decide +kernel
theorem dX9_even_77 : decode cX9_even 77 = .ok (.ifCond .lt 16, 3) := by decide +kernel
theorem dX9_even_80 : decode cX9_even 80 = .ok (.aload_n 0, 1) := by decide +kernel
theorem dX9_even_81 : decode cX9_even 81 = .ok (.iload_n 1, 1) := by decide +kernel
theorem dX9_even_82 : decode cX9_even 82 = .ok (.iload 4, 2) := by decide +kernel
theorem dX9_even_84 : decode cX9_even 84 = .ok (.invokevirtual 99, 3) := by decide +kernel
theorem dX9_even_87 : decode cX9_even 87 = .ok (.iinc 4 (-1), 3) := by decide +kernel
theorem dX9_even_90 : decode cX9_even 90 = .ok (.goto (-15), 3) := by decide +kernel
theorem dX9_even_93 : decode cX9_even 93 = .ok (.iconst 0, 1) := by decide +kernel
theorem dX9_even_94 : decode cX9_even 94 = .ok (.istore 4, 2) := by decide +kernel
theorem dX9_even_96 : decode cX9_even 96 = .ok (.iload 4, 2) := by decide +kernel
theorem dX9_even_98 : decode cX9_even 98 = .ok (.iload_n 3, 1) := by decide +kernel
theorem dX9_even_99 : decode cX9_even 99 = .ok (.if_icmp .ge 93, 3) := by decide +kernel
theorem dX9_even_102 : decode cX9_even 102 = .ok (.aload_n 0, 1) := by decide +kernel
theorem dX9_even_103 : decode cX9_even 103 = .ok (.getfield 42, 3) := by decide +kernel
theorem dX9_even_106 : decode cX9_even 106 = .ok (.iconst 0, 1) := by decide +kernel
theorem dX9_even_107 : decode cX9_even 107 = .ok (.iaload, 1) := by decide +kernel
theorem dX9_even_108 : decode cX9_even 108 = .ok (.istore 5, 2) := by decide +kernel
theorem dX9_even_110 : decode cX9_even 110 = .ok (.aload_n 0, 1) := by decide +kernel
theorem dX9_even_111 : decode cX9_even 111 = .ok (.getfield 30, 3) := by decide +kernel
theorem dX9_even_114 : decode cX9_even 114 = .ok (.iload_n 2, 1) := by decide +kernel
theorem dX9_even_115 : decode cX9_even 115 = .ok (.iload 4, 2) := by decide +kernel
theorem dX9_even_117 : decode cX9_even 117 = .ok (.iadd, 1) := by decide +kernel
theorem dX9_even_118 : decode cX9_even 118 = .ok (.iload 5, 2) := by decide +kernel
theorem dX9_even_120 : decode cX9_even 120 = .ok (.iastore, 1) := by decide +kernel
theorem dX9_even_121 : decode cX9_even 121 = .ok (.aload_n 0, 1) := by decide +kernel
theorem dX9_even_122 : decode cX9_even 122 = .ok (.getfield 45, 3) := by decide +kernel
theorem dX9_even_125 : decode cX9_even 125 = .ok (.iload 5, 2) := by decide +kernel
theorem dX9_even_127 : decode cX9_even 127 = .ok (.dup2, 1) := by decide +kernel
theorem dX9_even_128 : decode cX9_even 128 = .ok (.iaload, 1) := by decide +kernel
theorem dX9_even_129 : decode cX9_even 129 = .ok (.iconst 1, 1) := by decide +kernel
theorem dX9_even_130 : decode cX9_even 130 = .ok (.iadd, 1) := by decide +kernel
theorem dX9_even_131 : decode cX9_even 131 = .ok (.iastore, 1) := by decide +kernel
theorem dX9_even_132 : decode cX9_even 132 = .ok (.aload_n 0, 1) := by decide +kernel
theorem dX9_even_133 : decode cX9_even 133 = .ok (.getfield 45, 3) := by decide +kernel
theorem dX9_even_136 : decode cX9_even 136 = .ok (.iload 5, 2) := by decide +kernel
theorem dX9_even_138 : decode cX9_even 138 = .ok (.iaload, 1) := by decide +kernel
theorem dX9_even_139 : decode cX9_even 139 = .ok (.aload_n 0, 1) := by decide +kernel
theorem dX9_even_140 : decode cX9_even 140 = .ok (.getfield 19, 3) := by decide +kernel
theorem dX9_even_143 : decode cX9_even 143 = .ok (.sipush 256, 3) := by decide +kernel
theorem dX9_even_146 : decode cX9_even 146 = .ok (.iload_n 1, 1) := by decide +kernel
theorem dX9_even_147 : decode cX9_even 147 = .ok (.imul, 1) := by decide +kernel
theorem dX9_even_148 : decode cX9_even 148 = .ok (.iload 5, 2) := by decide +kernel
theorem dX9_even_150 : decode cX9_even 150 = .ok (.iadd, 1) := by decide +kernel
theorem dX9_even_151 : decode cX9_even 151 = .ok (.iaload, 1) := by decide +kernel
theorem dX9_even_152 : decode cX9_even 152 = .ok (.if_icmp .ne 28, 3) := by decide +kernel
theorem dX9_even_155 : decode cX9_even 155 = .ok (.aload_n 0, 1) := by decide +kernel
theorem dX9_even_156 : decode cX9_even 156 = .ok (.dup, 1) := by decide +kernel
theorem dX9_even_157 : decode cX9_even 157 = .ok (.getfield 92, 3) := by decide +kernel
theorem dX9_even_160 : decode cX9_even 160 = .ok (.iconst 1, 1) := by decide +kernel
theorem dX9_even_161 : decode cX9_even 161 = .ok (.isub, 1) := by decide +kernel
theorem dX9_even_162 : decode cX9_even 162 = .ok (.putfield 92, 3) := by decide +kernel
theorem dX9_even_165 : decode cX9_even 165 = .ok (.aload_n 0, 1) := by decide +kernel
theorem dX9_even_166 : decode cX9_even 166 = .ok (.getfield 42, 3) := by decide +kernel
theorem dX9_even_169 : decode cX9_even 169 = .ok (.iconst 0, 1) := by decide +kernel
theorem dX9_even_170 : decode cX9_even 170 = .ok (.aload_n 0, 1) := by decide +kernel
theorem dX9_even_171 : decode cX9_even 171 = .ok (.getfield 42, 3) := by decide +kernel
theorem dX9_even_174 : decode cX9_even 174 = .ok (.aload_n 0, 1) := by decide +kernel
theorem dX9_even_175 : decode cX9_even 175 = .ok (.getfield 92, 3) := by decide +kernel
theorem dX9_even_178 : decode cX9_even 178 = .ok (.iaload, 1) := by decide +kernel
theorem dX9_even_179 : decode cX9_even 179 = .ok (.iastore, 1) := by decide +kernel
theorem dX9_even_180 : decode cX9_even 180 = .ok (.aload_n 0, 1) := by decide +kernel
theorem dX9_even_181 : decode cX9_even 181 = .ok (.iload_n 1, 1) := by decide +kernel
theorem dX9_even_182 : decode cX9_even 182 = .ok (.iconst 0, 1) := by decide +kernel
theorem dX9_even_183 : decode cX9_even 183 = .ok (.invokevirtual 99, 3) := by decide +kernel
theorem dX9_even_186 : decode cX9_even 186 = .ok (.iinc 4 1, 3) := by decide +kernel
theorem dX9_even_189 : decode cX9_even 189 = .ok (.goto (-93), 3) := by decide +kernel
theorem dX9_even_192 : decode cX9_even 192 = .ok (.return_, 1) := by decide +kernel
theorem dX9_isPlace_0 : decode cX9_isPlace 0 = .ok (.aload_n 0, 1) := by decide +kernel
theorem dX9_isPlace_1 : decode cX9_isPlace 1 = .ok (.iload_n 1, 1) := by decide +kernel
theorem dX9_isPlace_2 : decode cX9_isPlace 2 = .ok (.invokevirtual 84, 3) := by decide +kernel
theorem dX9_isPlace_5 : decode cX9_isPlace 5 = .ok (.ifCond .eq 32, 3) := by decide +kernel
theorem dX9_isPlace_8 : decode cX9_isPlace 8 = .ok (.iload_n 2, 1) := by decide +kernel
theorem dX9_isPlace_9 : decode cX9_isPlace 9 = .ok (.ifCond .lt 28, 3) := by decide +kernel
theorem dX9_isPlace_12 : decode cX9_isPlace 12 = .ok (.iload_n 2, 1) := by decide +kernel
theorem dX9_isPlace_13 : decode cX9_isPlace 13 = .ok (.iconst 3, 1) := by decide +kernel
theorem dX9_isPlace_14 : decode cX9_isPlace 14 = .ok (.if_icmp .ge 23, 3) := by decide +kernel
theorem dX9_isPlace_17 : decode cX9_isPlace 17 = .ok (.iload_n 3, 1) := by decide +kernel
theorem dX9_isPlace_18 : decode cX9_isPlace 18 = .ok (.ifCond .lt 19, 3) := by decide +kernel
theorem dX9_isPlace_21 : decode cX9_isPlace 21 = .ok (.iload_n 3, 1) := by decide +kernel
theorem dX9_isPlace_22 : decode cX9_isPlace 22 = .ok (.iconst 1, 1) := by decide +kernel
theorem dX9_isPlace_23 : decode cX9_isPlace 23 = .ok (.aload_n 0, 1) := by decide +kernel
theorem dX9_isPlace_24 : decode cX9_isPlace 24 = .ok (.getfield 16, 3) := by decide +kernel
theorem dX9_isPlace_27 : decode cX9_isPlace 27 = .ok (.iload_n 1, 1) := by decide +kernel
theorem dX9_isPlace_28 : decode cX9_isPlace 28 = .ok (.iaload, 1) := by decide +kernel
theorem dX9_isPlace_29 : decode cX9_isPlace 29 = .ok (.ishl, 1) := by decide +kernel
theorem dX9_isPlace_30 : decode cX9_isPlace 30 = .ok (.if_icmp .ge 7, 3) := by decide +kernel
theorem dX9_isPlace_33 : decode cX9_isPlace 33 = .ok (.iconst 1, 1) := by decide +kernel
theorem dX9_isPlace_34 : decode cX9_isPlace 34 = .ok (.goto 4, 3) := by decide +kernel
theorem dX9_isPlace_37 : decode cX9_isPlace 37 = .ok (.iconst 0, 1) := by decide +kernel
theorem dX9_isPlace_38 : decode cX9_isPlace 38 = .ok (.ireturn, 1) := by decide +kernel
theorem dX9_place_0 : decode cX9_place 0 = .ok (.aload_n 0, 1) := by decide +kernel
theorem dX9_place_1 : decode cX9_place 1 = .ok (.iload_n 1, 1) := by decide +kernel
theorem dX9_place_2 : decode cX9_place 2 = .ok (.iload_n 2, 1) := by decide +kernel
theorem dX9_place_3 : decode cX9_place 3 = .ok (.iload_n 3, 1) := by decide +kernel
theorem dX9_place_4 : decode cX9_place 4 = .ok (.invokevirtual 103, 3) := by decide +kernel
theorem dX9_place_7 : decode cX9_place 7 = .ok (.ifCond .ne 5, 3) := by decide +kernel
theorem dX9_place_10 : decode cX9_place 10 = .ok (.iconst (-1), 1) := by decide +kernel
theorem dX9_place_11 : decode cX9_place 11 = .ok (.ireturn, 1) := by decide +kernel
theorem dX9_place_12 : decode cX9_place 12 = .ok (.aload_n 0, 1) := by decide +kernel
theorem dX9_place_13 : decode cX9_place 13 = .ok (.iload_n 1, 1) := by decide +kernel
theorem dX9_place_14 : decode cX9_place 14 = .ok (.iload_n 2, 1) := by decide +kernel
theorem dX9_place_15 : decode cX9_place 15 = .ok (.invokevirtual 106, 3) := by decide +kernel
theorem dX9_place_18 : decode cX9_place 18 = .ok (.aload_n 0, 1) := by decide +kernel
theorem dX9_place_19 : decode cX9_place 19 = .ok (.getfield 30, 3) := by decide +kernel
theorem dX9_place_22 : decode cX9_place 22 = .ok (.sipush 4096, 3) := by decide +kernel
theorem dX9_place_25 : decode cX9_place 25 = .ok (.iconst 3, 1) := by decide +kernel
theorem dX9_place_26 : decode cX9_place 26 = .ok (.iload_n 1, 1) := by decide +kernel
theorem dX9_place_27 : decode cX9_place 27 = .ok (.imul, 1) := by decide +kernel
theorem dX9_place_28 : decode cX9_place 28 = .ok (.iload_n 2, 1) := by decide +kernel
theorem dX9_place_29 : decode cX9_place 29 = .ok (.iadd, 1) := by decide +kernel
theorem dX9_place_30 : decode cX9_place 30 = .ok (.imul, 1) := by decide +kernel
theorem dX9_place_31 : decode cX9_place 31 = .ok (.iload_n 3, 1) := by decide +kernel
theorem dX9_place_32 : decode cX9_place 32 = .ok (.iadd, 1) := by decide +kernel
theorem dX9_place_33 : decode cX9_place 33 = .ok (.iaload, 1) := by decide +kernel
theorem dX9_place_34 : decode cX9_place 34 = .ok (.ireturn, 1) := by decide +kernel
theorem dX9_rank_0 : decode cX9_rank 0 = .ok (.aload_n 0, 1) := by decide +kernel
theorem dX9_rank_1 : decode cX9_rank 1 = .ok (.iload_n 1, 1) := by decide +kernel
theorem dX9_rank_2 : decode cX9_rank 2 = .ok (.iload_n 2, 1) := by decide +kernel
theorem dX9_rank_3 : decode cX9_rank 3 = .ok (.iload_n 3, 1) := by decide +kernel
theorem dX9_rank_4 : decode cX9_rank 4 = .ok (.invokevirtual 103, 3) := by decide +kernel
theorem dX9_rank_7 : decode cX9_rank 7 = .ok (.ifCond .ne 5, 3) := by decide +kernel
theorem dX9_rank_10 : decode cX9_rank 10 = .ok (.iconst (-1), 1) := by decide +kernel
theorem dX9_rank_11 : decode cX9_rank 11 = .ok (.ireturn, 1) := by decide +kernel
theorem dX9_rank_12 : decode cX9_rank 12 = .ok (.aload_n 0, 1) := by decide +kernel
theorem dX9_rank_13 : decode cX9_rank 13 = .ok (.iload_n 1, 1) := by decide +kernel
theorem dX9_rank_14 : decode cX9_rank 14 = .ok (.iload_n 2, 1) := by decide +kernel
theorem dX9_rank_15 : decode cX9_rank 15 = .ok (.invokevirtual 106, 3) := by decide +kernel
theorem dX9_rank_18 : decode cX9_rank 18 = .ok (.aload_n 0, 1) := by decide +kernel
theorem dX9_rank_19 : decode cX9_rank 19 = .ok (.getfield 33, 3) := by decide +kernel
theorem dX9_rank_22 : decode cX9_rank 22 = .ok (.sipush 4096, 3) := by decide +kernel
theorem dX9_rank_25 : decode cX9_rank 25 = .ok (.iconst 3, 1) := by decide +kernel
theorem dX9_rank_26 : decode cX9_rank 26 = .ok (.iload_n 1, 1) := by decide +kernel
theorem dX9_rank_27 : decode cX9_rank 27 = .ok (.imul, 1) := by decide +kernel
theorem dX9_rank_28 : decode cX9_rank 28 = .ok (.iload_n 2, 1) := by decide +kernel
theorem dX9_rank_29 : decode cX9_rank 29 = .ok (.iadd, 1) := by decide +kernel
theorem dX9_rank_30 : decode cX9_rank 30 = .ok (.imul, 1) := by decide +kernel
theorem dX9_rank_31 : decode cX9_rank 31 = .ok (.iload_n 3, 1) := by decide +kernel
theorem dX9_rank_32 : decode cX9_rank 32 = .ok (.iadd, 1) := by decide +kernel
theorem dX9_rank_33 : decode cX9_rank 33 = .ok (.iaload, 1) := by decide +kernel
theorem dX9_rank_34 : decode cX9_rank 34 = .ok (.ireturn, 1) := by decide +kernel
theorem dX9_isWay_0 : decode cX9_isWay 0 = .ok (.iload_n 0, 1) := by decide +kernel
theorem dX9_isWay_1 : decode cX9_isWay 1 = .ok (.ifCond .ne 20, 3) := by decide +kernel
theorem dX9_isWay_4 : decode cX9_isWay 4 = .ok (.iload_n 1, 1) := by decide +kernel
theorem dX9_isWay_5 : decode cX9_isWay 5 = .ok (.ifCond .lt 12, 3) := by decide +kernel
theorem dX9_isWay_8 : decode cX9_isWay 8 = .ok (.iload_n 1, 1) := by decide +kernel
theorem dX9_isWay_9 : decode cX9_isWay 9 = .ok (.iconst 3, 1) := by decide +kernel
theorem dX9_isWay_10 : decode cX9_isWay 10 = .ok (.if_icmp .ge 7, 3) := by decide +kernel
theorem dX9_isWay_13 : decode cX9_isWay 13 = .ok (.iconst 1, 1) := by decide +kernel
theorem dX9_isWay_14 : decode cX9_isWay 14 = .ok (.goto 26, 3) := by decide +kernel
theorem dX9_isWay_17 : decode cX9_isWay 17 = .ok (.iconst 0, 1) := by decide +kernel
theorem dX9_isWay_18 : decode cX9_isWay 18 = .ok (.goto 22, 3) := by decide +kernel
theorem dX9_isWay_21 : decode cX9_isWay 21 = .ok (.iload_n 0, 1) := by decide +kernel
theorem dX9_isWay_22 : decode cX9_isWay 22 = .ok (.iconst 1, 1) := by decide +kernel
theorem dX9_isWay_23 : decode cX9_isWay 23 = .ok (.if_icmp .eq 8, 3) := by decide +kernel
theorem dX9_isWay_26 : decode cX9_isWay 26 = .ok (.iload_n 0, 1) := by decide +kernel
theorem dX9_isWay_27 : decode cX9_isWay 27 = .ok (.iconst 2, 1) := by decide +kernel
theorem dX9_isWay_28 : decode cX9_isWay 28 = .ok (.if_icmp .ne 11, 3) := by decide +kernel
theorem dX9_isWay_31 : decode cX9_isWay 31 = .ok (.iload_n 1, 1) := by decide +kernel
theorem dX9_isWay_32 : decode cX9_isWay 32 = .ok (.ifCond .ne 7, 3) := by decide +kernel
theorem dX9_isWay_35 : decode cX9_isWay 35 = .ok (.iconst 1, 1) := by decide +kernel
theorem dX9_isWay_36 : decode cX9_isWay 36 = .ok (.goto 4, 3) := by decide +kernel
theorem dX9_isWay_39 : decode cX9_isWay 39 = .ok (.iconst 0, 1) := by decide +kernel
theorem dX9_isWay_40 : decode cX9_isWay 40 = .ok (.ireturn, 1) := by decide +kernel
theorem dX9_step_0 : decode cX9_step 0 = .ok (.aload_n 0, 1) := by decide +kernel
theorem dX9_step_1 : decode cX9_step 1 = .ok (.getfield 19, 3) := by decide +kernel
theorem dX9_step_4 : decode cX9_step 4 = .ok (.sipush 256, 3) := by decide +kernel
theorem dX9_step_7 : decode cX9_step 7 = .ok (.iload_n 1, 1) := by decide +kernel
theorem dX9_step_8 : decode cX9_step 8 = .ok (.imul, 1) := by decide +kernel
theorem dX9_step_9 : decode cX9_step 9 = .ok (.iload 5, 2) := by decide +kernel
theorem dX9_step_11 : decode cX9_step 11 = .ok (.iadd, 1) := by decide +kernel
theorem dX9_step_12 : decode cX9_step 12 = .ok (.iaload, 1) := by decide +kernel
theorem dX9_step_13 : decode cX9_step 13 = .ok (.istore 6, 2) := by decide +kernel
theorem dX9_step_15 : decode cX9_step 15 = .ok (.aload_n 0, 1) := by decide +kernel
theorem dX9_step_16 : decode cX9_step 16 = .ok (.getfield 16, 3) := by decide +kernel
theorem dX9_step_19 : decode cX9_step 19 = .ok (.iload_n 1, 1) := by decide +kernel
theorem dX9_step_20 : decode cX9_step 20 = .ok (.iaload, 1) := by decide +kernel
theorem dX9_step_21 : decode cX9_step 21 = .ok (.istore 7, 2) := by decide +kernel
theorem dX9_step_23 : decode cX9_step 23 = .ok (.aload_n 0, 1) := by decide +kernel
theorem dX9_step_24 : decode cX9_step 24 = .ok (.iconst 0, 1) := by decide +kernel
theorem dX9_step_25 : decode cX9_step 25 = .ok (.putfield 109, 3) := by decide +kernel
theorem dX9_step_28 : decode cX9_step 28 = .ok (.iload_n 2, 1) := by decide +kernel
theorem dX9_step_29 : decode cX9_step 29 = .ok (.ifCond .ne 98, 3) := by decide +kernel
theorem dX9_step_32 : decode cX9_step 32 = .ok (.iload 4, 2) := by decide +kernel
theorem dX9_step_34 : decode cX9_step 34 = .ok (.aload_n 0, 1) := by decide +kernel
theorem dX9_step_35 : decode cX9_step 35 = .ok (.getfield 109, 3) := by decide +kernel
theorem dX9_step_38 : decode cX9_step 38 = .ok (.ishr, 1) := by decide +kernel
theorem dX9_step_39 : decode cX9_step 39 = .ok (.iconst 2, 1) := by decide +kernel
theorem dX9_step_40 : decode cX9_step 40 = .ok (.iload 6, 2) := by decide +kernel
theorem dX9_step_42 : decode cX9_step 42 = .ok (.imul, 1) := by decide +kernel
theorem dX9_step_43 : decode cX9_step 43 = .ok (.if_icmp .lt 16, 3) := by decide +kernel
theorem dX9_step_46 : decode cX9_step 46 = .ok (.aload_n 0, 1) := by decide +kernel
theorem dX9_step_47 : decode cX9_step 47 = .ok (.dup, 1) := by decide +kernel
theorem dX9_step_48 : decode cX9_step 48 = .ok (.getfield 109, 3) := by decide +kernel
theorem dX9_step_51 : decode cX9_step 51 = .ok (.iconst 1, 1) := by decide +kernel
theorem dX9_step_52 : decode cX9_step 52 = .ok (.iadd, 1) := by decide +kernel
theorem dX9_step_53 : decode cX9_step 53 = .ok (.putfield 109, 3) := by decide +kernel
theorem dX9_step_56 : decode cX9_step 56 = .ok (.goto (-24), 3) := by decide +kernel
theorem dX9_step_59 : decode cX9_step 59 = .ok (.aload_n 0, 1) := by decide +kernel
theorem dX9_step_60 : decode cX9_step 60 = .ok (.iload 4, 2) := by decide +kernel
theorem dX9_step_62 : decode cX9_step 62 = .ok (.iconst 1, 1) := by decide +kernel
theorem dX9_step_63 : decode cX9_step 63 = .ok (.aload_n 0, 1) := by decide +kernel
theorem dX9_step_64 : decode cX9_step 64 = .ok (.getfield 109, 3) := by decide +kernel
theorem dX9_step_67 : decode cX9_step 67 = .ok (.ishl, 1) := by decide +kernel
theorem dX9_step_68 : decode cX9_step 68 = .ok (.iconst 1, 1) := by decide +kernel
theorem dX9_step_69 : decode cX9_step 69 = .ok (.isub, 1) := by decide +kernel
theorem dX9_step_70 : decode cX9_step 70 = .ok (.iand, 1) := by decide +kernel
theorem dX9_step_71 : decode cX9_step 71 = .ok (.putfield 112, 3) := by decide +kernel
theorem dX9_step_74 : decode cX9_step 74 = .ok (.iload 4, 2) := by decide +kernel
theorem dX9_step_76 : decode cX9_step 76 = .ok (.aload_n 0, 1) := by decide +kernel
theorem dX9_step_77 : decode cX9_step 77 = .ok (.getfield 109, 3) := by decide +kernel
theorem dX9_step_80 : decode cX9_step 80 = .ok (.ishr, 1) := by decide +kernel
theorem dX9_step_81 : decode cX9_step 81 = .ok (.istore 8, 2) := by decide +kernel
theorem dX9_step_83 : decode cX9_step 83 = .ok (.aload_n 0, 1) := by decide +kernel
theorem dX9_step_84 : decode cX9_step 84 = .ok (.iconst 1, 1) := by decide +kernel
theorem dX9_step_85 : decode cX9_step 85 = .ok (.iload 7, 2) := by decide +kernel
theorem dX9_step_87 : decode cX9_step 87 = .ok (.ishl, 1) := by decide +kernel
theorem dX9_step_88 : decode cX9_step 88 = .ok (.aload_n 0, 1) := by decide +kernel
theorem dX9_step_89 : decode cX9_step 89 = .ok (.getfield 36, 3) := by decide +kernel
theorem dX9_step_92 : decode cX9_step 92 = .ok (.sipush 4096, 3) := by decide +kernel
theorem dX9_step_95 : decode cX9_step 95 = .ok (.iconst 3, 1) := by decide +kernel
theorem dX9_step_96 : decode cX9_step 96 = .ok (.iload_n 1, 1) := by decide +kernel
theorem dX9_step_97 : decode cX9_step 97 = .ok (.imul, 1) := by decide +kernel
theorem dX9_step_98 : decode cX9_step 98 = .ok (.iload_n 3, 1) := by decide +kernel
theorem dX9_step_99 : decode cX9_step 99 = .ok (.iadd, 1) := by decide +kernel
theorem dX9_step_100 : decode cX9_step 100 = .ok (.imul, 1) := by decide +kernel
theorem dX9_step_101 : decode cX9_step 101 = .ok (.aload_n 0, 1) := by decide +kernel
theorem dX9_step_102 : decode cX9_step 102 = .ok (.getfield 22, 3) := by decide +kernel
theorem dX9_step_105 : decode cX9_step 105 = .ok (.sipush 256, 3) := by decide +kernel
theorem dX9_step_108 : decode cX9_step 108 = .ok (.iload_n 1, 1) := by decide +kernel
theorem dX9_step_109 : decode cX9_step 109 = .ok (.imul, 1) := by decide +kernel
theorem dX9_step_110 : decode cX9_step 110 = .ok (.iload 5, 2) := by decide +kernel
theorem dX9_step_112 : decode cX9_step 112 = .ok (.iadd, 1) := by decide +kernel
theorem dX9_step_113 : decode cX9_step 113 = .ok (.iaload, 1) := by decide +kernel
theorem dX9_step_114 : decode cX9_step 114 = .ok (.iadd, 1) := by decide +kernel
theorem dX9_step_115 : decode cX9_step 115 = .ok (.iload 8, 2) := by decide +kernel
theorem dX9_step_117 : decode cX9_step 117 = .ok (.iadd, 1) := by decide +kernel
theorem dX9_step_118 : decode cX9_step 118 = .ok (.iload 6, 2) := by decide +kernel
theorem dX9_step_120 : decode cX9_step 120 = .ok (.isub, 1) := by decide +kernel
theorem dX9_step_121 : decode cX9_step 121 = .ok (.iaload, 1) := by decide +kernel
theorem dX9_step_122 : decode cX9_step 122 = .ok (.iadd, 1) := by decide +kernel
theorem dX9_step_123 : decode cX9_step 123 = .ok (.putfield 115, 3) := by decide +kernel
theorem dX9_step_126 : decode cX9_step 126 = .ok (.return_, 1) := by decide +kernel
theorem dX9_step_127 : decode cX9_step 127 = .ok (.iload 6, 2) := by decide +kernel
theorem dX9_step_129 : decode cX9_step 129 = .ok (.i2l, 1) := by decide +kernel
theorem dX9_step_130 : decode cX9_step 130 = .ok (.bipush 31, 2) := by decide +kernel
theorem dX9_step_132 : decode cX9_step 132 = .ok (.iload 7, 2) := by decide +kernel
theorem dX9_step_134 : decode cX9_step 134 = .ok (.isub, 1) := by decide +kernel
theorem dX9_step_135 : decode cX9_step 135 = .ok (.lshl, 1) := by decide +kernel
theorem dX9_step_136 : decode cX9_step 136 = .ok (.lstore 8, 2) := by decide +kernel
theorem dX9_step_138 : decode cX9_step 138 = .ok (.iload 4, 2) := by decide +kernel
theorem dX9_step_140 : decode cX9_step 140 = .ok (.istore 10, 2) := by decide +kernel
theorem dX9_step_142 : decode cX9_step 142 = .ok (.iload 10, 2) := by decide +kernel
theorem dX9_step_144 : decode cX9_step 144 = .ok (.i2l, 1) := by decide +kernel
theorem dX9_step_145 : decode cX9_step 145 = .ok (.lload 8, 2) := by decide +kernel
theorem dX9_step_147 : decode cX9_step 147 = .ok (.lcmp, 1) := by decide +kernel
theorem dX9_step_148 : decode cX9_step 148 = .ok (.ifCond .lt 23, 3) := by decide +kernel
theorem dX9_step_151 : decode cX9_step 151 = .ok (.iload 10, 2) := by decide +kernel
theorem dX9_step_153 : decode cX9_step 153 = .ok (.bipush 8, 2) := by decide +kernel
theorem dX9_step_155 : decode cX9_step 155 = .ok (.ishr, 1) := by decide +kernel
theorem dX9_step_156 : decode cX9_step 156 = .ok (.istore 10, 2) := by decide +kernel
theorem dX9_step_158 : decode cX9_step 158 = .ok (.aload_n 0, 1) := by decide +kernel
theorem dX9_step_159 : decode cX9_step 159 = .ok (.dup, 1) := by decide +kernel
theorem dX9_step_160 : decode cX9_step 160 = .ok (.getfield 109, 3) := by decide +kernel
theorem dX9_step_163 : decode cX9_step 163 = .ok (.iconst 1, 1) := by decide +kernel
theorem dX9_step_164 : decode cX9_step 164 = .ok (.iadd, 1) := by decide +kernel
theorem dX9_step_165 : decode cX9_step 165 = .ok (.putfield 109, 3) := by decide +kernel
theorem dX9_step_168 : decode cX9_step 168 = .ok (.goto (-26), 3) := by decide +kernel
theorem dX9_step_171 : decode cX9_step 171 = .ok (.aload_n 0, 1) := by decide +kernel
theorem dX9_step_172 : decode cX9_step 172 = .ok (.iload 4, 2) := by decide +kernel
theorem dX9_step_174 : decode cX9_step 174 = .ok (.iconst 1, 1) := by decide +kernel
theorem dX9_step_175 : decode cX9_step 175 = .ok (.bipush 8, 2) := by decide +kernel
theorem dX9_step_177 : decode cX9_step 177 = .ok (.aload_n 0, 1) := by decide +kernel
theorem dX9_step_178 : decode cX9_step 178 = .ok (.getfield 109, 3) := by decide +kernel
theorem dX9_step_181 : decode cX9_step 181 = .ok (.imul, 1) := by decide +kernel
theorem dX9_step_182 : decode cX9_step 182 = .ok (.ishl, 1) := by decide +kernel
theorem dX9_step_183 : decode cX9_step 183 = .ok (.iconst 1, 1) := by decide +kernel
theorem dX9_step_184 : decode cX9_step 184 = .ok (.isub, 1) := by decide +kernel
theorem dX9_step_185 : decode cX9_step 185 = .ok (.iand, 1) := by decide +kernel
theorem dX9_step_186 : decode cX9_step 186 = .ok (.putfield 112, 3) := by decide +kernel
theorem dX9_step_189 : decode cX9_step 189 = .ok (.aload_n 0, 1) := by decide +kernel
theorem dX9_step_190 : decode cX9_step 190 = .ok (.iload 10, 2) := by decide +kernel
theorem dX9_step_192 : decode cX9_step 192 = .ok (.iload 6, 2) := by decide +kernel
theorem dX9_step_194 : decode cX9_step 194 = .ok (.idiv, 1) := by decide +kernel
theorem dX9_step_195 : decode cX9_step 195 = .ok (.iload 7, 2) := by decide +kernel
theorem dX9_step_197 : decode cX9_step 197 = .ok (.ishl, 1) := by decide +kernel
theorem dX9_step_198 : decode cX9_step 198 = .ok (.iload 10, 2) := by decide +kernel
theorem dX9_step_200 : decode cX9_step 200 = .ok (.iload 6, 2) := by decide +kernel
theorem dX9_step_202 : decode cX9_step 202 = .ok (.irem, 1) := by decide +kernel
theorem dX9_step_203 : decode cX9_step 203 = .ok (.iadd, 1) := by decide +kernel
theorem dX9_step_204 : decode cX9_step 204 = .ok (.aload_n 0, 1) := by decide +kernel
theorem dX9_step_205 : decode cX9_step 205 = .ok (.getfield 22, 3) := by decide +kernel
theorem dX9_step_208 : decode cX9_step 208 = .ok (.sipush 256, 3) := by decide +kernel
theorem dX9_step_211 : decode cX9_step 211 = .ok (.iload_n 1, 1) := by decide +kernel
theorem dX9_step_212 : decode cX9_step 212 = .ok (.imul, 1) := by decide +kernel
theorem dX9_step_213 : decode cX9_step 213 = .ok (.iload 5, 2) := by decide +kernel
theorem dX9_step_215 : decode cX9_step 215 = .ok (.iadd, 1) := by decide +kernel
theorem dX9_step_216 : decode cX9_step 216 = .ok (.iaload, 1) := by decide +kernel
theorem dX9_step_217 : decode cX9_step 217 = .ok (.iadd, 1) := by decide +kernel
theorem dX9_step_218 : decode cX9_step 218 = .ok (.putfield 115, 3) := by decide +kernel
theorem dX9_step_221 : decode cX9_step 221 = .ok (.return_, 1) := by decide +kernel
theorem dX9_told_0 : decode cX9_told 0 = .ok (.iconst 1, 1) := by decide +kernel
theorem dX9_told_1 : decode cX9_told 1 = .ok (.aload_n 0, 1) := by decide +kernel
theorem dX9_told_2 : decode cX9_told 2 = .ok (.getfield 16, 3) := by decide +kernel
theorem dX9_told_5 : decode cX9_told 5 = .ok (.iload_n 1, 1) := by decide +kernel
theorem dX9_told_6 : decode cX9_told 6 = .ok (.iaload, 1) := by decide +kernel
theorem dX9_told_7 : decode cX9_told 7 = .ok (.ishl, 1) := by decide +kernel
theorem dX9_told_8 : decode cX9_told 8 = .ok (.istore 5, 2) := by decide +kernel
theorem dX9_told_10 : decode cX9_told 10 = .ok (.iload_n 2, 1) := by decide +kernel
theorem dX9_told_11 : decode cX9_told 11 = .ok (.ifCond .ne 24, 3) := by decide +kernel
theorem dX9_told_14 : decode cX9_told 14 = .ok (.aload_n 0, 1) := by decide +kernel
theorem dX9_told_15 : decode cX9_told 15 = .ok (.getfield 30, 3) := by decide +kernel
theorem dX9_told_18 : decode cX9_told 18 = .ok (.sipush 4096, 3) := by decide +kernel
theorem dX9_told_21 : decode cX9_told 21 = .ok (.iconst 3, 1) := by decide +kernel
theorem dX9_told_22 : decode cX9_told 22 = .ok (.iload_n 1, 1) := by decide +kernel
theorem dX9_told_23 : decode cX9_told 23 = .ok (.imul, 1) := by decide +kernel
theorem dX9_told_24 : decode cX9_told 24 = .ok (.iload_n 3, 1) := by decide +kernel
theorem dX9_told_25 : decode cX9_told 25 = .ok (.iadd, 1) := by decide +kernel
theorem dX9_told_26 : decode cX9_told 26 = .ok (.imul, 1) := by decide +kernel
theorem dX9_told_27 : decode cX9_told 27 = .ok (.iload 4, 2) := by decide +kernel
theorem dX9_told_29 : decode cX9_told 29 = .ok (.iadd, 1) := by decide +kernel
theorem dX9_told_30 : decode cX9_told 30 = .ok (.iload 5, 2) := by decide +kernel
theorem dX9_told_32 : decode cX9_told 32 = .ok (.isub, 1) := by decide +kernel
theorem dX9_told_33 : decode cX9_told 33 = .ok (.iaload, 1) := by decide +kernel
theorem dX9_told_34 : decode cX9_told 34 = .ok (.ireturn, 1) := by decide +kernel
theorem dX9_told_35 : decode cX9_told 35 = .ok (.iload 4, 2) := by decide +kernel
theorem dX9_told_37 : decode cX9_told 37 = .ok (.iload 5, 2) := by decide +kernel
theorem dX9_told_39 : decode cX9_told 39 = .ok (.iconst 1, 1) := by decide +kernel
theorem dX9_told_40 : decode cX9_told 40 = .ok (.isub, 1) := by decide +kernel
theorem dX9_told_41 : decode cX9_told 41 = .ok (.iand, 1) := by decide +kernel
theorem dX9_told_42 : decode cX9_told 42 = .ok (.istore 6, 2) := by decide +kernel
theorem dX9_told_44 : decode cX9_told 44 = .ok (.iconst 0, 1) := by decide +kernel
theorem dX9_told_45 : decode cX9_told 45 = .ok (.istore 7, 2) := by decide +kernel
theorem dX9_told_47 : decode cX9_told 47 = .ok (.sipush 255, 3) := by decide +kernel
theorem dX9_told_50 : decode cX9_told 50 = .ok (.istore 8, 2) := by decide +kernel
theorem dX9_told_52 : decode cX9_told 52 = .ok (.iload 7, 2) := by decide +kernel
theorem dX9_told_54 : decode cX9_told 54 = .ok (.iload 8, 2) := by decide +kernel
theorem dX9_told_56 : decode cX9_told 56 = .ok (.if_icmp .ge 48, 3) := by decide +kernel
theorem dX9_told_59 : decode cX9_told 59 = .ok (.iload 7, 2) := by decide +kernel
theorem dX9_told_61 : decode cX9_told 61 = .ok (.iload 8, 2) := by decide +kernel
theorem dX9_told_63 : decode cX9_told 63 = .ok (.iadd, 1) := by decide +kernel
theorem dX9_told_64 : decode cX9_told 64 = .ok (.iconst 1, 1) := by decide +kernel
theorem dX9_told_65 : decode cX9_told 65 = .ok (.iadd, 1) := by decide +kernel
theorem dX9_told_66 : decode cX9_told 66 = .ok (.iconst 2, 1) := by decide +kernel
theorem dX9_told_67 : decode cX9_told 67 = .ok (.idiv, 1) := by decide +kernel
theorem dX9_told_68 : decode cX9_told 68 = .ok (.istore 9, 2) := by decide +kernel
theorem dX9_told_70 : decode cX9_told 70 = .ok (.aload_n 0, 1) := by decide +kernel
theorem dX9_told_71 : decode cX9_told 71 = .ok (.getfield 22, 3) := by decide +kernel
theorem dX9_told_74 : decode cX9_told 74 = .ok (.sipush 256, 3) := by decide +kernel
theorem dX9_told_77 : decode cX9_told 77 = .ok (.iload_n 1, 1) := by decide +kernel
theorem dX9_told_78 : decode cX9_told 78 = .ok (.imul, 1) := by decide +kernel
theorem dX9_told_79 : decode cX9_told 79 = .ok (.iload 9, 2) := by decide +kernel
theorem dX9_told_81 : decode cX9_told 81 = .ok (.iadd, 1) := by decide +kernel
theorem dX9_told_82 : decode cX9_told 82 = .ok (.iaload, 1) := by decide +kernel
theorem dX9_told_83 : decode cX9_told 83 = .ok (.iload 6, 2) := by decide +kernel
theorem dX9_told_85 : decode cX9_told 85 = .ok (.if_icmp .gt 10, 3) := by decide +kernel
theorem dX9_told_88 : decode cX9_told 88 = .ok (.iload 9, 2) := by decide +kernel
theorem dX9_told_90 : decode cX9_told 90 = .ok (.istore 7, 2) := by decide +kernel
theorem dX9_told_92 : decode cX9_told 92 = .ok (.goto 9, 3) := by decide +kernel
theorem dX9_told_95 : decode cX9_told 95 = .ok (.iload 9, 2) := by decide +kernel
theorem dX9_told_97 : decode cX9_told 97 = .ok (.iconst 1, 1) := by decide +kernel
theorem dX9_told_98 : decode cX9_told 98 = .ok (.isub, 1) := by decide +kernel
theorem dX9_told_99 : decode cX9_told 99 = .ok (.istore 8, 2) := by decide +kernel
theorem dX9_told_101 : decode cX9_told 101 = .ok (.goto (-49), 3) := by decide +kernel
theorem dX9_told_104 : decode cX9_told 104 = .ok (.aload_n 0, 1) := by decide +kernel
theorem dX9_told_105 : decode cX9_told 105 = .ok (.getfield 19, 3) := by decide +kernel
theorem dX9_told_108 : decode cX9_told 108 = .ok (.sipush 256, 3) := by decide +kernel
theorem dX9_told_111 : decode cX9_told 111 = .ok (.iload_n 1, 1) := by decide +kernel
theorem dX9_told_112 : decode cX9_told 112 = .ok (.imul, 1) := by decide +kernel
theorem dX9_told_113 : decode cX9_told 113 = .ok (.iload 7, 2) := by decide +kernel
theorem dX9_told_115 : decode cX9_told 115 = .ok (.iadd, 1) := by decide +kernel
theorem dX9_told_116 : decode cX9_told 116 = .ok (.iaload, 1) := by decide +kernel
theorem dX9_told_117 : decode cX9_told 117 = .ok (.ifCond .ne 9, 3) := by decide +kernel
theorem dX9_told_120 : decode cX9_told 120 = .ok (.iinc 7 (-1), 3) := by decide +kernel
theorem dX9_told_123 : decode cX9_told 123 = .ok (.goto (-19), 3) := by decide +kernel
theorem dX9_told_126 : decode cX9_told 126 = .ok (.iload 7, 2) := by decide +kernel
theorem dX9_told_128 : decode cX9_told 128 = .ok (.ireturn, 1) := by decide +kernel
theorem dX9_behind_0 : decode cX9_behind 0 = .ok (.iconst 1, 1) := by decide +kernel
theorem dX9_behind_1 : decode cX9_behind 1 = .ok (.aload_n 0, 1) := by decide +kernel
theorem dX9_behind_2 : decode cX9_behind 2 = .ok (.getfield 16, 3) := by decide +kernel
theorem dX9_behind_5 : decode cX9_behind 5 = .ok (.iload_n 1, 1) := by decide +kernel
theorem dX9_behind_6 : decode cX9_behind 6 = .ok (.iaload, 1) := by decide +kernel
theorem dX9_behind_7 : decode cX9_behind 7 = .ok (.ishl, 1) := by decide +kernel
theorem dX9_behind_8 : decode cX9_behind 8 = .ok (.istore 6, 2) := by decide +kernel
theorem dX9_behind_10 : decode cX9_behind 10 = .ok (.iload_n 2, 1) := by decide +kernel
theorem dX9_behind_11 : decode cX9_behind 11 = .ok (.ifCond .ne 24, 3) := by decide +kernel
theorem dX9_behind_14 : decode cX9_behind 14 = .ok (.aload_n 0, 1) := by decide +kernel
theorem dX9_behind_15 : decode cX9_behind 15 = .ok (.getfield 33, 3) := by decide +kernel
theorem dX9_behind_18 : decode cX9_behind 18 = .ok (.sipush 4096, 3) := by decide +kernel
theorem dX9_behind_21 : decode cX9_behind 21 = .ok (.iconst 3, 1) := by decide +kernel
theorem dX9_behind_22 : decode cX9_behind 22 = .ok (.iload_n 1, 1) := by decide +kernel
theorem dX9_behind_23 : decode cX9_behind 23 = .ok (.imul, 1) := by decide +kernel
theorem dX9_behind_24 : decode cX9_behind 24 = .ok (.iload_n 3, 1) := by decide +kernel
theorem dX9_behind_25 : decode cX9_behind 25 = .ok (.iadd, 1) := by decide +kernel
theorem dX9_behind_26 : decode cX9_behind 26 = .ok (.imul, 1) := by decide +kernel
theorem dX9_behind_27 : decode cX9_behind 27 = .ok (.iload 4, 2) := by decide +kernel
theorem dX9_behind_29 : decode cX9_behind 29 = .ok (.iadd, 1) := by decide +kernel
theorem dX9_behind_30 : decode cX9_behind 30 = .ok (.iload 6, 2) := by decide +kernel
theorem dX9_behind_32 : decode cX9_behind 32 = .ok (.isub, 1) := by decide +kernel
theorem dX9_behind_33 : decode cX9_behind 33 = .ok (.iaload, 1) := by decide +kernel
theorem dX9_behind_34 : decode cX9_behind 34 = .ok (.ireturn, 1) := by decide +kernel
theorem dX9_behind_35 : decode cX9_behind 35 = .ok (.aload_n 0, 1) := by decide +kernel
theorem dX9_behind_36 : decode cX9_behind 36 = .ok (.getfield 19, 3) := by decide +kernel
theorem dX9_behind_39 : decode cX9_behind 39 = .ok (.sipush 256, 3) := by decide +kernel
theorem dX9_behind_42 : decode cX9_behind 42 = .ok (.iload_n 1, 1) := by decide +kernel
theorem dX9_behind_43 : decode cX9_behind 43 = .ok (.imul, 1) := by decide +kernel
theorem dX9_behind_44 : decode cX9_behind 44 = .ok (.iload 5, 2) := by decide +kernel
theorem dX9_behind_46 : decode cX9_behind 46 = .ok (.iadd, 1) := by decide +kernel
theorem dX9_behind_47 : decode cX9_behind 47 = .ok (.iaload, 1) := by decide +kernel
theorem dX9_behind_48 : decode cX9_behind 48 = .ok (.iload 4, 2) := by decide +kernel
theorem dX9_behind_50 : decode cX9_behind 50 = .ok (.aload_n 0, 1) := by decide +kernel
theorem dX9_behind_51 : decode cX9_behind 51 = .ok (.getfield 16, 3) := by decide +kernel
theorem dX9_behind_54 : decode cX9_behind 54 = .ok (.iload_n 1, 1) := by decide +kernel
theorem dX9_behind_55 : decode cX9_behind 55 = .ok (.iaload, 1) := by decide +kernel
theorem dX9_behind_56 : decode cX9_behind 56 = .ok (.ishr, 1) := by decide +kernel
theorem dX9_behind_57 : decode cX9_behind 57 = .ok (.imul, 1) := by decide +kernel
theorem dX9_behind_58 : decode cX9_behind 58 = .ok (.iload 4, 2) := by decide +kernel
theorem dX9_behind_60 : decode cX9_behind 60 = .ok (.iload 6, 2) := by decide +kernel
theorem dX9_behind_62 : decode cX9_behind 62 = .ok (.iconst 1, 1) := by decide +kernel
theorem dX9_behind_63 : decode cX9_behind 63 = .ok (.isub, 1) := by decide +kernel
theorem dX9_behind_64 : decode cX9_behind 64 = .ok (.iand, 1) := by decide +kernel
theorem dX9_behind_65 : decode cX9_behind 65 = .ok (.iadd, 1) := by decide +kernel
theorem dX9_behind_66 : decode cX9_behind 66 = .ok (.aload_n 0, 1) := by decide +kernel
theorem dX9_behind_67 : decode cX9_behind 67 = .ok (.getfield 22, 3) := by decide +kernel
theorem dX9_behind_70 : decode cX9_behind 70 = .ok (.sipush 256, 3) := by decide +kernel
theorem dX9_behind_73 : decode cX9_behind 73 = .ok (.iload_n 1, 1) := by decide +kernel
theorem dX9_behind_74 : decode cX9_behind 74 = .ok (.imul, 1) := by decide +kernel
theorem dX9_behind_75 : decode cX9_behind 75 = .ok (.iload 5, 2) := by decide +kernel
theorem dX9_behind_77 : decode cX9_behind 77 = .ok (.iadd, 1) := by decide +kernel
theorem dX9_behind_78 : decode cX9_behind 78 = .ok (.iaload, 1) := by decide +kernel
theorem dX9_behind_79 : decode cX9_behind 79 = .ok (.isub, 1) := by decide +kernel
theorem dX9_behind_80 : decode cX9_behind 80 = .ok (.ireturn, 1) := by decide +kernel
theorem dX9_isState_0 : decode cX9_isState 0 = .ok (.iload_n 2, 1) := by decide +kernel
theorem dX9_isState_1 : decode cX9_isState 1 = .ok (.ifCond .ne 35, 3) := by decide +kernel
theorem dX9_isState_4 : decode cX9_isState 4 = .ok (.iload_n 3, 1) := by decide +kernel
theorem dX9_isState_5 : decode cX9_isState 5 = .ok (.iconst 1, 1) := by decide +kernel
theorem dX9_isState_6 : decode cX9_isState 6 = .ok (.aload_n 0, 1) := by decide +kernel
theorem dX9_isState_7 : decode cX9_isState 7 = .ok (.getfield 16, 3) := by decide +kernel
theorem dX9_isState_10 : decode cX9_isState 10 = .ok (.iload_n 1, 1) := by decide +kernel
theorem dX9_isState_11 : decode cX9_isState 11 = .ok (.iaload, 1) := by decide +kernel
theorem dX9_isState_12 : decode cX9_isState 12 = .ok (.ishl, 1) := by decide +kernel
theorem dX9_isState_13 : decode cX9_isState 13 = .ok (.if_icmp .lt 19, 3) := by decide +kernel
theorem dX9_isState_16 : decode cX9_isState 16 = .ok (.iload_n 3, 1) := by decide +kernel
theorem dX9_isState_17 : decode cX9_isState 17 = .ok (.iconst 2, 1) := by decide +kernel
theorem dX9_isState_18 : decode cX9_isState 18 = .ok (.aload_n 0, 1) := by decide +kernel
theorem dX9_isState_19 : decode cX9_isState 19 = .ok (.getfield 16, 3) := by decide +kernel
theorem dX9_isState_22 : decode cX9_isState 22 = .ok (.iload_n 1, 1) := by decide +kernel
theorem dX9_isState_23 : decode cX9_isState 23 = .ok (.iaload, 1) := by decide +kernel
theorem dX9_isState_24 : decode cX9_isState 24 = .ok (.ishl, 1) := by decide +kernel
theorem dX9_isState_25 : decode cX9_isState 25 = .ok (.if_icmp .ge 7, 3) := by decide +kernel
theorem dX9_isState_28 : decode cX9_isState 28 = .ok (.iconst 1, 1) := by decide +kernel
theorem dX9_isState_29 : decode cX9_isState 29 = .ok (.goto 18, 3) := by decide +kernel
theorem dX9_isState_32 : decode cX9_isState 32 = .ok (.iconst 0, 1) := by decide +kernel
theorem dX9_isState_33 : decode cX9_isState 33 = .ok (.goto 14, 3) := by decide +kernel
theorem dX9_isState_36 : decode cX9_isState 36 = .ok (.iload_n 3, 1) := by decide +kernel
theorem dX9_isState_37 : decode cX9_isState 37 = .ok (.ldc 118, 2) := by decide +kernel
theorem dX9_isState_39 : decode cX9_isState 39 = .ok (.if_icmp .lt 7, 3) := by decide +kernel
theorem dX9_isState_42 : decode cX9_isState 42 = .ok (.iconst 1, 1) := by decide +kernel
theorem dX9_isState_43 : decode cX9_isState 43 = .ok (.goto 4, 3) := by decide +kernel
theorem dX9_isState_46 : decode cX9_isState 46 = .ok (.iconst 0, 1) := by decide +kernel
theorem dX9_isState_47 : decode cX9_isState 47 = .ok (.ireturn, 1) := by decide +kernel
theorem dX9_isAsked_0 : decode cX9_isAsked 0 = .ok (.aload_n 0, 1) := by decide +kernel
theorem dX9_isAsked_1 : decode cX9_isAsked 1 = .ok (.iload_n 1, 1) := by decide +kernel
theorem dX9_isAsked_2 : decode cX9_isAsked 2 = .ok (.invokevirtual 84, 3) := by decide +kernel
theorem dX9_isAsked_5 : decode cX9_isAsked 5 = .ok (.ifCond .eq 22, 3) := by decide +kernel
theorem dX9_isAsked_8 : decode cX9_isAsked 8 = .ok (.iload_n 2, 1) := by decide +kernel
theorem dX9_isAsked_9 : decode cX9_isAsked 9 = .ok (.iload_n 3, 1) := by decide +kernel
theorem dX9_isAsked_10 : decode cX9_isAsked 10 = .ok (.invokestatic 119, 3) := by decide +kernel
theorem dX9_isAsked_13 : decode cX9_isAsked 13 = .ok (.ifCond .eq 14, 3) := by decide +kernel
theorem dX9_isAsked_16 : decode cX9_isAsked 16 = .ok (.aload_n 0, 1) := by decide +kernel
theorem dX9_isAsked_17 : decode cX9_isAsked 17 = .ok (.iload_n 1, 1) := by decide +kernel
theorem dX9_isAsked_18 : decode cX9_isAsked 18 = .ok (.iload_n 2, 1) := by decide +kernel
theorem dX9_isAsked_19 : decode cX9_isAsked 19 = .ok (.iload 4, 2) := by decide +kernel
theorem dX9_isAsked_21 : decode cX9_isAsked 21 = .ok (.invokevirtual 123, 3) := by decide +kernel
theorem dX9_isAsked_24 : decode cX9_isAsked 24 = .ok (.ifCond .ne 5, 3) := by decide +kernel
theorem dX9_isAsked_27 : decode cX9_isAsked 27 = .ok (.iconst 0, 1) := by decide +kernel
theorem dX9_isAsked_28 : decode cX9_isAsked 28 = .ok (.ireturn, 1) := by decide +kernel
theorem dX9_isAsked_29 : decode cX9_isAsked 29 = .ok (.aload_n 0, 1) := by decide +kernel
theorem dX9_isAsked_30 : decode cX9_isAsked 30 = .ok (.iload_n 1, 1) := by decide +kernel
theorem dX9_isAsked_31 : decode cX9_isAsked 31 = .ok (.iload_n 3, 1) := by decide +kernel
theorem dX9_isAsked_32 : decode cX9_isAsked 32 = .ok (.invokevirtual 106, 3) := by decide +kernel
theorem dX9_isAsked_35 : decode cX9_isAsked 35 = .ok (.iconst 1, 1) := by decide +kernel
theorem dX9_isAsked_36 : decode cX9_isAsked 36 = .ok (.ireturn, 1) := by decide +kernel
theorem dX9_code_0 : decode cX9_code 0 = .ok (.aload_n 0, 1) := by decide +kernel
theorem dX9_code_1 : decode cX9_code 1 = .ok (.iload_n 1, 1) := by decide +kernel
theorem dX9_code_2 : decode cX9_code 2 = .ok (.iload_n 2, 1) := by decide +kernel
theorem dX9_code_3 : decode cX9_code 3 = .ok (.iload_n 3, 1) := by decide +kernel
theorem dX9_code_4 : decode cX9_code 4 = .ok (.iload 4, 2) := by decide +kernel
theorem dX9_code_6 : decode cX9_code 6 = .ok (.invokevirtual 126, 3) := by decide +kernel
theorem dX9_code_9 : decode cX9_code 9 = .ok (.ifCond .eq 32, 3) := by decide +kernel
theorem dX9_code_12 : decode cX9_code 12 = .ok (.iload 5, 2) := by decide +kernel
theorem dX9_code_14 : decode cX9_code 14 = .ok (.ifCond .lt 27, 3) := by decide +kernel
theorem dX9_code_17 : decode cX9_code 17 = .ok (.iload 5, 2) := by decide +kernel
theorem dX9_code_19 : decode cX9_code 19 = .ok (.sipush 255, 3) := by decide +kernel
theorem dX9_code_22 : decode cX9_code 22 = .ok (.if_icmp .gt 19, 3) := by decide +kernel
theorem dX9_code_25 : decode cX9_code 25 = .ok (.aload_n 0, 1) := by decide +kernel
theorem dX9_code_26 : decode cX9_code 26 = .ok (.getfield 19, 3) := by decide +kernel
theorem dX9_code_29 : decode cX9_code 29 = .ok (.sipush 256, 3) := by decide +kernel
theorem dX9_code_32 : decode cX9_code 32 = .ok (.iload_n 1, 1) := by decide +kernel
theorem dX9_code_33 : decode cX9_code 33 = .ok (.imul, 1) := by decide +kernel
theorem dX9_code_34 : decode cX9_code 34 = .ok (.iload 5, 2) := by decide +kernel
theorem dX9_code_36 : decode cX9_code 36 = .ok (.iadd, 1) := by decide +kernel
theorem dX9_code_37 : decode cX9_code 37 = .ok (.iaload, 1) := by decide +kernel
theorem dX9_code_38 : decode cX9_code 38 = .ok (.ifCond .ne 5, 3) := by decide +kernel
theorem dX9_code_41 : decode cX9_code 41 = .ok (.iconst (-1), 1) := by decide +kernel
theorem dX9_code_42 : decode cX9_code 42 = .ok (.ireturn, 1) := by decide +kernel
theorem dX9_code_43 : decode cX9_code 43 = .ok (.aload_n 0, 1) := by decide +kernel
theorem dX9_code_44 : decode cX9_code 44 = .ok (.iload_n 1, 1) := by decide +kernel
theorem dX9_code_45 : decode cX9_code 45 = .ok (.iload_n 2, 1) := by decide +kernel
theorem dX9_code_46 : decode cX9_code 46 = .ok (.iload_n 3, 1) := by decide +kernel
theorem dX9_code_47 : decode cX9_code 47 = .ok (.iload 4, 2) := by decide +kernel
theorem dX9_code_49 : decode cX9_code 49 = .ok (.iload 5, 2) := by decide +kernel
theorem dX9_code_51 : decode cX9_code 51 = .ok (.invokevirtual 130, 3) := by decide +kernel
theorem dX9_code_54 : decode cX9_code 54 = .ok (.aload_n 0, 1) := by decide +kernel
theorem dX9_code_55 : decode cX9_code 55 = .ok (.aload_n 0, 1) := by decide +kernel
theorem dX9_code_56 : decode cX9_code 56 = .ok (.getfield 109, 3) := by decide +kernel
theorem dX9_code_59 : decode cX9_code 59 = .ok (.putfield 134, 3) := by decide +kernel
theorem dX9_code_62 : decode cX9_code 62 = .ok (.aload_n 0, 1) := by decide +kernel
theorem dX9_code_63 : decode cX9_code 63 = .ok (.aload_n 0, 1) := by decide +kernel
theorem dX9_code_64 : decode cX9_code 64 = .ok (.getfield 112, 3) := by decide +kernel
theorem dX9_code_67 : decode cX9_code 67 = .ok (.putfield 137, 3) := by decide +kernel
theorem dX9_code_70 : decode cX9_code 70 = .ok (.aload_n 0, 1) := by decide +kernel
theorem dX9_code_71 : decode cX9_code 71 = .ok (.getfield 115, 3) := by decide +kernel
theorem dX9_code_74 : decode cX9_code 74 = .ok (.ireturn, 1) := by decide +kernel
theorem dX9_gone_0 : decode cX9_gone 0 = .ok (.iload_n 1, 1) := by decide +kernel
theorem dX9_gone_1 : decode cX9_gone 1 = .ok (.ifCond .ne 10, 3) := by decide +kernel
theorem dX9_gone_4 : decode cX9_gone 4 = .ok (.aload_n 0, 1) := by decide +kernel
theorem dX9_gone_5 : decode cX9_gone 5 = .ok (.getfield 134, 3) := by decide +kernel
theorem dX9_gone_8 : decode cX9_gone 8 = .ok (.goto 16, 3) := by decide +kernel
theorem dX9_gone_11 : decode cX9_gone 11 = .ok (.iload_n 1, 1) := by decide +kernel
theorem dX9_gone_12 : decode cX9_gone 12 = .ok (.iconst 1, 1) := by decide +kernel
theorem dX9_gone_13 : decode cX9_gone 13 = .ok (.if_icmp .ne 10, 3) := by decide +kernel
theorem dX9_gone_16 : decode cX9_gone 16 = .ok (.aload_n 0, 1) := by decide +kernel
theorem dX9_gone_17 : decode cX9_gone 17 = .ok (.getfield 137, 3) := by decide +kernel
theorem dX9_gone_20 : decode cX9_gone 20 = .ok (.goto 4, 3) := by decide +kernel
theorem dX9_gone_23 : decode cX9_gone 23 = .ok (.iconst (-1), 1) := by decide +kernel
theorem dX9_gone_24 : decode cX9_gone 24 = .ok (.ireturn, 1) := by decide +kernel
theorem dX9_symbol_0 : decode cX9_symbol 0 = .ok (.aload_n 0, 1) := by decide +kernel
theorem dX9_symbol_1 : decode cX9_symbol 1 = .ok (.iload_n 1, 1) := by decide +kernel
theorem dX9_symbol_2 : decode cX9_symbol 2 = .ok (.iload_n 2, 1) := by decide +kernel
theorem dX9_symbol_3 : decode cX9_symbol 3 = .ok (.iload_n 3, 1) := by decide +kernel
theorem dX9_symbol_4 : decode cX9_symbol 4 = .ok (.iload 4, 2) := by decide +kernel
theorem dX9_symbol_6 : decode cX9_symbol 6 = .ok (.invokevirtual 126, 3) := by decide +kernel
theorem dX9_symbol_9 : decode cX9_symbol 9 = .ok (.ifCond .eq 15, 3) := by decide +kernel
theorem dX9_symbol_12 : decode cX9_symbol 12 = .ok (.aload_n 0, 1) := by decide +kernel
theorem dX9_symbol_13 : decode cX9_symbol 13 = .ok (.iload_n 1, 1) := by decide +kernel
theorem dX9_symbol_14 : decode cX9_symbol 14 = .ok (.iload_n 2, 1) := by decide +kernel
theorem dX9_symbol_15 : decode cX9_symbol 15 = .ok (.iload_n 3, 1) := by decide +kernel
theorem dX9_symbol_16 : decode cX9_symbol 16 = .ok (.iload 4, 2) := by decide +kernel
theorem dX9_symbol_18 : decode cX9_symbol 18 = .ok (.invokevirtual 140, 3) := by decide +kernel
theorem dX9_symbol_21 : decode cX9_symbol 21 = .ok (.goto 4, 3) := by decide +kernel
theorem dX9_symbol_24 : decode cX9_symbol 24 = .ok (.iconst (-1), 1) := by decide +kernel
theorem dX9_symbol_25 : decode cX9_symbol 25 = .ok (.ireturn, 1) := by decide +kernel
theorem dX9_left_0 : decode cX9_left 0 = .ok (.aload_n 0, 1) := by decide +kernel
theorem dX9_left_1 : decode cX9_left 1 = .ok (.iload_n 1, 1) := by decide +kernel
theorem dX9_left_2 : decode cX9_left 2 = .ok (.iload_n 2, 1) := by decide +kernel
theorem dX9_left_3 : decode cX9_left 3 = .ok (.iload_n 3, 1) := by decide +kernel
theorem dX9_left_4 : decode cX9_left 4 = .ok (.iload 4, 2) := by decide +kernel
theorem dX9_left_6 : decode cX9_left 6 = .ok (.invokevirtual 126, 3) := by decide +kernel
theorem dX9_left_9 : decode cX9_left 9 = .ok (.ifCond .eq 24, 3) := by decide +kernel
theorem dX9_left_12 : decode cX9_left 12 = .ok (.aload_n 0, 1) := by decide +kernel
theorem dX9_left_13 : decode cX9_left 13 = .ok (.iload_n 1, 1) := by decide +kernel
theorem dX9_left_14 : decode cX9_left 14 = .ok (.iload_n 2, 1) := by decide +kernel
theorem dX9_left_15 : decode cX9_left 15 = .ok (.iload_n 3, 1) := by decide +kernel
theorem dX9_left_16 : decode cX9_left 16 = .ok (.iload 4, 2) := by decide +kernel
theorem dX9_left_18 : decode cX9_left 18 = .ok (.aload_n 0, 1) := by decide +kernel
theorem dX9_left_19 : decode cX9_left 19 = .ok (.iload_n 1, 1) := by decide +kernel
theorem dX9_left_20 : decode cX9_left 20 = .ok (.iload_n 2, 1) := by decide +kernel
theorem dX9_left_21 : decode cX9_left 21 = .ok (.iload_n 3, 1) := by decide +kernel
theorem dX9_left_22 : decode cX9_left 22 = .ok (.iload 4, 2) := by decide +kernel
theorem dX9_left_24 : decode cX9_left 24 = .ok (.invokevirtual 140, 3) := by decide +kernel
theorem dX9_left_27 : decode cX9_left 27 = .ok (.invokevirtual 144, 3) := by decide +kernel
theorem dX9_left_30 : decode cX9_left 30 = .ok (.goto 4, 3) := by decide +kernel
theorem dX9_left_33 : decode cX9_left 33 = .ok (.iconst (-1), 1) := by decide +kernel
theorem dX9_left_34 : decode cX9_left 34 = .ok (.ireturn, 1) := by decide +kernel
theorem dX9_refusal_0 : decode cX9_refusal 0 = .ok (.aload_n 0, 1) := by decide +kernel
theorem dX9_refusal_1 : decode cX9_refusal 1 = .ok (.getfield 70, 3) := by decide +kernel
theorem dX9_refusal_4 : decode cX9_refusal 4 = .ok (.sipush 1400, 3) := by decide +kernel
theorem dX9_refusal_7 : decode cX9_refusal 7 = .ok (.if_icmp .le 6, 3) := by decide +kernel
theorem dX9_refusal_10 : decode cX9_refusal 10 = .ok (.bipush (-2), 2) := by decide +kernel
theorem dX9_refusal_12 : decode cX9_refusal 12 = .ok (.ireturn, 1) := by decide +kernel
theorem dX9_refusal_13 : decode cX9_refusal 13 = .ok (.iconst 0, 1) := by decide +kernel
theorem dX9_refusal_14 : decode cX9_refusal 14 = .ok (.istore_n 2, 1) := by decide +kernel
theorem dX9_refusal_15 : decode cX9_refusal 15 = .ok (.iload_n 2, 1) := by decide +kernel
theorem dX9_refusal_16 : decode cX9_refusal 16 = .ok (.aload_n 0, 1) := by decide +kernel
theorem dX9_refusal_17 : decode cX9_refusal 17 = .ok (.getfield 70, 3) := by decide +kernel
theorem dX9_refusal_20 : decode cX9_refusal 20 = .ok (.if_icmp .ge 32, 3) := by decide +kernel
theorem dX9_refusal_23 : decode cX9_refusal 23 = .ok (.aload_n 0, 1) := by decide +kernel
theorem dX9_refusal_24 : decode cX9_refusal 24 = .ok (.getfield 19, 3) := by decide +kernel
theorem dX9_refusal_27 : decode cX9_refusal 27 = .ok (.sipush 256, 3) := by decide +kernel
theorem dX9_refusal_30 : decode cX9_refusal 30 = .ok (.iload_n 1, 1) := by decide +kernel
theorem dX9_refusal_31 : decode cX9_refusal 31 = .ok (.imul, 1) := by decide +kernel
theorem dX9_refusal_32 : decode cX9_refusal 32 = .ok (.aload_n 0, 1) := by decide +kernel
theorem dX9_refusal_33 : decode cX9_refusal 33 = .ok (.getfield 7, 3) := by decide +kernel
theorem dX9_refusal_36 : decode cX9_refusal 36 = .ok (.iload_n 2, 1) := by decide +kernel
theorem dX9_refusal_37 : decode cX9_refusal 37 = .ok (.iaload, 1) := by decide +kernel
theorem dX9_refusal_38 : decode cX9_refusal 38 = .ok (.iadd, 1) := by decide +kernel
theorem dX9_refusal_39 : decode cX9_refusal 39 = .ok (.iaload, 1) := by decide +kernel
theorem dX9_refusal_40 : decode cX9_refusal 40 = .ok (.ifCond .ne 6, 3) := by decide +kernel
theorem dX9_refusal_43 : decode cX9_refusal 43 = .ok (.bipush (-3), 2) := by decide +kernel
theorem dX9_refusal_45 : decode cX9_refusal 45 = .ok (.ireturn, 1) := by decide +kernel
theorem dX9_refusal_46 : decode cX9_refusal 46 = .ok (.iinc 2 1, 3) := by decide +kernel
theorem dX9_refusal_49 : decode cX9_refusal 49 = .ok (.goto (-34), 3) := by decide +kernel
theorem dX9_refusal_52 : decode cX9_refusal 52 = .ok (.iconst 0, 1) := by decide +kernel
theorem dX9_refusal_53 : decode cX9_refusal 53 = .ok (.ireturn, 1) := by decide +kernel
theorem dX9_meets_0 : decode cX9_meets 0 = .ok (.aload_n 0, 1) := by decide +kernel
theorem dX9_meets_1 : decode cX9_meets 1 = .ok (.getfield 61, 3) := by decide +kernel
theorem dX9_meets_4 : decode cX9_meets 4 = .ok (.iconst 0, 1) := by decide +kernel
theorem dX9_meets_5 : decode cX9_meets 5 = .ok (.iload_n 1, 1) := by decide +kernel
theorem dX9_meets_6 : decode cX9_meets 6 = .ok (.aload_n 0, 1) := by decide +kernel
theorem dX9_meets_7 : decode cX9_meets 7 = .ok (.getfield 61, 3) := by decide +kernel
theorem dX9_meets_10 : decode cX9_meets 10 = .ok (.iconst 0, 1) := by decide +kernel
theorem dX9_meets_11 : decode cX9_meets 11 = .ok (.iaload, 1) := by decide +kernel
theorem dX9_meets_12 : decode cX9_meets 12 = .ok (.if_icmp .ge 7, 3) := by decide +kernel
theorem dX9_meets_15 : decode cX9_meets 15 = .ok (.iload_n 1, 1) := by decide +kernel
theorem dX9_meets_16 : decode cX9_meets 16 = .ok (.goto 9, 3) := by decide +kernel
theorem dX9_meets_19 : decode cX9_meets 19 = .ok (.aload_n 0, 1) := by decide +kernel
theorem dX9_meets_20 : decode cX9_meets 20 = .ok (.getfield 61, 3) := by decide +kernel
theorem dX9_meets_23 : decode cX9_meets 23 = .ok (.iconst 0, 1) := by decide +kernel
theorem dX9_meets_24 : decode cX9_meets 24 = .ok (.iaload, 1) := by decide +kernel
theorem dX9_meets_25 : decode cX9_meets 25 = .ok (.iastore, 1) := by decide +kernel
theorem dX9_meets_26 : decode cX9_meets 26 = .ok (.aload_n 0, 1) := by decide +kernel
theorem dX9_meets_27 : decode cX9_meets 27 = .ok (.getfield 61, 3) := by decide +kernel
theorem dX9_meets_30 : decode cX9_meets 30 = .ok (.iconst 1, 1) := by decide +kernel
theorem dX9_meets_31 : decode cX9_meets 31 = .ok (.iload_n 1, 1) := by decide +kernel
theorem dX9_meets_32 : decode cX9_meets 32 = .ok (.aload_n 0, 1) := by decide +kernel
theorem dX9_meets_33 : decode cX9_meets 33 = .ok (.getfield 61, 3) := by decide +kernel
theorem dX9_meets_36 : decode cX9_meets 36 = .ok (.iconst 1, 1) := by decide +kernel
theorem dX9_meets_37 : decode cX9_meets 37 = .ok (.iaload, 1) := by decide +kernel
theorem dX9_meets_38 : decode cX9_meets 38 = .ok (.if_icmp .le 7, 3) := by decide +kernel
theorem dX9_meets_41 : decode cX9_meets 41 = .ok (.iload_n 1, 1) := by decide +kernel
theorem dX9_meets_42 : decode cX9_meets 42 = .ok (.goto 9, 3) := by decide +kernel
theorem dX9_meets_45 : decode cX9_meets 45 = .ok (.aload_n 0, 1) := by decide +kernel
theorem dX9_meets_46 : decode cX9_meets 46 = .ok (.getfield 61, 3) := by decide +kernel
theorem dX9_meets_49 : decode cX9_meets 49 = .ok (.iconst 1, 1) := by decide +kernel
theorem dX9_meets_50 : decode cX9_meets 50 = .ok (.iaload, 1) := by decide +kernel
theorem dX9_meets_51 : decode cX9_meets 51 = .ok (.iastore, 1) := by decide +kernel
theorem dX9_meets_52 : decode cX9_meets 52 = .ok (.return_, 1) := by decide +kernel
theorem dX9_meetsNone_0 : decode cX9_meetsNone 0 = .ok (.aload_n 0, 1) := by decide +kernel
theorem dX9_meetsNone_1 : decode cX9_meetsNone 1 = .ok (.getfield 61, 3) := by decide +kernel
theorem dX9_meetsNone_4 : decode cX9_meetsNone 4 = .ok (.iconst 0, 1) := by decide +kernel
theorem dX9_meetsNone_5 : decode cX9_meetsNone 5 = .ok (.ldc 148, 2) := by decide +kernel
theorem dX9_meetsNone_7 : decode cX9_meetsNone 7 = .ok (.iastore, 1) := by decide +kernel
theorem dX9_meetsNone_8 : decode cX9_meetsNone 8 = .ok (.aload_n 0, 1) := by decide +kernel
theorem dX9_meetsNone_9 : decode cX9_meetsNone 9 = .ok (.getfield 61, 3) := by decide +kernel
theorem dX9_meetsNone_12 : decode cX9_meetsNone 12 = .ok (.iconst 1, 1) := by decide +kernel
theorem dX9_meetsNone_13 : decode cX9_meetsNone 13 = .ok (.iconst 0, 1) := by decide +kernel
theorem dX9_meetsNone_14 : decode cX9_meetsNone 14 = .ok (.iastore, 1) := by decide +kernel
theorem dX9_meetsNone_15 : decode cX9_meetsNone 15 = .ok (.aload_n 0, 1) := by decide +kernel
theorem dX9_meetsNone_16 : decode cX9_meetsNone 16 = .ok (.getfield 61, 3) := by decide +kernel
theorem dX9_meetsNone_19 : decode cX9_meetsNone 19 = .ok (.iconst 2, 1) := by decide +kernel
theorem dX9_meetsNone_20 : decode cX9_meetsNone 20 = .ok (.iconst 0, 1) := by decide +kernel
theorem dX9_meetsNone_21 : decode cX9_meetsNone 21 = .ok (.iastore, 1) := by decide +kernel
theorem dX9_meetsNone_22 : decode cX9_meetsNone 22 = .ok (.aload_n 0, 1) := by decide +kernel
theorem dX9_meetsNone_23 : decode cX9_meetsNone 23 = .ok (.getfield 61, 3) := by decide +kernel
theorem dX9_meetsNone_26 : decode cX9_meetsNone 26 = .ok (.iconst 3, 1) := by decide +kernel
theorem dX9_meetsNone_27 : decode cX9_meetsNone 27 = .ok (.iconst 0, 1) := by decide +kernel
theorem dX9_meetsNone_28 : decode cX9_meetsNone 28 = .ok (.iastore, 1) := by decide +kernel
theorem dX9_meetsNone_29 : decode cX9_meetsNone 29 = .ok (.aload_n 0, 1) := by decide +kernel
theorem dX9_meetsNone_30 : decode cX9_meetsNone 30 = .ok (.getfield 61, 3) := by decide +kernel
theorem dX9_meetsNone_33 : decode cX9_meetsNone 33 = .ok (.iconst 4, 1) := by decide +kernel
theorem dX9_meetsNone_34 : decode cX9_meetsNone 34 = .ok (.iconst 0, 1) := by decide +kernel
theorem dX9_meetsNone_35 : decode cX9_meetsNone 35 = .ok (.iastore, 1) := by decide +kernel
theorem dX9_meetsNone_36 : decode cX9_meetsNone 36 = .ok (.aload_n 0, 1) := by decide +kernel
theorem dX9_meetsNone_37 : decode cX9_meetsNone 37 = .ok (.getfield 61, 3) := by decide +kernel
theorem dX9_meetsNone_40 : decode cX9_meetsNone 40 = .ok (.iconst 5, 1) := by decide +kernel
theorem dX9_meetsNone_41 : decode cX9_meetsNone 41 = .ok (.iconst 0, 1) := by decide +kernel
theorem dX9_meetsNone_42 : decode cX9_meetsNone 42 = .ok (.iastore, 1) := by decide +kernel
theorem dX9_meetsNone_43 : decode cX9_meetsNone 43 = .ok (.return_, 1) := by decide +kernel
theorem dX9_tells_0 : decode cX9_tells 0 = .ok (.iconst 0, 1) := by decide +kernel
theorem dX9_tells_1 : decode cX9_tells 1 = .ok (.istore_n 1, 1) := by decide +kernel
theorem dX9_tells_2 : decode cX9_tells 2 = .ok (.iload_n 1, 1) := by decide +kernel
theorem dX9_tells_3 : decode cX9_tells 3 = .ok (.bipush 6, 2) := by decide +kernel
theorem dX9_tells_5 : decode cX9_tells 5 = .ok (.if_icmp .ge 21, 3) := by decide +kernel
theorem dX9_tells_8 : decode cX9_tells 8 = .ok (.aload_n 0, 1) := by decide +kernel
theorem dX9_tells_9 : decode cX9_tells 9 = .ok (.getfield 48, 3) := by decide +kernel
theorem dX9_tells_12 : decode cX9_tells 12 = .ok (.iload_n 1, 1) := by decide +kernel
theorem dX9_tells_13 : decode cX9_tells 13 = .ok (.aload_n 0, 1) := by decide +kernel
theorem dX9_tells_14 : decode cX9_tells 14 = .ok (.getfield 61, 3) := by decide +kernel
theorem dX9_tells_17 : decode cX9_tells 17 = .ok (.iload_n 1, 1) := by decide +kernel
theorem dX9_tells_18 : decode cX9_tells 18 = .ok (.iaload, 1) := by decide +kernel
theorem dX9_tells_19 : decode cX9_tells 19 = .ok (.iastore, 1) := by decide +kernel
theorem dX9_tells_20 : decode cX9_tells 20 = .ok (.iinc 1 1, 3) := by decide +kernel
theorem dX9_tells_23 : decode cX9_tells 23 = .ok (.goto (-21), 3) := by decide +kernel
theorem dX9_tells_26 : decode cX9_tells 26 = .ok (.return_, 1) := by decide +kernel
theorem dX9_firstOf_0 : decode cX9_firstOf 0 = .ok (.iload_n 2, 1) := by decide +kernel
theorem dX9_firstOf_1 : decode cX9_firstOf 1 = .ok (.ifCond .ne 14, 3) := by decide +kernel
theorem dX9_firstOf_4 : decode cX9_firstOf 4 = .ok (.iconst 1, 1) := by decide +kernel
theorem dX9_firstOf_5 : decode cX9_firstOf 5 = .ok (.aload_n 0, 1) := by decide +kernel
theorem dX9_firstOf_6 : decode cX9_firstOf 6 = .ok (.getfield 16, 3) := by decide +kernel
theorem dX9_firstOf_9 : decode cX9_firstOf 9 = .ok (.iload_n 1, 1) := by decide +kernel
theorem dX9_firstOf_10 : decode cX9_firstOf 10 = .ok (.iaload, 1) := by decide +kernel
theorem dX9_firstOf_11 : decode cX9_firstOf 11 = .ok (.ishl, 1) := by decide +kernel
theorem dX9_firstOf_12 : decode cX9_firstOf 12 = .ok (.goto 5, 3) := by decide +kernel
theorem dX9_firstOf_15 : decode cX9_firstOf 15 = .ok (.ldc 118, 2) := by decide +kernel
theorem dX9_firstOf_17 : decode cX9_firstOf 17 = .ok (.ireturn, 1) := by decide +kernel
theorem dX9_pack_0 : decode cX9_pack 0 = .ok (.aload_n 0, 1) := by decide +kernel
theorem dX9_pack_1 : decode cX9_pack 1 = .ok (.iload_n 1, 1) := by decide +kernel
theorem dX9_pack_2 : decode cX9_pack 2 = .ok (.invokevirtual 84, 3) := by decide +kernel
theorem dX9_pack_5 : decode cX9_pack 5 = .ok (.ifCond .eq 11, 3) := by decide +kernel
theorem dX9_pack_8 : decode cX9_pack 8 = .ok (.iload_n 2, 1) := by decide +kernel
theorem dX9_pack_9 : decode cX9_pack 9 = .ok (.iload_n 3, 1) := by decide +kernel
theorem dX9_pack_10 : decode cX9_pack 10 = .ok (.invokestatic 119, 3) := by decide +kernel
theorem dX9_pack_13 : decode cX9_pack 13 = .ok (.ifCond .ne 5, 3) := by decide +kernel
theorem dX9_pack_16 : decode cX9_pack 16 = .ok (.iconst (-1), 1) := by decide +kernel
theorem dX9_pack_17 : decode cX9_pack 17 = .ok (.ireturn, 1) := by decide +kernel
theorem dX9_pack_18 : decode cX9_pack 18 = .ok (.aload_n 0, 1) := by decide +kernel
theorem dX9_pack_19 : decode cX9_pack 19 = .ok (.iload_n 1, 1) := by decide +kernel
theorem dX9_pack_20 : decode cX9_pack 20 = .ok (.invokevirtual 149, 3) := by decide +kernel
theorem dX9_pack_23 : decode cX9_pack 23 = .ok (.istore 4, 2) := by decide +kernel
theorem dX9_pack_25 : decode cX9_pack 25 = .ok (.iload 4, 2) := by decide +kernel
theorem dX9_pack_27 : decode cX9_pack 27 = .ok (.ifCond .ge 6, 3) := by decide +kernel
theorem dX9_pack_30 : decode cX9_pack 30 = .ok (.iload 4, 2) := by decide +kernel
theorem dX9_pack_32 : decode cX9_pack 32 = .ok (.ireturn, 1) := by decide +kernel
theorem dX9_pack_33 : decode cX9_pack 33 = .ok (.aload_n 0, 1) := by decide +kernel
theorem dX9_pack_34 : decode cX9_pack 34 = .ok (.iload_n 1, 1) := by decide +kernel
theorem dX9_pack_35 : decode cX9_pack 35 = .ok (.iload_n 3, 1) := by decide +kernel
theorem dX9_pack_36 : decode cX9_pack 36 = .ok (.invokevirtual 106, 3) := by decide +kernel
theorem dX9_pack_39 : decode cX9_pack 39 = .ok (.aload_n 0, 1) := by decide +kernel
theorem dX9_pack_40 : decode cX9_pack 40 = .ok (.invokevirtual 153, 3) := by decide +kernel
theorem dX9_pack_43 : decode cX9_pack 43 = .ok (.aload_n 0, 1) := by decide +kernel
theorem dX9_pack_44 : decode cX9_pack 44 = .ok (.getfield 58, 3) := by decide +kernel
theorem dX9_pack_47 : decode cX9_pack 47 = .ok (.iconst 0, 1) := by decide +kernel
theorem dX9_pack_48 : decode cX9_pack 48 = .ok (.aload_n 0, 1) := by decide +kernel
end
section
theorem dX9_pack_49 : decode cX9_pack 49 = .ok (.iload_n 1, 1) := by decide +kernel
theorem dX9_pack_50 : decode cX9_pack 50 = .ok (.iload_n 2, 1) := by decide +kernel
theorem dX9_pack_51 : decode cX9_pack 51 = .ok (.invokevirtual 156, 3) := by decide +kernel
theorem dX9_pack_54 : decode cX9_pack 54 = .ok (.iastore, 1) := by decide +kernel
theorem dX9_pack_55 : decode cX9_pack 55 = .ok (.aload_n 0, 1) := by decide +kernel
theorem dX9_pack_56 : decode cX9_pack 56 = .ok (.getfield 58, 3) := by decide +kernel
theorem dX9_pack_59 : decode cX9_pack 59 = .ok (.iconst 1, 1) := by decide +kernel
theorem dX9_pack_60 : decode cX9_pack 60 = .ok (.aload_n 0, 1) := by decide +kernel
theorem dX9_pack_61 : decode cX9_pack 61 = .ok (.getfield 58, 3) := by decide +kernel
theorem dX9_pack_64 : decode cX9_pack 64 = .ok (.iconst 0, 1) := by decide +kernel
theorem dX9_pack_65 : decode cX9_pack 65 = .ok (.iaload, 1) := by decide +kernel
theorem dX9_pack_66 : decode cX9_pack 66 = .ok (.iastore, 1) := by decide +kernel
theorem dX9_pack_67 : decode cX9_pack 67 = .ok (.aload_n 0, 1) := by decide +kernel
theorem dX9_pack_68 : decode cX9_pack 68 = .ok (.aload_n 0, 1) := by decide +kernel
theorem dX9_pack_69 : decode cX9_pack 69 = .ok (.getfield 58, 3) := by decide +kernel
theorem dX9_pack_72 : decode cX9_pack 72 = .ok (.iconst 0, 1) := by decide +kernel
theorem dX9_pack_73 : decode cX9_pack 73 = .ok (.iaload, 1) := by decide +kernel
theorem dX9_pack_74 : decode cX9_pack 74 = .ok (.invokevirtual 160, 3) := by decide +kernel
theorem dX9_pack_77 : decode cX9_pack 77 = .ok (.aload_n 0, 1) := by decide +kernel
theorem dX9_pack_78 : decode cX9_pack 78 = .ok (.getfield 55, 3) := by decide +kernel
theorem dX9_pack_81 : decode cX9_pack 81 = .ok (.arraylength, 1) := by decide +kernel
theorem dX9_pack_82 : decode cX9_pack 82 = .ok (.istore 5, 2) := by decide +kernel
theorem dX9_pack_84 : decode cX9_pack 84 = .ok (.aload_n 0, 1) := by decide +kernel
theorem dX9_pack_85 : decode cX9_pack 85 = .ok (.getfield 70, 3) := by decide +kernel
theorem dX9_pack_88 : decode cX9_pack 88 = .ok (.iconst 1, 1) := by decide +kernel
theorem dX9_pack_89 : decode cX9_pack 89 = .ok (.isub, 1) := by decide +kernel
theorem dX9_pack_90 : decode cX9_pack 90 = .ok (.istore 6, 2) := by decide +kernel
theorem dX9_pack_92 : decode cX9_pack 92 = .ok (.iload 6, 2) := by decide +kernel
theorem dX9_pack_94 : decode cX9_pack 94 = .ok (.ifCond .lt 153, 3) := by decide +kernel
theorem dX9_pack_97 : decode cX9_pack 97 = .ok (.iload_n 2, 1) := by decide +kernel
theorem dX9_pack_98 : decode cX9_pack 98 = .ok (.iconst 2, 1) := by decide +kernel
theorem dX9_pack_99 : decode cX9_pack 99 = .ok (.if_icmp .ne 10, 3) := by decide +kernel
theorem dX9_pack_102 : decode cX9_pack 102 = .ok (.iload 6, 2) := by decide +kernel
theorem dX9_pack_104 : decode cX9_pack 104 = .ok (.iconst 2, 1) := by decide +kernel
theorem dX9_pack_105 : decode cX9_pack 105 = .ok (.irem, 1) := by decide +kernel
theorem dX9_pack_106 : decode cX9_pack 106 = .ok (.goto 4, 3) := by decide +kernel
theorem dX9_pack_109 : decode cX9_pack 109 = .ok (.iconst 0, 1) := by decide +kernel
theorem dX9_pack_110 : decode cX9_pack 110 = .ok (.istore 7, 2) := by decide +kernel
theorem dX9_pack_112 : decode cX9_pack 112 = .ok (.aload_n 0, 1) := by decide +kernel
theorem dX9_pack_113 : decode cX9_pack 113 = .ok (.iload_n 1, 1) := by decide +kernel
theorem dX9_pack_114 : decode cX9_pack 114 = .ok (.iload_n 2, 1) := by decide +kernel
theorem dX9_pack_115 : decode cX9_pack 115 = .ok (.iload_n 3, 1) := by decide +kernel
theorem dX9_pack_116 : decode cX9_pack 116 = .ok (.aload_n 0, 1) := by decide +kernel
theorem dX9_pack_117 : decode cX9_pack 117 = .ok (.getfield 58, 3) := by decide +kernel
theorem dX9_pack_120 : decode cX9_pack 120 = .ok (.iload 7, 2) := by decide +kernel
theorem dX9_pack_122 : decode cX9_pack 122 = .ok (.iaload, 1) := by decide +kernel
theorem dX9_pack_123 : decode cX9_pack 123 = .ok (.aload_n 0, 1) := by decide +kernel
theorem dX9_pack_124 : decode cX9_pack 124 = .ok (.getfield 7, 3) := by decide +kernel
theorem dX9_pack_127 : decode cX9_pack 127 = .ok (.iload 6, 2) := by decide +kernel
theorem dX9_pack_129 : decode cX9_pack 129 = .ok (.iaload, 1) := by decide +kernel
theorem dX9_pack_130 : decode cX9_pack 130 = .ok (.invokevirtual 130, 3) := by decide +kernel
theorem dX9_pack_133 : decode cX9_pack 133 = .ok (.iload_n 2, 1) := by decide +kernel
theorem dX9_pack_134 : decode cX9_pack 134 = .ok (.ifCond .ne 7, 3) := by decide +kernel
theorem dX9_pack_137 : decode cX9_pack 137 = .ok (.iconst 1, 1) := by decide +kernel
theorem dX9_pack_138 : decode cX9_pack 138 = .ok (.goto 5, 3) := by decide +kernel
theorem dX9_pack_141 : decode cX9_pack 141 = .ok (.bipush 8, 2) := by decide +kernel
theorem dX9_pack_143 : decode cX9_pack 143 = .ok (.istore 8, 2) := by decide +kernel
theorem dX9_pack_145 : decode cX9_pack 145 = .ok (.iconst 0, 1) := by decide +kernel
theorem dX9_pack_146 : decode cX9_pack 146 = .ok (.istore 9, 2) := by decide +kernel
theorem dX9_pack_148 : decode cX9_pack 148 = .ok (.iload 9, 2) := by decide +kernel
theorem dX9_pack_150 : decode cX9_pack 150 = .ok (.aload_n 0, 1) := by decide +kernel
theorem dX9_pack_151 : decode cX9_pack 151 = .ok (.getfield 109, 3) := by decide +kernel
theorem dX9_pack_154 : decode cX9_pack 154 = .ok (.if_icmp .ge 36, 3) := by decide +kernel
theorem dX9_pack_157 : decode cX9_pack 157 = .ok (.iinc 5 (-1), 3) := by decide +kernel
theorem dX9_pack_160 : decode cX9_pack 160 = .ok (.aload_n 0, 1) := by decide +kernel
theorem dX9_pack_161 : decode cX9_pack 161 = .ok (.getfield 55, 3) := by decide +kernel
theorem dX9_pack_164 : decode cX9_pack 164 = .ok (.iload 5, 2) := by decide +kernel
theorem dX9_pack_166 : decode cX9_pack 166 = .ok (.aload_n 0, 1) := by decide +kernel
theorem dX9_pack_167 : decode cX9_pack 167 = .ok (.getfield 112, 3) := by decide +kernel
theorem dX9_pack_170 : decode cX9_pack 170 = .ok (.iload 8, 2) := by decide +kernel
theorem dX9_pack_172 : decode cX9_pack 172 = .ok (.iload 9, 2) := by decide +kernel
theorem dX9_pack_174 : decode cX9_pack 174 = .ok (.imul, 1) := by decide +kernel
theorem dX9_pack_175 : decode cX9_pack 175 = .ok (.ishr, 1) := by decide +kernel
theorem dX9_pack_176 : decode cX9_pack 176 = .ok (.iconst 1, 1) := by decide +kernel
theorem dX9_pack_177 : decode cX9_pack 177 = .ok (.iload 8, 2) := by decide +kernel
theorem dX9_pack_179 : decode cX9_pack 179 = .ok (.ishl, 1) := by decide +kernel
theorem dX9_pack_180 : decode cX9_pack 180 = .ok (.iconst 1, 1) := by decide +kernel
theorem dX9_pack_181 : decode cX9_pack 181 = .ok (.isub, 1) := by decide +kernel
theorem dX9_pack_182 : decode cX9_pack 182 = .ok (.iand, 1) := by decide +kernel
theorem dX9_pack_183 : decode cX9_pack 183 = .ok (.iastore, 1) := by decide +kernel
theorem dX9_pack_184 : decode cX9_pack 184 = .ok (.iinc 9 1, 3) := by decide +kernel
theorem dX9_pack_187 : decode cX9_pack 187 = .ok (.goto (-39), 3) := by decide +kernel
theorem dX9_pack_190 : decode cX9_pack 190 = .ok (.aload_n 0, 1) := by decide +kernel
theorem dX9_pack_191 : decode cX9_pack 191 = .ok (.aload_n 0, 1) := by decide +kernel
theorem dX9_pack_192 : decode cX9_pack 192 = .ok (.getfield 115, 3) := by decide +kernel
theorem dX9_pack_195 : decode cX9_pack 195 = .ok (.invokevirtual 160, 3) := by decide +kernel
theorem dX9_pack_198 : decode cX9_pack 198 = .ok (.aload_n 0, 1) := by decide +kernel
theorem dX9_pack_199 : decode cX9_pack 199 = .ok (.getfield 58, 3) := by decide +kernel
theorem dX9_pack_202 : decode cX9_pack 202 = .ok (.iload 7, 2) := by decide +kernel
theorem dX9_pack_204 : decode cX9_pack 204 = .ok (.aload_n 0, 1) := by decide +kernel
theorem dX9_pack_205 : decode cX9_pack 205 = .ok (.getfield 115, 3) := by decide +kernel
theorem dX9_pack_208 : decode cX9_pack 208 = .ok (.iastore, 1) := by decide +kernel
theorem dX9_pack_209 : decode cX9_pack 209 = .ok (.aload_n 0, 1) := by decide +kernel
theorem dX9_pack_210 : decode cX9_pack 210 = .ok (.getfield 61, 3) := by decide +kernel
theorem dX9_pack_213 : decode cX9_pack 213 = .ok (.iconst 5, 1) := by decide +kernel
theorem dX9_pack_214 : decode cX9_pack 214 = .ok (.aload_n 0, 1) := by decide +kernel
theorem dX9_pack_215 : decode cX9_pack 215 = .ok (.getfield 109, 3) := by decide +kernel
theorem dX9_pack_218 : decode cX9_pack 218 = .ok (.aload_n 0, 1) := by decide +kernel
theorem dX9_pack_219 : decode cX9_pack 219 = .ok (.getfield 61, 3) := by decide +kernel
theorem dX9_pack_222 : decode cX9_pack 222 = .ok (.iconst 5, 1) := by decide +kernel
theorem dX9_pack_223 : decode cX9_pack 223 = .ok (.iaload, 1) := by decide +kernel
theorem dX9_pack_224 : decode cX9_pack 224 = .ok (.if_icmp .le 10, 3) := by decide +kernel
theorem dX9_pack_227 : decode cX9_pack 227 = .ok (.aload_n 0, 1) := by decide +kernel
theorem dX9_pack_228 : decode cX9_pack 228 = .ok (.getfield 109, 3) := by decide +kernel
theorem dX9_pack_231 : decode cX9_pack 231 = .ok (.goto 9, 3) := by decide +kernel
theorem dX9_pack_234 : decode cX9_pack 234 = .ok (.aload_n 0, 1) := by decide +kernel
theorem dX9_pack_235 : decode cX9_pack 235 = .ok (.getfield 61, 3) := by decide +kernel
theorem dX9_pack_238 : decode cX9_pack 238 = .ok (.iconst 5, 1) := by decide +kernel
theorem dX9_pack_239 : decode cX9_pack 239 = .ok (.iaload, 1) := by decide +kernel
theorem dX9_pack_240 : decode cX9_pack 240 = .ok (.iastore, 1) := by decide +kernel
theorem dX9_pack_241 : decode cX9_pack 241 = .ok (.iinc 6 (-1), 3) := by decide +kernel
theorem dX9_pack_244 : decode cX9_pack 244 = .ok (.goto (-152), 3) := by decide +kernel
theorem dX9_pack_247 : decode cX9_pack 247 = .ok (.aload_n 0, 1) := by decide +kernel
theorem dX9_pack_248 : decode cX9_pack 248 = .ok (.getfield 61, 3) := by decide +kernel
theorem dX9_pack_251 : decode cX9_pack 251 = .ok (.iconst 2, 1) := by decide +kernel
theorem dX9_pack_252 : decode cX9_pack 252 = .ok (.aload_n 0, 1) := by decide +kernel
theorem dX9_pack_253 : decode cX9_pack 253 = .ok (.getfield 70, 3) := by decide +kernel
theorem dX9_pack_256 : decode cX9_pack 256 = .ok (.iastore, 1) := by decide +kernel
theorem dX9_pack_257 : decode cX9_pack 257 = .ok (.aload_n 0, 1) := by decide +kernel
theorem dX9_pack_258 : decode cX9_pack 258 = .ok (.getfield 61, 3) := by decide +kernel
theorem dX9_pack_261 : decode cX9_pack 261 = .ok (.iconst 3, 1) := by decide +kernel
theorem dX9_pack_262 : decode cX9_pack 262 = .ok (.aload_n 0, 1) := by decide +kernel
theorem dX9_pack_263 : decode cX9_pack 263 = .ok (.getfield 55, 3) := by decide +kernel
theorem dX9_pack_266 : decode cX9_pack 266 = .ok (.arraylength, 1) := by decide +kernel
theorem dX9_pack_267 : decode cX9_pack 267 = .ok (.iload 5, 2) := by decide +kernel
theorem dX9_pack_269 : decode cX9_pack 269 = .ok (.isub, 1) := by decide +kernel
theorem dX9_pack_270 : decode cX9_pack 270 = .ok (.iastore, 1) := by decide +kernel
theorem dX9_pack_271 : decode cX9_pack 271 = .ok (.aload_n 0, 1) := by decide +kernel
theorem dX9_pack_272 : decode cX9_pack 272 = .ok (.getfield 61, 3) := by decide +kernel
theorem dX9_pack_275 : decode cX9_pack 275 = .ok (.iconst 4, 1) := by decide +kernel
theorem dX9_pack_276 : decode cX9_pack 276 = .ok (.iload_n 2, 1) := by decide +kernel
theorem dX9_pack_277 : decode cX9_pack 277 = .ok (.ifCond .ne 18, 3) := by decide +kernel
theorem dX9_pack_280 : decode cX9_pack 280 = .ok (.aload_n 0, 1) := by decide +kernel
theorem dX9_pack_281 : decode cX9_pack 281 = .ok (.getfield 61, 3) := by decide +kernel
theorem dX9_pack_284 : decode cX9_pack 284 = .ok (.iconst 3, 1) := by decide +kernel
theorem dX9_pack_285 : decode cX9_pack 285 = .ok (.iaload, 1) := by decide +kernel
theorem dX9_pack_286 : decode cX9_pack 286 = .ok (.bipush 7, 2) := by decide +kernel
theorem dX9_pack_288 : decode cX9_pack 288 = .ok (.iadd, 1) := by decide +kernel
theorem dX9_pack_289 : decode cX9_pack 289 = .ok (.bipush 8, 2) := by decide +kernel
theorem dX9_pack_291 : decode cX9_pack 291 = .ok (.idiv, 1) := by decide +kernel
theorem dX9_pack_292 : decode cX9_pack 292 = .ok (.goto 9, 3) := by decide +kernel
theorem dX9_pack_295 : decode cX9_pack 295 = .ok (.aload_n 0, 1) := by decide +kernel
theorem dX9_pack_296 : decode cX9_pack 296 = .ok (.getfield 61, 3) := by decide +kernel
theorem dX9_pack_299 : decode cX9_pack 299 = .ok (.iconst 3, 1) := by decide +kernel
theorem dX9_pack_300 : decode cX9_pack 300 = .ok (.iaload, 1) := by decide +kernel
theorem dX9_pack_301 : decode cX9_pack 301 = .ok (.iastore, 1) := by decide +kernel
theorem dX9_pack_302 : decode cX9_pack 302 = .ok (.iconst 0, 1) := by decide +kernel
theorem dX9_pack_303 : decode cX9_pack 303 = .ok (.istore 6, 2) := by decide +kernel
theorem dX9_pack_305 : decode cX9_pack 305 = .ok (.iconst 0, 1) := by decide +kernel
theorem dX9_pack_306 : decode cX9_pack 306 = .ok (.istore 7, 2) := by decide +kernel
theorem dX9_pack_308 : decode cX9_pack 308 = .ok (.iload 7, 2) := by decide +kernel
theorem dX9_pack_310 : decode cX9_pack 310 = .ok (.sipush 256, 3) := by decide +kernel
theorem dX9_pack_313 : decode cX9_pack 313 = .ok (.if_icmp .ge 35, 3) := by decide +kernel
theorem dX9_pack_316 : decode cX9_pack 316 = .ok (.iload 6, 2) := by decide +kernel
theorem dX9_pack_318 : decode cX9_pack 318 = .ok (.aload_n 0, 1) := by decide +kernel
theorem dX9_pack_319 : decode cX9_pack 319 = .ok (.getfield 19, 3) := by decide +kernel
theorem dX9_pack_322 : decode cX9_pack 322 = .ok (.sipush 256, 3) := by decide +kernel
theorem dX9_pack_325 : decode cX9_pack 325 = .ok (.iload_n 1, 1) := by decide +kernel
theorem dX9_pack_326 : decode cX9_pack 326 = .ok (.imul, 1) := by decide +kernel
theorem dX9_pack_327 : decode cX9_pack 327 = .ok (.iload 7, 2) := by decide +kernel
theorem dX9_pack_329 : decode cX9_pack 329 = .ok (.iadd, 1) := by decide +kernel
theorem dX9_pack_330 : decode cX9_pack 330 = .ok (.iaload, 1) := by decide +kernel
theorem dX9_pack_331 : decode cX9_pack 331 = .ok (.ifCond .le 7, 3) := by decide +kernel
theorem dX9_pack_334 : decode cX9_pack 334 = .ok (.iconst 1, 1) := by decide +kernel
theorem dX9_pack_335 : decode cX9_pack 335 = .ok (.goto 4, 3) := by decide +kernel
theorem dX9_pack_338 : decode cX9_pack 338 = .ok (.iconst 0, 1) := by decide +kernel
theorem dX9_pack_339 : decode cX9_pack 339 = .ok (.iadd, 1) := by decide +kernel
theorem dX9_pack_340 : decode cX9_pack 340 = .ok (.istore 6, 2) := by decide +kernel
theorem dX9_pack_342 : decode cX9_pack 342 = .ok (.iinc 7 1, 3) := by decide +kernel
theorem dX9_pack_345 : decode cX9_pack 345 = .ok (.goto (-37), 3) := by decide +kernel
theorem dX9_pack_348 : decode cX9_pack 348 = .ok (.bipush 8, 2) := by decide +kernel
theorem dX9_pack_350 : decode cX9_pack 350 = .ok (.iconst 3, 1) := by decide +kernel
theorem dX9_pack_351 : decode cX9_pack 351 = .ok (.iload 6, 2) := by decide +kernel
theorem dX9_pack_353 : decode cX9_pack 353 = .ok (.imul, 1) := by decide +kernel
theorem dX9_pack_354 : decode cX9_pack 354 = .ok (.iadd, 1) := by decide +kernel
theorem dX9_pack_355 : decode cX9_pack 355 = .ok (.iload_n 2, 1) := by decide +kernel
theorem dX9_pack_356 : decode cX9_pack 356 = .ok (.ifCond .ne 7, 3) := by decide +kernel
theorem dX9_pack_359 : decode cX9_pack 359 = .ok (.iconst 2, 1) := by decide +kernel
theorem dX9_pack_360 : decode cX9_pack 360 = .ok (.goto 14, 3) := by decide +kernel
theorem dX9_pack_363 : decode cX9_pack 363 = .ok (.iload_n 2, 1) := by decide +kernel
theorem dX9_pack_364 : decode cX9_pack 364 = .ok (.iconst 1, 1) := by decide +kernel
theorem dX9_pack_365 : decode cX9_pack 365 = .ok (.if_icmp .ne 7, 3) := by decide +kernel
theorem dX9_pack_368 : decode cX9_pack 368 = .ok (.iconst 4, 1) := by decide +kernel
theorem dX9_pack_369 : decode cX9_pack 369 = .ok (.goto 5, 3) := by decide +kernel
theorem dX9_pack_372 : decode cX9_pack 372 = .ok (.bipush 8, 2) := by decide +kernel
theorem dX9_pack_374 : decode cX9_pack 374 = .ok (.iadd, 1) := by decide +kernel
theorem dX9_pack_375 : decode cX9_pack 375 = .ok (.aload_n 0, 1) := by decide +kernel
theorem dX9_pack_376 : decode cX9_pack 376 = .ok (.getfield 61, 3) := by decide +kernel
theorem dX9_pack_379 : decode cX9_pack 379 = .ok (.iconst 4, 1) := by decide +kernel
theorem dX9_pack_380 : decode cX9_pack 380 = .ok (.iaload, 1) := by decide +kernel
theorem dX9_pack_381 : decode cX9_pack 381 = .ok (.iadd, 1) := by decide +kernel
theorem dX9_pack_382 : decode cX9_pack 382 = .ok (.istore 7, 2) := by decide +kernel
theorem dX9_pack_384 : decode cX9_pack 384 = .ok (.iload 7, 2) := by decide +kernel
theorem dX9_pack_386 : decode cX9_pack 386 = .ok (.sipush 4000, 3) := by decide +kernel
theorem dX9_pack_389 : decode cX9_pack 389 = .ok (.if_icmp .le 6, 3) := by decide +kernel
theorem dX9_pack_392 : decode cX9_pack 392 = .ok (.bipush (-4), 2) := by decide +kernel
theorem dX9_pack_394 : decode cX9_pack 394 = .ok (.ireturn, 1) := by decide +kernel
theorem dX9_pack_395 : decode cX9_pack 395 = .ok (.aload_n 0, 1) := by decide +kernel
theorem dX9_pack_396 : decode cX9_pack 396 = .ok (.iconst 0, 1) := by decide +kernel
theorem dX9_pack_397 : decode cX9_pack 397 = .ok (.putfield 73, 3) := by decide +kernel
theorem dX9_pack_400 : decode cX9_pack 400 = .ok (.aload_n 0, 1) := by decide +kernel
theorem dX9_pack_401 : decode cX9_pack 401 = .ok (.bipush 83, 2) := by decide +kernel
theorem dX9_pack_403 : decode cX9_pack 403 = .ok (.iconst 1, 1) := by decide +kernel
theorem dX9_pack_404 : decode cX9_pack 404 = .ok (.invokevirtual 163, 3) := by decide +kernel
theorem dX9_pack_407 : decode cX9_pack 407 = .ok (.aload_n 0, 1) := by decide +kernel
theorem dX9_pack_408 : decode cX9_pack 408 = .ok (.iconst 4, 1) := by decide +kernel
theorem dX9_pack_409 : decode cX9_pack 409 = .ok (.iload_n 2, 1) := by decide +kernel
theorem dX9_pack_410 : decode cX9_pack 410 = .ok (.imul, 1) := by decide +kernel
theorem dX9_pack_411 : decode cX9_pack 411 = .ok (.iload_n 3, 1) := by decide +kernel
theorem dX9_pack_412 : decode cX9_pack 412 = .ok (.iadd, 1) := by decide +kernel
theorem dX9_pack_413 : decode cX9_pack 413 = .ok (.iconst 1, 1) := by decide +kernel
theorem dX9_pack_414 : decode cX9_pack 414 = .ok (.invokevirtual 163, 3) := by decide +kernel
theorem dX9_pack_417 : decode cX9_pack 417 = .ok (.aload_n 0, 1) := by decide +kernel
theorem dX9_pack_418 : decode cX9_pack 418 = .ok (.aload_n 0, 1) := by decide +kernel
theorem dX9_pack_419 : decode cX9_pack 419 = .ok (.getfield 16, 3) := by decide +kernel
theorem dX9_pack_422 : decode cX9_pack 422 = .ok (.iload_n 1, 1) := by decide +kernel
theorem dX9_pack_423 : decode cX9_pack 423 = .ok (.iaload, 1) := by decide +kernel
theorem dX9_pack_424 : decode cX9_pack 424 = .ok (.iconst 1, 1) := by decide +kernel
theorem dX9_pack_425 : decode cX9_pack 425 = .ok (.invokevirtual 163, 3) := by decide +kernel
theorem dX9_pack_428 : decode cX9_pack 428 = .ok (.aload_n 0, 1) := by decide +kernel
theorem dX9_pack_429 : decode cX9_pack 429 = .ok (.iload 6, 2) := by decide +kernel
theorem dX9_pack_431 : decode cX9_pack 431 = .ok (.iconst 1, 1) := by decide +kernel
theorem dX9_pack_432 : decode cX9_pack 432 = .ok (.isub, 1) := by decide +kernel
theorem dX9_pack_433 : decode cX9_pack 433 = .ok (.iconst 1, 1) := by decide +kernel
theorem dX9_pack_434 : decode cX9_pack 434 = .ok (.invokevirtual 163, 3) := by decide +kernel
theorem dX9_pack_437 : decode cX9_pack 437 = .ok (.iconst 0, 1) := by decide +kernel
theorem dX9_pack_438 : decode cX9_pack 438 = .ok (.istore 8, 2) := by decide +kernel
theorem dX9_pack_440 : decode cX9_pack 440 = .ok (.iload 8, 2) := by decide +kernel
theorem dX9_pack_442 : decode cX9_pack 442 = .ok (.sipush 256, 3) := by decide +kernel
theorem dX9_pack_445 : decode cX9_pack 445 = .ok (.if_icmp .ge 53, 3) := by decide +kernel
theorem dX9_pack_448 : decode cX9_pack 448 = .ok (.aload_n 0, 1) := by decide +kernel
theorem dX9_pack_449 : decode cX9_pack 449 = .ok (.getfield 19, 3) := by decide +kernel
theorem dX9_pack_452 : decode cX9_pack 452 = .ok (.sipush 256, 3) := by decide +kernel
theorem dX9_pack_455 : decode cX9_pack 455 = .ok (.iload_n 1, 1) := by decide +kernel
theorem dX9_pack_456 : decode cX9_pack 456 = .ok (.imul, 1) := by decide +kernel
theorem dX9_pack_457 : decode cX9_pack 457 = .ok (.iload 8, 2) := by decide +kernel
theorem dX9_pack_459 : decode cX9_pack 459 = .ok (.iadd, 1) := by decide +kernel
theorem dX9_pack_460 : decode cX9_pack 460 = .ok (.iaload, 1) := by decide +kernel
theorem dX9_pack_461 : decode cX9_pack 461 = .ok (.ifCond .ne 6, 3) := by decide +kernel
theorem dX9_pack_464 : decode cX9_pack 464 = .ok (.goto 28, 3) := by decide +kernel
theorem dX9_pack_467 : decode cX9_pack 467 = .ok (.aload_n 0, 1) := by decide +kernel
theorem dX9_pack_468 : decode cX9_pack 468 = .ok (.iload 8, 2) := by decide +kernel
theorem dX9_pack_470 : decode cX9_pack 470 = .ok (.iconst 1, 1) := by decide +kernel
theorem dX9_pack_471 : decode cX9_pack 471 = .ok (.invokevirtual 163, 3) := by decide +kernel
theorem dX9_pack_474 : decode cX9_pack 474 = .ok (.aload_n 0, 1) := by decide +kernel
theorem dX9_pack_475 : decode cX9_pack 475 = .ok (.aload_n 0, 1) := by decide +kernel
theorem dX9_pack_476 : decode cX9_pack 476 = .ok (.getfield 19, 3) := by decide +kernel
theorem dX9_pack_479 : decode cX9_pack 479 = .ok (.sipush 256, 3) := by decide +kernel
theorem dX9_pack_482 : decode cX9_pack 482 = .ok (.iload_n 1, 1) := by decide +kernel
theorem dX9_pack_483 : decode cX9_pack 483 = .ok (.imul, 1) := by decide +kernel
theorem dX9_pack_484 : decode cX9_pack 484 = .ok (.iload 8, 2) := by decide +kernel
theorem dX9_pack_486 : decode cX9_pack 486 = .ok (.iadd, 1) := by decide +kernel
theorem dX9_pack_487 : decode cX9_pack 487 = .ok (.iaload, 1) := by decide +kernel
theorem dX9_pack_488 : decode cX9_pack 488 = .ok (.iconst 2, 1) := by decide +kernel
theorem dX9_pack_489 : decode cX9_pack 489 = .ok (.invokevirtual 163, 3) := by decide +kernel
theorem dX9_pack_492 : decode cX9_pack 492 = .ok (.iinc 8 1, 3) := by decide +kernel
theorem dX9_pack_495 : decode cX9_pack 495 = .ok (.goto (-55), 3) := by decide +kernel
theorem dX9_pack_498 : decode cX9_pack 498 = .ok (.aload_n 0, 1) := by decide +kernel
theorem dX9_pack_499 : decode cX9_pack 499 = .ok (.aload_n 0, 1) := by decide +kernel
theorem dX9_pack_500 : decode cX9_pack 500 = .ok (.getfield 70, 3) := by decide +kernel
theorem dX9_pack_503 : decode cX9_pack 503 = .ok (.iconst 2, 1) := by decide +kernel
theorem dX9_pack_504 : decode cX9_pack 504 = .ok (.invokevirtual 163, 3) := by decide +kernel
theorem dX9_pack_507 : decode cX9_pack 507 = .ok (.aload_n 0, 1) := by decide +kernel
theorem dX9_pack_508 : decode cX9_pack 508 = .ok (.aload_n 0, 1) := by decide +kernel
theorem dX9_pack_509 : decode cX9_pack 509 = .ok (.getfield 61, 3) := by decide +kernel
theorem dX9_pack_512 : decode cX9_pack 512 = .ok (.iconst 4, 1) := by decide +kernel
theorem dX9_pack_513 : decode cX9_pack 513 = .ok (.iaload, 1) := by decide +kernel
theorem dX9_pack_514 : decode cX9_pack 514 = .ok (.iconst 2, 1) := by decide +kernel
theorem dX9_pack_515 : decode cX9_pack 515 = .ok (.invokevirtual 163, 3) := by decide +kernel
theorem dX9_pack_518 : decode cX9_pack 518 = .ok (.iload_n 2, 1) := by decide +kernel
theorem dX9_pack_519 : decode cX9_pack 519 = .ok (.ifCond .ne 26, 3) := by decide +kernel
theorem dX9_pack_522 : decode cX9_pack 522 = .ok (.aload_n 0, 1) := by decide +kernel
theorem dX9_pack_523 : decode cX9_pack 523 = .ok (.aload_n 0, 1) := by decide +kernel
theorem dX9_pack_524 : decode cX9_pack 524 = .ok (.getfield 58, 3) := by decide +kernel
theorem dX9_pack_527 : decode cX9_pack 527 = .ok (.iconst 0, 1) := by decide +kernel
theorem dX9_pack_528 : decode cX9_pack 528 = .ok (.iaload, 1) := by decide +kernel
theorem dX9_pack_529 : decode cX9_pack 529 = .ok (.iconst 1, 1) := by decide +kernel
theorem dX9_pack_530 : decode cX9_pack 530 = .ok (.aload_n 0, 1) := by decide +kernel
theorem dX9_pack_531 : decode cX9_pack 531 = .ok (.getfield 16, 3) := by decide +kernel
theorem dX9_pack_534 : decode cX9_pack 534 = .ok (.iload_n 1, 1) := by decide +kernel
theorem dX9_pack_535 : decode cX9_pack 535 = .ok (.iaload, 1) := by decide +kernel
theorem dX9_pack_536 : decode cX9_pack 536 = .ok (.ishl, 1) := by decide +kernel
theorem dX9_pack_537 : decode cX9_pack 537 = .ok (.isub, 1) := by decide +kernel
theorem dX9_pack_538 : decode cX9_pack 538 = .ok (.iconst 2, 1) := by decide +kernel
theorem dX9_pack_539 : decode cX9_pack 539 = .ok (.invokevirtual 163, 3) := by decide +kernel
theorem dX9_pack_542 : decode cX9_pack 542 = .ok (.goto 14, 3) := by decide +kernel
theorem dX9_pack_545 : decode cX9_pack 545 = .ok (.aload_n 0, 1) := by decide +kernel
theorem dX9_pack_546 : decode cX9_pack 546 = .ok (.aload_n 0, 1) := by decide +kernel
theorem dX9_pack_547 : decode cX9_pack 547 = .ok (.getfield 58, 3) := by decide +kernel
theorem dX9_pack_550 : decode cX9_pack 550 = .ok (.iconst 0, 1) := by decide +kernel
theorem dX9_pack_551 : decode cX9_pack 551 = .ok (.iaload, 1) := by decide +kernel
theorem dX9_pack_552 : decode cX9_pack 552 = .ok (.iconst 4, 1) := by decide +kernel
theorem dX9_pack_553 : decode cX9_pack 553 = .ok (.invokevirtual 163, 3) := by decide +kernel
theorem dX9_pack_556 : decode cX9_pack 556 = .ok (.iload_n 2, 1) := by decide +kernel
theorem dX9_pack_557 : decode cX9_pack 557 = .ok (.iconst 2, 1) := by decide +kernel
theorem dX9_pack_558 : decode cX9_pack 558 = .ok (.if_icmp .ne 14, 3) := by decide +kernel
theorem dX9_pack_561 : decode cX9_pack 561 = .ok (.aload_n 0, 1) := by decide +kernel
theorem dX9_pack_562 : decode cX9_pack 562 = .ok (.aload_n 0, 1) := by decide +kernel
theorem dX9_pack_563 : decode cX9_pack 563 = .ok (.getfield 58, 3) := by decide +kernel
theorem dX9_pack_566 : decode cX9_pack 566 = .ok (.iconst 1, 1) := by decide +kernel
theorem dX9_pack_567 : decode cX9_pack 567 = .ok (.iaload, 1) := by decide +kernel
theorem dX9_pack_568 : decode cX9_pack 568 = .ok (.iconst 4, 1) := by decide +kernel
theorem dX9_pack_569 : decode cX9_pack 569 = .ok (.invokevirtual 163, 3) := by decide +kernel
theorem dX9_pack_572 : decode cX9_pack 572 = .ok (.iconst 0, 1) := by decide +kernel
theorem dX9_pack_573 : decode cX9_pack 573 = .ok (.istore 8, 2) := by decide +kernel
theorem dX9_pack_575 : decode cX9_pack 575 = .ok (.iload 8, 2) := by decide +kernel
theorem dX9_pack_577 : decode cX9_pack 577 = .ok (.aload_n 0, 1) := by decide +kernel
theorem dX9_pack_578 : decode cX9_pack 578 = .ok (.getfield 61, 3) := by decide +kernel
theorem dX9_pack_581 : decode cX9_pack 581 = .ok (.iconst 4, 1) := by decide +kernel
theorem dX9_pack_582 : decode cX9_pack 582 = .ok (.iaload, 1) := by decide +kernel
theorem dX9_pack_583 : decode cX9_pack 583 = .ok (.if_icmp .ge 97, 3) := by decide +kernel
theorem dX9_pack_586 : decode cX9_pack 586 = .ok (.iconst 0, 1) := by decide +kernel
theorem dX9_pack_587 : decode cX9_pack 587 = .ok (.istore 9, 2) := by decide +kernel
theorem dX9_pack_589 : decode cX9_pack 589 = .ok (.iconst 0, 1) := by decide +kernel
theorem dX9_pack_590 : decode cX9_pack 590 = .ok (.istore 10, 2) := by decide +kernel
theorem dX9_pack_592 : decode cX9_pack 592 = .ok (.iload 10, 2) := by decide +kernel
theorem dX9_pack_594 : decode cX9_pack 594 = .ok (.bipush 8, 2) := by decide +kernel
theorem dX9_pack_596 : decode cX9_pack 596 = .ok (.if_icmp .ge 54, 3) := by decide +kernel
theorem dX9_pack_599 : decode cX9_pack 599 = .ok (.iload_n 2, 1) := by decide +kernel
theorem dX9_pack_600 : decode cX9_pack 600 = .ok (.ifCond .ne 50, 3) := by decide +kernel
theorem dX9_pack_603 : decode cX9_pack 603 = .ok (.iload 5, 2) := by decide +kernel
theorem dX9_pack_605 : decode cX9_pack 605 = .ok (.bipush 8, 2) := by decide +kernel
theorem dX9_pack_607 : decode cX9_pack 607 = .ok (.iload 8, 2) := by decide +kernel
theorem dX9_pack_609 : decode cX9_pack 609 = .ok (.imul, 1) := by decide +kernel
theorem dX9_pack_610 : decode cX9_pack 610 = .ok (.iadd, 1) := by decide +kernel
theorem dX9_pack_611 : decode cX9_pack 611 = .ok (.iload 10, 2) := by decide +kernel
theorem dX9_pack_613 : decode cX9_pack 613 = .ok (.iadd, 1) := by decide +kernel
theorem dX9_pack_614 : decode cX9_pack 614 = .ok (.istore 11, 2) := by decide +kernel
theorem dX9_pack_616 : decode cX9_pack 616 = .ok (.iconst 2, 1) := by decide +kernel
theorem dX9_pack_617 : decode cX9_pack 617 = .ok (.iload 9, 2) := by decide +kernel
theorem dX9_pack_619 : decode cX9_pack 619 = .ok (.imul, 1) := by decide +kernel
theorem dX9_pack_620 : decode cX9_pack 620 = .ok (.iload 11, 2) := by decide +kernel
theorem dX9_pack_622 : decode cX9_pack 622 = .ok (.aload_n 0, 1) := by decide +kernel
theorem dX9_pack_623 : decode cX9_pack 623 = .ok (.getfield 55, 3) := by decide +kernel
theorem dX9_pack_626 : decode cX9_pack 626 = .ok (.arraylength, 1) := by decide +kernel
theorem dX9_pack_627 : decode cX9_pack 627 = .ok (.if_icmp .ge 13, 3) := by decide +kernel
theorem dX9_pack_630 : decode cX9_pack 630 = .ok (.aload_n 0, 1) := by decide +kernel
theorem dX9_pack_631 : decode cX9_pack 631 = .ok (.getfield 55, 3) := by decide +kernel
theorem dX9_pack_634 : decode cX9_pack 634 = .ok (.iload 11, 2) := by decide +kernel
theorem dX9_pack_636 : decode cX9_pack 636 = .ok (.iaload, 1) := by decide +kernel
theorem dX9_pack_637 : decode cX9_pack 637 = .ok (.goto 4, 3) := by decide +kernel
theorem dX9_pack_640 : decode cX9_pack 640 = .ok (.iconst 0, 1) := by decide +kernel
theorem dX9_pack_641 : decode cX9_pack 641 = .ok (.iadd, 1) := by decide +kernel
theorem dX9_pack_642 : decode cX9_pack 642 = .ok (.istore 9, 2) := by decide +kernel
theorem dX9_pack_644 : decode cX9_pack 644 = .ok (.iinc 10 1, 3) := by decide +kernel
theorem dX9_pack_647 : decode cX9_pack 647 = .ok (.goto (-55), 3) := by decide +kernel
theorem dX9_pack_650 : decode cX9_pack 650 = .ok (.aload_n 0, 1) := by decide +kernel
theorem dX9_pack_651 : decode cX9_pack 651 = .ok (.iload_n 2, 1) := by decide +kernel
theorem dX9_pack_652 : decode cX9_pack 652 = .ok (.ifCond .ne 8, 3) := by decide +kernel
theorem dX9_pack_655 : decode cX9_pack 655 = .ok (.iload 9, 2) := by decide +kernel
theorem dX9_pack_657 : decode cX9_pack 657 = .ok (.goto 13, 3) := by decide +kernel
theorem dX9_pack_660 : decode cX9_pack 660 = .ok (.aload_n 0, 1) := by decide +kernel
theorem dX9_pack_661 : decode cX9_pack 661 = .ok (.getfield 55, 3) := by decide +kernel
theorem dX9_pack_664 : decode cX9_pack 664 = .ok (.iload 5, 2) := by decide +kernel
theorem dX9_pack_666 : decode cX9_pack 666 = .ok (.iload 8, 2) := by decide +kernel
theorem dX9_pack_668 : decode cX9_pack 668 = .ok (.iadd, 1) := by decide +kernel
theorem dX9_pack_669 : decode cX9_pack 669 = .ok (.iaload, 1) := by decide +kernel
theorem dX9_pack_670 : decode cX9_pack 670 = .ok (.iconst 1, 1) := by decide +kernel
theorem dX9_pack_671 : decode cX9_pack 671 = .ok (.invokevirtual 163, 3) := by decide +kernel
theorem dX9_pack_674 : decode cX9_pack 674 = .ok (.iinc 8 1, 3) := by decide +kernel
theorem dX9_pack_677 : decode cX9_pack 677 = .ok (.goto (-102), 3) := by decide +kernel
theorem dX9_pack_680 : decode cX9_pack 680 = .ok (.aload_n 0, 1) := by decide +kernel
theorem dX9_pack_681 : decode cX9_pack 681 = .ok (.invokevirtual 166, 3) := by decide +kernel
theorem dX9_pack_684 : decode cX9_pack 684 = .ok (.aload_n 0, 1) := by decide +kernel
theorem dX9_pack_685 : decode cX9_pack 685 = .ok (.getfield 73, 3) := by decide +kernel
theorem dX9_pack_688 : decode cX9_pack 688 = .ok (.ireturn, 1) := by decide +kernel
theorem dX9_put_0 : decode cX9_put 0 = .ok (.iload_n 2, 1) := by decide +kernel
theorem dX9_put_1 : decode cX9_put 1 = .ok (.iconst 1, 1) := by decide +kernel
theorem dX9_put_2 : decode cX9_put 2 = .ok (.isub, 1) := by decide +kernel
theorem dX9_put_3 : decode cX9_put 3 = .ok (.istore_n 3, 1) := by decide +kernel
theorem dX9_put_4 : decode cX9_put 4 = .ok (.iload_n 3, 1) := by decide +kernel
theorem dX9_put_5 : decode cX9_put 5 = .ok (.ifCond .lt 38, 3) := by decide +kernel
theorem dX9_put_8 : decode cX9_put 8 = .ok (.aload_n 0, 1) := by decide +kernel
theorem dX9_put_9 : decode cX9_put 9 = .ok (.getfield 13, 3) := by decide +kernel
theorem dX9_put_12 : decode cX9_put 12 = .ok (.aload_n 0, 1) := by decide +kernel
theorem dX9_put_13 : decode cX9_put 13 = .ok (.getfield 73, 3) := by decide +kernel
theorem dX9_put_16 : decode cX9_put 16 = .ok (.iload_n 1, 1) := by decide +kernel
theorem dX9_put_17 : decode cX9_put 17 = .ok (.bipush 8, 2) := by decide +kernel
theorem dX9_put_19 : decode cX9_put 19 = .ok (.iload_n 3, 1) := by decide +kernel
theorem dX9_put_20 : decode cX9_put 20 = .ok (.imul, 1) := by decide +kernel
theorem dX9_put_21 : decode cX9_put 21 = .ok (.ishr, 1) := by decide +kernel
theorem dX9_put_22 : decode cX9_put 22 = .ok (.sipush 255, 3) := by decide +kernel
theorem dX9_put_25 : decode cX9_put 25 = .ok (.iand, 1) := by decide +kernel
theorem dX9_put_26 : decode cX9_put 26 = .ok (.iastore, 1) := by decide +kernel
theorem dX9_put_27 : decode cX9_put 27 = .ok (.aload_n 0, 1) := by decide +kernel
theorem dX9_put_28 : decode cX9_put 28 = .ok (.dup, 1) := by decide +kernel
theorem dX9_put_29 : decode cX9_put 29 = .ok (.getfield 73, 3) := by decide +kernel
theorem dX9_put_32 : decode cX9_put 32 = .ok (.iconst 1, 1) := by decide +kernel
theorem dX9_put_33 : decode cX9_put 33 = .ok (.iadd, 1) := by decide +kernel
theorem dX9_put_34 : decode cX9_put 34 = .ok (.putfield 73, 3) := by decide +kernel
theorem dX9_put_37 : decode cX9_put 37 = .ok (.iinc 3 (-1), 3) := by decide +kernel
theorem dX9_put_40 : decode cX9_put 40 = .ok (.goto (-36), 3) := by decide +kernel
theorem dX9_put_43 : decode cX9_put 43 = .ok (.return_, 1) := by decide +kernel
theorem dX9_ideal_0 : decode cX9_ideal 0 = .ok (.aload_n 0, 1) := by decide +kernel
theorem dX9_ideal_1 : decode cX9_ideal 1 = .ok (.iload_n 1, 1) := by decide +kernel
theorem dX9_ideal_2 : decode cX9_ideal 2 = .ok (.invokevirtual 84, 3) := by decide +kernel
theorem dX9_ideal_5 : decode cX9_ideal 5 = .ok (.ifCond .ne 5, 3) := by decide +kernel
theorem dX9_ideal_8 : decode cX9_ideal 8 = .ok (.iconst (-1), 1) := by decide +kernel
theorem dX9_ideal_9 : decode cX9_ideal 9 = .ok (.ireturn, 1) := by decide +kernel
theorem dX9_ideal_10 : decode cX9_ideal 10 = .ok (.aload_n 0, 1) := by decide +kernel
theorem dX9_ideal_11 : decode cX9_ideal 11 = .ok (.iload_n 1, 1) := by decide +kernel
theorem dX9_ideal_12 : decode cX9_ideal 12 = .ok (.invokevirtual 149, 3) := by decide +kernel
theorem dX9_ideal_15 : decode cX9_ideal 15 = .ok (.istore_n 2, 1) := by decide +kernel
theorem dX9_ideal_16 : decode cX9_ideal 16 = .ok (.iload_n 2, 1) := by decide +kernel
theorem dX9_ideal_17 : decode cX9_ideal 17 = .ok (.ifCond .ge 5, 3) := by decide +kernel
theorem dX9_ideal_20 : decode cX9_ideal 20 = .ok (.iload_n 2, 1) := by decide +kernel
theorem dX9_ideal_21 : decode cX9_ideal 21 = .ok (.ireturn, 1) := by decide +kernel
theorem dX9_ideal_22 : decode cX9_ideal 22 = .ok (.iconst 1, 1) := by decide +kernel
theorem dX9_ideal_23 : decode cX9_ideal 23 = .ok (.istore_n 3, 1) := by decide +kernel
theorem dX9_ideal_24 : decode cX9_ideal 24 = .ok (.aload_n 0, 1) := by decide +kernel
theorem dX9_ideal_25 : decode cX9_ideal 25 = .ok (.getfield 64, 3) := by decide +kernel
theorem dX9_ideal_28 : decode cX9_ideal 28 = .ok (.iconst 0, 1) := by decide +kernel
theorem dX9_ideal_29 : decode cX9_ideal 29 = .ok (.iconst 1, 1) := by decide +kernel
theorem dX9_ideal_30 : decode cX9_ideal 30 = .ok (.iastore, 1) := by decide +kernel
theorem dX9_ideal_31 : decode cX9_ideal 31 = .ok (.iconst 0, 1) := by decide +kernel
theorem dX9_ideal_32 : decode cX9_ideal 32 = .ok (.istore 4, 2) := by decide +kernel
theorem dX9_ideal_34 : decode cX9_ideal 34 = .ok (.iload 4, 2) := by decide +kernel
theorem dX9_ideal_36 : decode cX9_ideal 36 = .ok (.aload_n 0, 1) := by decide +kernel
theorem dX9_ideal_37 : decode cX9_ideal 37 = .ok (.getfield 70, 3) := by decide +kernel
theorem dX9_ideal_40 : decode cX9_ideal 40 = .ok (.if_icmp .ge 97, 3) := by decide +kernel
theorem dX9_ideal_43 : decode cX9_ideal 43 = .ok (.aload_n 0, 1) := by decide +kernel
theorem dX9_ideal_44 : decode cX9_ideal 44 = .ok (.getfield 19, 3) := by decide +kernel
theorem dX9_ideal_47 : decode cX9_ideal 47 = .ok (.sipush 256, 3) := by decide +kernel
theorem dX9_ideal_50 : decode cX9_ideal 50 = .ok (.iload_n 1, 1) := by decide +kernel
theorem dX9_ideal_51 : decode cX9_ideal 51 = .ok (.imul, 1) := by decide +kernel
theorem dX9_ideal_52 : decode cX9_ideal 52 = .ok (.aload_n 0, 1) := by decide +kernel
theorem dX9_ideal_53 : decode cX9_ideal 53 = .ok (.getfield 7, 3) := by decide +kernel
theorem dX9_ideal_56 : decode cX9_ideal 56 = .ok (.iload 4, 2) := by decide +kernel
theorem dX9_ideal_58 : decode cX9_ideal 58 = .ok (.iaload, 1) := by decide +kernel
theorem dX9_ideal_59 : decode cX9_ideal 59 = .ok (.iadd, 1) := by decide +kernel
theorem dX9_ideal_60 : decode cX9_ideal 60 = .ok (.iaload, 1) := by decide +kernel
theorem dX9_ideal_61 : decode cX9_ideal 61 = .ok (.istore 5, 2) := by decide +kernel
theorem dX9_ideal_63 : decode cX9_ideal 63 = .ok (.iconst 0, 1) := by decide +kernel
theorem dX9_ideal_64 : decode cX9_ideal 64 = .ok (.istore 6, 2) := by decide +kernel
theorem dX9_ideal_66 : decode cX9_ideal 66 = .ok (.iconst 0, 1) := by decide +kernel
theorem dX9_ideal_67 : decode cX9_ideal 67 = .ok (.istore 7, 2) := by decide +kernel
theorem dX9_ideal_69 : decode cX9_ideal 69 = .ok (.iload 7, 2) := by decide +kernel
theorem dX9_ideal_71 : decode cX9_ideal 71 = .ok (.iload_n 3, 1) := by decide +kernel
theorem dX9_ideal_72 : decode cX9_ideal 72 = .ok (.if_icmp .ge 43, 3) := by decide +kernel
theorem dX9_ideal_75 : decode cX9_ideal 75 = .ok (.aload_n 0, 1) := by decide +kernel
theorem dX9_ideal_76 : decode cX9_ideal 76 = .ok (.getfield 64, 3) := by decide +kernel
theorem dX9_ideal_79 : decode cX9_ideal 79 = .ok (.iload 7, 2) := by decide +kernel
theorem dX9_ideal_81 : decode cX9_ideal 81 = .ok (.iaload, 1) := by decide +kernel
theorem dX9_ideal_82 : decode cX9_ideal 82 = .ok (.iload 5, 2) := by decide +kernel
theorem dX9_ideal_84 : decode cX9_ideal 84 = .ok (.imul, 1) := by decide +kernel
theorem dX9_ideal_85 : decode cX9_ideal 85 = .ok (.iload 6, 2) := by decide +kernel
theorem dX9_ideal_87 : decode cX9_ideal 87 = .ok (.iadd, 1) := by decide +kernel
theorem dX9_ideal_88 : decode cX9_ideal 88 = .ok (.istore 8, 2) := by decide +kernel
theorem dX9_ideal_90 : decode cX9_ideal 90 = .ok (.aload_n 0, 1) := by decide +kernel
theorem dX9_ideal_91 : decode cX9_ideal 91 = .ok (.getfield 64, 3) := by decide +kernel
theorem dX9_ideal_94 : decode cX9_ideal 94 = .ok (.iload 7, 2) := by decide +kernel
theorem dX9_ideal_96 : decode cX9_ideal 96 = .ok (.iload 8, 2) := by decide +kernel
theorem dX9_ideal_98 : decode cX9_ideal 98 = .ok (.ldc 169, 2) := by decide +kernel
theorem dX9_ideal_100 : decode cX9_ideal 100 = .ok (.iand, 1) := by decide +kernel
theorem dX9_ideal_101 : decode cX9_ideal 101 = .ok (.iastore, 1) := by decide +kernel
theorem dX9_ideal_102 : decode cX9_ideal 102 = .ok (.iload 8, 2) := by decide +kernel
theorem dX9_ideal_104 : decode cX9_ideal 104 = .ok (.bipush 16, 2) := by decide +kernel
theorem dX9_ideal_106 : decode cX9_ideal 106 = .ok (.ishr, 1) := by decide +kernel
theorem dX9_ideal_107 : decode cX9_ideal 107 = .ok (.istore 6, 2) := by decide +kernel
theorem dX9_ideal_109 : decode cX9_ideal 109 = .ok (.iinc 7 1, 3) := by decide +kernel
theorem dX9_ideal_112 : decode cX9_ideal 112 = .ok (.goto (-43), 3) := by decide +kernel
theorem dX9_ideal_115 : decode cX9_ideal 115 = .ok (.iload 6, 2) := by decide +kernel
theorem dX9_ideal_117 : decode cX9_ideal 117 = .ok (.ifCond .le 14, 3) := by decide +kernel
theorem dX9_ideal_120 : decode cX9_ideal 120 = .ok (.aload_n 0, 1) := by decide +kernel
theorem dX9_ideal_121 : decode cX9_ideal 121 = .ok (.getfield 64, 3) := by decide +kernel
theorem dX9_ideal_124 : decode cX9_ideal 124 = .ok (.iload_n 3, 1) := by decide +kernel
theorem dX9_ideal_125 : decode cX9_ideal 125 = .ok (.iload 6, 2) := by decide +kernel
theorem dX9_ideal_127 : decode cX9_ideal 127 = .ok (.iastore, 1) := by decide +kernel
theorem dX9_ideal_128 : decode cX9_ideal 128 = .ok (.iinc 3 1, 3) := by decide +kernel
theorem dX9_ideal_131 : decode cX9_ideal 131 = .ok (.iinc 4 1, 3) := by decide +kernel
theorem dX9_ideal_134 : decode cX9_ideal 134 = .ok (.goto (-100), 3) := by decide +kernel
theorem dX9_ideal_137 : decode cX9_ideal 137 = .ok (.bipush 16, 2) := by decide +kernel
theorem dX9_ideal_139 : decode cX9_ideal 139 = .ok (.iload_n 3, 1) := by decide +kernel
theorem dX9_ideal_140 : decode cX9_ideal 140 = .ok (.iconst 1, 1) := by decide +kernel
theorem dX9_ideal_141 : decode cX9_ideal 141 = .ok (.isub, 1) := by decide +kernel
theorem dX9_ideal_142 : decode cX9_ideal 142 = .ok (.imul, 1) := by decide +kernel
theorem dX9_ideal_143 : decode cX9_ideal 143 = .ok (.istore 4, 2) := by decide +kernel
theorem dX9_ideal_145 : decode cX9_ideal 145 = .ok (.aload_n 0, 1) := by decide +kernel
theorem dX9_ideal_146 : decode cX9_ideal 146 = .ok (.getfield 64, 3) := by decide +kernel
theorem dX9_ideal_149 : decode cX9_ideal 149 = .ok (.iload_n 3, 1) := by decide +kernel
theorem dX9_ideal_150 : decode cX9_ideal 150 = .ok (.iconst 1, 1) := by decide +kernel
theorem dX9_ideal_151 : decode cX9_ideal 151 = .ok (.isub, 1) := by decide +kernel
theorem dX9_ideal_152 : decode cX9_ideal 152 = .ok (.iaload, 1) := by decide +kernel
theorem dX9_ideal_153 : decode cX9_ideal 153 = .ok (.istore 5, 2) := by decide +kernel
theorem dX9_ideal_155 : decode cX9_ideal 155 = .ok (.iload 5, 2) := by decide +kernel
theorem dX9_ideal_157 : decode cX9_ideal 157 = .ok (.ifCond .le 15, 3) := by decide +kernel
theorem dX9_ideal_160 : decode cX9_ideal 160 = .ok (.iinc 4 1, 3) := by decide +kernel
theorem dX9_ideal_163 : decode cX9_ideal 163 = .ok (.iload 5, 2) := by decide +kernel
theorem dX9_ideal_165 : decode cX9_ideal 165 = .ok (.iconst 1, 1) := by decide +kernel
theorem dX9_ideal_166 : decode cX9_ideal 166 = .ok (.ishr, 1) := by decide +kernel
theorem dX9_ideal_167 : decode cX9_ideal 167 = .ok (.istore 5, 2) := by decide +kernel
theorem dX9_ideal_169 : decode cX9_ideal 169 = .ok (.goto (-14), 3) := by decide +kernel
theorem dX9_ideal_172 : decode cX9_ideal 172 = .ok (.aload_n 0, 1) := by decide +kernel
theorem dX9_ideal_173 : decode cX9_ideal 173 = .ok (.getfield 16, 3) := by decide +kernel
theorem dX9_ideal_176 : decode cX9_ideal 176 = .ok (.iload_n 1, 1) := by decide +kernel
theorem dX9_ideal_177 : decode cX9_ideal 177 = .ok (.iaload, 1) := by decide +kernel
theorem dX9_ideal_178 : decode cX9_ideal 178 = .ok (.aload_n 0, 1) := by decide +kernel
theorem dX9_ideal_179 : decode cX9_ideal 179 = .ok (.getfield 70, 3) := by decide +kernel
theorem dX9_ideal_182 : decode cX9_ideal 182 = .ok (.imul, 1) := by decide +kernel
theorem dX9_ideal_183 : decode cX9_ideal 183 = .ok (.iload 4, 2) := by decide +kernel
theorem dX9_ideal_185 : decode cX9_ideal 185 = .ok (.isub, 1) := by decide +kernel
theorem dX9_ideal_186 : decode cX9_ideal 186 = .ok (.iconst 1, 1) := by decide +kernel
theorem dX9_ideal_187 : decode cX9_ideal 187 = .ok (.iadd, 1) := by decide +kernel
theorem dX9_ideal_188 : decode cX9_ideal 188 = .ok (.istore 5, 2) := by decide +kernel
theorem dX9_ideal_190 : decode cX9_ideal 190 = .ok (.iload 5, 2) := by decide +kernel
theorem dX9_ideal_192 : decode cX9_ideal 192 = .ok (.ifCond .ge 7, 3) := by decide +kernel
theorem dX9_ideal_195 : decode cX9_ideal 195 = .ok (.iconst 0, 1) := by decide +kernel
theorem dX9_ideal_196 : decode cX9_ideal 196 = .ok (.goto 5, 3) := by decide +kernel
theorem dX9_ideal_199 : decode cX9_ideal 199 = .ok (.iload 5, 2) := by decide +kernel
theorem dX9_ideal_201 : decode cX9_ideal 201 = .ok (.ireturn, 1) := by decide +kernel
theorem dX9_look_0 : decode cX9_look 0 = .ok (.iload_n 1, 1) := by decide +kernel
theorem dX9_look_1 : decode cX9_look 1 = .ok (.ifCond .lt 8, 3) := by decide +kernel
theorem dX9_look_4 : decode cX9_look 4 = .ok (.iload_n 1, 1) := by decide +kernel
theorem dX9_look_5 : decode cX9_look 5 = .ok (.iconst 5, 1) := by decide +kernel
theorem dX9_look_6 : decode cX9_look 6 = .ok (.if_icmp .le 7, 3) := by decide +kernel
theorem dX9_look_9 : decode cX9_look 9 = .ok (.iconst (-1), 1) := by decide +kernel
theorem dX9_look_10 : decode cX9_look 10 = .ok (.goto 9, 3) := by decide +kernel
theorem dX9_look_13 : decode cX9_look 13 = .ok (.aload_n 0, 1) := by decide +kernel
theorem dX9_look_14 : decode cX9_look 14 = .ok (.getfield 48, 3) := by decide +kernel
theorem dX9_look_17 : decode cX9_look 17 = .ok (.iload_n 1, 1) := by decide +kernel
theorem dX9_look_18 : decode cX9_look 18 = .ok (.iaload, 1) := by decide +kernel
theorem dX9_look_19 : decode cX9_look 19 = .ok (.ireturn, 1) := by decide +kernel
theorem dX9_fails_0 : decode cX9_fails 0 = .ok (.aload_n 0, 1) := by decide +kernel
theorem dX9_fails_1 : decode cX9_fails 1 = .ok (.iload_n 1, 1) := by decide +kernel
theorem dX9_fails_2 : decode cX9_fails 2 = .ok (.putfield 170, 3) := by decide +kernel
theorem dX9_fails_5 : decode cX9_fails 5 = .ok (.aload_n 0, 1) := by decide +kernel
theorem dX9_fails_6 : decode cX9_fails 6 = .ok (.iload_n 2, 1) := by decide +kernel
theorem dX9_fails_7 : decode cX9_fails 7 = .ok (.putfield 51, 3) := by decide +kernel
theorem dX9_fails_10 : decode cX9_fails 10 = .ok (.iconst 0, 1) := by decide +kernel
theorem dX9_fails_11 : decode cX9_fails 11 = .ok (.ireturn, 1) := by decide +kernel
theorem dX9_number_0 : decode cX9_number 0 = .ok (.aload_n 0, 1) := by decide +kernel
theorem dX9_number_1 : decode cX9_number 1 = .ok (.getfield 173, 3) := by decide +kernel
theorem dX9_number_4 : decode cX9_number 4 = .ok (.iload_n 1, 1) := by decide +kernel
theorem dX9_number_5 : decode cX9_number 5 = .ok (.iadd, 1) := by decide +kernel
theorem dX9_number_6 : decode cX9_number 6 = .ok (.aload_n 0, 1) := by decide +kernel
theorem dX9_number_7 : decode cX9_number 7 = .ok (.getfield 70, 3) := by decide +kernel
theorem dX9_number_10 : decode cX9_number 10 = .ok (.if_icmp .le 17, 3) := by decide +kernel
theorem dX9_number_13 : decode cX9_number 13 = .ok (.aload_n 0, 1) := by decide +kernel
theorem dX9_number_14 : decode cX9_number 14 = .ok (.iconst 1, 1) := by decide +kernel
theorem dX9_number_15 : decode cX9_number 15 = .ok (.aload_n 0, 1) := by decide +kernel
theorem dX9_number_16 : decode cX9_number 16 = .ok (.getfield 70, 3) := by decide +kernel
theorem dX9_number_19 : decode cX9_number 19 = .ok (.invokevirtual 176, 3) := by decide +kernel
theorem dX9_number_22 : decode cX9_number 22 = .ok (.istore_n 2, 1) := by decide +kernel
theorem dX9_number_23 : decode cX9_number 23 = .ok (.ldc2_w 179, 3) := by decide +kernel
theorem dX9_number_26 : decode cX9_number 26 = .ok (.lreturn, 1) := by decide +kernel
theorem dX9_number_27 : decode cX9_number 27 = .ok (.lconst 0, 1) := by decide +kernel
theorem dX9_number_28 : decode cX9_number 28 = .ok (.lstore_n 2, 1) := by decide +kernel
theorem dX9_number_29 : decode cX9_number 29 = .ok (.iconst 0, 1) := by decide +kernel
theorem dX9_number_30 : decode cX9_number 30 = .ok (.istore 4, 2) := by decide +kernel
theorem dX9_number_32 : decode cX9_number 32 = .ok (.iload 4, 2) := by decide +kernel
theorem dX9_number_34 : decode cX9_number 34 = .ok (.iload_n 1, 1) := by decide +kernel
theorem dX9_number_35 : decode cX9_number 35 = .ok (.if_icmp .ge 28, 3) := by decide +kernel
theorem dX9_number_38 : decode cX9_number 38 = .ok (.lload_n 2, 1) := by decide +kernel
theorem dX9_number_39 : decode cX9_number 39 = .ok (.bipush 8, 2) := by decide +kernel
theorem dX9_number_41 : decode cX9_number 41 = .ok (.lshl, 1) := by decide +kernel
theorem dX9_number_42 : decode cX9_number 42 = .ok (.aload_n 0, 1) := by decide +kernel
theorem dX9_number_43 : decode cX9_number 43 = .ok (.getfield 7, 3) := by decide +kernel
theorem dX9_number_46 : decode cX9_number 46 = .ok (.aload_n 0, 1) := by decide +kernel
theorem dX9_number_47 : decode cX9_number 47 = .ok (.getfield 173, 3) := by decide +kernel
theorem dX9_number_50 : decode cX9_number 50 = .ok (.iload 4, 2) := by decide +kernel
theorem dX9_number_52 : decode cX9_number 52 = .ok (.iadd, 1) := by decide +kernel
theorem dX9_number_53 : decode cX9_number 53 = .ok (.iaload, 1) := by decide +kernel
theorem dX9_number_54 : decode cX9_number 54 = .ok (.i2l, 1) := by decide +kernel
theorem dX9_number_55 : decode cX9_number 55 = .ok (.lor, 1) := by decide +kernel
theorem dX9_number_56 : decode cX9_number 56 = .ok (.lstore_n 2, 1) := by decide +kernel
theorem dX9_number_57 : decode cX9_number 57 = .ok (.iinc 4 1, 3) := by decide +kernel
theorem dX9_number_60 : decode cX9_number 60 = .ok (.goto (-28), 3) := by decide +kernel
theorem dX9_number_63 : decode cX9_number 63 = .ok (.aload_n 0, 1) := by decide +kernel
theorem dX9_number_64 : decode cX9_number 64 = .ok (.dup, 1) := by decide +kernel
theorem dX9_number_65 : decode cX9_number 65 = .ok (.getfield 173, 3) := by decide +kernel
theorem dX9_number_68 : decode cX9_number 68 = .ok (.iload_n 1, 1) := by decide +kernel
theorem dX9_number_69 : decode cX9_number 69 = .ok (.iadd, 1) := by decide +kernel
theorem dX9_number_70 : decode cX9_number 70 = .ok (.putfield 173, 3) := by decide +kernel
theorem dX9_number_73 : decode cX9_number 73 = .ok (.lload_n 2, 1) := by decide +kernel
theorem dX9_number_74 : decode cX9_number 74 = .ok (.lreturn, 1) := by decide +kernel
theorem dX9_reads_0 : decode cX9_reads 0 = .ok (.aload_n 0, 1) := by decide +kernel
theorem dX9_reads_1 : decode cX9_reads 1 = .ok (.iconst 0, 1) := by decide +kernel
theorem dX9_reads_2 : decode cX9_reads 2 = .ok (.putfield 173, 3) := by decide +kernel
theorem dX9_reads_5 : decode cX9_reads 5 = .ok (.aload_n 0, 1) := by decide +kernel
theorem dX9_reads_6 : decode cX9_reads 6 = .ok (.iconst 1, 1) := by decide +kernel
theorem dX9_reads_7 : decode cX9_reads 7 = .ok (.invokevirtual 181, 3) := by decide +kernel
theorem dX9_reads_10 : decode cX9_reads 10 = .ok (.lstore_n 1, 1) := by decide +kernel
theorem dX9_reads_11 : decode cX9_reads 11 = .ok (.lload_n 1, 1) := by decide +kernel
theorem dX9_reads_12 : decode cX9_reads 12 = .ok (.lconst 0, 1) := by decide +kernel
theorem dX9_reads_13 : decode cX9_reads 13 = .ok (.lcmp, 1) := by decide +kernel
theorem dX9_reads_14 : decode cX9_reads 14 = .ok (.ifCond .ge 5, 3) := by decide +kernel
theorem dX9_reads_17 : decode cX9_reads 17 = .ok (.iconst 0, 1) := by decide +kernel
theorem dX9_reads_18 : decode cX9_reads 18 = .ok (.ireturn, 1) := by decide +kernel
theorem dX9_reads_19 : decode cX9_reads 19 = .ok (.lload_n 1, 1) := by decide +kernel
theorem dX9_reads_20 : decode cX9_reads 20 = .ok (.ldc2_w 185, 3) := by decide +kernel
theorem dX9_reads_23 : decode cX9_reads 23 = .ok (.lcmp, 1) := by decide +kernel
theorem dX9_reads_24 : decode cX9_reads 24 = .ok (.ifCond .eq 10, 3) := by decide +kernel
theorem dX9_reads_27 : decode cX9_reads 27 = .ok (.aload_n 0, 1) := by decide +kernel
theorem dX9_reads_28 : decode cX9_reads 28 = .ok (.iconst 2, 1) := by decide +kernel
theorem dX9_reads_29 : decode cX9_reads 29 = .ok (.iconst 0, 1) := by decide +kernel
theorem dX9_reads_30 : decode cX9_reads 30 = .ok (.invokevirtual 176, 3) := by decide +kernel
theorem dX9_reads_33 : decode cX9_reads 33 = .ok (.ireturn, 1) := by decide +kernel
theorem dX9_reads_34 : decode cX9_reads 34 = .ok (.aload_n 0, 1) := by decide +kernel
theorem dX9_reads_35 : decode cX9_reads 35 = .ok (.iconst 1, 1) := by decide +kernel
theorem dX9_reads_36 : decode cX9_reads 36 = .ok (.invokevirtual 181, 3) := by decide +kernel
theorem dX9_reads_39 : decode cX9_reads 39 = .ok (.lstore_n 1, 1) := by decide +kernel
theorem dX9_reads_40 : decode cX9_reads 40 = .ok (.lload_n 1, 1) := by decide +kernel
theorem dX9_reads_41 : decode cX9_reads 41 = .ok (.lconst 0, 1) := by decide +kernel
theorem dX9_reads_42 : decode cX9_reads 42 = .ok (.lcmp, 1) := by decide +kernel
theorem dX9_reads_43 : decode cX9_reads 43 = .ok (.ifCond .ge 5, 3) := by decide +kernel
theorem dX9_reads_46 : decode cX9_reads 46 = .ok (.iconst 0, 1) := by decide +kernel
theorem dX9_reads_47 : decode cX9_reads 47 = .ok (.ireturn, 1) := by decide +kernel
theorem dX9_reads_48 : decode cX9_reads 48 = .ok (.aload_n 0, 1) := by decide +kernel
theorem dX9_reads_49 : decode cX9_reads 49 = .ok (.lload_n 1, 1) := by decide +kernel
theorem dX9_reads_50 : decode cX9_reads 50 = .ok (.l2i, 1) := by decide +kernel
theorem dX9_reads_51 : decode cX9_reads 51 = .ok (.iconst 4, 1) := by decide +kernel
theorem dX9_reads_52 : decode cX9_reads 52 = .ok (.idiv, 1) := by decide +kernel
theorem dX9_reads_53 : decode cX9_reads 53 = .ok (.putfield 187, 3) := by decide +kernel
theorem dX9_reads_56 : decode cX9_reads 56 = .ok (.aload_n 0, 1) := by decide +kernel
theorem dX9_reads_57 : decode cX9_reads 57 = .ok (.lload_n 1, 1) := by decide +kernel
theorem dX9_reads_58 : decode cX9_reads 58 = .ok (.l2i, 1) := by decide +kernel
theorem dX9_reads_59 : decode cX9_reads 59 = .ok (.iconst 4, 1) := by decide +kernel
theorem dX9_reads_60 : decode cX9_reads 60 = .ok (.irem, 1) := by decide +kernel
theorem dX9_reads_61 : decode cX9_reads 61 = .ok (.putfield 190, 3) := by decide +kernel
theorem dX9_reads_64 : decode cX9_reads 64 = .ok (.aload_n 0, 1) := by decide +kernel
theorem dX9_reads_65 : decode cX9_reads 65 = .ok (.getfield 187, 3) := by decide +kernel
theorem dX9_reads_68 : decode cX9_reads 68 = .ok (.aload_n 0, 1) := by decide +kernel
theorem dX9_reads_69 : decode cX9_reads 69 = .ok (.getfield 190, 3) := by decide +kernel
theorem dX9_reads_72 : decode cX9_reads 72 = .ok (.invokestatic 119, 3) := by decide +kernel
theorem dX9_reads_75 : decode cX9_reads 75 = .ok (.ifCond .ne 10, 3) := by decide +kernel
theorem dX9_reads_78 : decode cX9_reads 78 = .ok (.aload_n 0, 1) := by decide +kernel
theorem dX9_reads_79 : decode cX9_reads 79 = .ok (.iconst 2, 1) := by decide +kernel
theorem dX9_reads_80 : decode cX9_reads 80 = .ok (.iconst 1, 1) := by decide +kernel
theorem dX9_reads_81 : decode cX9_reads 81 = .ok (.invokevirtual 176, 3) := by decide +kernel
theorem dX9_reads_84 : decode cX9_reads 84 = .ok (.ireturn, 1) := by decide +kernel
theorem dX9_reads_85 : decode cX9_reads 85 = .ok (.aload_n 0, 1) := by decide +kernel
theorem dX9_reads_86 : decode cX9_reads 86 = .ok (.iconst 1, 1) := by decide +kernel
theorem dX9_reads_87 : decode cX9_reads 87 = .ok (.invokevirtual 181, 3) := by decide +kernel
theorem dX9_reads_90 : decode cX9_reads 90 = .ok (.lstore_n 1, 1) := by decide +kernel
theorem dX9_reads_91 : decode cX9_reads 91 = .ok (.lload_n 1, 1) := by decide +kernel
theorem dX9_reads_92 : decode cX9_reads 92 = .ok (.lconst 0, 1) := by decide +kernel
theorem dX9_reads_93 : decode cX9_reads 93 = .ok (.lcmp, 1) := by decide +kernel
theorem dX9_reads_94 : decode cX9_reads 94 = .ok (.ifCond .ge 5, 3) := by decide +kernel
theorem dX9_reads_97 : decode cX9_reads 97 = .ok (.iconst 0, 1) := by decide +kernel
theorem dX9_reads_98 : decode cX9_reads 98 = .ok (.ireturn, 1) := by decide +kernel
theorem dX9_reads_99 : decode cX9_reads 99 = .ok (.lload_n 1, 1) := by decide +kernel
theorem dX9_reads_100 : decode cX9_reads 100 = .ok (.lconst 1, 1) := by decide +kernel
theorem dX9_reads_101 : decode cX9_reads 101 = .ok (.lcmp, 1) := by decide +kernel
theorem dX9_reads_102 : decode cX9_reads 102 = .ok (.ifCond .lt 11, 3) := by decide +kernel
theorem dX9_reads_105 : decode cX9_reads 105 = .ok (.lload_n 1, 1) := by decide +kernel
theorem dX9_reads_106 : decode cX9_reads 106 = .ok (.ldc2_w 193, 3) := by decide +kernel
theorem dX9_reads_109 : decode cX9_reads 109 = .ok (.lcmp, 1) := by decide +kernel
theorem dX9_reads_110 : decode cX9_reads 110 = .ok (.ifCond .le 10, 3) := by decide +kernel
theorem dX9_reads_113 : decode cX9_reads 113 = .ok (.aload_n 0, 1) := by decide +kernel
theorem dX9_reads_114 : decode cX9_reads 114 = .ok (.iconst 2, 1) := by decide +kernel
theorem dX9_reads_115 : decode cX9_reads 115 = .ok (.iconst 2, 1) := by decide +kernel
theorem dX9_reads_116 : decode cX9_reads 116 = .ok (.invokevirtual 176, 3) := by decide +kernel
theorem dX9_reads_119 : decode cX9_reads 119 = .ok (.ireturn, 1) := by decide +kernel
theorem dX9_reads_120 : decode cX9_reads 120 = .ok (.aload_n 0, 1) := by decide +kernel
theorem dX9_reads_121 : decode cX9_reads 121 = .ok (.getfield 16, 3) := by decide +kernel
theorem dX9_reads_124 : decode cX9_reads 124 = .ok (.bipush 6, 2) := by decide +kernel
theorem dX9_reads_126 : decode cX9_reads 126 = .ok (.lload_n 1, 1) := by decide +kernel
theorem dX9_reads_127 : decode cX9_reads 127 = .ok (.l2i, 1) := by decide +kernel
theorem dX9_reads_128 : decode cX9_reads 128 = .ok (.iastore, 1) := by decide +kernel
theorem dX9_reads_129 : decode cX9_reads 129 = .ok (.aload_n 0, 1) := by decide +kernel
theorem dX9_reads_130 : decode cX9_reads 130 = .ok (.invokevirtual 195, 3) := by decide +kernel
theorem dX9_reads_133 : decode cX9_reads 133 = .ok (.ifCond .ne 5, 3) := by decide +kernel
theorem dX9_reads_136 : decode cX9_reads 136 = .ok (.iconst 0, 1) := by decide +kernel
theorem dX9_reads_137 : decode cX9_reads 137 = .ok (.ireturn, 1) := by decide +kernel
theorem dX9_reads_138 : decode cX9_reads 138 = .ok (.aload_n 0, 1) := by decide +kernel
theorem dX9_reads_139 : decode cX9_reads 139 = .ok (.getfield 173, 3) := by decide +kernel
theorem dX9_reads_142 : decode cX9_reads 142 = .ok (.istore_n 3, 1) := by decide +kernel
theorem dX9_reads_143 : decode cX9_reads 143 = .ok (.aload_n 0, 1) := by decide +kernel
theorem dX9_reads_144 : decode cX9_reads 144 = .ok (.iconst 2, 1) := by decide +kernel
theorem dX9_reads_145 : decode cX9_reads 145 = .ok (.invokevirtual 181, 3) := by decide +kernel
theorem dX9_reads_148 : decode cX9_reads 148 = .ok (.lstore_n 1, 1) := by decide +kernel
theorem dX9_reads_149 : decode cX9_reads 149 = .ok (.lload_n 1, 1) := by decide +kernel
theorem dX9_reads_150 : decode cX9_reads 150 = .ok (.lconst 0, 1) := by decide +kernel
theorem dX9_reads_151 : decode cX9_reads 151 = .ok (.lcmp, 1) := by decide +kernel
theorem dX9_reads_152 : decode cX9_reads 152 = .ok (.ifCond .ge 5, 3) := by decide +kernel
theorem dX9_reads_155 : decode cX9_reads 155 = .ok (.iconst 0, 1) := by decide +kernel
theorem dX9_reads_156 : decode cX9_reads 156 = .ok (.ireturn, 1) := by decide +kernel
theorem dX9_reads_157 : decode cX9_reads 157 = .ok (.lload_n 1, 1) := by decide +kernel
theorem dX9_reads_158 : decode cX9_reads 158 = .ok (.ldc2_w 199, 3) := by decide +kernel
theorem dX9_reads_161 : decode cX9_reads 161 = .ok (.lcmp, 1) := by decide +kernel
theorem dX9_reads_162 : decode cX9_reads 162 = .ok (.ifCond .le 10, 3) := by decide +kernel
theorem dX9_reads_165 : decode cX9_reads 165 = .ok (.aload_n 0, 1) := by decide +kernel
theorem dX9_reads_166 : decode cX9_reads 166 = .ok (.iconst 2, 1) := by decide +kernel
theorem dX9_reads_167 : decode cX9_reads 167 = .ok (.iload_n 3, 1) := by decide +kernel
theorem dX9_reads_168 : decode cX9_reads 168 = .ok (.invokevirtual 176, 3) := by decide +kernel
theorem dX9_reads_171 : decode cX9_reads 171 = .ok (.ireturn, 1) := by decide +kernel
theorem dX9_reads_172 : decode cX9_reads 172 = .ok (.aload_n 0, 1) := by decide +kernel
theorem dX9_reads_173 : decode cX9_reads 173 = .ok (.lload_n 1, 1) := by decide +kernel
theorem dX9_reads_174 : decode cX9_reads 174 = .ok (.l2i, 1) := by decide +kernel
theorem dX9_reads_175 : decode cX9_reads 175 = .ok (.putfield 201, 3) := by decide +kernel
theorem dX9_reads_178 : decode cX9_reads 178 = .ok (.aload_n 0, 1) := by decide +kernel
theorem dX9_reads_179 : decode cX9_reads 179 = .ok (.iconst 2, 1) := by decide +kernel
theorem dX9_reads_180 : decode cX9_reads 180 = .ok (.invokevirtual 181, 3) := by decide +kernel
theorem dX9_reads_183 : decode cX9_reads 183 = .ok (.lstore_n 1, 1) := by decide +kernel
theorem dX9_reads_184 : decode cX9_reads 184 = .ok (.lload_n 1, 1) := by decide +kernel
theorem dX9_reads_185 : decode cX9_reads 185 = .ok (.lconst 0, 1) := by decide +kernel
theorem dX9_reads_186 : decode cX9_reads 186 = .ok (.lcmp, 1) := by decide +kernel
theorem dX9_reads_187 : decode cX9_reads 187 = .ok (.ifCond .ge 5, 3) := by decide +kernel
theorem dX9_reads_190 : decode cX9_reads 190 = .ok (.iconst 0, 1) := by decide +kernel
theorem dX9_reads_191 : decode cX9_reads 191 = .ok (.ireturn, 1) := by decide +kernel
theorem dX9_reads_192 : decode cX9_reads 192 = .ok (.aload_n 0, 1) := by decide +kernel
theorem dX9_reads_193 : decode cX9_reads 193 = .ok (.lload_n 1, 1) := by decide +kernel
theorem dX9_reads_194 : decode cX9_reads 194 = .ok (.l2i, 1) := by decide +kernel
theorem dX9_reads_195 : decode cX9_reads 195 = .ok (.putfield 204, 3) := by decide +kernel
theorem dX9_reads_198 : decode cX9_reads 198 = .ok (.aload_n 0, 1) := by decide +kernel
theorem dX9_reads_199 : decode cX9_reads 199 = .ok (.aload_n 0, 1) := by decide +kernel
theorem dX9_reads_200 : decode cX9_reads 200 = .ok (.getfield 173, 3) := by decide +kernel
theorem dX9_reads_203 : decode cX9_reads 203 = .ok (.putfield 207, 3) := by decide +kernel
theorem dX9_reads_206 : decode cX9_reads 206 = .ok (.iconst 0, 1) := by decide +kernel
theorem dX9_reads_207 : decode cX9_reads 207 = .ok (.istore 4, 2) := by decide +kernel
theorem dX9_reads_209 : decode cX9_reads 209 = .ok (.iload 4, 2) := by decide +kernel
theorem dX9_reads_211 : decode cX9_reads 211 = .ok (.aload_n 0, 1) := by decide +kernel
theorem dX9_reads_212 : decode cX9_reads 212 = .ok (.getfield 187, 3) := by decide +kernel
theorem dX9_reads_215 : decode cX9_reads 215 = .ok (.iconst 2, 1) := by decide +kernel
theorem dX9_reads_216 : decode cX9_reads 216 = .ok (.if_icmp .ne 7, 3) := by decide +kernel
theorem dX9_reads_219 : decode cX9_reads 219 = .ok (.iconst 2, 1) := by decide +kernel
theorem dX9_reads_220 : decode cX9_reads 220 = .ok (.goto 4, 3) := by decide +kernel
theorem dX9_reads_223 : decode cX9_reads 223 = .ok (.iconst 1, 1) := by decide +kernel
theorem dX9_reads_224 : decode cX9_reads 224 = .ok (.if_icmp .ge 117, 3) := by decide +kernel
theorem dX9_reads_227 : decode cX9_reads 227 = .ok (.aload_n 0, 1) := by decide +kernel
theorem dX9_reads_228 : decode cX9_reads 228 = .ok (.getfield 173, 3) := by decide +kernel
theorem dX9_reads_231 : decode cX9_reads 231 = .ok (.istore_n 3, 1) := by decide +kernel
theorem dX9_reads_232 : decode cX9_reads 232 = .ok (.aload_n 0, 1) := by decide +kernel
theorem dX9_reads_233 : decode cX9_reads 233 = .ok (.aload_n 0, 1) := by decide +kernel
theorem dX9_reads_234 : decode cX9_reads 234 = .ok (.getfield 187, 3) := by decide +kernel
theorem dX9_reads_237 : decode cX9_reads 237 = .ok (.ifCond .ne 7, 3) := by decide +kernel
theorem dX9_reads_240 : decode cX9_reads 240 = .ok (.iconst 2, 1) := by decide +kernel
theorem dX9_reads_241 : decode cX9_reads 241 = .ok (.goto 4, 3) := by decide +kernel
theorem dX9_reads_244 : decode cX9_reads 244 = .ok (.iconst 4, 1) := by decide +kernel
theorem dX9_reads_245 : decode cX9_reads 245 = .ok (.invokevirtual 181, 3) := by decide +kernel
theorem dX9_reads_248 : decode cX9_reads 248 = .ok (.lstore_n 1, 1) := by decide +kernel
theorem dX9_reads_249 : decode cX9_reads 249 = .ok (.lload_n 1, 1) := by decide +kernel
theorem dX9_reads_250 : decode cX9_reads 250 = .ok (.lconst 0, 1) := by decide +kernel
theorem dX9_reads_251 : decode cX9_reads 251 = .ok (.lcmp, 1) := by decide +kernel
theorem dX9_reads_252 : decode cX9_reads 252 = .ok (.ifCond .ge 5, 3) := by decide +kernel
theorem dX9_reads_255 : decode cX9_reads 255 = .ok (.iconst 0, 1) := by decide +kernel
theorem dX9_reads_256 : decode cX9_reads 256 = .ok (.ireturn, 1) := by decide +kernel
theorem dX9_reads_257 : decode cX9_reads 257 = .ok (.aload_n 0, 1) := by decide +kernel
theorem dX9_reads_258 : decode cX9_reads 258 = .ok (.getfield 187, 3) := by decide +kernel
theorem dX9_reads_261 : decode cX9_reads 261 = .ok (.ifCond .ne 20, 3) := by decide +kernel
theorem dX9_reads_264 : decode cX9_reads 264 = .ok (.lload_n 1, 1) := by decide +kernel
theorem dX9_reads_265 : decode cX9_reads 265 = .ok (.lconst 1, 1) := by decide +kernel
theorem dX9_reads_266 : decode cX9_reads 266 = .ok (.aload_n 0, 1) := by decide +kernel
theorem dX9_reads_267 : decode cX9_reads 267 = .ok (.getfield 16, 3) := by decide +kernel
theorem dX9_reads_270 : decode cX9_reads 270 = .ok (.bipush 6, 2) := by decide +kernel
theorem dX9_reads_272 : decode cX9_reads 272 = .ok (.iaload, 1) := by decide +kernel
theorem dX9_reads_273 : decode cX9_reads 273 = .ok (.lshl, 1) := by decide +kernel
theorem dX9_reads_274 : decode cX9_reads 274 = .ok (.lcmp, 1) := by decide +kernel
theorem dX9_reads_275 : decode cX9_reads 275 = .ok (.ifCond .lt 29, 3) := by decide +kernel
theorem dX9_reads_278 : decode cX9_reads 278 = .ok (.goto 19, 3) := by decide +kernel
theorem dX9_reads_281 : decode cX9_reads 281 = .ok (.lload_n 1, 1) := by decide +kernel
theorem dX9_reads_282 : decode cX9_reads 282 = .ok (.ldc2_w 210, 3) := by decide +kernel
theorem dX9_reads_285 : decode cX9_reads 285 = .ok (.lcmp, 1) := by decide +kernel
theorem dX9_reads_286 : decode cX9_reads 286 = .ok (.ifCond .lt 11, 3) := by decide +kernel
theorem dX9_reads_289 : decode cX9_reads 289 = .ok (.lload_n 1, 1) := by decide +kernel
theorem dX9_reads_290 : decode cX9_reads 290 = .ok (.ldc2_w 212, 3) := by decide +kernel
theorem dX9_reads_293 : decode cX9_reads 293 = .ok (.lcmp, 1) := by decide +kernel
theorem dX9_reads_294 : decode cX9_reads 294 = .ok (.ifCond .le 10, 3) := by decide +kernel
theorem dX9_reads_297 : decode cX9_reads 297 = .ok (.aload_n 0, 1) := by decide +kernel
theorem dX9_reads_298 : decode cX9_reads 298 = .ok (.iconst 4, 1) := by decide +kernel
theorem dX9_reads_299 : decode cX9_reads 299 = .ok (.iload_n 3, 1) := by decide +kernel
theorem dX9_reads_300 : decode cX9_reads 300 = .ok (.invokevirtual 176, 3) := by decide +kernel
theorem dX9_reads_303 : decode cX9_reads 303 = .ok (.ireturn, 1) := by decide +kernel
theorem dX9_reads_304 : decode cX9_reads 304 = .ok (.aload_n 0, 1) := by decide +kernel
theorem dX9_reads_305 : decode cX9_reads 305 = .ok (.getfield 58, 3) := by decide +kernel
theorem dX9_reads_308 : decode cX9_reads 308 = .ok (.iload 4, 2) := by decide +kernel
theorem dX9_reads_310 : decode cX9_reads 310 = .ok (.aload_n 0, 1) := by decide +kernel
theorem dX9_reads_311 : decode cX9_reads 311 = .ok (.getfield 187, 3) := by decide +kernel
theorem dX9_reads_314 : decode cX9_reads 314 = .ok (.ifCond .ne 18, 3) := by decide +kernel
theorem dX9_reads_317 : decode cX9_reads 317 = .ok (.lload_n 1, 1) := by decide +kernel
theorem dX9_reads_318 : decode cX9_reads 318 = .ok (.l2i, 1) := by decide +kernel
theorem dX9_reads_319 : decode cX9_reads 319 = .ok (.iconst 1, 1) := by decide +kernel
theorem dX9_reads_320 : decode cX9_reads 320 = .ok (.aload_n 0, 1) := by decide +kernel
theorem dX9_reads_321 : decode cX9_reads 321 = .ok (.getfield 16, 3) := by decide +kernel
theorem dX9_reads_324 : decode cX9_reads 324 = .ok (.bipush 6, 2) := by decide +kernel
theorem dX9_reads_326 : decode cX9_reads 326 = .ok (.iaload, 1) := by decide +kernel
theorem dX9_reads_327 : decode cX9_reads 327 = .ok (.ishl, 1) := by decide +kernel
theorem dX9_reads_328 : decode cX9_reads 328 = .ok (.iadd, 1) := by decide +kernel
theorem dX9_reads_329 : decode cX9_reads 329 = .ok (.goto 5, 3) := by decide +kernel
theorem dX9_reads_332 : decode cX9_reads 332 = .ok (.lload_n 1, 1) := by decide +kernel
theorem dX9_reads_333 : decode cX9_reads 333 = .ok (.l2i, 1) := by decide +kernel
theorem dX9_reads_334 : decode cX9_reads 334 = .ok (.iastore, 1) := by decide +kernel
theorem dX9_reads_335 : decode cX9_reads 335 = .ok (.iinc 4 1, 3) := by decide +kernel
theorem dX9_reads_338 : decode cX9_reads 338 = .ok (.goto (-129), 3) := by decide +kernel
theorem dX9_reads_341 : decode cX9_reads 341 = .ok (.aload_n 0, 1) := by decide +kernel
theorem dX9_reads_342 : decode cX9_reads 342 = .ok (.aload_n 0, 1) := by decide +kernel
theorem dX9_reads_343 : decode cX9_reads 343 = .ok (.getfield 173, 3) := by decide +kernel
theorem dX9_reads_346 : decode cX9_reads 346 = .ok (.putfield 214, 3) := by decide +kernel
theorem dX9_reads_349 : decode cX9_reads 349 = .ok (.aload_n 0, 1) := by decide +kernel
theorem dX9_reads_350 : decode cX9_reads 350 = .ok (.getfield 173, 3) := by decide +kernel
theorem dX9_reads_353 : decode cX9_reads 353 = .ok (.aload_n 0, 1) := by decide +kernel
theorem dX9_reads_354 : decode cX9_reads 354 = .ok (.getfield 204, 3) := by decide +kernel
theorem dX9_reads_357 : decode cX9_reads 357 = .ok (.iadd, 1) := by decide +kernel
theorem dX9_reads_358 : decode cX9_reads 358 = .ok (.aload_n 0, 1) := by decide +kernel
theorem dX9_reads_359 : decode cX9_reads 359 = .ok (.getfield 70, 3) := by decide +kernel
theorem dX9_reads_362 : decode cX9_reads 362 = .ok (.if_icmp .le 13, 3) := by decide +kernel
theorem dX9_reads_365 : decode cX9_reads 365 = .ok (.aload_n 0, 1) := by decide +kernel
theorem dX9_reads_366 : decode cX9_reads 366 = .ok (.iconst 1, 1) := by decide +kernel
theorem dX9_reads_367 : decode cX9_reads 367 = .ok (.aload_n 0, 1) := by decide +kernel
theorem dX9_reads_368 : decode cX9_reads 368 = .ok (.getfield 70, 3) := by decide +kernel
theorem dX9_reads_371 : decode cX9_reads 371 = .ok (.invokevirtual 176, 3) := by decide +kernel
theorem dX9_reads_374 : decode cX9_reads 374 = .ok (.ireturn, 1) := by decide +kernel
theorem dX9_reads_375 : decode cX9_reads 375 = .ok (.aload_n 0, 1) := by decide +kernel
theorem dX9_reads_376 : decode cX9_reads 376 = .ok (.getfield 173, 3) := by decide +kernel
theorem dX9_reads_379 : decode cX9_reads 379 = .ok (.aload_n 0, 1) := by decide +kernel
theorem dX9_reads_380 : decode cX9_reads 380 = .ok (.getfield 204, 3) := by decide +kernel
theorem dX9_reads_383 : decode cX9_reads 383 = .ok (.iadd, 1) := by decide +kernel
theorem dX9_reads_384 : decode cX9_reads 384 = .ok (.aload_n 0, 1) := by decide +kernel
theorem dX9_reads_385 : decode cX9_reads 385 = .ok (.getfield 70, 3) := by decide +kernel
theorem dX9_reads_388 : decode cX9_reads 388 = .ok (.if_icmp .ge 19, 3) := by decide +kernel
theorem dX9_reads_391 : decode cX9_reads 391 = .ok (.aload_n 0, 1) := by decide +kernel
theorem dX9_reads_392 : decode cX9_reads 392 = .ok (.bipush 8, 2) := by decide +kernel
theorem dX9_reads_394 : decode cX9_reads 394 = .ok (.aload_n 0, 1) := by decide +kernel
theorem dX9_reads_395 : decode cX9_reads 395 = .ok (.getfield 173, 3) := by decide +kernel
theorem dX9_reads_398 : decode cX9_reads 398 = .ok (.aload_n 0, 1) := by decide +kernel
theorem dX9_reads_399 : decode cX9_reads 399 = .ok (.getfield 204, 3) := by decide +kernel
theorem dX9_reads_402 : decode cX9_reads 402 = .ok (.iadd, 1) := by decide +kernel
theorem dX9_reads_403 : decode cX9_reads 403 = .ok (.invokevirtual 176, 3) := by decide +kernel
theorem dX9_reads_406 : decode cX9_reads 406 = .ok (.ireturn, 1) := by decide +kernel
theorem dX9_reads_407 : decode cX9_reads 407 = .ok (.aload_n 0, 1) := by decide +kernel
theorem dX9_reads_408 : decode cX9_reads 408 = .ok (.bipush 6, 2) := by decide +kernel
theorem dX9_reads_410 : decode cX9_reads 410 = .ok (.invokevirtual 80, 3) := by decide +kernel
theorem dX9_reads_413 : decode cX9_reads 413 = .ok (.aload_n 0, 1) := by decide +kernel
theorem dX9_reads_414 : decode cX9_reads 414 = .ok (.bipush 6, 2) := by decide +kernel
theorem dX9_reads_416 : decode cX9_reads 416 = .ok (.aload_n 0, 1) := by decide +kernel
theorem dX9_reads_417 : decode cX9_reads 417 = .ok (.getfield 190, 3) := by decide +kernel
theorem dX9_reads_420 : decode cX9_reads 420 = .ok (.invokevirtual 106, 3) := by decide +kernel
theorem dX9_reads_423 : decode cX9_reads 423 = .ok (.aload_n 0, 1) := by decide +kernel
theorem dX9_reads_424 : decode cX9_reads 424 = .ok (.invokevirtual 217, 3) := by decide +kernel
theorem dX9_reads_427 : decode cX9_reads 427 = .ok (.ireturn, 1) := by decide +kernel
theorem dX9_readsShares_0 : decode cX9_readsShares 0 = .ok (.iconst 1, 1) := by decide +kernel
theorem dX9_readsShares_1 : decode cX9_readsShares 1 = .ok (.aload_n 0, 1) := by decide +kernel
theorem dX9_readsShares_2 : decode cX9_readsShares 2 = .ok (.getfield 16, 3) := by decide +kernel
theorem dX9_readsShares_5 : decode cX9_readsShares 5 = .ok (.bipush 6, 2) := by decide +kernel
theorem dX9_readsShares_7 : decode cX9_readsShares 7 = .ok (.iaload, 1) := by decide +kernel
theorem dX9_readsShares_8 : decode cX9_readsShares 8 = .ok (.ishl, 1) := by decide +kernel
theorem dX9_readsShares_9 : decode cX9_readsShares 9 = .ok (.istore_n 1, 1) := by decide +kernel
theorem dX9_readsShares_10 : decode cX9_readsShares 10 = .ok (.aload_n 0, 1) := by decide +kernel
theorem dX9_readsShares_11 : decode cX9_readsShares 11 = .ok (.iconst 1, 1) := by decide +kernel
theorem dX9_readsShares_12 : decode cX9_readsShares 12 = .ok (.invokevirtual 181, 3) := by decide +kernel
theorem dX9_readsShares_15 : decode cX9_readsShares 15 = .ok (.lstore_n 2, 1) := by decide +kernel
theorem dX9_readsShares_16 : decode cX9_readsShares 16 = .ok (.lload_n 2, 1) := by decide +kernel
theorem dX9_readsShares_17 : decode cX9_readsShares 17 = .ok (.lconst 0, 1) := by decide +kernel
theorem dX9_readsShares_18 : decode cX9_readsShares 18 = .ok (.lcmp, 1) := by decide +kernel
theorem dX9_readsShares_19 : decode cX9_readsShares 19 = .ok (.ifCond .ge 5, 3) := by decide +kernel
theorem dX9_readsShares_22 : decode cX9_readsShares 22 = .ok (.iconst 0, 1) := by decide +kernel
theorem dX9_readsShares_23 : decode cX9_readsShares 23 = .ok (.ireturn, 1) := by decide +kernel
theorem dX9_readsShares_24 : decode cX9_readsShares 24 = .ok (.lload_n 2, 1) := by decide +kernel
theorem dX9_readsShares_25 : decode cX9_readsShares 25 = .ok (.l2i, 1) := by decide +kernel
theorem dX9_readsShares_26 : decode cX9_readsShares 26 = .ok (.iconst 1, 1) := by decide +kernel
theorem dX9_readsShares_27 : decode cX9_readsShares 27 = .ok (.iadd, 1) := by decide +kernel
theorem dX9_readsShares_28 : decode cX9_readsShares 28 = .ok (.istore 4, 2) := by decide +kernel
theorem dX9_readsShares_30 : decode cX9_readsShares 30 = .ok (.iconst 0, 1) := by decide +kernel
theorem dX9_readsShares_31 : decode cX9_readsShares 31 = .ok (.istore 5, 2) := by decide +kernel
theorem dX9_readsShares_33 : decode cX9_readsShares 33 = .ok (.iload 5, 2) := by decide +kernel
theorem dX9_readsShares_35 : decode cX9_readsShares 35 = .ok (.sipush 256, 3) := by decide +kernel
theorem dX9_readsShares_38 : decode cX9_readsShares 38 = .ok (.if_icmp .ge 21, 3) := by decide +kernel
theorem dX9_readsShares_41 : decode cX9_readsShares 41 = .ok (.aload_n 0, 1) := by decide +kernel
theorem dX9_readsShares_42 : decode cX9_readsShares 42 = .ok (.getfield 19, 3) := by decide +kernel
theorem dX9_readsShares_45 : decode cX9_readsShares 45 = .ok (.sipush 1536, 3) := by decide +kernel
theorem dX9_readsShares_48 : decode cX9_readsShares 48 = .ok (.iload 5, 2) := by decide +kernel
theorem dX9_readsShares_50 : decode cX9_readsShares 50 = .ok (.iadd, 1) := by decide +kernel
theorem dX9_readsShares_51 : decode cX9_readsShares 51 = .ok (.iconst 0, 1) := by decide +kernel
theorem dX9_readsShares_52 : decode cX9_readsShares 52 = .ok (.iastore, 1) := by decide +kernel
theorem dX9_readsShares_53 : decode cX9_readsShares 53 = .ok (.iinc 5 1, 3) := by decide +kernel
theorem dX9_readsShares_56 : decode cX9_readsShares 56 = .ok (.goto (-23), 3) := by decide +kernel
theorem dX9_readsShares_59 : decode cX9_readsShares 59 = .ok (.iconst (-1), 1) := by decide +kernel
theorem dX9_readsShares_60 : decode cX9_readsShares 60 = .ok (.istore 5, 2) := by decide +kernel
theorem dX9_readsShares_62 : decode cX9_readsShares 62 = .ok (.iconst 0, 1) := by decide +kernel
theorem dX9_readsShares_63 : decode cX9_readsShares 63 = .ok (.istore 6, 2) := by decide +kernel
theorem dX9_readsShares_65 : decode cX9_readsShares 65 = .ok (.iconst 0, 1) := by decide +kernel
theorem dX9_readsShares_66 : decode cX9_readsShares 66 = .ok (.istore 7, 2) := by decide +kernel
theorem dX9_readsShares_68 : decode cX9_readsShares 68 = .ok (.iconst 0, 1) := by decide +kernel
theorem dX9_readsShares_69 : decode cX9_readsShares 69 = .ok (.istore 8, 2) := by decide +kernel
theorem dX9_readsShares_71 : decode cX9_readsShares 71 = .ok (.iload 8, 2) := by decide +kernel
theorem dX9_readsShares_73 : decode cX9_readsShares 73 = .ok (.iload 4, 2) := by decide +kernel
theorem dX9_readsShares_75 : decode cX9_readsShares 75 = .ok (.if_icmp .ge 110, 3) := by decide +kernel
theorem dX9_readsShares_78 : decode cX9_readsShares 78 = .ok (.aload_n 0, 1) := by decide +kernel
theorem dX9_readsShares_79 : decode cX9_readsShares 79 = .ok (.getfield 173, 3) := by decide +kernel
theorem dX9_readsShares_82 : decode cX9_readsShares 82 = .ok (.istore 7, 2) := by decide +kernel
theorem dX9_readsShares_84 : decode cX9_readsShares 84 = .ok (.aload_n 0, 1) := by decide +kernel
theorem dX9_readsShares_85 : decode cX9_readsShares 85 = .ok (.iconst 1, 1) := by decide +kernel
theorem dX9_readsShares_86 : decode cX9_readsShares 86 = .ok (.invokevirtual 181, 3) := by decide +kernel
theorem dX9_readsShares_89 : decode cX9_readsShares 89 = .ok (.lstore_n 2, 1) := by decide +kernel
theorem dX9_readsShares_90 : decode cX9_readsShares 90 = .ok (.lload_n 2, 1) := by decide +kernel
theorem dX9_readsShares_91 : decode cX9_readsShares 91 = .ok (.lconst 0, 1) := by decide +kernel
theorem dX9_readsShares_92 : decode cX9_readsShares 92 = .ok (.lcmp, 1) := by decide +kernel
theorem dX9_readsShares_93 : decode cX9_readsShares 93 = .ok (.ifCond .ge 5, 3) := by decide +kernel
theorem dX9_readsShares_96 : decode cX9_readsShares 96 = .ok (.iconst 0, 1) := by decide +kernel
theorem dX9_readsShares_97 : decode cX9_readsShares 97 = .ok (.ireturn, 1) := by decide +kernel
theorem dX9_readsShares_98 : decode cX9_readsShares 98 = .ok (.lload_n 2, 1) := by decide +kernel
theorem dX9_readsShares_99 : decode cX9_readsShares 99 = .ok (.iload 5, 2) := by decide +kernel
theorem dX9_readsShares_101 : decode cX9_readsShares 101 = .ok (.i2l, 1) := by decide +kernel
theorem dX9_readsShares_102 : decode cX9_readsShares 102 = .ok (.lcmp, 1) := by decide +kernel
theorem dX9_readsShares_103 : decode cX9_readsShares 103 = .ok (.ifCond .gt 11, 3) := by decide +kernel
theorem dX9_readsShares_106 : decode cX9_readsShares 106 = .ok (.aload_n 0, 1) := by decide +kernel
theorem dX9_readsShares_107 : decode cX9_readsShares 107 = .ok (.iconst 2, 1) := by decide +kernel
theorem dX9_readsShares_108 : decode cX9_readsShares 108 = .ok (.iload 7, 2) := by decide +kernel
theorem dX9_readsShares_110 : decode cX9_readsShares 110 = .ok (.invokevirtual 176, 3) := by decide +kernel
theorem dX9_readsShares_113 : decode cX9_readsShares 113 = .ok (.ireturn, 1) := by decide +kernel
theorem dX9_readsShares_114 : decode cX9_readsShares 114 = .ok (.lload_n 2, 1) := by decide +kernel
theorem dX9_readsShares_115 : decode cX9_readsShares 115 = .ok (.l2i, 1) := by decide +kernel
theorem dX9_readsShares_116 : decode cX9_readsShares 116 = .ok (.istore 5, 2) := by decide +kernel
theorem dX9_readsShares_118 : decode cX9_readsShares 118 = .ok (.aload_n 0, 1) := by decide +kernel
theorem dX9_readsShares_119 : decode cX9_readsShares 119 = .ok (.getfield 173, 3) := by decide +kernel
theorem dX9_readsShares_122 : decode cX9_readsShares 122 = .ok (.istore 7, 2) := by decide +kernel
theorem dX9_readsShares_124 : decode cX9_readsShares 124 = .ok (.aload_n 0, 1) := by decide +kernel
theorem dX9_readsShares_125 : decode cX9_readsShares 125 = .ok (.iconst 2, 1) := by decide +kernel
theorem dX9_readsShares_126 : decode cX9_readsShares 126 = .ok (.invokevirtual 181, 3) := by decide +kernel
theorem dX9_readsShares_129 : decode cX9_readsShares 129 = .ok (.lstore_n 2, 1) := by decide +kernel
theorem dX9_readsShares_130 : decode cX9_readsShares 130 = .ok (.lload_n 2, 1) := by decide +kernel
theorem dX9_readsShares_131 : decode cX9_readsShares 131 = .ok (.lconst 0, 1) := by decide +kernel
theorem dX9_readsShares_132 : decode cX9_readsShares 132 = .ok (.lcmp, 1) := by decide +kernel
theorem dX9_readsShares_133 : decode cX9_readsShares 133 = .ok (.ifCond .ge 5, 3) := by decide +kernel
theorem dX9_readsShares_136 : decode cX9_readsShares 136 = .ok (.iconst 0, 1) := by decide +kernel
theorem dX9_readsShares_137 : decode cX9_readsShares 137 = .ok (.ireturn, 1) := by decide +kernel
theorem dX9_readsShares_138 : decode cX9_readsShares 138 = .ok (.lload_n 2, 1) := by decide +kernel
theorem dX9_readsShares_139 : decode cX9_readsShares 139 = .ok (.lconst 1, 1) := by decide +kernel
theorem dX9_readsShares_140 : decode cX9_readsShares 140 = .ok (.lcmp, 1) := by decide +kernel
theorem dX9_readsShares_141 : decode cX9_readsShares 141 = .ok (.ifCond .lt 10, 3) := by decide +kernel
theorem dX9_readsShares_144 : decode cX9_readsShares 144 = .ok (.lload_n 2, 1) := by decide +kernel
theorem dX9_readsShares_145 : decode cX9_readsShares 145 = .ok (.iload_n 1, 1) := by decide +kernel
theorem dX9_readsShares_146 : decode cX9_readsShares 146 = .ok (.i2l, 1) := by decide +kernel
theorem dX9_readsShares_147 : decode cX9_readsShares 147 = .ok (.lcmp, 1) := by decide +kernel
theorem dX9_readsShares_148 : decode cX9_readsShares 148 = .ok (.ifCond .le 11, 3) := by decide +kernel
theorem dX9_readsShares_151 : decode cX9_readsShares 151 = .ok (.aload_n 0, 1) := by decide +kernel
theorem dX9_readsShares_152 : decode cX9_readsShares 152 = .ok (.iconst 2, 1) := by decide +kernel
theorem dX9_readsShares_153 : decode cX9_readsShares 153 = .ok (.iload 7, 2) := by decide +kernel
theorem dX9_readsShares_155 : decode cX9_readsShares 155 = .ok (.invokevirtual 176, 3) := by decide +kernel
theorem dX9_readsShares_158 : decode cX9_readsShares 158 = .ok (.ireturn, 1) := by decide +kernel
theorem dX9_readsShares_159 : decode cX9_readsShares 159 = .ok (.aload_n 0, 1) := by decide +kernel
theorem dX9_readsShares_160 : decode cX9_readsShares 160 = .ok (.getfield 19, 3) := by decide +kernel
theorem dX9_readsShares_163 : decode cX9_readsShares 163 = .ok (.sipush 1536, 3) := by decide +kernel
theorem dX9_readsShares_166 : decode cX9_readsShares 166 = .ok (.iload 5, 2) := by decide +kernel
theorem dX9_readsShares_168 : decode cX9_readsShares 168 = .ok (.iadd, 1) := by decide +kernel
theorem dX9_readsShares_169 : decode cX9_readsShares 169 = .ok (.lload_n 2, 1) := by decide +kernel
theorem dX9_readsShares_170 : decode cX9_readsShares 170 = .ok (.l2i, 1) := by decide +kernel
theorem dX9_readsShares_171 : decode cX9_readsShares 171 = .ok (.iastore, 1) := by decide +kernel
theorem dX9_readsShares_172 : decode cX9_readsShares 172 = .ok (.iload 6, 2) := by decide +kernel
theorem dX9_readsShares_174 : decode cX9_readsShares 174 = .ok (.lload_n 2, 1) := by decide +kernel
theorem dX9_readsShares_175 : decode cX9_readsShares 175 = .ok (.l2i, 1) := by decide +kernel
theorem dX9_readsShares_176 : decode cX9_readsShares 176 = .ok (.iadd, 1) := by decide +kernel
theorem dX9_readsShares_177 : decode cX9_readsShares 177 = .ok (.istore 6, 2) := by decide +kernel
theorem dX9_readsShares_179 : decode cX9_readsShares 179 = .ok (.iinc 8 1, 3) := by decide +kernel
theorem dX9_readsShares_182 : decode cX9_readsShares 182 = .ok (.goto (-111), 3) := by decide +kernel
theorem dX9_readsShares_185 : decode cX9_readsShares 185 = .ok (.iload 6, 2) := by decide +kernel
theorem dX9_readsShares_187 : decode cX9_readsShares 187 = .ok (.iload_n 1, 1) := by decide +kernel
theorem dX9_readsShares_188 : decode cX9_readsShares 188 = .ok (.if_icmp .eq 13, 3) := by decide +kernel
theorem dX9_readsShares_191 : decode cX9_readsShares 191 = .ok (.aload_n 0, 1) := by decide +kernel
theorem dX9_readsShares_192 : decode cX9_readsShares 192 = .ok (.iconst 3, 1) := by decide +kernel
theorem dX9_readsShares_193 : decode cX9_readsShares 193 = .ok (.iload 7, 2) := by decide +kernel
theorem dX9_readsShares_195 : decode cX9_readsShares 195 = .ok (.invokevirtual 176, 3) := by decide +kernel
theorem dX9_readsShares_198 : decode cX9_readsShares 198 = .ok (.ifCond .eq 7, 3) := by decide +kernel
theorem dX9_readsShares_201 : decode cX9_readsShares 201 = .ok (.iconst 1, 1) := by decide +kernel
theorem dX9_readsShares_202 : decode cX9_readsShares 202 = .ok (.goto 4, 3) := by decide +kernel
theorem dX9_readsShares_205 : decode cX9_readsShares 205 = .ok (.iconst 0, 1) := by decide +kernel
theorem dX9_readsShares_206 : decode cX9_readsShares 206 = .ok (.ireturn, 1) := by decide +kernel
theorem dX9_readsMessage_0 : decode cX9_readsMessage 0 = .ok (.iconst 1, 1) := by decide +kernel
theorem dX9_readsMessage_1 : decode cX9_readsMessage 1 = .ok (.aload_n 0, 1) := by decide +kernel
theorem dX9_readsMessage_2 : decode cX9_readsMessage 2 = .ok (.getfield 16, 3) := by decide +kernel
theorem dX9_readsMessage_5 : decode cX9_readsMessage 5 = .ok (.bipush 6, 2) := by decide +kernel
theorem dX9_readsMessage_7 : decode cX9_readsMessage 7 = .ok (.iaload, 1) := by decide +kernel
theorem dX9_readsMessage_8 : decode cX9_readsMessage 8 = .ok (.ishl, 1) := by decide +kernel
theorem dX9_readsMessage_9 : decode cX9_readsMessage 9 = .ok (.istore_n 1, 1) := by decide +kernel
theorem dX9_readsMessage_10 : decode cX9_readsMessage 10 = .ok (.iconst 0, 1) := by decide +kernel
theorem dX9_readsMessage_11 : decode cX9_readsMessage 11 = .ok (.istore_n 2, 1) := by decide +kernel
theorem dX9_readsMessage_12 : decode cX9_readsMessage 12 = .ok (.aload_n 0, 1) := by decide +kernel
theorem dX9_readsMessage_13 : decode cX9_readsMessage 13 = .ok (.getfield 187, 3) := by decide +kernel
theorem dX9_readsMessage_16 : decode cX9_readsMessage 16 = .ok (.ifCond .ne 13, 3) := by decide +kernel
theorem dX9_readsMessage_19 : decode cX9_readsMessage 19 = .ok (.bipush 8, 2) := by decide +kernel
theorem dX9_readsMessage_21 : decode cX9_readsMessage 21 = .ok (.aload_n 0, 1) := by decide +kernel
theorem dX9_readsMessage_22 : decode cX9_readsMessage 22 = .ok (.getfield 204, 3) := by decide +kernel
theorem dX9_readsMessage_25 : decode cX9_readsMessage 25 = .ok (.imul, 1) := by decide +kernel
theorem dX9_readsMessage_26 : decode cX9_readsMessage 26 = .ok (.goto 7, 3) := by decide +kernel
theorem dX9_readsMessage_29 : decode cX9_readsMessage 29 = .ok (.aload_n 0, 1) := by decide +kernel
theorem dX9_readsMessage_30 : decode cX9_readsMessage 30 = .ok (.getfield 204, 3) := by decide +kernel
theorem dX9_readsMessage_33 : decode cX9_readsMessage 33 = .ok (.istore_n 3, 1) := by decide +kernel
theorem dX9_readsMessage_34 : decode cX9_readsMessage 34 = .ok (.aload_n 0, 1) := by decide +kernel
theorem dX9_readsMessage_35 : decode cX9_readsMessage 35 = .ok (.getfield 187, 3) := by decide +kernel
theorem dX9_readsMessage_38 : decode cX9_readsMessage 38 = .ok (.ifCond .ne 7, 3) := by decide +kernel
theorem dX9_readsMessage_41 : decode cX9_readsMessage 41 = .ok (.iload_n 1, 1) := by decide +kernel
theorem dX9_readsMessage_42 : decode cX9_readsMessage 42 = .ok (.goto 5, 3) := by decide +kernel
theorem dX9_readsMessage_45 : decode cX9_readsMessage 45 = .ok (.ldc 118, 2) := by decide +kernel
theorem dX9_readsMessage_47 : decode cX9_readsMessage 47 = .ok (.istore 4, 2) := by decide +kernel
theorem dX9_readsMessage_49 : decode cX9_readsMessage 49 = .ok (.aload_n 0, 1) := by decide +kernel
theorem dX9_readsMessage_50 : decode cX9_readsMessage 50 = .ok (.invokevirtual 153, 3) := by decide +kernel
theorem dX9_readsMessage_53 : decode cX9_readsMessage 53 = .ok (.iconst 0, 1) := by decide +kernel
theorem dX9_readsMessage_54 : decode cX9_readsMessage 54 = .ok (.istore 5, 2) := by decide +kernel
theorem dX9_readsMessage_56 : decode cX9_readsMessage 56 = .ok (.iload 5, 2) := by decide +kernel
theorem dX9_readsMessage_58 : decode cX9_readsMessage 58 = .ok (.aload_n 0, 1) := by decide +kernel
theorem dX9_readsMessage_59 : decode cX9_readsMessage 59 = .ok (.getfield 201, 3) := by decide +kernel
theorem dX9_readsMessage_62 : decode cX9_readsMessage 62 = .ok (.if_icmp .ge 230, 3) := by decide +kernel
theorem dX9_readsMessage_65 : decode cX9_readsMessage 65 = .ok (.aload_n 0, 1) := by decide +kernel
theorem dX9_readsMessage_66 : decode cX9_readsMessage 66 = .ok (.getfield 187, 3) := by decide +kernel
theorem dX9_readsMessage_69 : decode cX9_readsMessage 69 = .ok (.iconst 2, 1) := by decide +kernel
theorem dX9_readsMessage_70 : decode cX9_readsMessage 70 = .ok (.if_icmp .ne 10, 3) := by decide +kernel
theorem dX9_readsMessage_73 : decode cX9_readsMessage 73 = .ok (.iload 5, 2) := by decide +kernel
theorem dX9_readsMessage_75 : decode cX9_readsMessage 75 = .ok (.iconst 2, 1) := by decide +kernel
theorem dX9_readsMessage_76 : decode cX9_readsMessage 76 = .ok (.irem, 1) := by decide +kernel
theorem dX9_readsMessage_77 : decode cX9_readsMessage 77 = .ok (.goto 4, 3) := by decide +kernel
theorem dX9_readsMessage_80 : decode cX9_readsMessage 80 = .ok (.iconst 0, 1) := by decide +kernel
theorem dX9_readsMessage_81 : decode cX9_readsMessage 81 = .ok (.istore 6, 2) := by decide +kernel
theorem dX9_readsMessage_83 : decode cX9_readsMessage 83 = .ok (.aload_n 0, 1) := by decide +kernel
theorem dX9_readsMessage_84 : decode cX9_readsMessage 84 = .ok (.getfield 58, 3) := by decide +kernel
theorem dX9_readsMessage_87 : decode cX9_readsMessage 87 = .ok (.iload 6, 2) := by decide +kernel
theorem dX9_readsMessage_89 : decode cX9_readsMessage 89 = .ok (.iaload, 1) := by decide +kernel
theorem dX9_readsMessage_90 : decode cX9_readsMessage 90 = .ok (.istore 7, 2) := by decide +kernel
theorem dX9_readsMessage_92 : decode cX9_readsMessage 92 = .ok (.aload_n 0, 1) := by decide +kernel
theorem dX9_readsMessage_93 : decode cX9_readsMessage 93 = .ok (.iload 7, 2) := by decide +kernel
theorem dX9_readsMessage_95 : decode cX9_readsMessage 95 = .ok (.invokevirtual 160, 3) := by decide +kernel
theorem dX9_readsMessage_98 : decode cX9_readsMessage 98 = .ok (.aload_n 0, 1) := by decide +kernel
theorem dX9_readsMessage_99 : decode cX9_readsMessage 99 = .ok (.bipush 6, 2) := by decide +kernel
theorem dX9_readsMessage_101 : decode cX9_readsMessage 101 = .ok (.aload_n 0, 1) := by decide +kernel
theorem dX9_readsMessage_102 : decode cX9_readsMessage 102 = .ok (.getfield 187, 3) := by decide +kernel
theorem dX9_readsMessage_105 : decode cX9_readsMessage 105 = .ok (.aload_n 0, 1) := by decide +kernel
theorem dX9_readsMessage_106 : decode cX9_readsMessage 106 = .ok (.getfield 190, 3) := by decide +kernel
theorem dX9_readsMessage_109 : decode cX9_readsMessage 109 = .ok (.iload 7, 2) := by decide +kernel
theorem dX9_readsMessage_111 : decode cX9_readsMessage 111 = .ok (.invokevirtual 140, 3) := by decide +kernel
theorem dX9_readsMessage_114 : decode cX9_readsMessage 114 = .ok (.istore 8, 2) := by decide +kernel
theorem dX9_readsMessage_116 : decode cX9_readsMessage 116 = .ok (.aload_n 0, 1) := by decide +kernel
theorem dX9_readsMessage_117 : decode cX9_readsMessage 117 = .ok (.getfield 67, 3) := by decide +kernel
theorem dX9_readsMessage_120 : decode cX9_readsMessage 120 = .ok (.iload 5, 2) := by decide +kernel
theorem dX9_readsMessage_122 : decode cX9_readsMessage 122 = .ok (.iload 8, 2) := by decide +kernel
theorem dX9_readsMessage_124 : decode cX9_readsMessage 124 = .ok (.iastore, 1) := by decide +kernel
theorem dX9_readsMessage_125 : decode cX9_readsMessage 125 = .ok (.aload_n 0, 1) := by decide +kernel
theorem dX9_readsMessage_126 : decode cX9_readsMessage 126 = .ok (.bipush 6, 2) := by decide +kernel
theorem dX9_readsMessage_128 : decode cX9_readsMessage 128 = .ok (.aload_n 0, 1) := by decide +kernel
theorem dX9_readsMessage_129 : decode cX9_readsMessage 129 = .ok (.getfield 187, 3) := by decide +kernel
theorem dX9_readsMessage_132 : decode cX9_readsMessage 132 = .ok (.aload_n 0, 1) := by decide +kernel
theorem dX9_readsMessage_133 : decode cX9_readsMessage 133 = .ok (.getfield 190, 3) := by decide +kernel
theorem dX9_readsMessage_136 : decode cX9_readsMessage 136 = .ok (.iload 7, 2) := by decide +kernel
theorem dX9_readsMessage_138 : decode cX9_readsMessage 138 = .ok (.iload 8, 2) := by decide +kernel
theorem dX9_readsMessage_140 : decode cX9_readsMessage 140 = .ok (.invokevirtual 144, 3) := by decide +kernel
theorem dX9_readsMessage_143 : decode cX9_readsMessage 143 = .ok (.istore 7, 2) := by decide +kernel
theorem dX9_readsMessage_145 : decode cX9_readsMessage 145 = .ok (.iconst 0, 1) := by decide +kernel
theorem dX9_readsMessage_146 : decode cX9_readsMessage 146 = .ok (.istore 9, 2) := by decide +kernel
theorem dX9_readsMessage_148 : decode cX9_readsMessage 148 = .ok (.iload 7, 2) := by decide +kernel
theorem dX9_readsMessage_150 : decode cX9_readsMessage 150 = .ok (.iload 4, 2) := by decide +kernel
theorem dX9_readsMessage_152 : decode cX9_readsMessage 152 = .ok (.if_icmp .ge 91, 3) := by decide +kernel
theorem dX9_readsMessage_155 : decode cX9_readsMessage 155 = .ok (.iload_n 2, 1) := by decide +kernel
theorem dX9_readsMessage_156 : decode cX9_readsMessage 156 = .ok (.iload_n 3, 1) := by decide +kernel
theorem dX9_readsMessage_157 : decode cX9_readsMessage 157 = .ok (.if_icmp .ne 18, 3) := by decide +kernel
theorem dX9_readsMessage_160 : decode cX9_readsMessage 160 = .ok (.aload_n 0, 1) := by decide +kernel
theorem dX9_readsMessage_161 : decode cX9_readsMessage 161 = .ok (.iconst 5, 1) := by decide +kernel
theorem dX9_readsMessage_162 : decode cX9_readsMessage 162 = .ok (.aload_n 0, 1) := by decide +kernel
theorem dX9_readsMessage_163 : decode cX9_readsMessage 163 = .ok (.getfield 214, 3) := by decide +kernel
theorem dX9_readsMessage_166 : decode cX9_readsMessage 166 = .ok (.aload_n 0, 1) := by decide +kernel
theorem dX9_readsMessage_167 : decode cX9_readsMessage 167 = .ok (.getfield 204, 3) := by decide +kernel
theorem dX9_readsMessage_170 : decode cX9_readsMessage 170 = .ok (.iadd, 1) := by decide +kernel
theorem dX9_readsMessage_171 : decode cX9_readsMessage 171 = .ok (.invokevirtual 176, 3) := by decide +kernel
theorem dX9_readsMessage_174 : decode cX9_readsMessage 174 = .ok (.ireturn, 1) := by decide +kernel
theorem dX9_readsMessage_175 : decode cX9_readsMessage 175 = .ok (.aload_n 0, 1) := by decide +kernel
theorem dX9_readsMessage_176 : decode cX9_readsMessage 176 = .ok (.getfield 187, 3) := by decide +kernel
theorem dX9_readsMessage_179 : decode cX9_readsMessage 179 = .ok (.ifCond .ne 35, 3) := by decide +kernel
theorem dX9_readsMessage_182 : decode cX9_readsMessage 182 = .ok (.iconst 2, 1) := by decide +kernel
theorem dX9_readsMessage_183 : decode cX9_readsMessage 183 = .ok (.iload 7, 2) := by decide +kernel
theorem dX9_readsMessage_185 : decode cX9_readsMessage 185 = .ok (.imul, 1) := by decide +kernel
theorem dX9_readsMessage_186 : decode cX9_readsMessage 186 = .ok (.aload_n 0, 1) := by decide +kernel
theorem dX9_readsMessage_187 : decode cX9_readsMessage 187 = .ok (.getfield 7, 3) := by decide +kernel
theorem dX9_readsMessage_190 : decode cX9_readsMessage 190 = .ok (.aload_n 0, 1) := by decide +kernel
theorem dX9_readsMessage_191 : decode cX9_readsMessage 191 = .ok (.getfield 214, 3) := by decide +kernel
theorem dX9_readsMessage_194 : decode cX9_readsMessage 194 = .ok (.iload_n 2, 1) := by decide +kernel
theorem dX9_readsMessage_195 : decode cX9_readsMessage 195 = .ok (.bipush 8, 2) := by decide +kernel
theorem dX9_readsMessage_197 : decode cX9_readsMessage 197 = .ok (.idiv, 1) := by decide +kernel
theorem dX9_readsMessage_198 : decode cX9_readsMessage 198 = .ok (.iadd, 1) := by decide +kernel
theorem dX9_readsMessage_199 : decode cX9_readsMessage 199 = .ok (.iaload, 1) := by decide +kernel
theorem dX9_readsMessage_200 : decode cX9_readsMessage 200 = .ok (.bipush 7, 2) := by decide +kernel
theorem dX9_readsMessage_202 : decode cX9_readsMessage 202 = .ok (.iload_n 2, 1) := by decide +kernel
theorem dX9_readsMessage_203 : decode cX9_readsMessage 203 = .ok (.bipush 8, 2) := by decide +kernel
theorem dX9_readsMessage_205 : decode cX9_readsMessage 205 = .ok (.irem, 1) := by decide +kernel
theorem dX9_readsMessage_206 : decode cX9_readsMessage 206 = .ok (.isub, 1) := by decide +kernel
theorem dX9_readsMessage_207 : decode cX9_readsMessage 207 = .ok (.ishr, 1) := by decide +kernel
theorem dX9_readsMessage_208 : decode cX9_readsMessage 208 = .ok (.iconst 1, 1) := by decide +kernel
theorem dX9_readsMessage_209 : decode cX9_readsMessage 209 = .ok (.iand, 1) := by decide +kernel
theorem dX9_readsMessage_210 : decode cX9_readsMessage 210 = .ok (.iadd, 1) := by decide +kernel
theorem dX9_readsMessage_211 : decode cX9_readsMessage 211 = .ok (.goto 21, 3) := by decide +kernel
theorem dX9_readsMessage_214 : decode cX9_readsMessage 214 = .ok (.sipush 256, 3) := by decide +kernel
theorem dX9_readsMessage_217 : decode cX9_readsMessage 217 = .ok (.iload 7, 2) := by decide +kernel
theorem dX9_readsMessage_219 : decode cX9_readsMessage 219 = .ok (.imul, 1) := by decide +kernel
theorem dX9_readsMessage_220 : decode cX9_readsMessage 220 = .ok (.aload_n 0, 1) := by decide +kernel
theorem dX9_readsMessage_221 : decode cX9_readsMessage 221 = .ok (.getfield 7, 3) := by decide +kernel
theorem dX9_readsMessage_224 : decode cX9_readsMessage 224 = .ok (.aload_n 0, 1) := by decide +kernel
theorem dX9_readsMessage_225 : decode cX9_readsMessage 225 = .ok (.getfield 214, 3) := by decide +kernel
theorem dX9_readsMessage_228 : decode cX9_readsMessage 228 = .ok (.iload_n 2, 1) := by decide +kernel
theorem dX9_readsMessage_229 : decode cX9_readsMessage 229 = .ok (.iadd, 1) := by decide +kernel
theorem dX9_readsMessage_230 : decode cX9_readsMessage 230 = .ok (.iaload, 1) := by decide +kernel
theorem dX9_readsMessage_231 : decode cX9_readsMessage 231 = .ok (.iadd, 1) := by decide +kernel
theorem dX9_readsMessage_232 : decode cX9_readsMessage 232 = .ok (.istore 7, 2) := by decide +kernel
theorem dX9_readsMessage_234 : decode cX9_readsMessage 234 = .ok (.iinc 2 1, 3) := by decide +kernel
theorem dX9_readsMessage_237 : decode cX9_readsMessage 237 = .ok (.iinc 9 1, 3) := by decide +kernel
theorem dX9_readsMessage_240 : decode cX9_readsMessage 240 = .ok (.goto (-92), 3) := by decide +kernel
theorem dX9_readsMessage_243 : decode cX9_readsMessage 243 = .ok (.aload_n 0, 1) := by decide +kernel
theorem dX9_readsMessage_244 : decode cX9_readsMessage 244 = .ok (.iload 7, 2) := by decide +kernel
theorem dX9_readsMessage_246 : decode cX9_readsMessage 246 = .ok (.invokevirtual 160, 3) := by decide +kernel
theorem dX9_readsMessage_249 : decode cX9_readsMessage 249 = .ok (.aload_n 0, 1) := by decide +kernel
theorem dX9_readsMessage_250 : decode cX9_readsMessage 250 = .ok (.getfield 58, 3) := by decide +kernel
theorem dX9_readsMessage_253 : decode cX9_readsMessage 253 = .ok (.iload 6, 2) := by decide +kernel
theorem dX9_readsMessage_255 : decode cX9_readsMessage 255 = .ok (.iload 7, 2) := by decide +kernel
theorem dX9_readsMessage_257 : decode cX9_readsMessage 257 = .ok (.iastore, 1) := by decide +kernel
theorem dX9_readsMessage_258 : decode cX9_readsMessage 258 = .ok (.aload_n 0, 1) := by decide +kernel
theorem dX9_readsMessage_259 : decode cX9_readsMessage 259 = .ok (.getfield 61, 3) := by decide +kernel
theorem dX9_readsMessage_262 : decode cX9_readsMessage 262 = .ok (.iconst 5, 1) := by decide +kernel
theorem dX9_readsMessage_263 : decode cX9_readsMessage 263 = .ok (.iload 9, 2) := by decide +kernel
theorem dX9_readsMessage_265 : decode cX9_readsMessage 265 = .ok (.aload_n 0, 1) := by decide +kernel
theorem dX9_readsMessage_266 : decode cX9_readsMessage 266 = .ok (.getfield 61, 3) := by decide +kernel
theorem dX9_readsMessage_269 : decode cX9_readsMessage 269 = .ok (.iconst 5, 1) := by decide +kernel
theorem dX9_readsMessage_270 : decode cX9_readsMessage 270 = .ok (.iaload, 1) := by decide +kernel
theorem dX9_readsMessage_271 : decode cX9_readsMessage 271 = .ok (.if_icmp .le 8, 3) := by decide +kernel
theorem dX9_readsMessage_274 : decode cX9_readsMessage 274 = .ok (.iload 9, 2) := by decide +kernel
theorem dX9_readsMessage_276 : decode cX9_readsMessage 276 = .ok (.goto 9, 3) := by decide +kernel
theorem dX9_readsMessage_279 : decode cX9_readsMessage 279 = .ok (.aload_n 0, 1) := by decide +kernel
theorem dX9_readsMessage_280 : decode cX9_readsMessage 280 = .ok (.getfield 61, 3) := by decide +kernel
theorem dX9_readsMessage_283 : decode cX9_readsMessage 283 = .ok (.iconst 5, 1) := by decide +kernel
theorem dX9_readsMessage_284 : decode cX9_readsMessage 284 = .ok (.iaload, 1) := by decide +kernel
theorem dX9_readsMessage_285 : decode cX9_readsMessage 285 = .ok (.iastore, 1) := by decide +kernel
theorem dX9_readsMessage_286 : decode cX9_readsMessage 286 = .ok (.iinc 5 1, 3) := by decide +kernel
theorem dX9_readsMessage_289 : decode cX9_readsMessage 289 = .ok (.goto (-233), 3) := by decide +kernel
theorem dX9_readsMessage_292 : decode cX9_readsMessage 292 = .ok (.aload_n 0, 1) := by decide +kernel
theorem dX9_readsMessage_293 : decode cX9_readsMessage 293 = .ok (.getfield 201, 3) := by decide +kernel
theorem dX9_readsMessage_296 : decode cX9_readsMessage 296 = .ok (.ifCond .ne 9, 3) := by decide +kernel
theorem dX9_readsMessage_299 : decode cX9_readsMessage 299 = .ok (.aload_n 0, 1) := by decide +kernel
theorem dX9_readsMessage_300 : decode cX9_readsMessage 300 = .ok (.iload 4, 2) := by decide +kernel
theorem dX9_readsMessage_302 : decode cX9_readsMessage 302 = .ok (.invokevirtual 160, 3) := by decide +kernel
theorem dX9_readsMessage_305 : decode cX9_readsMessage 305 = .ok (.aload_n 0, 1) := by decide +kernel
theorem dX9_readsMessage_306 : decode cX9_readsMessage 306 = .ok (.getfield 61, 3) := by decide +kernel
theorem dX9_readsMessage_309 : decode cX9_readsMessage 309 = .ok (.iconst 2, 1) := by decide +kernel
theorem dX9_readsMessage_310 : decode cX9_readsMessage 310 = .ok (.aload_n 0, 1) := by decide +kernel
theorem dX9_readsMessage_311 : decode cX9_readsMessage 311 = .ok (.getfield 201, 3) := by decide +kernel
theorem dX9_readsMessage_314 : decode cX9_readsMessage 314 = .ok (.iastore, 1) := by decide +kernel
theorem dX9_readsMessage_315 : decode cX9_readsMessage 315 = .ok (.aload_n 0, 1) := by decide +kernel
theorem dX9_readsMessage_316 : decode cX9_readsMessage 316 = .ok (.getfield 61, 3) := by decide +kernel
theorem dX9_readsMessage_319 : decode cX9_readsMessage 319 = .ok (.iconst 3, 1) := by decide +kernel
theorem dX9_readsMessage_320 : decode cX9_readsMessage 320 = .ok (.iload_n 2, 1) := by decide +kernel
theorem dX9_readsMessage_321 : decode cX9_readsMessage 321 = .ok (.iastore, 1) := by decide +kernel
theorem dX9_readsMessage_322 : decode cX9_readsMessage 322 = .ok (.aload_n 0, 1) := by decide +kernel
theorem dX9_readsMessage_323 : decode cX9_readsMessage 323 = .ok (.getfield 61, 3) := by decide +kernel
theorem dX9_readsMessage_326 : decode cX9_readsMessage 326 = .ok (.iconst 4, 1) := by decide +kernel
theorem dX9_readsMessage_327 : decode cX9_readsMessage 327 = .ok (.aload_n 0, 1) := by decide +kernel
theorem dX9_readsMessage_328 : decode cX9_readsMessage 328 = .ok (.getfield 204, 3) := by decide +kernel
theorem dX9_readsMessage_331 : decode cX9_readsMessage 331 = .ok (.iastore, 1) := by decide +kernel
theorem dX9_readsMessage_332 : decode cX9_readsMessage 332 = .ok (.aload_n 0, 1) := by decide +kernel
theorem dX9_readsMessage_333 : decode cX9_readsMessage 333 = .ok (.getfield 187, 3) := by decide +kernel
theorem dX9_readsMessage_336 : decode cX9_readsMessage 336 = .ok (.ifCond .ne 10, 3) := by decide +kernel
theorem dX9_readsMessage_339 : decode cX9_readsMessage 339 = .ok (.iload_n 2, 1) := by decide +kernel
theorem dX9_readsMessage_340 : decode cX9_readsMessage 340 = .ok (.bipush 8, 2) := by decide +kernel
theorem dX9_readsMessage_342 : decode cX9_readsMessage 342 = .ok (.idiv, 1) := by decide +kernel
theorem dX9_readsMessage_343 : decode cX9_readsMessage 343 = .ok (.goto 4, 3) := by decide +kernel
theorem dX9_readsMessage_346 : decode cX9_readsMessage 346 = .ok (.iload_n 2, 1) := by decide +kernel
theorem dX9_readsMessage_347 : decode cX9_readsMessage 347 = .ok (.istore 5, 2) := by decide +kernel
theorem dX9_readsMessage_349 : decode cX9_readsMessage 349 = .ok (.aload_n 0, 1) := by decide +kernel
end
section
theorem dX9_readsMessage_350 : decode cX9_readsMessage 350 = .ok (.getfield 187, 3) := by decide +kernel
theorem dX9_readsMessage_353 : decode cX9_readsMessage 353 = .ok (.ifCond .ne 54, 3) := by decide +kernel
theorem dX9_readsMessage_356 : decode cX9_readsMessage 356 = .ok (.iload_n 2, 1) := by decide +kernel
theorem dX9_readsMessage_357 : decode cX9_readsMessage 357 = .ok (.bipush 8, 2) := by decide +kernel
theorem dX9_readsMessage_359 : decode cX9_readsMessage 359 = .ok (.irem, 1) := by decide +kernel
theorem dX9_readsMessage_360 : decode cX9_readsMessage 360 = .ok (.ifCond .le 47, 3) := by decide +kernel
theorem dX9_readsMessage_363 : decode cX9_readsMessage 363 = .ok (.aload_n 0, 1) := by decide +kernel
theorem dX9_readsMessage_364 : decode cX9_readsMessage 364 = .ok (.getfield 7, 3) := by decide +kernel
theorem dX9_readsMessage_367 : decode cX9_readsMessage 367 = .ok (.aload_n 0, 1) := by decide +kernel
theorem dX9_readsMessage_368 : decode cX9_readsMessage 368 = .ok (.getfield 214, 3) := by decide +kernel
theorem dX9_readsMessage_371 : decode cX9_readsMessage 371 = .ok (.iload 5, 2) := by decide +kernel
theorem dX9_readsMessage_373 : decode cX9_readsMessage 373 = .ok (.iadd, 1) := by decide +kernel
theorem dX9_readsMessage_374 : decode cX9_readsMessage 374 = .ok (.iaload, 1) := by decide +kernel
theorem dX9_readsMessage_375 : decode cX9_readsMessage 375 = .ok (.iconst 1, 1) := by decide +kernel
theorem dX9_readsMessage_376 : decode cX9_readsMessage 376 = .ok (.bipush 8, 2) := by decide +kernel
theorem dX9_readsMessage_378 : decode cX9_readsMessage 378 = .ok (.iload_n 2, 1) := by decide +kernel
theorem dX9_readsMessage_379 : decode cX9_readsMessage 379 = .ok (.bipush 8, 2) := by decide +kernel
theorem dX9_readsMessage_381 : decode cX9_readsMessage 381 = .ok (.irem, 1) := by decide +kernel
theorem dX9_readsMessage_382 : decode cX9_readsMessage 382 = .ok (.isub, 1) := by decide +kernel
theorem dX9_readsMessage_383 : decode cX9_readsMessage 383 = .ok (.ishl, 1) := by decide +kernel
theorem dX9_readsMessage_384 : decode cX9_readsMessage 384 = .ok (.iconst 1, 1) := by decide +kernel
theorem dX9_readsMessage_385 : decode cX9_readsMessage 385 = .ok (.isub, 1) := by decide +kernel
theorem dX9_readsMessage_386 : decode cX9_readsMessage 386 = .ok (.iand, 1) := by decide +kernel
theorem dX9_readsMessage_387 : decode cX9_readsMessage 387 = .ok (.ifCond .eq 17, 3) := by decide +kernel
theorem dX9_readsMessage_390 : decode cX9_readsMessage 390 = .ok (.aload_n 0, 1) := by decide +kernel
theorem dX9_readsMessage_391 : decode cX9_readsMessage 391 = .ok (.bipush 6, 2) := by decide +kernel
theorem dX9_readsMessage_393 : decode cX9_readsMessage 393 = .ok (.aload_n 0, 1) := by decide +kernel
theorem dX9_readsMessage_394 : decode cX9_readsMessage 394 = .ok (.getfield 214, 3) := by decide +kernel
theorem dX9_readsMessage_397 : decode cX9_readsMessage 397 = .ok (.iload 5, 2) := by decide +kernel
theorem dX9_readsMessage_399 : decode cX9_readsMessage 399 = .ok (.iadd, 1) := by decide +kernel
theorem dX9_readsMessage_400 : decode cX9_readsMessage 400 = .ok (.invokevirtual 176, 3) := by decide +kernel
theorem dX9_readsMessage_403 : decode cX9_readsMessage 403 = .ok (.ireturn, 1) := by decide +kernel
theorem dX9_readsMessage_404 : decode cX9_readsMessage 404 = .ok (.iinc 5 1, 3) := by decide +kernel
theorem dX9_readsMessage_407 : decode cX9_readsMessage 407 = .ok (.iload 5, 2) := by decide +kernel
theorem dX9_readsMessage_409 : decode cX9_readsMessage 409 = .ok (.aload_n 0, 1) := by decide +kernel
theorem dX9_readsMessage_410 : decode cX9_readsMessage 410 = .ok (.getfield 204, 3) := by decide +kernel
theorem dX9_readsMessage_413 : decode cX9_readsMessage 413 = .ok (.if_icmp .ge 17, 3) := by decide +kernel
theorem dX9_readsMessage_416 : decode cX9_readsMessage 416 = .ok (.aload_n 0, 1) := by decide +kernel
theorem dX9_readsMessage_417 : decode cX9_readsMessage 417 = .ok (.bipush 6, 2) := by decide +kernel
theorem dX9_readsMessage_419 : decode cX9_readsMessage 419 = .ok (.aload_n 0, 1) := by decide +kernel
theorem dX9_readsMessage_420 : decode cX9_readsMessage 420 = .ok (.getfield 214, 3) := by decide +kernel
theorem dX9_readsMessage_423 : decode cX9_readsMessage 423 = .ok (.iload 5, 2) := by decide +kernel
theorem dX9_readsMessage_425 : decode cX9_readsMessage 425 = .ok (.iadd, 1) := by decide +kernel
theorem dX9_readsMessage_426 : decode cX9_readsMessage 426 = .ok (.invokevirtual 176, 3) := by decide +kernel
theorem dX9_readsMessage_429 : decode cX9_readsMessage 429 = .ok (.ireturn, 1) := by decide +kernel
theorem dX9_readsMessage_430 : decode cX9_readsMessage 430 = .ok (.aload_n 0, 1) := by decide +kernel
theorem dX9_readsMessage_431 : decode cX9_readsMessage 431 = .ok (.getfield 58, 3) := by decide +kernel
theorem dX9_readsMessage_434 : decode cX9_readsMessage 434 = .ok (.iconst 0, 1) := by decide +kernel
theorem dX9_readsMessage_435 : decode cX9_readsMessage 435 = .ok (.iaload, 1) := by decide +kernel
theorem dX9_readsMessage_436 : decode cX9_readsMessage 436 = .ok (.iload 4, 2) := by decide +kernel
theorem dX9_readsMessage_438 : decode cX9_readsMessage 438 = .ok (.if_icmp .eq 14, 3) := by decide +kernel
theorem dX9_readsMessage_441 : decode cX9_readsMessage 441 = .ok (.aload_n 0, 1) := by decide +kernel
theorem dX9_readsMessage_442 : decode cX9_readsMessage 442 = .ok (.bipush 7, 2) := by decide +kernel
theorem dX9_readsMessage_444 : decode cX9_readsMessage 444 = .ok (.aload_n 0, 1) := by decide +kernel
theorem dX9_readsMessage_445 : decode cX9_readsMessage 445 = .ok (.getfield 207, 3) := by decide +kernel
theorem dX9_readsMessage_448 : decode cX9_readsMessage 448 = .ok (.invokevirtual 176, 3) := by decide +kernel
theorem dX9_readsMessage_451 : decode cX9_readsMessage 451 = .ok (.ireturn, 1) := by decide +kernel
theorem dX9_readsMessage_452 : decode cX9_readsMessage 452 = .ok (.aload_n 0, 1) := by decide +kernel
theorem dX9_readsMessage_453 : decode cX9_readsMessage 453 = .ok (.getfield 187, 3) := by decide +kernel
theorem dX9_readsMessage_456 : decode cX9_readsMessage 456 = .ok (.iconst 2, 1) := by decide +kernel
theorem dX9_readsMessage_457 : decode cX9_readsMessage 457 = .ok (.if_icmp .ne 27, 3) := by decide +kernel
theorem dX9_readsMessage_460 : decode cX9_readsMessage 460 = .ok (.aload_n 0, 1) := by decide +kernel
theorem dX9_readsMessage_461 : decode cX9_readsMessage 461 = .ok (.getfield 58, 3) := by decide +kernel
theorem dX9_readsMessage_464 : decode cX9_readsMessage 464 = .ok (.iconst 1, 1) := by decide +kernel
theorem dX9_readsMessage_465 : decode cX9_readsMessage 465 = .ok (.iaload, 1) := by decide +kernel
theorem dX9_readsMessage_466 : decode cX9_readsMessage 466 = .ok (.iload 4, 2) := by decide +kernel
theorem dX9_readsMessage_468 : decode cX9_readsMessage 468 = .ok (.if_icmp .eq 16, 3) := by decide +kernel
theorem dX9_readsMessage_471 : decode cX9_readsMessage 471 = .ok (.aload_n 0, 1) := by decide +kernel
theorem dX9_readsMessage_472 : decode cX9_readsMessage 472 = .ok (.bipush 7, 2) := by decide +kernel
theorem dX9_readsMessage_474 : decode cX9_readsMessage 474 = .ok (.aload_n 0, 1) := by decide +kernel
theorem dX9_readsMessage_475 : decode cX9_readsMessage 475 = .ok (.getfield 207, 3) := by decide +kernel
theorem dX9_readsMessage_478 : decode cX9_readsMessage 478 = .ok (.iconst 4, 1) := by decide +kernel
theorem dX9_readsMessage_479 : decode cX9_readsMessage 479 = .ok (.iadd, 1) := by decide +kernel
theorem dX9_readsMessage_480 : decode cX9_readsMessage 480 = .ok (.invokevirtual 176, 3) := by decide +kernel
theorem dX9_readsMessage_483 : decode cX9_readsMessage 483 = .ok (.ireturn, 1) := by decide +kernel
theorem dX9_readsMessage_484 : decode cX9_readsMessage 484 = .ok (.iconst 1, 1) := by decide +kernel
theorem dX9_readsMessage_485 : decode cX9_readsMessage 485 = .ok (.ireturn, 1) := by decide +kernel
theorem dX9_unpack_0 : decode cX9_unpack 0 = .ok (.iload_n 1, 1) := by decide +kernel
theorem dX9_unpack_1 : decode cX9_unpack 1 = .ok (.ifCond .lt 8, 3) := by decide +kernel
theorem dX9_unpack_4 : decode cX9_unpack 4 = .ok (.iload_n 1, 1) := by decide +kernel
theorem dX9_unpack_5 : decode cX9_unpack 5 = .ok (.iconst 5, 1) := by decide +kernel
theorem dX9_unpack_6 : decode cX9_unpack 6 = .ok (.if_icmp .le 5, 3) := by decide +kernel
theorem dX9_unpack_9 : decode cX9_unpack 9 = .ok (.iconst (-1), 1) := by decide +kernel
theorem dX9_unpack_10 : decode cX9_unpack 10 = .ok (.ireturn, 1) := by decide +kernel
theorem dX9_unpack_11 : decode cX9_unpack 11 = .ok (.aload_n 0, 1) := by decide +kernel
theorem dX9_unpack_12 : decode cX9_unpack 12 = .ok (.iconst 0, 1) := by decide +kernel
theorem dX9_unpack_13 : decode cX9_unpack 13 = .ok (.putfield 170, 3) := by decide +kernel
theorem dX9_unpack_16 : decode cX9_unpack 16 = .ok (.aload_n 0, 1) := by decide +kernel
theorem dX9_unpack_17 : decode cX9_unpack 17 = .ok (.iconst (-1), 1) := by decide +kernel
theorem dX9_unpack_18 : decode cX9_unpack 18 = .ok (.putfield 51, 3) := by decide +kernel
theorem dX9_unpack_21 : decode cX9_unpack 21 = .ok (.aload_n 0, 1) := by decide +kernel
theorem dX9_unpack_22 : decode cX9_unpack 22 = .ok (.invokevirtual 220, 3) := by decide +kernel
theorem dX9_unpack_25 : decode cX9_unpack 25 = .ok (.istore_n 2, 1) := by decide +kernel
theorem dX9_unpack_26 : decode cX9_unpack 26 = .ok (.aload_n 0, 1) := by decide +kernel
theorem dX9_unpack_27 : decode cX9_unpack 27 = .ok (.iconst 0, 1) := by decide +kernel
theorem dX9_unpack_28 : decode cX9_unpack 28 = .ok (.putfield 70, 3) := by decide +kernel
theorem dX9_unpack_31 : decode cX9_unpack 31 = .ok (.iload_n 2, 1) := by decide +kernel
theorem dX9_unpack_32 : decode cX9_unpack 32 = .ok (.ifCond .ne 5, 3) := by decide +kernel
theorem dX9_unpack_35 : decode cX9_unpack 35 = .ok (.iconst (-1), 1) := by decide +kernel
theorem dX9_unpack_36 : decode cX9_unpack 36 = .ok (.ireturn, 1) := by decide +kernel
theorem dX9_unpack_37 : decode cX9_unpack 37 = .ok (.aload_n 0, 1) := by decide +kernel
theorem dX9_unpack_38 : decode cX9_unpack 38 = .ok (.getfield 16, 3) := by decide +kernel
theorem dX9_unpack_41 : decode cX9_unpack 41 = .ok (.iload_n 1, 1) := by decide +kernel
theorem dX9_unpack_42 : decode cX9_unpack 42 = .ok (.aload_n 0, 1) := by decide +kernel
theorem dX9_unpack_43 : decode cX9_unpack 43 = .ok (.getfield 16, 3) := by decide +kernel
theorem dX9_unpack_46 : decode cX9_unpack 46 = .ok (.bipush 6, 2) := by decide +kernel
theorem dX9_unpack_48 : decode cX9_unpack 48 = .ok (.iaload, 1) := by decide +kernel
theorem dX9_unpack_49 : decode cX9_unpack 49 = .ok (.iastore, 1) := by decide +kernel
theorem dX9_unpack_50 : decode cX9_unpack 50 = .ok (.iconst 0, 1) := by decide +kernel
theorem dX9_unpack_51 : decode cX9_unpack 51 = .ok (.istore_n 3, 1) := by decide +kernel
theorem dX9_unpack_52 : decode cX9_unpack 52 = .ok (.iload_n 3, 1) := by decide +kernel
theorem dX9_unpack_53 : decode cX9_unpack 53 = .ok (.sipush 256, 3) := by decide +kernel
theorem dX9_unpack_56 : decode cX9_unpack 56 = .ok (.if_icmp .ge 31, 3) := by decide +kernel
theorem dX9_unpack_59 : decode cX9_unpack 59 = .ok (.aload_n 0, 1) := by decide +kernel
theorem dX9_unpack_60 : decode cX9_unpack 60 = .ok (.getfield 19, 3) := by decide +kernel
theorem dX9_unpack_63 : decode cX9_unpack 63 = .ok (.sipush 256, 3) := by decide +kernel
theorem dX9_unpack_66 : decode cX9_unpack 66 = .ok (.iload_n 1, 1) := by decide +kernel
theorem dX9_unpack_67 : decode cX9_unpack 67 = .ok (.imul, 1) := by decide +kernel
theorem dX9_unpack_68 : decode cX9_unpack 68 = .ok (.iload_n 3, 1) := by decide +kernel
theorem dX9_unpack_69 : decode cX9_unpack 69 = .ok (.iadd, 1) := by decide +kernel
theorem dX9_unpack_70 : decode cX9_unpack 70 = .ok (.aload_n 0, 1) := by decide +kernel
theorem dX9_unpack_71 : decode cX9_unpack 71 = .ok (.getfield 19, 3) := by decide +kernel
theorem dX9_unpack_74 : decode cX9_unpack 74 = .ok (.sipush 1536, 3) := by decide +kernel
theorem dX9_unpack_77 : decode cX9_unpack 77 = .ok (.iload_n 3, 1) := by decide +kernel
theorem dX9_unpack_78 : decode cX9_unpack 78 = .ok (.iadd, 1) := by decide +kernel
theorem dX9_unpack_79 : decode cX9_unpack 79 = .ok (.iaload, 1) := by decide +kernel
theorem dX9_unpack_80 : decode cX9_unpack 80 = .ok (.iastore, 1) := by decide +kernel
theorem dX9_unpack_81 : decode cX9_unpack 81 = .ok (.iinc 3 1, 3) := by decide +kernel
theorem dX9_unpack_84 : decode cX9_unpack 84 = .ok (.goto (-32), 3) := by decide +kernel
theorem dX9_unpack_87 : decode cX9_unpack 87 = .ok (.aload_n 0, 1) := by decide +kernel
theorem dX9_unpack_88 : decode cX9_unpack 88 = .ok (.iload_n 1, 1) := by decide +kernel
theorem dX9_unpack_89 : decode cX9_unpack 89 = .ok (.invokevirtual 80, 3) := by decide +kernel
theorem dX9_unpack_92 : decode cX9_unpack 92 = .ok (.iconst 0, 1) := by decide +kernel
theorem dX9_unpack_93 : decode cX9_unpack 93 = .ok (.istore_n 3, 1) := by decide +kernel
theorem dX9_unpack_94 : decode cX9_unpack 94 = .ok (.iload_n 3, 1) := by decide +kernel
theorem dX9_unpack_95 : decode cX9_unpack 95 = .ok (.aload_n 0, 1) := by decide +kernel
theorem dX9_unpack_96 : decode cX9_unpack 96 = .ok (.getfield 201, 3) := by decide +kernel
theorem dX9_unpack_99 : decode cX9_unpack 99 = .ok (.if_icmp .ge 21, 3) := by decide +kernel
theorem dX9_unpack_102 : decode cX9_unpack 102 = .ok (.aload_n 0, 1) := by decide +kernel
theorem dX9_unpack_103 : decode cX9_unpack 103 = .ok (.getfield 13, 3) := by decide +kernel
theorem dX9_unpack_106 : decode cX9_unpack 106 = .ok (.iload_n 3, 1) := by decide +kernel
theorem dX9_unpack_107 : decode cX9_unpack 107 = .ok (.aload_n 0, 1) := by decide +kernel
theorem dX9_unpack_108 : decode cX9_unpack 108 = .ok (.getfield 67, 3) := by decide +kernel
theorem dX9_unpack_111 : decode cX9_unpack 111 = .ok (.iload_n 3, 1) := by decide +kernel
theorem dX9_unpack_112 : decode cX9_unpack 112 = .ok (.iaload, 1) := by decide +kernel
theorem dX9_unpack_113 : decode cX9_unpack 113 = .ok (.iastore, 1) := by decide +kernel
theorem dX9_unpack_114 : decode cX9_unpack 114 = .ok (.iinc 3 1, 3) := by decide +kernel
theorem dX9_unpack_117 : decode cX9_unpack 117 = .ok (.goto (-23), 3) := by decide +kernel
theorem dX9_unpack_120 : decode cX9_unpack 120 = .ok (.aload_n 0, 1) := by decide +kernel
theorem dX9_unpack_121 : decode cX9_unpack 121 = .ok (.aload_n 0, 1) := by decide +kernel
theorem dX9_unpack_122 : decode cX9_unpack 122 = .ok (.getfield 201, 3) := by decide +kernel
theorem dX9_unpack_125 : decode cX9_unpack 125 = .ok (.putfield 73, 3) := by decide +kernel
theorem dX9_unpack_128 : decode cX9_unpack 128 = .ok (.aload_n 0, 1) := by decide +kernel
theorem dX9_unpack_129 : decode cX9_unpack 129 = .ok (.invokevirtual 166, 3) := by decide +kernel
theorem dX9_unpack_132 : decode cX9_unpack 132 = .ok (.aload_n 0, 1) := by decide +kernel
theorem dX9_unpack_133 : decode cX9_unpack 133 = .ok (.getfield 201, 3) := by decide +kernel
theorem dX9_unpack_136 : decode cX9_unpack 136 = .ok (.ireturn, 1) := by decide +kernel
theorem dX9_fault_0 : decode cX9_fault 0 = .ok (.iload_n 1, 1) := by decide +kernel
theorem dX9_fault_1 : decode cX9_fault 1 = .ok (.ifCond .ne 10, 3) := by decide +kernel
theorem dX9_fault_4 : decode cX9_fault 4 = .ok (.aload_n 0, 1) := by decide +kernel
theorem dX9_fault_5 : decode cX9_fault 5 = .ok (.getfield 170, 3) := by decide +kernel
theorem dX9_fault_8 : decode cX9_fault 8 = .ok (.goto 16, 3) := by decide +kernel
theorem dX9_fault_11 : decode cX9_fault 11 = .ok (.iload_n 1, 1) := by decide +kernel
theorem dX9_fault_12 : decode cX9_fault 12 = .ok (.iconst 1, 1) := by decide +kernel
theorem dX9_fault_13 : decode cX9_fault 13 = .ok (.if_icmp .ne 10, 3) := by decide +kernel
theorem dX9_fault_16 : decode cX9_fault 16 = .ok (.aload_n 0, 1) := by decide +kernel
theorem dX9_fault_17 : decode cX9_fault 17 = .ok (.getfield 51, 3) := by decide +kernel
theorem dX9_fault_20 : decode cX9_fault 20 = .ok (.goto 4, 3) := by decide +kernel
theorem dX9_fault_23 : decode cX9_fault 23 = .ok (.iconst (-1), 1) := by decide +kernel
theorem dX9_fault_24 : decode cX9_fault 24 = .ok (.ireturn, 1) := by decide +kernel
theorem dJ6_numberOfLeadingZeros_0f7a4_0 : decode cJ6_numberOfLeadingZeros_0f7a4 0 = .ok (.iload_n 0, 1) := by decide +kernel
theorem dJ6_numberOfLeadingZeros_0f7a4_1 : decode cJ6_numberOfLeadingZeros_0f7a4 1 = .ok (.ifCond .gt 14, 3) := by decide +kernel
theorem dJ6_numberOfLeadingZeros_0f7a4_4 : decode cJ6_numberOfLeadingZeros_0f7a4 4 = .ok (.iload_n 0, 1) := by decide +kernel
theorem dJ6_numberOfLeadingZeros_0f7a4_5 : decode cJ6_numberOfLeadingZeros_0f7a4 5 = .ok (.ifCond .ne 8, 3) := by decide +kernel
theorem dJ6_numberOfLeadingZeros_0f7a4_8 : decode cJ6_numberOfLeadingZeros_0f7a4 8 = .ok (.bipush 32, 2) := by decide +kernel
theorem dJ6_numberOfLeadingZeros_0f7a4_10 : decode cJ6_numberOfLeadingZeros_0f7a4 10 = .ok (.goto 4, 3) := by decide +kernel
theorem dJ6_numberOfLeadingZeros_0f7a4_13 : decode cJ6_numberOfLeadingZeros_0f7a4 13 = .ok (.iconst 0, 1) := by decide +kernel
theorem dJ6_numberOfLeadingZeros_0f7a4_14 : decode cJ6_numberOfLeadingZeros_0f7a4 14 = .ok (.ireturn, 1) := by decide +kernel
theorem dJ6_numberOfLeadingZeros_0f7a4_15 : decode cJ6_numberOfLeadingZeros_0f7a4 15 = .ok (.bipush 31, 2) := by decide +kernel
theorem dJ6_numberOfLeadingZeros_0f7a4_17 : decode cJ6_numberOfLeadingZeros_0f7a4 17 = .ok (.istore_n 1, 1) := by decide +kernel
theorem dJ6_numberOfLeadingZeros_0f7a4_18 : decode cJ6_numberOfLeadingZeros_0f7a4 18 = .ok (.iload_n 0, 1) := by decide +kernel
theorem dJ6_numberOfLeadingZeros_0f7a4_19 : decode cJ6_numberOfLeadingZeros_0f7a4 19 = .ok (.ldc_w 264, 3) := by decide +kernel
theorem dJ6_numberOfLeadingZeros_0f7a4_22 : decode cJ6_numberOfLeadingZeros_0f7a4 22 = .ok (.if_icmp .lt 11, 3) := by decide +kernel
theorem dJ6_numberOfLeadingZeros_0f7a4_25 : decode cJ6_numberOfLeadingZeros_0f7a4 25 = .ok (.iinc 1 (-16), 3) := by decide +kernel
theorem dJ6_numberOfLeadingZeros_0f7a4_28 : decode cJ6_numberOfLeadingZeros_0f7a4 28 = .ok (.iload_n 0, 1) := by decide +kernel
theorem dJ6_numberOfLeadingZeros_0f7a4_29 : decode cJ6_numberOfLeadingZeros_0f7a4 29 = .ok (.bipush 16, 2) := by decide +kernel
theorem dJ6_numberOfLeadingZeros_0f7a4_31 : decode cJ6_numberOfLeadingZeros_0f7a4 31 = .ok (.iushr, 1) := by decide +kernel
theorem dJ6_numberOfLeadingZeros_0f7a4_32 : decode cJ6_numberOfLeadingZeros_0f7a4 32 = .ok (.istore_n 0, 1) := by decide +kernel
theorem dJ6_numberOfLeadingZeros_0f7a4_33 : decode cJ6_numberOfLeadingZeros_0f7a4 33 = .ok (.iload_n 0, 1) := by decide +kernel
theorem dJ6_numberOfLeadingZeros_0f7a4_34 : decode cJ6_numberOfLeadingZeros_0f7a4 34 = .ok (.sipush 256, 3) := by decide +kernel
theorem dJ6_numberOfLeadingZeros_0f7a4_37 : decode cJ6_numberOfLeadingZeros_0f7a4 37 = .ok (.if_icmp .lt 11, 3) := by decide +kernel
theorem dJ6_numberOfLeadingZeros_0f7a4_40 : decode cJ6_numberOfLeadingZeros_0f7a4 40 = .ok (.iinc 1 (-8), 3) := by decide +kernel
theorem dJ6_numberOfLeadingZeros_0f7a4_43 : decode cJ6_numberOfLeadingZeros_0f7a4 43 = .ok (.iload_n 0, 1) := by decide +kernel
theorem dJ6_numberOfLeadingZeros_0f7a4_44 : decode cJ6_numberOfLeadingZeros_0f7a4 44 = .ok (.bipush 8, 2) := by decide +kernel
theorem dJ6_numberOfLeadingZeros_0f7a4_46 : decode cJ6_numberOfLeadingZeros_0f7a4 46 = .ok (.iushr, 1) := by decide +kernel
theorem dJ6_numberOfLeadingZeros_0f7a4_47 : decode cJ6_numberOfLeadingZeros_0f7a4 47 = .ok (.istore_n 0, 1) := by decide +kernel
theorem dJ6_numberOfLeadingZeros_0f7a4_48 : decode cJ6_numberOfLeadingZeros_0f7a4 48 = .ok (.iload_n 0, 1) := by decide +kernel
theorem dJ6_numberOfLeadingZeros_0f7a4_49 : decode cJ6_numberOfLeadingZeros_0f7a4 49 = .ok (.bipush 16, 2) := by decide +kernel
theorem dJ6_numberOfLeadingZeros_0f7a4_51 : decode cJ6_numberOfLeadingZeros_0f7a4 51 = .ok (.if_icmp .lt 10, 3) := by decide +kernel
theorem dJ6_numberOfLeadingZeros_0f7a4_54 : decode cJ6_numberOfLeadingZeros_0f7a4 54 = .ok (.iinc 1 (-4), 3) := by decide +kernel
theorem dJ6_numberOfLeadingZeros_0f7a4_57 : decode cJ6_numberOfLeadingZeros_0f7a4 57 = .ok (.iload_n 0, 1) := by decide +kernel
theorem dJ6_numberOfLeadingZeros_0f7a4_58 : decode cJ6_numberOfLeadingZeros_0f7a4 58 = .ok (.iconst 4, 1) := by decide +kernel
theorem dJ6_numberOfLeadingZeros_0f7a4_59 : decode cJ6_numberOfLeadingZeros_0f7a4 59 = .ok (.iushr, 1) := by decide +kernel
theorem dJ6_numberOfLeadingZeros_0f7a4_60 : decode cJ6_numberOfLeadingZeros_0f7a4 60 = .ok (.istore_n 0, 1) := by decide +kernel
theorem dJ6_numberOfLeadingZeros_0f7a4_61 : decode cJ6_numberOfLeadingZeros_0f7a4 61 = .ok (.iload_n 0, 1) := by decide +kernel
theorem dJ6_numberOfLeadingZeros_0f7a4_62 : decode cJ6_numberOfLeadingZeros_0f7a4 62 = .ok (.iconst 4, 1) := by decide +kernel
theorem dJ6_numberOfLeadingZeros_0f7a4_63 : decode cJ6_numberOfLeadingZeros_0f7a4 63 = .ok (.if_icmp .lt 10, 3) := by decide +kernel
theorem dJ6_numberOfLeadingZeros_0f7a4_66 : decode cJ6_numberOfLeadingZeros_0f7a4 66 = .ok (.iinc 1 (-2), 3) := by decide +kernel
theorem dJ6_numberOfLeadingZeros_0f7a4_69 : decode cJ6_numberOfLeadingZeros_0f7a4 69 = .ok (.iload_n 0, 1) := by decide +kernel
theorem dJ6_numberOfLeadingZeros_0f7a4_70 : decode cJ6_numberOfLeadingZeros_0f7a4 70 = .ok (.iconst 2, 1) := by decide +kernel
theorem dJ6_numberOfLeadingZeros_0f7a4_71 : decode cJ6_numberOfLeadingZeros_0f7a4 71 = .ok (.iushr, 1) := by decide +kernel
theorem dJ6_numberOfLeadingZeros_0f7a4_72 : decode cJ6_numberOfLeadingZeros_0f7a4 72 = .ok (.istore_n 0, 1) := by decide +kernel
theorem dJ6_numberOfLeadingZeros_0f7a4_73 : decode cJ6_numberOfLeadingZeros_0f7a4 73 = .ok (.iload_n 1, 1) := by decide +kernel
theorem dJ6_numberOfLeadingZeros_0f7a4_74 : decode cJ6_numberOfLeadingZeros_0f7a4 74 = .ok (.iload_n 0, 1) := by decide +kernel
theorem dJ6_numberOfLeadingZeros_0f7a4_75 : decode cJ6_numberOfLeadingZeros_0f7a4 75 = .ok (.iconst 1, 1) := by decide +kernel
theorem dJ6_numberOfLeadingZeros_0f7a4_76 : decode cJ6_numberOfLeadingZeros_0f7a4 76 = .ok (.iushr, 1) := by decide +kernel
theorem dJ6_numberOfLeadingZeros_0f7a4_77 : decode cJ6_numberOfLeadingZeros_0f7a4 77 = .ok (.isub, 1) := by decide +kernel
theorem dJ6_numberOfLeadingZeros_0f7a4_78 : decode cJ6_numberOfLeadingZeros_0f7a4 78 = .ok (.ireturn, 1) := by decide +kernel
theorem dJ9_max_7cf53_0 : decode cJ9_max_7cf53 0 = .ok (.iload_n 0, 1) := by decide +kernel
theorem dJ9_max_7cf53_1 : decode cJ9_max_7cf53 1 = .ok (.iload_n 1, 1) := by decide +kernel
theorem dJ9_max_7cf53_2 : decode cJ9_max_7cf53 2 = .ok (.if_icmp .lt 7, 3) := by decide +kernel
theorem dJ9_max_7cf53_5 : decode cJ9_max_7cf53 5 = .ok (.iload_n 0, 1) := by decide +kernel
theorem dJ9_max_7cf53_6 : decode cJ9_max_7cf53 6 = .ok (.goto 4, 3) := by decide +kernel
theorem dJ9_max_7cf53_9 : decode cJ9_max_7cf53 9 = .ok (.iload_n 1, 1) := by decide +kernel
theorem dJ9_max_7cf53_10 : decode cJ9_max_7cf53 10 = .ok (.ireturn, 1) := by decide +kernel
theorem dJ9_min_7cf53_0 : decode cJ9_min_7cf53 0 = .ok (.iload_n 0, 1) := by decide +kernel
theorem dJ9_min_7cf53_1 : decode cJ9_min_7cf53 1 = .ok (.iload_n 1, 1) := by decide +kernel
theorem dJ9_min_7cf53_2 : decode cJ9_min_7cf53 2 = .ok (.if_icmp .gt 7, 3) := by decide +kernel
theorem dJ9_min_7cf53_5 : decode cJ9_min_7cf53 5 = .ok (.iload_n 0, 1) := by decide +kernel
theorem dJ9_min_7cf53_6 : decode cJ9_min_7cf53 6 = .ok (.goto 4, 3) := by decide +kernel
theorem dJ9_min_7cf53_9 : decode cJ9_min_7cf53 9 = .ok (.iload_n 1, 1) := by decide +kernel
theorem dJ9_min_7cf53_10 : decode cJ9_min_7cf53 10 = .ok (.ireturn, 1) := by decide +kernel
theorem dJ7_fill_53178_0 : decode cJ7_fill_53178 0 = .ok (.iconst 0, 1) := by decide +kernel
theorem dJ7_fill_53178_1 : decode cJ7_fill_53178 1 = .ok (.istore_n 2, 1) := by decide +kernel
theorem dJ7_fill_53178_2 : decode cJ7_fill_53178 2 = .ok (.aload_n 0, 1) := by decide +kernel
theorem dJ7_fill_53178_3 : decode cJ7_fill_53178 3 = .ok (.arraylength, 1) := by decide +kernel
theorem dJ7_fill_53178_4 : decode cJ7_fill_53178 4 = .ok (.istore_n 3, 1) := by decide +kernel
theorem dJ7_fill_53178_5 : decode cJ7_fill_53178 5 = .ok (.iload_n 2, 1) := by decide +kernel
theorem dJ7_fill_53178_6 : decode cJ7_fill_53178 6 = .ok (.iload_n 3, 1) := by decide +kernel
theorem dJ7_fill_53178_7 : decode cJ7_fill_53178 7 = .ok (.if_icmp .ge 13, 3) := by decide +kernel
theorem dJ7_fill_53178_10 : decode cJ7_fill_53178 10 = .ok (.aload_n 0, 1) := by decide +kernel
theorem dJ7_fill_53178_11 : decode cJ7_fill_53178 11 = .ok (.iload_n 2, 1) := by decide +kernel
theorem dJ7_fill_53178_12 : decode cJ7_fill_53178 12 = .ok (.iload_n 1, 1) := by decide +kernel
theorem dJ7_fill_53178_13 : decode cJ7_fill_53178 13 = .ok (.iastore, 1) := by decide +kernel
theorem dJ7_fill_53178_14 : decode cJ7_fill_53178 14 = .ok (.iinc 2 1, 3) := by decide +kernel
theorem dJ7_fill_53178_17 : decode cJ7_fill_53178 17 = .ok (.goto (-12), 3) := by decide +kernel
theorem dJ7_fill_53178_20 : decode cJ7_fill_53178 20 = .ok (.return_, 1) := by decide +kernel
theorem dL_law_0 : decode cL_law 0 = .ok (.new 7, 3) := by decide +kernel
theorem dL_law_3 : decode cL_law 3 = .ok (.dup, 1) := by decide +kernel
theorem dL_law_4 : decode cL_law 4 = .ok (.invokespecial 9, 3) := by decide +kernel
theorem dL_law_7 : decode cL_law 7 = .ok (.astore_n 1, 1) := by decide +kernel
theorem dL_law_8 : decode cL_law 8 = .ok (.new 10, 3) := by decide +kernel
theorem dL_law_11 : decode cL_law 11 = .ok (.dup, 1) := by decide +kernel
theorem dL_law_12 : decode cL_law 12 = .ok (.invokespecial 12, 3) := by decide +kernel
theorem dL_law_15 : decode cL_law 15 = .ok (.astore_n 2, 1) := by decide +kernel
theorem dL_law_16 : decode cL_law 16 = .ok (.iconst 0, 1) := by decide +kernel
theorem dL_law_17 : decode cL_law 17 = .ok (.istore_n 3, 1) := by decide +kernel
theorem dL_law_18 : decode cL_law 18 = .ok (.iload_n 3, 1) := by decide +kernel
theorem dL_law_19 : decode cL_law 19 = .ok (.aload_n 0, 1) := by decide +kernel
theorem dL_law_20 : decode cL_law 20 = .ok (.arraylength, 1) := by decide +kernel
theorem dL_law_21 : decode cL_law 21 = .ok (.bipush 6, 2) := by decide +kernel
theorem dL_law_23 : decode cL_law 23 = .ok (.isub, 1) := by decide +kernel
theorem dL_law_24 : decode cL_law 24 = .ok (.if_icmp .gt 763, 3) := by decide +kernel
theorem dL_law_27 : decode cL_law 27 = .ok (.aload_n 0, 1) := by decide +kernel
theorem dL_law_28 : decode cL_law 28 = .ok (.iload_n 3, 1) := by decide +kernel
theorem dL_law_29 : decode cL_law 29 = .ok (.iaload, 1) := by decide +kernel
theorem dL_law_30 : decode cL_law 30 = .ok (.bipush 31, 2) := by decide +kernel
theorem dL_law_32 : decode cL_law 32 = .ok (.iand, 1) := by decide +kernel
theorem dL_law_33 : decode cL_law 33 = .ok (.tableswitch 748 0 18 #[91, 154, 177, 210, 233, 266, 299, 342, 385, 428, 451, 474, 497, 510, 533, 596, 619, 672, 725], 91) := by decide +kernel
theorem dL_law_124 : decode cL_law 124 = .ok (.aload_n 1, 1) := by decide +kernel
theorem dL_law_125 : decode cL_law 125 = .ok (.aload_n 0, 1) := by decide +kernel
theorem dL_law_126 : decode cL_law 126 = .ok (.iload_n 3, 1) := by decide +kernel
theorem dL_law_127 : decode cL_law 127 = .ok (.iconst 1, 1) := by decide +kernel
theorem dL_law_128 : decode cL_law 128 = .ok (.iadd, 1) := by decide +kernel
theorem dL_law_129 : decode cL_law 129 = .ok (.iaload, 1) := by decide +kernel
theorem dL_law_130 : decode cL_law 130 = .ok (.aload_n 0, 1) := by decide +kernel
theorem dL_law_131 : decode cL_law 131 = .ok (.iload_n 3, 1) := by decide +kernel
theorem dL_law_132 : decode cL_law 132 = .ok (.iconst 2, 1) := by decide +kernel
theorem dL_law_133 : decode cL_law 133 = .ok (.iadd, 1) := by decide +kernel
theorem dL_law_134 : decode cL_law 134 = .ok (.iaload, 1) := by decide +kernel
theorem dL_law_135 : decode cL_law 135 = .ok (.aload_n 0, 1) := by decide +kernel
theorem dL_law_136 : decode cL_law 136 = .ok (.iload_n 3, 1) := by decide +kernel
theorem dL_law_137 : decode cL_law 137 = .ok (.iconst 3, 1) := by decide +kernel
theorem dL_law_138 : decode cL_law 138 = .ok (.iadd, 1) := by decide +kernel
theorem dL_law_139 : decode cL_law 139 = .ok (.iaload, 1) := by decide +kernel
theorem dL_law_140 : decode cL_law 140 = .ok (.aload_n 0, 1) := by decide +kernel
theorem dL_law_141 : decode cL_law 141 = .ok (.iload_n 3, 1) := by decide +kernel
theorem dL_law_142 : decode cL_law 142 = .ok (.iconst 4, 1) := by decide +kernel
theorem dL_law_143 : decode cL_law 143 = .ok (.iadd, 1) := by decide +kernel
theorem dL_law_144 : decode cL_law 144 = .ok (.iaload, 1) := by decide +kernel
theorem dL_law_145 : decode cL_law 145 = .ok (.aload_n 0, 1) := by decide +kernel
theorem dL_law_146 : decode cL_law 146 = .ok (.iload_n 3, 1) := by decide +kernel
theorem dL_law_147 : decode cL_law 147 = .ok (.iconst 5, 1) := by decide +kernel
theorem dL_law_148 : decode cL_law 148 = .ok (.iadd, 1) := by decide +kernel
theorem dL_law_149 : decode cL_law 149 = .ok (.iaload, 1) := by decide +kernel
theorem dL_law_150 : decode cL_law 150 = .ok (.invokevirtual 13, 3) := by decide +kernel
theorem dL_law_153 : decode cL_law 153 = .ok (.aload_n 2, 1) := by decide +kernel
theorem dL_law_154 : decode cL_law 154 = .ok (.aload_n 0, 1) := by decide +kernel
theorem dL_law_155 : decode cL_law 155 = .ok (.iload_n 3, 1) := by decide +kernel
theorem dL_law_156 : decode cL_law 156 = .ok (.iconst 1, 1) := by decide +kernel
theorem dL_law_157 : decode cL_law 157 = .ok (.iadd, 1) := by decide +kernel
theorem dL_law_158 : decode cL_law 158 = .ok (.iaload, 1) := by decide +kernel
theorem dL_law_159 : decode cL_law 159 = .ok (.aload_n 0, 1) := by decide +kernel
theorem dL_law_160 : decode cL_law 160 = .ok (.iload_n 3, 1) := by decide +kernel
theorem dL_law_161 : decode cL_law 161 = .ok (.iconst 2, 1) := by decide +kernel
theorem dL_law_162 : decode cL_law 162 = .ok (.iadd, 1) := by decide +kernel
theorem dL_law_163 : decode cL_law 163 = .ok (.iaload, 1) := by decide +kernel
theorem dL_law_164 : decode cL_law 164 = .ok (.aload_n 0, 1) := by decide +kernel
theorem dL_law_165 : decode cL_law 165 = .ok (.iload_n 3, 1) := by decide +kernel
theorem dL_law_166 : decode cL_law 166 = .ok (.iconst 3, 1) := by decide +kernel
theorem dL_law_167 : decode cL_law 167 = .ok (.iadd, 1) := by decide +kernel
theorem dL_law_168 : decode cL_law 168 = .ok (.iaload, 1) := by decide +kernel
theorem dL_law_169 : decode cL_law 169 = .ok (.aload_n 0, 1) := by decide +kernel
theorem dL_law_170 : decode cL_law 170 = .ok (.iload_n 3, 1) := by decide +kernel
theorem dL_law_171 : decode cL_law 171 = .ok (.iconst 4, 1) := by decide +kernel
theorem dL_law_172 : decode cL_law 172 = .ok (.iadd, 1) := by decide +kernel
theorem dL_law_173 : decode cL_law 173 = .ok (.iaload, 1) := by decide +kernel
theorem dL_law_174 : decode cL_law 174 = .ok (.aload_n 0, 1) := by decide +kernel
theorem dL_law_175 : decode cL_law 175 = .ok (.iload_n 3, 1) := by decide +kernel
theorem dL_law_176 : decode cL_law 176 = .ok (.iconst 5, 1) := by decide +kernel
theorem dL_law_177 : decode cL_law 177 = .ok (.iadd, 1) := by decide +kernel
theorem dL_law_178 : decode cL_law 178 = .ok (.iaload, 1) := by decide +kernel
theorem dL_law_179 : decode cL_law 179 = .ok (.invokevirtual 17, 3) := by decide +kernel
theorem dL_law_182 : decode cL_law 182 = .ok (.if_icmp .eq 599, 3) := by decide +kernel
theorem dL_law_185 : decode cL_law 185 = .ok (.iconst 0, 1) := by decide +kernel
theorem dL_law_186 : decode cL_law 186 = .ok (.ireturn, 1) := by decide +kernel
theorem dL_law_187 : decode cL_law 187 = .ok (.aload_n 1, 1) := by decide +kernel
theorem dL_law_188 : decode cL_law 188 = .ok (.aload_n 0, 1) := by decide +kernel
theorem dL_law_189 : decode cL_law 189 = .ok (.iload_n 3, 1) := by decide +kernel
theorem dL_law_190 : decode cL_law 190 = .ok (.iconst 1, 1) := by decide +kernel
theorem dL_law_191 : decode cL_law 191 = .ok (.iadd, 1) := by decide +kernel
theorem dL_law_192 : decode cL_law 192 = .ok (.iaload, 1) := by decide +kernel
theorem dL_law_193 : decode cL_law 193 = .ok (.invokevirtual 18, 3) := by decide +kernel
theorem dL_law_196 : decode cL_law 196 = .ok (.aload_n 2, 1) := by decide +kernel
theorem dL_law_197 : decode cL_law 197 = .ok (.aload_n 0, 1) := by decide +kernel
theorem dL_law_198 : decode cL_law 198 = .ok (.iload_n 3, 1) := by decide +kernel
theorem dL_law_199 : decode cL_law 199 = .ok (.iconst 1, 1) := by decide +kernel
theorem dL_law_200 : decode cL_law 200 = .ok (.iadd, 1) := by decide +kernel
theorem dL_law_201 : decode cL_law 201 = .ok (.iaload, 1) := by decide +kernel
theorem dL_law_202 : decode cL_law 202 = .ok (.invokevirtual 22, 3) := by decide +kernel
theorem dL_law_205 : decode cL_law 205 = .ok (.if_icmp .eq 576, 3) := by decide +kernel
theorem dL_law_208 : decode cL_law 208 = .ok (.iconst 0, 1) := by decide +kernel
theorem dL_law_209 : decode cL_law 209 = .ok (.ireturn, 1) := by decide +kernel
theorem dL_law_210 : decode cL_law 210 = .ok (.aload_n 1, 1) := by decide +kernel
theorem dL_law_211 : decode cL_law 211 = .ok (.aload_n 0, 1) := by decide +kernel
theorem dL_law_212 : decode cL_law 212 = .ok (.iload_n 3, 1) := by decide +kernel
theorem dL_law_213 : decode cL_law 213 = .ok (.iconst 1, 1) := by decide +kernel
theorem dL_law_214 : decode cL_law 214 = .ok (.iadd, 1) := by decide +kernel
theorem dL_law_215 : decode cL_law 215 = .ok (.iaload, 1) := by decide +kernel
theorem dL_law_216 : decode cL_law 216 = .ok (.aload_n 0, 1) := by decide +kernel
theorem dL_law_217 : decode cL_law 217 = .ok (.iload_n 3, 1) := by decide +kernel
theorem dL_law_218 : decode cL_law 218 = .ok (.iconst 2, 1) := by decide +kernel
theorem dL_law_219 : decode cL_law 219 = .ok (.iadd, 1) := by decide +kernel
theorem dL_law_220 : decode cL_law 220 = .ok (.iaload, 1) := by decide +kernel
theorem dL_law_221 : decode cL_law 221 = .ok (.invokevirtual 23, 3) := by decide +kernel
theorem dL_law_224 : decode cL_law 224 = .ok (.aload_n 2, 1) := by decide +kernel
theorem dL_law_225 : decode cL_law 225 = .ok (.aload_n 0, 1) := by decide +kernel
theorem dL_law_226 : decode cL_law 226 = .ok (.iload_n 3, 1) := by decide +kernel
theorem dL_law_227 : decode cL_law 227 = .ok (.iconst 1, 1) := by decide +kernel
theorem dL_law_228 : decode cL_law 228 = .ok (.iadd, 1) := by decide +kernel
theorem dL_law_229 : decode cL_law 229 = .ok (.iaload, 1) := by decide +kernel
theorem dL_law_230 : decode cL_law 230 = .ok (.aload_n 0, 1) := by decide +kernel
theorem dL_law_231 : decode cL_law 231 = .ok (.iload_n 3, 1) := by decide +kernel
theorem dL_law_232 : decode cL_law 232 = .ok (.iconst 2, 1) := by decide +kernel
theorem dL_law_233 : decode cL_law 233 = .ok (.iadd, 1) := by decide +kernel
theorem dL_law_234 : decode cL_law 234 = .ok (.iaload, 1) := by decide +kernel
theorem dL_law_235 : decode cL_law 235 = .ok (.invokevirtual 27, 3) := by decide +kernel
theorem dL_law_238 : decode cL_law 238 = .ok (.if_icmp .eq 543, 3) := by decide +kernel
theorem dL_law_241 : decode cL_law 241 = .ok (.iconst 0, 1) := by decide +kernel
theorem dL_law_242 : decode cL_law 242 = .ok (.ireturn, 1) := by decide +kernel
theorem dL_law_243 : decode cL_law 243 = .ok (.aload_n 1, 1) := by decide +kernel
theorem dL_law_244 : decode cL_law 244 = .ok (.aload_n 0, 1) := by decide +kernel
theorem dL_law_245 : decode cL_law 245 = .ok (.iload_n 3, 1) := by decide +kernel
theorem dL_law_246 : decode cL_law 246 = .ok (.iconst 1, 1) := by decide +kernel
theorem dL_law_247 : decode cL_law 247 = .ok (.iadd, 1) := by decide +kernel
theorem dL_law_248 : decode cL_law 248 = .ok (.iaload, 1) := by decide +kernel
theorem dL_law_249 : decode cL_law 249 = .ok (.invokevirtual 28, 3) := by decide +kernel
theorem dL_law_252 : decode cL_law 252 = .ok (.aload_n 2, 1) := by decide +kernel
theorem dL_law_253 : decode cL_law 253 = .ok (.aload_n 0, 1) := by decide +kernel
theorem dL_law_254 : decode cL_law 254 = .ok (.iload_n 3, 1) := by decide +kernel
theorem dL_law_255 : decode cL_law 255 = .ok (.iconst 1, 1) := by decide +kernel
theorem dL_law_256 : decode cL_law 256 = .ok (.iadd, 1) := by decide +kernel
theorem dL_law_257 : decode cL_law 257 = .ok (.iaload, 1) := by decide +kernel
theorem dL_law_258 : decode cL_law 258 = .ok (.invokevirtual 31, 3) := by decide +kernel
theorem dL_law_261 : decode cL_law 261 = .ok (.if_icmp .eq 520, 3) := by decide +kernel
theorem dL_law_264 : decode cL_law 264 = .ok (.iconst 0, 1) := by decide +kernel
theorem dL_law_265 : decode cL_law 265 = .ok (.ireturn, 1) := by decide +kernel
theorem dL_law_266 : decode cL_law 266 = .ok (.aload_n 1, 1) := by decide +kernel
theorem dL_law_267 : decode cL_law 267 = .ok (.aload_n 0, 1) := by decide +kernel
theorem dL_law_268 : decode cL_law 268 = .ok (.iload_n 3, 1) := by decide +kernel
theorem dL_law_269 : decode cL_law 269 = .ok (.iconst 1, 1) := by decide +kernel
theorem dL_law_270 : decode cL_law 270 = .ok (.iadd, 1) := by decide +kernel
theorem dL_law_271 : decode cL_law 271 = .ok (.iaload, 1) := by decide +kernel
theorem dL_law_272 : decode cL_law 272 = .ok (.aload_n 0, 1) := by decide +kernel
theorem dL_law_273 : decode cL_law 273 = .ok (.iload_n 3, 1) := by decide +kernel
theorem dL_law_274 : decode cL_law 274 = .ok (.iconst 2, 1) := by decide +kernel
theorem dL_law_275 : decode cL_law 275 = .ok (.iadd, 1) := by decide +kernel
theorem dL_law_276 : decode cL_law 276 = .ok (.iaload, 1) := by decide +kernel
theorem dL_law_277 : decode cL_law 277 = .ok (.invokevirtual 32, 3) := by decide +kernel
theorem dL_law_280 : decode cL_law 280 = .ok (.aload_n 2, 1) := by decide +kernel
theorem dL_law_281 : decode cL_law 281 = .ok (.aload_n 0, 1) := by decide +kernel
theorem dL_law_282 : decode cL_law 282 = .ok (.iload_n 3, 1) := by decide +kernel
theorem dL_law_283 : decode cL_law 283 = .ok (.iconst 1, 1) := by decide +kernel
theorem dL_law_284 : decode cL_law 284 = .ok (.iadd, 1) := by decide +kernel
theorem dL_law_285 : decode cL_law 285 = .ok (.iaload, 1) := by decide +kernel
theorem dL_law_286 : decode cL_law 286 = .ok (.aload_n 0, 1) := by decide +kernel
theorem dL_law_287 : decode cL_law 287 = .ok (.iload_n 3, 1) := by decide +kernel
theorem dL_law_288 : decode cL_law 288 = .ok (.iconst 2, 1) := by decide +kernel
theorem dL_law_289 : decode cL_law 289 = .ok (.iadd, 1) := by decide +kernel
theorem dL_law_290 : decode cL_law 290 = .ok (.iaload, 1) := by decide +kernel
theorem dL_law_291 : decode cL_law 291 = .ok (.invokevirtual 35, 3) := by decide +kernel
theorem dL_law_294 : decode cL_law 294 = .ok (.if_icmp .eq 487, 3) := by decide +kernel
theorem dL_law_297 : decode cL_law 297 = .ok (.iconst 0, 1) := by decide +kernel
theorem dL_law_298 : decode cL_law 298 = .ok (.ireturn, 1) := by decide +kernel
theorem dL_law_299 : decode cL_law 299 = .ok (.aload_n 1, 1) := by decide +kernel
theorem dL_law_300 : decode cL_law 300 = .ok (.aload_n 0, 1) := by decide +kernel
theorem dL_law_301 : decode cL_law 301 = .ok (.iload_n 3, 1) := by decide +kernel
theorem dL_law_302 : decode cL_law 302 = .ok (.iconst 1, 1) := by decide +kernel
theorem dL_law_303 : decode cL_law 303 = .ok (.iadd, 1) := by decide +kernel
theorem dL_law_304 : decode cL_law 304 = .ok (.iaload, 1) := by decide +kernel
theorem dL_law_305 : decode cL_law 305 = .ok (.aload_n 0, 1) := by decide +kernel
theorem dL_law_306 : decode cL_law 306 = .ok (.iload_n 3, 1) := by decide +kernel
theorem dL_law_307 : decode cL_law 307 = .ok (.iconst 2, 1) := by decide +kernel
theorem dL_law_308 : decode cL_law 308 = .ok (.iadd, 1) := by decide +kernel
theorem dL_law_309 : decode cL_law 309 = .ok (.iaload, 1) := by decide +kernel
theorem dL_law_310 : decode cL_law 310 = .ok (.invokevirtual 36, 3) := by decide +kernel
theorem dL_law_313 : decode cL_law 313 = .ok (.aload_n 2, 1) := by decide +kernel
theorem dL_law_314 : decode cL_law 314 = .ok (.aload_n 0, 1) := by decide +kernel
theorem dL_law_315 : decode cL_law 315 = .ok (.iload_n 3, 1) := by decide +kernel
theorem dL_law_316 : decode cL_law 316 = .ok (.iconst 1, 1) := by decide +kernel
theorem dL_law_317 : decode cL_law 317 = .ok (.iadd, 1) := by decide +kernel
theorem dL_law_318 : decode cL_law 318 = .ok (.iaload, 1) := by decide +kernel
theorem dL_law_319 : decode cL_law 319 = .ok (.aload_n 0, 1) := by decide +kernel
theorem dL_law_320 : decode cL_law 320 = .ok (.iload_n 3, 1) := by decide +kernel
theorem dL_law_321 : decode cL_law 321 = .ok (.iconst 2, 1) := by decide +kernel
theorem dL_law_322 : decode cL_law 322 = .ok (.iadd, 1) := by decide +kernel
theorem dL_law_323 : decode cL_law 323 = .ok (.iaload, 1) := by decide +kernel
theorem dL_law_324 : decode cL_law 324 = .ok (.invokevirtual 39, 3) := by decide +kernel
theorem dL_law_327 : decode cL_law 327 = .ok (.if_icmp .eq 454, 3) := by decide +kernel
theorem dL_law_330 : decode cL_law 330 = .ok (.iconst 0, 1) := by decide +kernel
theorem dL_law_331 : decode cL_law 331 = .ok (.ireturn, 1) := by decide +kernel
theorem dL_law_332 : decode cL_law 332 = .ok (.aload_n 1, 1) := by decide +kernel
theorem dL_law_333 : decode cL_law 333 = .ok (.aload_n 0, 1) := by decide +kernel
theorem dL_law_334 : decode cL_law 334 = .ok (.iload_n 3, 1) := by decide +kernel
theorem dL_law_335 : decode cL_law 335 = .ok (.iconst 1, 1) := by decide +kernel
theorem dL_law_336 : decode cL_law 336 = .ok (.iadd, 1) := by decide +kernel
theorem dL_law_337 : decode cL_law 337 = .ok (.iaload, 1) := by decide +kernel
theorem dL_law_338 : decode cL_law 338 = .ok (.aload_n 0, 1) := by decide +kernel
theorem dL_law_339 : decode cL_law 339 = .ok (.iload_n 3, 1) := by decide +kernel
theorem dL_law_340 : decode cL_law 340 = .ok (.iconst 2, 1) := by decide +kernel
theorem dL_law_341 : decode cL_law 341 = .ok (.iadd, 1) := by decide +kernel
theorem dL_law_342 : decode cL_law 342 = .ok (.iaload, 1) := by decide +kernel
theorem dL_law_343 : decode cL_law 343 = .ok (.aload_n 0, 1) := by decide +kernel
theorem dL_law_344 : decode cL_law 344 = .ok (.iload_n 3, 1) := by decide +kernel
theorem dL_law_345 : decode cL_law 345 = .ok (.iconst 3, 1) := by decide +kernel
theorem dL_law_346 : decode cL_law 346 = .ok (.iadd, 1) := by decide +kernel
theorem dL_law_347 : decode cL_law 347 = .ok (.iaload, 1) := by decide +kernel
theorem dL_law_348 : decode cL_law 348 = .ok (.invokevirtual 40, 3) := by decide +kernel
theorem dL_law_351 : decode cL_law 351 = .ok (.aload_n 2, 1) := by decide +kernel
theorem dL_law_352 : decode cL_law 352 = .ok (.aload_n 0, 1) := by decide +kernel
theorem dL_law_353 : decode cL_law 353 = .ok (.iload_n 3, 1) := by decide +kernel
theorem dL_law_354 : decode cL_law 354 = .ok (.iconst 1, 1) := by decide +kernel
theorem dL_law_355 : decode cL_law 355 = .ok (.iadd, 1) := by decide +kernel
theorem dL_law_356 : decode cL_law 356 = .ok (.iaload, 1) := by decide +kernel
theorem dL_law_357 : decode cL_law 357 = .ok (.aload_n 0, 1) := by decide +kernel
theorem dL_law_358 : decode cL_law 358 = .ok (.iload_n 3, 1) := by decide +kernel
theorem dL_law_359 : decode cL_law 359 = .ok (.iconst 2, 1) := by decide +kernel
theorem dL_law_360 : decode cL_law 360 = .ok (.iadd, 1) := by decide +kernel
theorem dL_law_361 : decode cL_law 361 = .ok (.iaload, 1) := by decide +kernel
theorem dL_law_362 : decode cL_law 362 = .ok (.aload_n 0, 1) := by decide +kernel
theorem dL_law_363 : decode cL_law 363 = .ok (.iload_n 3, 1) := by decide +kernel
theorem dL_law_364 : decode cL_law 364 = .ok (.iconst 3, 1) := by decide +kernel
theorem dL_law_365 : decode cL_law 365 = .ok (.iadd, 1) := by decide +kernel
theorem dL_law_366 : decode cL_law 366 = .ok (.iaload, 1) := by decide +kernel
theorem dL_law_367 : decode cL_law 367 = .ok (.invokevirtual 44, 3) := by decide +kernel
theorem dL_law_370 : decode cL_law 370 = .ok (.if_icmp .eq 411, 3) := by decide +kernel
theorem dL_law_373 : decode cL_law 373 = .ok (.iconst 0, 1) := by decide +kernel
theorem dL_law_374 : decode cL_law 374 = .ok (.ireturn, 1) := by decide +kernel
theorem dL_law_375 : decode cL_law 375 = .ok (.aload_n 1, 1) := by decide +kernel
theorem dL_law_376 : decode cL_law 376 = .ok (.aload_n 0, 1) := by decide +kernel
theorem dL_law_377 : decode cL_law 377 = .ok (.iload_n 3, 1) := by decide +kernel
theorem dL_law_378 : decode cL_law 378 = .ok (.iconst 1, 1) := by decide +kernel
theorem dL_law_379 : decode cL_law 379 = .ok (.iadd, 1) := by decide +kernel
theorem dL_law_380 : decode cL_law 380 = .ok (.iaload, 1) := by decide +kernel
theorem dL_law_381 : decode cL_law 381 = .ok (.aload_n 0, 1) := by decide +kernel
theorem dL_law_382 : decode cL_law 382 = .ok (.iload_n 3, 1) := by decide +kernel
theorem dL_law_383 : decode cL_law 383 = .ok (.iconst 2, 1) := by decide +kernel
theorem dL_law_384 : decode cL_law 384 = .ok (.iadd, 1) := by decide +kernel
theorem dL_law_385 : decode cL_law 385 = .ok (.iaload, 1) := by decide +kernel
theorem dL_law_386 : decode cL_law 386 = .ok (.aload_n 0, 1) := by decide +kernel
theorem dL_law_387 : decode cL_law 387 = .ok (.iload_n 3, 1) := by decide +kernel
theorem dL_law_388 : decode cL_law 388 = .ok (.iconst 3, 1) := by decide +kernel
theorem dL_law_389 : decode cL_law 389 = .ok (.iadd, 1) := by decide +kernel
theorem dL_law_390 : decode cL_law 390 = .ok (.iaload, 1) := by decide +kernel
theorem dL_law_391 : decode cL_law 391 = .ok (.invokevirtual 45, 3) := by decide +kernel
theorem dL_law_394 : decode cL_law 394 = .ok (.aload_n 2, 1) := by decide +kernel
theorem dL_law_395 : decode cL_law 395 = .ok (.aload_n 0, 1) := by decide +kernel
theorem dL_law_396 : decode cL_law 396 = .ok (.iload_n 3, 1) := by decide +kernel
theorem dL_law_397 : decode cL_law 397 = .ok (.iconst 1, 1) := by decide +kernel
theorem dL_law_398 : decode cL_law 398 = .ok (.iadd, 1) := by decide +kernel
theorem dL_law_399 : decode cL_law 399 = .ok (.iaload, 1) := by decide +kernel
theorem dL_law_400 : decode cL_law 400 = .ok (.aload_n 0, 1) := by decide +kernel
theorem dL_law_401 : decode cL_law 401 = .ok (.iload_n 3, 1) := by decide +kernel
theorem dL_law_402 : decode cL_law 402 = .ok (.iconst 2, 1) := by decide +kernel
theorem dL_law_403 : decode cL_law 403 = .ok (.iadd, 1) := by decide +kernel
theorem dL_law_404 : decode cL_law 404 = .ok (.iaload, 1) := by decide +kernel
theorem dL_law_405 : decode cL_law 405 = .ok (.aload_n 0, 1) := by decide +kernel
theorem dL_law_406 : decode cL_law 406 = .ok (.iload_n 3, 1) := by decide +kernel
theorem dL_law_407 : decode cL_law 407 = .ok (.iconst 3, 1) := by decide +kernel
theorem dL_law_408 : decode cL_law 408 = .ok (.iadd, 1) := by decide +kernel
theorem dL_law_409 : decode cL_law 409 = .ok (.iaload, 1) := by decide +kernel
theorem dL_law_410 : decode cL_law 410 = .ok (.invokevirtual 48, 3) := by decide +kernel
theorem dL_law_413 : decode cL_law 413 = .ok (.if_icmp .eq 368, 3) := by decide +kernel
theorem dL_law_416 : decode cL_law 416 = .ok (.iconst 0, 1) := by decide +kernel
theorem dL_law_417 : decode cL_law 417 = .ok (.ireturn, 1) := by decide +kernel
theorem dL_law_418 : decode cL_law 418 = .ok (.aload_n 1, 1) := by decide +kernel
theorem dL_law_419 : decode cL_law 419 = .ok (.aload_n 0, 1) := by decide +kernel
theorem dL_law_420 : decode cL_law 420 = .ok (.iload_n 3, 1) := by decide +kernel
theorem dL_law_421 : decode cL_law 421 = .ok (.iconst 1, 1) := by decide +kernel
theorem dL_law_422 : decode cL_law 422 = .ok (.iadd, 1) := by decide +kernel
theorem dL_law_423 : decode cL_law 423 = .ok (.iaload, 1) := by decide +kernel
theorem dL_law_424 : decode cL_law 424 = .ok (.aload_n 0, 1) := by decide +kernel
theorem dL_law_425 : decode cL_law 425 = .ok (.iload_n 3, 1) := by decide +kernel
theorem dL_law_426 : decode cL_law 426 = .ok (.iconst 2, 1) := by decide +kernel
theorem dL_law_427 : decode cL_law 427 = .ok (.iadd, 1) := by decide +kernel
theorem dL_law_428 : decode cL_law 428 = .ok (.iaload, 1) := by decide +kernel
theorem dL_law_429 : decode cL_law 429 = .ok (.aload_n 0, 1) := by decide +kernel
theorem dL_law_430 : decode cL_law 430 = .ok (.iload_n 3, 1) := by decide +kernel
theorem dL_law_431 : decode cL_law 431 = .ok (.iconst 3, 1) := by decide +kernel
theorem dL_law_432 : decode cL_law 432 = .ok (.iadd, 1) := by decide +kernel
theorem dL_law_433 : decode cL_law 433 = .ok (.iaload, 1) := by decide +kernel
theorem dL_law_434 : decode cL_law 434 = .ok (.invokevirtual 49, 3) := by decide +kernel
theorem dL_law_437 : decode cL_law 437 = .ok (.aload_n 2, 1) := by decide +kernel
theorem dL_law_438 : decode cL_law 438 = .ok (.aload_n 0, 1) := by decide +kernel
theorem dL_law_439 : decode cL_law 439 = .ok (.iload_n 3, 1) := by decide +kernel
theorem dL_law_440 : decode cL_law 440 = .ok (.iconst 1, 1) := by decide +kernel
theorem dL_law_441 : decode cL_law 441 = .ok (.iadd, 1) := by decide +kernel
theorem dL_law_442 : decode cL_law 442 = .ok (.iaload, 1) := by decide +kernel
theorem dL_law_443 : decode cL_law 443 = .ok (.aload_n 0, 1) := by decide +kernel
theorem dL_law_444 : decode cL_law 444 = .ok (.iload_n 3, 1) := by decide +kernel
theorem dL_law_445 : decode cL_law 445 = .ok (.iconst 2, 1) := by decide +kernel
theorem dL_law_446 : decode cL_law 446 = .ok (.iadd, 1) := by decide +kernel
theorem dL_law_447 : decode cL_law 447 = .ok (.iaload, 1) := by decide +kernel
theorem dL_law_448 : decode cL_law 448 = .ok (.aload_n 0, 1) := by decide +kernel
theorem dL_law_449 : decode cL_law 449 = .ok (.iload_n 3, 1) := by decide +kernel
theorem dL_law_450 : decode cL_law 450 = .ok (.iconst 3, 1) := by decide +kernel
theorem dL_law_451 : decode cL_law 451 = .ok (.iadd, 1) := by decide +kernel
theorem dL_law_452 : decode cL_law 452 = .ok (.iaload, 1) := by decide +kernel
theorem dL_law_453 : decode cL_law 453 = .ok (.invokevirtual 52, 3) := by decide +kernel
theorem dL_law_456 : decode cL_law 456 = .ok (.if_icmp .eq 325, 3) := by decide +kernel
theorem dL_law_459 : decode cL_law 459 = .ok (.iconst 0, 1) := by decide +kernel
theorem dL_law_460 : decode cL_law 460 = .ok (.ireturn, 1) := by decide +kernel
theorem dL_law_461 : decode cL_law 461 = .ok (.aload_n 1, 1) := by decide +kernel
theorem dL_law_462 : decode cL_law 462 = .ok (.aload_n 0, 1) := by decide +kernel
theorem dL_law_463 : decode cL_law 463 = .ok (.iload_n 3, 1) := by decide +kernel
theorem dL_law_464 : decode cL_law 464 = .ok (.iconst 1, 1) := by decide +kernel
theorem dL_law_465 : decode cL_law 465 = .ok (.iadd, 1) := by decide +kernel
theorem dL_law_466 : decode cL_law 466 = .ok (.iaload, 1) := by decide +kernel
theorem dL_law_467 : decode cL_law 467 = .ok (.invokevirtual 53, 3) := by decide +kernel
theorem dL_law_470 : decode cL_law 470 = .ok (.aload_n 2, 1) := by decide +kernel
theorem dL_law_471 : decode cL_law 471 = .ok (.aload_n 0, 1) := by decide +kernel
theorem dL_law_472 : decode cL_law 472 = .ok (.iload_n 3, 1) := by decide +kernel
theorem dL_law_473 : decode cL_law 473 = .ok (.iconst 1, 1) := by decide +kernel
theorem dL_law_474 : decode cL_law 474 = .ok (.iadd, 1) := by decide +kernel
theorem dL_law_475 : decode cL_law 475 = .ok (.iaload, 1) := by decide +kernel
theorem dL_law_476 : decode cL_law 476 = .ok (.invokevirtual 56, 3) := by decide +kernel
theorem dL_law_479 : decode cL_law 479 = .ok (.if_icmp .eq 302, 3) := by decide +kernel
theorem dL_law_482 : decode cL_law 482 = .ok (.iconst 0, 1) := by decide +kernel
theorem dL_law_483 : decode cL_law 483 = .ok (.ireturn, 1) := by decide +kernel
theorem dL_law_484 : decode cL_law 484 = .ok (.aload_n 1, 1) := by decide +kernel
theorem dL_law_485 : decode cL_law 485 = .ok (.aload_n 0, 1) := by decide +kernel
theorem dL_law_486 : decode cL_law 486 = .ok (.iload_n 3, 1) := by decide +kernel
theorem dL_law_487 : decode cL_law 487 = .ok (.iconst 1, 1) := by decide +kernel
theorem dL_law_488 : decode cL_law 488 = .ok (.iadd, 1) := by decide +kernel
theorem dL_law_489 : decode cL_law 489 = .ok (.iaload, 1) := by decide +kernel
theorem dL_law_490 : decode cL_law 490 = .ok (.invokevirtual 57, 3) := by decide +kernel
theorem dL_law_493 : decode cL_law 493 = .ok (.aload_n 2, 1) := by decide +kernel
theorem dL_law_494 : decode cL_law 494 = .ok (.aload_n 0, 1) := by decide +kernel
theorem dL_law_495 : decode cL_law 495 = .ok (.iload_n 3, 1) := by decide +kernel
theorem dL_law_496 : decode cL_law 496 = .ok (.iconst 1, 1) := by decide +kernel
theorem dL_law_497 : decode cL_law 497 = .ok (.iadd, 1) := by decide +kernel
theorem dL_law_498 : decode cL_law 498 = .ok (.iaload, 1) := by decide +kernel
theorem dL_law_499 : decode cL_law 499 = .ok (.invokevirtual 60, 3) := by decide +kernel
theorem dL_law_502 : decode cL_law 502 = .ok (.if_icmp .eq 279, 3) := by decide +kernel
theorem dL_law_505 : decode cL_law 505 = .ok (.iconst 0, 1) := by decide +kernel
theorem dL_law_506 : decode cL_law 506 = .ok (.ireturn, 1) := by decide +kernel
theorem dL_law_507 : decode cL_law 507 = .ok (.aload_n 1, 1) := by decide +kernel
theorem dL_law_508 : decode cL_law 508 = .ok (.aload_n 0, 1) := by decide +kernel
theorem dL_law_509 : decode cL_law 509 = .ok (.iload_n 3, 1) := by decide +kernel
theorem dL_law_510 : decode cL_law 510 = .ok (.iconst 1, 1) := by decide +kernel
theorem dL_law_511 : decode cL_law 511 = .ok (.iadd, 1) := by decide +kernel
theorem dL_law_512 : decode cL_law 512 = .ok (.iaload, 1) := by decide +kernel
theorem dL_law_513 : decode cL_law 513 = .ok (.invokevirtual 61, 3) := by decide +kernel
theorem dL_law_516 : decode cL_law 516 = .ok (.aload_n 2, 1) := by decide +kernel
theorem dL_law_517 : decode cL_law 517 = .ok (.aload_n 0, 1) := by decide +kernel
theorem dL_law_518 : decode cL_law 518 = .ok (.iload_n 3, 1) := by decide +kernel
theorem dL_law_519 : decode cL_law 519 = .ok (.iconst 1, 1) := by decide +kernel
theorem dL_law_520 : decode cL_law 520 = .ok (.iadd, 1) := by decide +kernel
theorem dL_law_521 : decode cL_law 521 = .ok (.iaload, 1) := by decide +kernel
theorem dL_law_522 : decode cL_law 522 = .ok (.invokevirtual 64, 3) := by decide +kernel
theorem dL_law_525 : decode cL_law 525 = .ok (.if_icmp .eq 256, 3) := by decide +kernel
theorem dL_law_528 : decode cL_law 528 = .ok (.iconst 0, 1) := by decide +kernel
theorem dL_law_529 : decode cL_law 529 = .ok (.ireturn, 1) := by decide +kernel
theorem dL_law_530 : decode cL_law 530 = .ok (.aload_n 1, 1) := by decide +kernel
theorem dL_law_531 : decode cL_law 531 = .ok (.invokevirtual 65, 3) := by decide +kernel
theorem dL_law_534 : decode cL_law 534 = .ok (.aload_n 2, 1) := by decide +kernel
theorem dL_law_535 : decode cL_law 535 = .ok (.invokevirtual 69, 3) := by decide +kernel
theorem dL_law_538 : decode cL_law 538 = .ok (.if_icmp .eq 243, 3) := by decide +kernel
theorem dL_law_541 : decode cL_law 541 = .ok (.iconst 0, 1) := by decide +kernel
theorem dL_law_542 : decode cL_law 542 = .ok (.ireturn, 1) := by decide +kernel
theorem dL_law_543 : decode cL_law 543 = .ok (.aload_n 1, 1) := by decide +kernel
theorem dL_law_544 : decode cL_law 544 = .ok (.aload_n 0, 1) := by decide +kernel
theorem dL_law_545 : decode cL_law 545 = .ok (.iload_n 3, 1) := by decide +kernel
theorem dL_law_546 : decode cL_law 546 = .ok (.iconst 1, 1) := by decide +kernel
theorem dL_law_547 : decode cL_law 547 = .ok (.iadd, 1) := by decide +kernel
theorem dL_law_548 : decode cL_law 548 = .ok (.iaload, 1) := by decide +kernel
theorem dL_law_549 : decode cL_law 549 = .ok (.invokevirtual 70, 3) := by decide +kernel
theorem dL_law_552 : decode cL_law 552 = .ok (.aload_n 2, 1) := by decide +kernel
theorem dL_law_553 : decode cL_law 553 = .ok (.aload_n 0, 1) := by decide +kernel
theorem dL_law_554 : decode cL_law 554 = .ok (.iload_n 3, 1) := by decide +kernel
theorem dL_law_555 : decode cL_law 555 = .ok (.iconst 1, 1) := by decide +kernel
theorem dL_law_556 : decode cL_law 556 = .ok (.iadd, 1) := by decide +kernel
theorem dL_law_557 : decode cL_law 557 = .ok (.iaload, 1) := by decide +kernel
theorem dL_law_558 : decode cL_law 558 = .ok (.invokevirtual 73, 3) := by decide +kernel
theorem dL_law_561 : decode cL_law 561 = .ok (.if_icmp .eq 220, 3) := by decide +kernel
theorem dL_law_564 : decode cL_law 564 = .ok (.iconst 0, 1) := by decide +kernel
theorem dL_law_565 : decode cL_law 565 = .ok (.ireturn, 1) := by decide +kernel
theorem dL_law_566 : decode cL_law 566 = .ok (.aload_n 1, 1) := by decide +kernel
theorem dL_law_567 : decode cL_law 567 = .ok (.aload_n 0, 1) := by decide +kernel
theorem dL_law_568 : decode cL_law 568 = .ok (.iload_n 3, 1) := by decide +kernel
theorem dL_law_569 : decode cL_law 569 = .ok (.iconst 1, 1) := by decide +kernel
theorem dL_law_570 : decode cL_law 570 = .ok (.iadd, 1) := by decide +kernel
theorem dL_law_571 : decode cL_law 571 = .ok (.iaload, 1) := by decide +kernel
theorem dL_law_572 : decode cL_law 572 = .ok (.aload_n 0, 1) := by decide +kernel
theorem dL_law_573 : decode cL_law 573 = .ok (.iload_n 3, 1) := by decide +kernel
theorem dL_law_574 : decode cL_law 574 = .ok (.iconst 2, 1) := by decide +kernel
theorem dL_law_575 : decode cL_law 575 = .ok (.iadd, 1) := by decide +kernel
theorem dL_law_576 : decode cL_law 576 = .ok (.iaload, 1) := by decide +kernel
theorem dL_law_577 : decode cL_law 577 = .ok (.aload_n 0, 1) := by decide +kernel
theorem dL_law_578 : decode cL_law 578 = .ok (.iload_n 3, 1) := by decide +kernel
theorem dL_law_579 : decode cL_law 579 = .ok (.iconst 3, 1) := by decide +kernel
theorem dL_law_580 : decode cL_law 580 = .ok (.iadd, 1) := by decide +kernel
theorem dL_law_581 : decode cL_law 581 = .ok (.iaload, 1) := by decide +kernel
theorem dL_law_582 : decode cL_law 582 = .ok (.aload_n 0, 1) := by decide +kernel
theorem dL_law_583 : decode cL_law 583 = .ok (.iload_n 3, 1) := by decide +kernel
theorem dL_law_584 : decode cL_law 584 = .ok (.iconst 4, 1) := by decide +kernel
theorem dL_law_585 : decode cL_law 585 = .ok (.iadd, 1) := by decide +kernel
theorem dL_law_586 : decode cL_law 586 = .ok (.iaload, 1) := by decide +kernel
theorem dL_law_587 : decode cL_law 587 = .ok (.aload_n 0, 1) := by decide +kernel
theorem dL_law_588 : decode cL_law 588 = .ok (.iload_n 3, 1) := by decide +kernel
theorem dL_law_589 : decode cL_law 589 = .ok (.iconst 5, 1) := by decide +kernel
theorem dL_law_590 : decode cL_law 590 = .ok (.iadd, 1) := by decide +kernel
theorem dL_law_591 : decode cL_law 591 = .ok (.iaload, 1) := by decide +kernel
theorem dL_law_592 : decode cL_law 592 = .ok (.invokevirtual 74, 3) := by decide +kernel
theorem dL_law_595 : decode cL_law 595 = .ok (.aload_n 2, 1) := by decide +kernel
theorem dL_law_596 : decode cL_law 596 = .ok (.aload_n 0, 1) := by decide +kernel
theorem dL_law_597 : decode cL_law 597 = .ok (.iload_n 3, 1) := by decide +kernel
theorem dL_law_598 : decode cL_law 598 = .ok (.iconst 1, 1) := by decide +kernel
theorem dL_law_599 : decode cL_law 599 = .ok (.iadd, 1) := by decide +kernel
theorem dL_law_600 : decode cL_law 600 = .ok (.iaload, 1) := by decide +kernel
theorem dL_law_601 : decode cL_law 601 = .ok (.aload_n 0, 1) := by decide +kernel
theorem dL_law_602 : decode cL_law 602 = .ok (.iload_n 3, 1) := by decide +kernel
theorem dL_law_603 : decode cL_law 603 = .ok (.iconst 2, 1) := by decide +kernel
theorem dL_law_604 : decode cL_law 604 = .ok (.iadd, 1) := by decide +kernel
theorem dL_law_605 : decode cL_law 605 = .ok (.iaload, 1) := by decide +kernel
theorem dL_law_606 : decode cL_law 606 = .ok (.aload_n 0, 1) := by decide +kernel
theorem dL_law_607 : decode cL_law 607 = .ok (.iload_n 3, 1) := by decide +kernel
theorem dL_law_608 : decode cL_law 608 = .ok (.iconst 3, 1) := by decide +kernel
theorem dL_law_609 : decode cL_law 609 = .ok (.iadd, 1) := by decide +kernel
theorem dL_law_610 : decode cL_law 610 = .ok (.iaload, 1) := by decide +kernel
theorem dL_law_611 : decode cL_law 611 = .ok (.aload_n 0, 1) := by decide +kernel
theorem dL_law_612 : decode cL_law 612 = .ok (.iload_n 3, 1) := by decide +kernel
theorem dL_law_613 : decode cL_law 613 = .ok (.iconst 4, 1) := by decide +kernel
theorem dL_law_614 : decode cL_law 614 = .ok (.iadd, 1) := by decide +kernel
theorem dL_law_615 : decode cL_law 615 = .ok (.iaload, 1) := by decide +kernel
theorem dL_law_616 : decode cL_law 616 = .ok (.aload_n 0, 1) := by decide +kernel
theorem dL_law_617 : decode cL_law 617 = .ok (.iload_n 3, 1) := by decide +kernel
theorem dL_law_618 : decode cL_law 618 = .ok (.iconst 5, 1) := by decide +kernel
theorem dL_law_619 : decode cL_law 619 = .ok (.iadd, 1) := by decide +kernel
theorem dL_law_620 : decode cL_law 620 = .ok (.iaload, 1) := by decide +kernel
theorem dL_law_621 : decode cL_law 621 = .ok (.invokevirtual 77, 3) := by decide +kernel
theorem dL_law_624 : decode cL_law 624 = .ok (.if_icmp .eq 157, 3) := by decide +kernel
theorem dL_law_627 : decode cL_law 627 = .ok (.iconst 0, 1) := by decide +kernel
theorem dL_law_628 : decode cL_law 628 = .ok (.ireturn, 1) := by decide +kernel
theorem dL_law_629 : decode cL_law 629 = .ok (.aload_n 1, 1) := by decide +kernel
theorem dL_law_630 : decode cL_law 630 = .ok (.aload_n 0, 1) := by decide +kernel
theorem dL_law_631 : decode cL_law 631 = .ok (.iload_n 3, 1) := by decide +kernel
theorem dL_law_632 : decode cL_law 632 = .ok (.iconst 1, 1) := by decide +kernel
theorem dL_law_633 : decode cL_law 633 = .ok (.iadd, 1) := by decide +kernel
theorem dL_law_634 : decode cL_law 634 = .ok (.iaload, 1) := by decide +kernel
theorem dL_law_635 : decode cL_law 635 = .ok (.invokevirtual 78, 3) := by decide +kernel
theorem dL_law_638 : decode cL_law 638 = .ok (.aload_n 2, 1) := by decide +kernel
theorem dL_law_639 : decode cL_law 639 = .ok (.aload_n 0, 1) := by decide +kernel
theorem dL_law_640 : decode cL_law 640 = .ok (.iload_n 3, 1) := by decide +kernel
theorem dL_law_641 : decode cL_law 641 = .ok (.iconst 1, 1) := by decide +kernel
theorem dL_law_642 : decode cL_law 642 = .ok (.iadd, 1) := by decide +kernel
theorem dL_law_643 : decode cL_law 643 = .ok (.iaload, 1) := by decide +kernel
theorem dL_law_644 : decode cL_law 644 = .ok (.invokevirtual 81, 3) := by decide +kernel
theorem dL_law_647 : decode cL_law 647 = .ok (.if_icmp .eq 134, 3) := by decide +kernel
theorem dL_law_650 : decode cL_law 650 = .ok (.iconst 0, 1) := by decide +kernel
theorem dL_law_651 : decode cL_law 651 = .ok (.ireturn, 1) := by decide +kernel
theorem dL_law_652 : decode cL_law 652 = .ok (.aload_n 1, 1) := by decide +kernel
theorem dL_law_653 : decode cL_law 653 = .ok (.aload_n 0, 1) := by decide +kernel
theorem dL_law_654 : decode cL_law 654 = .ok (.iload_n 3, 1) := by decide +kernel
theorem dL_law_655 : decode cL_law 655 = .ok (.iconst 1, 1) := by decide +kernel
theorem dL_law_656 : decode cL_law 656 = .ok (.iadd, 1) := by decide +kernel
theorem dL_law_657 : decode cL_law 657 = .ok (.iaload, 1) := by decide +kernel
theorem dL_law_658 : decode cL_law 658 = .ok (.aload_n 0, 1) := by decide +kernel
theorem dL_law_659 : decode cL_law 659 = .ok (.iload_n 3, 1) := by decide +kernel
theorem dL_law_660 : decode cL_law 660 = .ok (.iconst 2, 1) := by decide +kernel
theorem dL_law_661 : decode cL_law 661 = .ok (.iadd, 1) := by decide +kernel
theorem dL_law_662 : decode cL_law 662 = .ok (.iaload, 1) := by decide +kernel
theorem dL_law_663 : decode cL_law 663 = .ok (.aload_n 0, 1) := by decide +kernel
theorem dL_law_664 : decode cL_law 664 = .ok (.iload_n 3, 1) := by decide +kernel
theorem dL_law_665 : decode cL_law 665 = .ok (.iconst 3, 1) := by decide +kernel
theorem dL_law_666 : decode cL_law 666 = .ok (.iadd, 1) := by decide +kernel
theorem dL_law_667 : decode cL_law 667 = .ok (.iaload, 1) := by decide +kernel
theorem dL_law_668 : decode cL_law 668 = .ok (.aload_n 0, 1) := by decide +kernel
theorem dL_law_669 : decode cL_law 669 = .ok (.iload_n 3, 1) := by decide +kernel
theorem dL_law_670 : decode cL_law 670 = .ok (.iconst 4, 1) := by decide +kernel
theorem dL_law_671 : decode cL_law 671 = .ok (.iadd, 1) := by decide +kernel
theorem dL_law_672 : decode cL_law 672 = .ok (.iaload, 1) := by decide +kernel
theorem dL_law_673 : decode cL_law 673 = .ok (.invokevirtual 82, 3) := by decide +kernel
theorem dL_law_676 : decode cL_law 676 = .ok (.aload_n 2, 1) := by decide +kernel
theorem dL_law_677 : decode cL_law 677 = .ok (.aload_n 0, 1) := by decide +kernel
theorem dL_law_678 : decode cL_law 678 = .ok (.iload_n 3, 1) := by decide +kernel
theorem dL_law_679 : decode cL_law 679 = .ok (.iconst 1, 1) := by decide +kernel
theorem dL_law_680 : decode cL_law 680 = .ok (.iadd, 1) := by decide +kernel
theorem dL_law_681 : decode cL_law 681 = .ok (.iaload, 1) := by decide +kernel
theorem dL_law_682 : decode cL_law 682 = .ok (.aload_n 0, 1) := by decide +kernel
theorem dL_law_683 : decode cL_law 683 = .ok (.iload_n 3, 1) := by decide +kernel
theorem dL_law_684 : decode cL_law 684 = .ok (.iconst 2, 1) := by decide +kernel
theorem dL_law_685 : decode cL_law 685 = .ok (.iadd, 1) := by decide +kernel
theorem dL_law_686 : decode cL_law 686 = .ok (.iaload, 1) := by decide +kernel
theorem dL_law_687 : decode cL_law 687 = .ok (.aload_n 0, 1) := by decide +kernel
theorem dL_law_688 : decode cL_law 688 = .ok (.iload_n 3, 1) := by decide +kernel
theorem dL_law_689 : decode cL_law 689 = .ok (.iconst 3, 1) := by decide +kernel
theorem dL_law_690 : decode cL_law 690 = .ok (.iadd, 1) := by decide +kernel
theorem dL_law_691 : decode cL_law 691 = .ok (.iaload, 1) := by decide +kernel
theorem dL_law_692 : decode cL_law 692 = .ok (.aload_n 0, 1) := by decide +kernel
theorem dL_law_693 : decode cL_law 693 = .ok (.iload_n 3, 1) := by decide +kernel
theorem dL_law_694 : decode cL_law 694 = .ok (.iconst 4, 1) := by decide +kernel
theorem dL_law_695 : decode cL_law 695 = .ok (.iadd, 1) := by decide +kernel
theorem dL_law_696 : decode cL_law 696 = .ok (.iaload, 1) := by decide +kernel
theorem dL_law_697 : decode cL_law 697 = .ok (.invokevirtual 86, 3) := by decide +kernel
theorem dL_law_700 : decode cL_law 700 = .ok (.if_icmp .eq 81, 3) := by decide +kernel
theorem dL_law_703 : decode cL_law 703 = .ok (.iconst 0, 1) := by decide +kernel
theorem dL_law_704 : decode cL_law 704 = .ok (.ireturn, 1) := by decide +kernel
theorem dL_law_705 : decode cL_law 705 = .ok (.aload_n 1, 1) := by decide +kernel
theorem dL_law_706 : decode cL_law 706 = .ok (.aload_n 0, 1) := by decide +kernel
theorem dL_law_707 : decode cL_law 707 = .ok (.iload_n 3, 1) := by decide +kernel
theorem dL_law_708 : decode cL_law 708 = .ok (.iconst 1, 1) := by decide +kernel
theorem dL_law_709 : decode cL_law 709 = .ok (.iadd, 1) := by decide +kernel
theorem dL_law_710 : decode cL_law 710 = .ok (.iaload, 1) := by decide +kernel
theorem dL_law_711 : decode cL_law 711 = .ok (.aload_n 0, 1) := by decide +kernel
theorem dL_law_712 : decode cL_law 712 = .ok (.iload_n 3, 1) := by decide +kernel
theorem dL_law_713 : decode cL_law 713 = .ok (.iconst 2, 1) := by decide +kernel
theorem dL_law_714 : decode cL_law 714 = .ok (.iadd, 1) := by decide +kernel
theorem dL_law_715 : decode cL_law 715 = .ok (.iaload, 1) := by decide +kernel
theorem dL_law_716 : decode cL_law 716 = .ok (.aload_n 0, 1) := by decide +kernel
theorem dL_law_717 : decode cL_law 717 = .ok (.iload_n 3, 1) := by decide +kernel
theorem dL_law_718 : decode cL_law 718 = .ok (.iconst 3, 1) := by decide +kernel
theorem dL_law_719 : decode cL_law 719 = .ok (.iadd, 1) := by decide +kernel
theorem dL_law_720 : decode cL_law 720 = .ok (.iaload, 1) := by decide +kernel
theorem dL_law_721 : decode cL_law 721 = .ok (.aload_n 0, 1) := by decide +kernel
theorem dL_law_722 : decode cL_law 722 = .ok (.iload_n 3, 1) := by decide +kernel
theorem dL_law_723 : decode cL_law 723 = .ok (.iconst 4, 1) := by decide +kernel
theorem dL_law_724 : decode cL_law 724 = .ok (.iadd, 1) := by decide +kernel
theorem dL_law_725 : decode cL_law 725 = .ok (.iaload, 1) := by decide +kernel
theorem dL_law_726 : decode cL_law 726 = .ok (.invokevirtual 87, 3) := by decide +kernel
theorem dL_law_729 : decode cL_law 729 = .ok (.aload_n 2, 1) := by decide +kernel
theorem dL_law_730 : decode cL_law 730 = .ok (.aload_n 0, 1) := by decide +kernel
theorem dL_law_731 : decode cL_law 731 = .ok (.iload_n 3, 1) := by decide +kernel
theorem dL_law_732 : decode cL_law 732 = .ok (.iconst 1, 1) := by decide +kernel
theorem dL_law_733 : decode cL_law 733 = .ok (.iadd, 1) := by decide +kernel
theorem dL_law_734 : decode cL_law 734 = .ok (.iaload, 1) := by decide +kernel
theorem dL_law_735 : decode cL_law 735 = .ok (.aload_n 0, 1) := by decide +kernel
theorem dL_law_736 : decode cL_law 736 = .ok (.iload_n 3, 1) := by decide +kernel
theorem dL_law_737 : decode cL_law 737 = .ok (.iconst 2, 1) := by decide +kernel
theorem dL_law_738 : decode cL_law 738 = .ok (.iadd, 1) := by decide +kernel
theorem dL_law_739 : decode cL_law 739 = .ok (.iaload, 1) := by decide +kernel
theorem dL_law_740 : decode cL_law 740 = .ok (.aload_n 0, 1) := by decide +kernel
theorem dL_law_741 : decode cL_law 741 = .ok (.iload_n 3, 1) := by decide +kernel
theorem dL_law_742 : decode cL_law 742 = .ok (.iconst 3, 1) := by decide +kernel
theorem dL_law_743 : decode cL_law 743 = .ok (.iadd, 1) := by decide +kernel
theorem dL_law_744 : decode cL_law 744 = .ok (.iaload, 1) := by decide +kernel
theorem dL_law_745 : decode cL_law 745 = .ok (.aload_n 0, 1) := by decide +kernel
theorem dL_law_746 : decode cL_law 746 = .ok (.iload_n 3, 1) := by decide +kernel
theorem dL_law_747 : decode cL_law 747 = .ok (.iconst 4, 1) := by decide +kernel
theorem dL_law_748 : decode cL_law 748 = .ok (.iadd, 1) := by decide +kernel
theorem dL_law_749 : decode cL_law 749 = .ok (.iaload, 1) := by decide +kernel
theorem dL_law_750 : decode cL_law 750 = .ok (.invokevirtual 90, 3) := by decide +kernel
theorem dL_law_753 : decode cL_law 753 = .ok (.if_icmp .eq 28, 3) := by decide +kernel
theorem dL_law_756 : decode cL_law 756 = .ok (.iconst 0, 1) := by decide +kernel
theorem dL_law_757 : decode cL_law 757 = .ok (.ireturn, 1) := by decide +kernel
theorem dL_law_758 : decode cL_law 758 = .ok (.aload_n 1, 1) := by decide +kernel
theorem dL_law_759 : decode cL_law 759 = .ok (.aload_n 0, 1) := by decide +kernel
theorem dL_law_760 : decode cL_law 760 = .ok (.iload_n 3, 1) := by decide +kernel
theorem dL_law_761 : decode cL_law 761 = .ok (.iconst 1, 1) := by decide +kernel
theorem dL_law_762 : decode cL_law 762 = .ok (.iadd, 1) := by decide +kernel
theorem dL_law_763 : decode cL_law 763 = .ok (.iaload, 1) := by decide +kernel
theorem dL_law_764 : decode cL_law 764 = .ok (.invokevirtual 91, 3) := by decide +kernel
theorem dL_law_767 : decode cL_law 767 = .ok (.aload_n 2, 1) := by decide +kernel
theorem dL_law_768 : decode cL_law 768 = .ok (.aload_n 0, 1) := by decide +kernel
theorem dL_law_769 : decode cL_law 769 = .ok (.iload_n 3, 1) := by decide +kernel
theorem dL_law_770 : decode cL_law 770 = .ok (.iconst 1, 1) := by decide +kernel
theorem dL_law_771 : decode cL_law 771 = .ok (.iadd, 1) := by decide +kernel
theorem dL_law_772 : decode cL_law 772 = .ok (.iaload, 1) := by decide +kernel
theorem dL_law_773 : decode cL_law 773 = .ok (.invokevirtual 94, 3) := by decide +kernel
theorem dL_law_776 : decode cL_law 776 = .ok (.if_icmp .eq 5, 3) := by decide +kernel
theorem dL_law_779 : decode cL_law 779 = .ok (.iconst 0, 1) := by decide +kernel
theorem dL_law_780 : decode cL_law 780 = .ok (.ireturn, 1) := by decide +kernel
theorem dL_law_781 : decode cL_law 781 = .ok (.iinc 3 6, 3) := by decide +kernel
theorem dL_law_784 : decode cL_law 784 = .ok (.goto (-766), 3) := by decide +kernel
theorem dL_law_787 : decode cL_law 787 = .ok (.iconst 1, 1) := by decide +kernel
theorem dL_law_788 : decode cL_law 788 = .ok (.ireturn, 1) := by decide +kernel
end
section
def zx_tb : List Cond := lw_tbl.filter goodWord
theorem zx_in1 {w : Cond} {i : Nat} (h : tables_1_1[i]? = some w) (hg : goodWord w = true) : w ∈ zx_tb := List.mem_filter.mpr ⟨List.mem_append_right _ (by have h := List.mem_of_getElem? h; exact List.mem_append_left _ h), hg⟩
theorem zx_ix1 {w : Cond} {i : Nat} (h : tables_1_1[i]? = some w) : w ∈ lw_tbl := List.mem_append_right _ (by have h := List.mem_of_getElem? h; exact List.mem_append_left _ h)
theorem zx_in2 {w : Cond} {i : Nat} (h : tables_1_2[i]? = some w) (hg : goodWord w = true) : w ∈ zx_tb := List.mem_filter.mpr ⟨List.mem_append_right _ (by have h := List.mem_of_getElem? h; exact List.mem_append_right _ (List.mem_append_left _ h)), hg⟩
theorem zx_ix2 {w : Cond} {i : Nat} (h : tables_1_2[i]? = some w) : w ∈ lw_tbl := List.mem_append_right _ (by have h := List.mem_of_getElem? h; exact List.mem_append_right _ (List.mem_append_left _ h))
theorem zx_in3 {w : Cond} {i : Nat} (h : tables_1_3[i]? = some w) (hg : goodWord w = true) : w ∈ zx_tb := List.mem_filter.mpr ⟨List.mem_append_right _ (by have h := List.mem_of_getElem? h; exact List.mem_append_right _ (List.mem_append_right _ (List.mem_append_left _ h))), hg⟩
theorem zx_ix3 {w : Cond} {i : Nat} (h : tables_1_3[i]? = some w) : w ∈ lw_tbl := List.mem_append_right _ (by have h := List.mem_of_getElem? h; exact List.mem_append_right _ (List.mem_append_right _ (List.mem_append_left _ h)))
theorem zx_in4 {w : Cond} {i : Nat} (h : tables_1_4[i]? = some w) (hg : goodWord w = true) : w ∈ zx_tb := List.mem_filter.mpr ⟨List.mem_append_right _ (by have h := List.mem_of_getElem? h; exact List.mem_append_right _ (List.mem_append_right _ (List.mem_append_right _ (List.mem_append_left _ h)))), hg⟩
theorem zx_ix4 {w : Cond} {i : Nat} (h : tables_1_4[i]? = some w) : w ∈ lw_tbl := List.mem_append_right _ (by have h := List.mem_of_getElem? h; exact List.mem_append_right _ (List.mem_append_right _ (List.mem_append_right _ (List.mem_append_left _ h))))
theorem zx_in5 {w : Cond} {i : Nat} (h : tables_1_5[i]? = some w) (hg : goodWord w = true) : w ∈ zx_tb := List.mem_filter.mpr ⟨List.mem_append_right _ (by have h := List.mem_of_getElem? h; exact List.mem_append_right _ (List.mem_append_right _ (List.mem_append_right _ (List.mem_append_right _ (h))))), hg⟩
theorem zx_ix5 {w : Cond} {i : Nat} (h : tables_1_5[i]? = some w) : w ∈ lw_tbl := List.mem_append_right _ (by have h := List.mem_of_getElem? h; exact List.mem_append_right _ (List.mem_append_right _ (List.mem_append_right _ (List.mem_append_right _ (h)))))
theorem zx_ip1 {q : MethodName × Nat} {i : Nat} (h : lw_privs_1[i]? = some q) (hg : goodWord (Cond.selects q.1.cls q.1 q.1) = true) : Cond.selects q.1.cls q.1 q.1 ∈ zx_tb := List.mem_filter.mpr ⟨List.mem_append_left _ (List.mem_map.mpr ⟨q, by have h := List.mem_of_getElem? h; exact List.mem_append_left _ h, rfl⟩), hg⟩
theorem zx_ip2 {q : MethodName × Nat} {i : Nat} (h : lw_privs_2[i]? = some q) (hg : goodWord (Cond.selects q.1.cls q.1 q.1) = true) : Cond.selects q.1.cls q.1 q.1 ∈ zx_tb := List.mem_filter.mpr ⟨List.mem_append_left _ (List.mem_map.mpr ⟨q, by have h := List.mem_of_getElem? h; exact List.mem_append_right _ (List.mem_append_left _ h), rfl⟩), hg⟩
theorem zx_ip3 {q : MethodName × Nat} {i : Nat} (h : lw_privs_3[i]? = some q) (hg : goodWord (Cond.selects q.1.cls q.1 q.1) = true) : Cond.selects q.1.cls q.1 q.1 ∈ zx_tb := List.mem_filter.mpr ⟨List.mem_append_left _ (List.mem_map.mpr ⟨q, by have h := List.mem_of_getElem? h; exact List.mem_append_right _ (List.mem_append_right _ (List.mem_append_left _ h)), rfl⟩), hg⟩
theorem zx_ip4 {q : MethodName × Nat} {i : Nat} (h : lw_privs_4[i]? = some q) (hg : goodWord (Cond.selects q.1.cls q.1 q.1) = true) : Cond.selects q.1.cls q.1 q.1 ∈ zx_tb := List.mem_filter.mpr ⟨List.mem_append_left _ (List.mem_map.mpr ⟨q, by have h := List.mem_of_getElem? h; exact List.mem_append_right _ (List.mem_append_right _ (List.mem_append_right _ (h))), rfl⟩), hg⟩
theorem wn_L : Cond.initialized RL ∈ zx_tb := zx_in1 (i := 0) rfl rfl
theorem wn_X8 : Cond.initialized RX8 ∈ zx_tb := zx_in1 (i := 1) rfl rfl
theorem wn_X4 : Cond.initialized RX4 ∈ zx_tb := zx_in1 (i := 2) rfl rfl
theorem wn_X1 : Cond.initialized RX1 ∈ zx_tb := zx_in1 (i := 3) rfl rfl
theorem wn_X0 : Cond.initialized RX0 ∈ zx_tb := zx_in1 (i := 4) rfl rfl
theorem wn_X5 : Cond.initialized RX5 ∈ zx_tb := zx_in1 (i := 5) rfl rfl
theorem wn_X7 : Cond.initialized RX7 ∈ zx_tb := zx_in1 (i := 6) rfl rfl
theorem wn_X6 : Cond.initialized RX6 ∈ zx_tb := zx_in1 (i := 7) rfl rfl
theorem wn_X2 : Cond.initialized RX2 ∈ zx_tb := zx_in1 (i := 8) rfl rfl
theorem wn_X3 : Cond.initialized RX3 ∈ zx_tb := zx_in1 (i := 9) rfl rfl
theorem wn_X9 : Cond.initialized RX9 ∈ zx_tb := zx_in1 (i := 10) rfl rfl
theorem wn_J7 : Cond.initialized RJ7 ∈ zx_tb := zx_in1 (i := 11) rfl rfl
theorem wn_J9 : Cond.initialized RJ9 ∈ zx_tb := zx_in1 (i := 12) rfl rfl
theorem wn_J10 : Cond.initialized RJ10 ∈ zx_tb := zx_in1 (i := 13) rfl rfl
theorem wn_J6 : Cond.initialized RJ6 ∈ zx_tb := zx_in1 (i := 14) rfl rfl
theorem wm_L_9 : Cond.methodLink RL 9 yX8_init ∈ zx_tb := zx_in1 (i := 17) rfl rfl
theorem wm_X8_3 : Cond.methodLink RX8 3 objectInit ∈ zx_tb := zx_in1 (i := 20) rfl rfl
theorem wm_X4_3 : Cond.methodLink RX4 3 objectInit ∈ zx_tb := zx_in1 (i := 28) rfl rfl
theorem wf_X4_9 : Cond.fieldLink RX4 9 (TX4 0).1 (TX4 0).2.1 (TX4 0).2.2.1 ∈ zx_tb := zx_in1 (i := 29) rfl rfl
theorem wf_X4_15 : Cond.fieldLink RX4 15 (TX4 1).1 (TX4 1).2.1 (TX4 1).2.2.1 ∈ zx_tb := zx_in1 (i := 30) rfl rfl
theorem wf_X8_70 : Cond.fieldLink RX8 70 (TX4 1).1 (TX4 1).2.1 (TX4 1).2.2.1 ∈ zx_tb := zx_in1 (i := 31) rfl rfl
theorem wf_X2_41 : Cond.fieldLink RX2 41 (TX4 1).1 (TX4 1).2.1 (TX4 1).2.2.1 ∈ zx_tb := zx_in1 (i := 32) rfl rfl
theorem wf_X1_107 : Cond.fieldLink RX1 107 (TX4 1).1 (TX4 1).2.1 (TX4 1).2.2.1 ∈ zx_tb := zx_in1 (i := 33) rfl rfl
theorem wm_X1_3 : Cond.methodLink RX1 3 objectInit ∈ zx_tb := zx_in1 (i := 47) rfl rfl
theorem wm_X0_3 : Cond.methodLink RX0 3 objectInit ∈ zx_tb := zx_in1 (i := 53) rfl rfl
theorem wm_X5_3 : Cond.methodLink RX5 3 objectInit ∈ zx_tb := zx_in1 (i := 59) rfl rfl
theorem wf_X5_9 : Cond.fieldLink RX5 9 (TX5 0).1 (TX5 0).2.1 (TX5 0).2.2.1 ∈ zx_tb := zx_in1 (i := 60) rfl rfl
theorem wf_X5_15 : Cond.fieldLink RX5 15 (TX5 1).1 (TX5 1).2.1 (TX5 1).2.2.1 ∈ zx_tb := zx_in1 (i := 61) rfl rfl
theorem wf_X5_18 : Cond.fieldLink RX5 18 (TX5 2).1 (TX5 2).2.1 (TX5 2).2.2.1 ∈ zx_tb := zx_in1 (i := 62) rfl rfl
theorem wf_X5_21 : Cond.fieldLink RX5 21 (TX5 3).1 (TX5 3).2.1 (TX5 3).2.2.1 ∈ zx_tb := zx_in1 (i := 63) rfl rfl
theorem wf_X5_24 : Cond.fieldLink RX5 24 (TX5 4).1 (TX5 4).2.1 (TX5 4).2.2.1 ∈ zx_tb := zx_in1 (i := 64) rfl rfl
theorem wf_X5_27 : Cond.fieldLink RX5 27 (TX5 5).1 (TX5 5).2.1 (TX5 5).2.2.1 ∈ zx_tb := zx_in1 (i := 65) rfl rfl
theorem wf_X5_30 : Cond.fieldLink RX5 30 (TX5 6).1 (TX5 6).2.1 (TX5 6).2.2.1 ∈ zx_tb := zx_in1 (i := 66) rfl rfl
theorem wf_X5_34 : Cond.fieldLink RX5 34 (TX5 7).1 (TX5 7).2.1 (TX5 7).2.2.1 ∈ zx_tb := zx_in1 (i := 67) rfl rfl
theorem wf_X5_37 : Cond.fieldLink RX5 37 (TX5 8).1 (TX5 8).2.1 (TX5 8).2.2.1 ∈ zx_tb := zx_in1 (i := 68) rfl rfl
theorem wf_X2_91 : Cond.fieldLink RX2 91 (TX5 8).1 (TX5 8).2.1 (TX5 8).2.2.1 ∈ zx_tb := zx_in1 (i := 69) rfl rfl
theorem wf_X5_40 : Cond.fieldLink RX5 40 (TX5 9).1 (TX5 9).2.1 (TX5 9).2.2.1 ∈ zx_tb := zx_in1 (i := 70) rfl rfl
theorem wf_X0_12 : Cond.fieldLink RX0 12 (TX0 0).1 (TX0 0).2.1 (TX0 0).2.2.1 ∈ zx_tb := zx_in1 (i := 93) rfl rfl
theorem wf_X2_87 : Cond.fieldLink RX2 87 (TX0 0).1 (TX0 0).2.1 (TX0 0).2.2.1 ∈ zx_tb := zx_in1 (i := 94) rfl rfl
theorem wf_X8_92 : Cond.fieldLink RX8 92 (TX0 0).1 (TX0 0).2.1 (TX0 0).2.2.1 ∈ zx_tb := zx_in1 (i := 95) rfl rfl
theorem wf_X1_140 : Cond.fieldLink RX1 140 (TX0 0).1 (TX0 0).2.1 (TX0 0).2.2.1 ∈ zx_tb := zx_in1 (i := 96) rfl rfl
theorem wf_X0_18 : Cond.fieldLink RX0 18 (TX0 1).1 (TX0 1).2.1 (TX0 1).2.2.1 ∈ zx_tb := zx_in1 (i := 97) rfl rfl
theorem wf_X2_84 : Cond.fieldLink RX2 84 (TX0 1).1 (TX0 1).2.1 (TX0 1).2.2.1 ∈ zx_tb := zx_in1 (i := 98) rfl rfl
theorem wf_X0_22 : Cond.fieldLink RX0 22 (TX0 2).1 (TX0 2).2.1 (TX0 2).2.2.1 ∈ zx_tb := zx_in1 (i := 99) rfl rfl
theorem wf_X0_25 : Cond.fieldLink RX0 25 (TX0 3).1 (TX0 3).2.1 (TX0 3).2.2.1 ∈ zx_tb := zx_in1 (i := 100) rfl rfl
theorem wf_X2_25 : Cond.fieldLink RX2 25 (TX0 3).1 (TX0 3).2.1 (TX0 3).2.2.1 ∈ zx_tb := zx_in1 (i := 101) rfl rfl
theorem wf_X1_195 : Cond.fieldLink RX1 195 (TX0 3).1 (TX0 3).2.1 (TX0 3).2.2.1 ∈ zx_tb := zx_in1 (i := 102) rfl rfl
theorem wf_X0_28 : Cond.fieldLink RX0 28 (TX0 4).1 (TX0 4).2.1 (TX0 4).2.2.1 ∈ zx_tb := zx_in1 (i := 103) rfl rfl
theorem wf_X2_75 : Cond.fieldLink RX2 75 (TX0 4).1 (TX0 4).2.1 (TX0 4).2.2.1 ∈ zx_tb := zx_in1 (i := 104) rfl rfl
theorem wf_X1_180 : Cond.fieldLink RX1 180 (TX0 4).1 (TX0 4).2.1 (TX0 4).2.2.1 ∈ zx_tb := zx_in1 (i := 105) rfl rfl
theorem wf_X0_31 : Cond.fieldLink RX0 31 (TX0 5).1 (TX0 5).2.1 (TX0 5).2.2.1 ∈ zx_tb := zx_in1 (i := 106) rfl rfl
theorem wf_X2_63 : Cond.fieldLink RX2 63 (TX0 5).1 (TX0 5).2.1 (TX0 5).2.2.1 ∈ zx_tb := zx_in1 (i := 107) rfl rfl
theorem wf_X8_203 : Cond.fieldLink RX8 203 (TX0 5).1 (TX0 5).2.1 (TX0 5).2.2.1 ∈ zx_tb := zx_in1 (i := 108) rfl rfl
theorem wf_X0_34 : Cond.fieldLink RX0 34 (TX0 6).1 (TX0 6).2.1 (TX0 6).2.2.1 ∈ zx_tb := zx_in1 (i := 109) rfl rfl
theorem wf_X2_66 : Cond.fieldLink RX2 66 (TX0 6).1 (TX0 6).2.1 (TX0 6).2.2.1 ∈ zx_tb := zx_in1 (i := 110) rfl rfl
theorem wf_X8_197 : Cond.fieldLink RX8 197 (TX0 6).1 (TX0 6).2.1 (TX0 6).2.2.1 ∈ zx_tb := zx_in1 (i := 111) rfl rfl
theorem wf_X0_37 : Cond.fieldLink RX0 37 (TX0 7).1 (TX0 7).2.1 (TX0 7).2.2.1 ∈ zx_tb := zx_in1 (i := 112) rfl rfl
theorem wf_X2_69 : Cond.fieldLink RX2 69 (TX0 7).1 (TX0 7).2.1 (TX0 7).2.2.1 ∈ zx_tb := zx_in1 (i := 113) rfl rfl
theorem wf_X8_200 : Cond.fieldLink RX8 200 (TX0 7).1 (TX0 7).2.1 (TX0 7).2.2.1 ∈ zx_tb := zx_in1 (i := 114) rfl rfl
theorem wm_X7_3 : Cond.methodLink RX7 3 objectInit ∈ zx_tb := zx_in1 (i := 137) rfl rfl
theorem wf_X7_11 : Cond.fieldLink RX7 11 (TX7 0).1 (TX7 0).2.1 (TX7 0).2.2.1 ∈ zx_tb := zx_in1 (i := 138) rfl rfl
theorem wf_X2_111 : Cond.fieldLink RX2 111 (TX7 0).1 (TX7 0).2.1 (TX7 0).2.2.1 ∈ zx_tb := zx_in1 (i := 139) rfl rfl
theorem wm_X6_3 : Cond.methodLink RX6 3 objectInit ∈ zx_tb := zx_in1 (i := 148) rfl rfl
theorem wf_X6_9 : Cond.fieldLink RX6 9 (TX6 0).1 (TX6 0).2.1 (TX6 0).2.2.1 ∈ zx_tb := zx_in1 (i := 149) rfl rfl
theorem wf_X6_15 : Cond.fieldLink RX6 15 (TX6 1).1 (TX6 1).2.1 (TX6 1).2.2.1 ∈ zx_tb := zx_in1 (i := 150) rfl rfl
theorem wf_X0_44 : Cond.fieldLink RX0 44 (TX6 1).1 (TX6 1).2.1 (TX6 1).2.2.1 ∈ zx_tb := zx_in1 (i := 151) rfl rfl
theorem wf_X2_96 : Cond.fieldLink RX2 96 (TX6 1).1 (TX6 1).2.1 (TX6 1).2.2.1 ∈ zx_tb := zx_in1 (i := 152) rfl rfl
theorem wf_X8_107 : Cond.fieldLink RX8 107 (TX6 1).1 (TX6 1).2.1 (TX6 1).2.2.1 ∈ zx_tb := zx_in1 (i := 153) rfl rfl
theorem wf_X1_12 : Cond.fieldLink RX1 12 (TX1 0).1 (TX1 0).2.1 (TX1 0).2.2.1 ∈ zx_tb := zx_in1 (i := 159) rfl rfl
theorem wf_X8_36 : Cond.fieldLink RX8 36 (TX1 0).1 (TX1 0).2.1 (TX1 0).2.2.1 ∈ zx_tb := zx_in1 (i := 160) rfl rfl
theorem wf_X1_21 : Cond.fieldLink RX1 21 (TX1 1).1 (TX1 1).2.1 (TX1 1).2.2.1 ∈ zx_tb := zx_in1 (i := 161) rfl rfl
theorem wf_X8_167 : Cond.fieldLink RX8 167 (TX1 1).1 (TX1 1).2.1 (TX1 1).2.2.1 ∈ zx_tb := zx_in1 (i := 162) rfl rfl
theorem wf_X1_25 : Cond.fieldLink RX1 25 (TX1 2).1 (TX1 2).2.1 (TX1 2).2.2.1 ∈ zx_tb := zx_in1 (i := 163) rfl rfl
theorem wf_X1_29 : Cond.fieldLink RX1 29 (TX1 3).1 (TX1 3).2.1 (TX1 3).2.2.1 ∈ zx_tb := zx_in1 (i := 164) rfl rfl
theorem wf_X1_36 : Cond.fieldLink RX1 36 (TX1 4).1 (TX1 4).2.1 (TX1 4).2.2.1 ∈ zx_tb := zx_in1 (i := 165) rfl rfl
theorem wf_X1_40 : Cond.fieldLink RX1 40 (TX1 5).1 (TX1 5).2.1 (TX1 5).2.2.1 ∈ zx_tb := zx_in1 (i := 166) rfl rfl
theorem wf_X1_44 : Cond.fieldLink RX1 44 (TX1 6).1 (TX1 6).2.1 (TX1 6).2.2.1 ∈ zx_tb := zx_in1 (i := 167) rfl rfl
theorem wf_X8_168 : Cond.fieldLink RX8 168 (TX1 6).1 (TX1 6).2.1 (TX1 6).2.2.1 ∈ zx_tb := zx_in1 (i := 168) rfl rfl
theorem wf_X1_48 : Cond.fieldLink RX1 48 (TX1 7).1 (TX1 7).2.1 (TX1 7).2.2.1 ∈ zx_tb := zx_in1 (i := 169) rfl rfl
theorem wf_X8_171 : Cond.fieldLink RX8 171 (TX1 7).1 (TX1 7).2.1 (TX1 7).2.2.1 ∈ zx_tb := zx_in1 (i := 170) rfl rfl
theorem wf_X1_51 : Cond.fieldLink RX1 51 (TX1 8).1 (TX1 8).2.1 (TX1 8).2.2.1 ∈ zx_tb := zx_in1 (i := 171) rfl rfl
theorem wf_X1_54 : Cond.fieldLink RX1 54 (TX1 9).1 (TX1 9).2.1 (TX1 9).2.2.1 ∈ zx_tb := zx_in1 (i := 172) rfl rfl
theorem wf_X1_57 : Cond.fieldLink RX1 57 (TX1 10).1 (TX1 10).2.1 (TX1 10).2.2.1 ∈ zx_tb := zx_in1 (i := 173) rfl rfl
theorem wf_X1_60 : Cond.fieldLink RX1 60 (TX1 11).1 (TX1 11).2.1 (TX1 11).2.2.1 ∈ zx_tb := zx_in1 (i := 174) rfl rfl
theorem wf_X1_63 : Cond.fieldLink RX1 63 (TX1 12).1 (TX1 12).2.1 (TX1 12).2.2.1 ∈ zx_tb := zx_in1 (i := 175) rfl rfl
theorem wf_X1_66 : Cond.fieldLink RX1 66 (TX1 13).1 (TX1 13).2.1 (TX1 13).2.2.1 ∈ zx_tb := zx_in1 (i := 176) rfl rfl
theorem wf_X1_69 : Cond.fieldLink RX1 69 (TX1 14).1 (TX1 14).2.1 (TX1 14).2.2.1 ∈ zx_tb := zx_in1 (i := 177) rfl rfl
theorem wf_X1_72 : Cond.fieldLink RX1 72 (TX1 15).1 (TX1 15).2.1 (TX1 15).2.2.1 ∈ zx_tb := zx_in1 (i := 178) rfl rfl
theorem wm_X2_3 : Cond.methodLink RX2 3 objectInit ∈ zx_tb := zx_in1 (i := 217) rfl rfl
theorem wf_X2_12 : Cond.fieldLink RX2 12 (TX2 0).1 (TX2 0).2.1 (TX2 0).2.2.1 ∈ zx_tb := zx_in1 (i := 220) rfl rfl
theorem wf_X8_150 : Cond.fieldLink RX8 150 (TX2 0).1 (TX2 0).2.1 (TX2 0).2.2.1 ∈ zx_tb := zx_in1 (i := 221) rfl rfl
theorem wf_X2_18 : Cond.fieldLink RX2 18 (TX2 1).1 (TX2 1).2.1 (TX2 1).2.2.1 ∈ zx_tb := zx_in1 (i := 222) rfl rfl
theorem wf_X2_22 : Cond.fieldLink RX2 22 (TX2 2).1 (TX2 2).2.1 (TX2 2).2.2.1 ∈ zx_tb := zx_in1 (i := 223) rfl rfl
theorem wm_X3_5 : Cond.methodLink RX3 5 objectInit ∈ zx_tb := zx_in1 (i := 238) rfl rfl
theorem wf_X3_11 : Cond.fieldLink RX3 11 (TX3 0).1 (TX3 0).2.1 (TX3 0).2.2.1 ∈ zx_tb := zx_in1 (i := 239) rfl rfl
theorem wf_X3_15 : Cond.fieldLink RX3 15 (TX3 1).1 (TX3 1).2.1 (TX3 1).2.2.1 ∈ zx_tb := zx_in2 (i := 0) rfl rfl
theorem wf_X3_19 : Cond.fieldLink RX3 19 (TX3 2).1 (TX3 2).2.1 (TX3 2).2.2.1 ∈ zx_tb := zx_in2 (i := 1) rfl rfl
theorem wf_X8_12 : Cond.fieldLink RX8 12 (TX8 0).1 (TX8 0).2.1 (TX8 0).2.2.1 ∈ zx_tb := zx_in2 (i := 10) rfl rfl
theorem wf_X8_16 : Cond.fieldLink RX8 16 (TX8 1).1 (TX8 1).2.1 (TX8 1).2.2.1 ∈ zx_tb := zx_in2 (i := 11) rfl rfl
theorem wf_X8_21 : Cond.fieldLink RX8 21 (TX8 2).1 (TX8 2).2.1 (TX8 2).2.2.1 ∈ zx_tb := zx_in2 (i := 12) rfl rfl
theorem wf_X8_25 : Cond.fieldLink RX8 25 (TX8 3).1 (TX8 3).2.1 (TX8 3).2.2.1 ∈ zx_tb := zx_in2 (i := 13) rfl rfl
theorem wf_X8_32 : Cond.fieldLink RX8 32 (TX8 4).1 (TX8 4).2.1 (TX8 4).2.2.1 ∈ zx_tb := zx_in2 (i := 14) rfl rfl
theorem wf_X8_40 : Cond.fieldLink RX8 40 (TX8 5).1 (TX8 5).2.1 (TX8 5).2.2.1 ∈ zx_tb := zx_in2 (i := 15) rfl rfl
theorem wf_X8_44 : Cond.fieldLink RX8 44 (TX8 6).1 (TX8 6).2.1 (TX8 6).2.2.1 ∈ zx_tb := zx_in2 (i := 16) rfl rfl
theorem wf_X8_51 : Cond.fieldLink RX8 51 (TX8 7).1 (TX8 7).2.1 (TX8 7).2.2.1 ∈ zx_tb := zx_in2 (i := 17) rfl rfl
theorem wf_X8_58 : Cond.fieldLink RX8 58 (TX8 8).1 (TX8 8).2.1 (TX8 8).2.2.1 ∈ zx_tb := zx_in2 (i := 18) rfl rfl
theorem wf_X8_62 : Cond.fieldLink RX8 62 (TX8 9).1 (TX8 9).2.1 (TX8 9).2.2.1 ∈ zx_tb := zx_in2 (i := 19) rfl rfl
theorem wf_X8_66 : Cond.fieldLink RX8 66 (TX8 10).1 (TX8 10).2.1 (TX8 10).2.2.1 ∈ zx_tb := zx_in2 (i := 20) rfl rfl
theorem wm_L_13 : Cond.methodLink RL 13 yX8_feed ∈ zx_tb := zx_in2 (i := 44) rfl rfl
theorem wm_X8_73 : Cond.methodLink RX8 73 yX4_addNumber ∈ zx_tb := zx_in2 (i := 48) rfl rfl
theorem wm_X4_19 : Cond.methodLink RX4 19 yX4_add ∈ zx_tb := zx_in2 (i := 52) rfl rfl
theorem wm_L_18 : Cond.methodLink RL 18 yX8_end ∈ zx_tb := zx_in2 (i := 56) rfl rfl
theorem wm_L_23 : Cond.methodLink RL 23 yX8_learn ∈ zx_tb := zx_in2 (i := 60) rfl rfl
theorem wm_X8_77 : Cond.methodLink RX8 77 yX8_isTableNumber ∈ zx_tb := zx_in2 (i := 64) rfl rfl
theorem wm_X8_81 : Cond.methodLink RX8 81 yX8_isLog ∈ zx_tb := zx_in2 (i := 67) rfl rfl
theorem wm_X8_84 : Cond.methodLink RX8 84 yX8_countTape ∈ zx_tb := zx_in2 (i := 70) rfl rfl
theorem wm_X8_222 : Cond.methodLink RX8 222 yJ7_fill_53178 ∈ zx_tb := zx_in2 (i := 74) rfl rfl
theorem wm_X8_174 : Cond.methodLink RX8 174 yX4_byteAt ∈ zx_tb := zx_in2 (i := 77) rfl rfl
theorem wm_X8_110 : Cond.methodLink RX8 110 yX8_isSymbol ∈ zx_tb := zx_in2 (i := 81) rfl rfl
theorem wm_X8_88 : Cond.methodLink RX8 88 yX6_fit ∈ zx_tb := zx_in2 (i := 84) rfl rfl
theorem wm_X6_29 : Cond.methodLink RX6 29 yX6_clear ∈ zx_tb := zx_in2 (i := 88) rfl rfl
theorem wm_X6_23 : Cond.methodLink RX6 23 yJ7_fill_53178 ∈ zx_tb := zx_in2 (i := 92) rfl rfl
theorem wm_X6_33 : Cond.methodLink RX6 33 yX6_places ∈ zx_tb := zx_in2 (i := 93) rfl rfl
theorem wm_X6_37 : Cond.methodLink RX6 37 yJ9_max_7cf53 ∈ zx_tb := zx_in2 (i := 97) rfl rfl
theorem wm_X6_43 : Cond.methodLink RX6 43 yX6_mostLacking ∈ zx_tb := zx_in2 (i := 100) rfl rfl
theorem wm_X6_54 : Cond.methodLink RX6 54 yX6_lack ∈ zx_tb := zx_in2 (i := 104) rfl rfl
theorem wm_X6_47 : Cond.methodLink RX6 47 yX6_change ∈ zx_tb := zx_in2 (i := 108) rfl rfl
theorem wm_X6_51 : Cond.methodLink RX6 51 yX6_leastLacking ∈ zx_tb := zx_in2 (i := 113) rfl rfl
theorem wm_X8_98 : Cond.methodLink RX8 98 yX5_forget ∈ zx_tb := zx_in2 (i := 117) rfl rfl
theorem wm_L_28 : Cond.methodLink RL 28 yX8_log ∈ zx_tb := zx_in2 (i := 121) rfl rfl
theorem wm_X8_103 : Cond.methodLink RX8 103 yX8_tableOrNull ∈ zx_tb := zx_in2 (i := 125) rfl rfl
theorem wm_X8_218 : Cond.methodLink RX8 218 yX6_isThere ∈ zx_tb := zx_in2 (i := 129) rfl rfl
theorem wm_L_32 : Cond.methodLink RL 32 yX8_share ∈ zx_tb := zx_in2 (i := 133) rfl rfl
theorem wm_X8_113 : Cond.methodLink RX8 113 yX6_shareOf ∈ zx_tb := zx_in2 (i := 137) rfl rfl
theorem wm_L_36 : Cond.methodLink RL 36 yX8_start ∈ zx_tb := zx_in2 (i := 141) rfl rfl
theorem wm_X8_117 : Cond.methodLink RX8 117 yX6_startOf ∈ zx_tb := zx_in2 (i := 145) rfl rfl
theorem wm_L_40 : Cond.methodLink RL 40 yX8_place ∈ zx_tb := zx_in2 (i := 149) rfl rfl
theorem wm_X8_120 : Cond.methodLink RX8 120 yX8_layForPlace ∈ zx_tb := zx_in2 (i := 153) rfl rfl
theorem wm_X8_215 : Cond.methodLink RX8 215 yX8_isSpread ∈ zx_tb := zx_in2 (i := 157) rfl rfl
theorem wm_X8_228 : Cond.methodLink RX8 228 yX6_places ∈ zx_tb := zx_in2 (i := 160) rfl rfl
theorem wm_X8_231 : Cond.methodLink RX8 231 yX5_lay ∈ zx_tb := zx_in2 (i := 161) rfl rfl
theorem wm_X5_55 : Cond.methodLink RX5 55 yX6_places ∈ zx_tb := zx_in2 (i := 165) rfl rfl
theorem wm_X5_60 : Cond.methodLink RX5 60 yJ9_min_7cf53 ∈ zx_tb := zx_in2 (i := 166) rfl rfl
theorem wm_X5_66 : Cond.methodLink RX5 66 yX5_takeShares ∈ zx_tb := zx_in2 (i := 169) rfl rfl
theorem wm_X5_80 : Cond.methodLink RX5 80 yX6_shareOf ∈ zx_tb := zx_in2 (i := 173) rfl rfl
theorem wm_X5_70 : Cond.methodLink RX5 70 yX5_layEven ∈ zx_tb := zx_in2 (i := 174) rfl rfl
theorem wm_X5_81 : Cond.methodLink RX5 81 yJ7_fill_53178 ∈ zx_tb := zx_in2 (i := 178) rfl rfl
theorem wm_X5_87 : Cond.methodLink RX5 87 yX5_sink ∈ zx_tb := zx_in2 (i := 179) rfl rfl
theorem wm_X5_90 : Cond.methodLink RX5 90 yX5_isAhead ∈ zx_tb := zx_in2 (i := 183) rfl rfl
theorem wm_X5_73 : Cond.methodLink RX5 73 yX5_layByStep ∈ zx_tb := zx_in2 (i := 187) rfl rfl
theorem wm_X5_77 : Cond.methodLink RX5 77 yX5_giveRanks ∈ zx_tb := zx_in2 (i := 191) rfl rfl
theorem wm_X8_124 : Cond.methodLink RX8 124 yX5_symbolAt ∈ zx_tb := zx_in2 (i := 195) rfl rfl
theorem wm_L_45 : Cond.methodLink RL 45 yX8_rank ∈ zx_tb := zx_in2 (i := 199) rfl rfl
theorem wm_X8_127 : Cond.methodLink RX8 127 yX5_rankAt ∈ zx_tb := zx_in2 (i := 203) rfl rfl
theorem wm_L_49 : Cond.methodLink RL 49 yX8_pack ∈ zx_tb := zx_in2 (i := 207) rfl rfl
theorem wm_X8_130 : Cond.methodLink RX8 130 yX8_isCoding ∈ zx_tb := zx_in2 (i := 211) rfl rfl
theorem wm_X8_134 : Cond.methodLink RX8 134 yX8_refusalOfTape ∈ zx_tb := zx_in2 (i := 214) rfl rfl
theorem wm_X8_138 : Cond.methodLink RX8 138 yX0_prepare ∈ zx_tb := zx_in2 (i := 218) rfl rfl
theorem wm_X0_40 : Cond.methodLink RX0 40 yX5_lay ∈ zx_tb := zx_in2 (i := 222) rfl rfl
theorem wm_X0_47 : Cond.methodLink RX0 47 yX0_isByTable ∈ zx_tb := zx_in2 (i := 223) rfl rfl
theorem wk_X0_51 : Cond.constant RX0 51 8388608 ∈ zx_tb := zx_in2 (i := 227) rfl rfl
theorem wm_X8_142 : Cond.methodLink RX8 142 yX2_codeMessage ∈ zx_tb := zx_in2 (i := 228) rfl rfl
theorem wm_X2_31 : Cond.methodLink RX2 31 yJ7_fill_53178 ∈ zx_tb := zx_in2 (i := 232) rfl rfl
theorem wm_X2_37 : Cond.methodLink RX2 37 yX7_begin ∈ zx_tb := zx_in2 (i := 233) rfl rfl
theorem wm_X7_15 : Cond.methodLink RX7 15 yJ7_fill_53178 ∈ zx_tb := zx_in2 (i := 237) rfl rfl
theorem wm_X2_46 : Cond.methodLink RX2 46 yJ9_min_7cf53 ∈ zx_tb := zx_in2 (i := 238) rfl rfl
theorem wm_X2_52 : Cond.methodLink RX2 52 yX0_turnOf ∈ zx_tb := zx_in2 (i := 239) rfl rfl
theorem wm_X2_56 : Cond.methodLink RX2 56 yX4_byteAt ∈ zx_tb := zx_in3 (i := 3) rfl rfl
theorem wm_X2_59 : Cond.methodLink RX2 59 yX0_advance ∈ zx_tb := zx_in3 (i := 4) rfl rfl
theorem wm_X0_52 : Cond.methodLink RX0 52 yX5_shareOf ∈ zx_tb := zx_in3 (i := 8) rfl rfl
theorem wl_X0_56 : Cond.constantLong RX0 56 2 ∈ zx_tb := zx_in3 (i := 13) rfl rfl
theorem wm_X0_58 : Cond.methodLink RX0 58 yX5_placeOf ∈ zx_tb := zx_in3 (i := 14) rfl rfl
theorem wm_X5_48 : Cond.methodLink RX5 48 yX5_startOf ∈ zx_tb := zx_in3 (i := 18) rfl rfl
theorem wm_X5_52 : Cond.methodLink RX5 52 yX5_shareOf ∈ zx_tb := zx_in3 (i := 22) rfl rfl
theorem wm_X0_62 : Cond.methodLink RX0 62 yX0_divided ∈ zx_tb := zx_in3 (i := 23) rfl rfl
theorem wm_X0_65 : Cond.methodLink RX0 65 yX5_startOf ∈ zx_tb := zx_in3 (i := 27) rfl rfl
theorem wm_X2_72 : Cond.methodLink RX2 72 yX7_addSymbol ∈ zx_tb := zx_in3 (i := 28) rfl rfl
theorem wm_X7_30 : Cond.methodLink RX7 30 yX7_meet ∈ zx_tb := zx_in3 (i := 32) rfl rfl
theorem wm_X7_21 : Cond.methodLink RX7 21 yJ9_min_7cf53 ∈ zx_tb := zx_in3 (i := 36) rfl rfl
theorem wm_X7_27 : Cond.methodLink RX7 27 yJ9_max_7cf53 ∈ zx_tb := zx_in3 (i := 37) rfl rfl
theorem wm_X2_78 : Cond.methodLink RX2 78 yX7_setBytes ∈ zx_tb := zx_in3 (i := 38) rfl rfl
theorem wm_X8_146 : Cond.methodLink RX8 146 yX2_writePacket ∈ zx_tb := zx_in3 (i := 42) rfl rfl
theorem wm_X2_81 : Cond.methodLink RX2 81 yX4_add ∈ zx_tb := zx_in3 (i := 46) rfl rfl
theorem wm_X2_101 : Cond.methodLink RX2 101 yX6_different ∈ zx_tb := zx_in3 (i := 47) rfl rfl
theorem wm_X2_105 : Cond.methodLink RX2 105 yX6_shareOf ∈ zx_tb := zx_in3 (i := 51) rfl rfl
theorem wm_X2_108 : Cond.methodLink RX2 108 yX4_addNumber ∈ zx_tb := zx_in3 (i := 52) rfl rfl
theorem wm_X2_114 : Cond.methodLink RX2 114 yX0_stateCount ∈ zx_tb := zx_in3 (i := 53) rfl rfl
theorem wm_X2_117 : Cond.methodLink RX2 117 yX0_stateBase ∈ zx_tb := zx_in3 (i := 57) rfl rfl
theorem wm_X2_120 : Cond.methodLink RX2 120 yX0_stateBytes ∈ zx_tb := zx_in3 (i := 61) rfl rfl
theorem wm_X2_123 : Cond.methodLink RX2 123 yX2_writePayload ∈ zx_tb := zx_in3 (i := 65) rfl rfl
theorem wm_X8_151 : Cond.methodLink RX8 151 yX7_copy ∈ zx_tb := zx_in3 (i := 69) rfl rfl
theorem wm_X7_34 : Cond.methodLink RX7 34 arraycopyName ∈ zx_tb := zx_in3 (i := 73) rfl rfl
theorem wm_L_53 : Cond.methodLink RL 53 yX8_unpack ∈ zx_tb := zx_in3 (i := 76) rfl rfl
theorem wm_X8_155 : Cond.methodLink RX8 155 yX1_readPacket ∈ zx_tb := zx_in3 (i := 80) rfl rfl
theorem wm_X1_75 : Cond.methodLink RX1 75 yX1_readHead ∈ zx_tb := zx_in3 (i := 84) rfl rfl
theorem wm_X1_129 : Cond.methodLink RX1 129 yX1_readNumber ∈ zx_tb := zx_in3 (i := 88) rfl rfl
theorem wm_X1_120 : Cond.methodLink RX1 120 yX1_byteCount ∈ zx_tb := zx_in3 (i := 92) rfl rfl
theorem wm_X1_124 : Cond.methodLink RX1 124 yX1_demand ∈ zx_tb := zx_in3 (i := 96) rfl rfl
theorem wm_X1_84 : Cond.methodLink RX1 84 yX1_isWhole ∈ zx_tb := zx_in3 (i := 100) rfl rfl
theorem wm_X1_128 : Cond.methodLink RX1 128 yX1_byteAt ∈ zx_tb := zx_in3 (i := 104) rfl rfl
theorem wm_X1_116 : Cond.methodLink RX1 116 yX4_byteAt ∈ zx_tb := zx_in3 (i := 108) rfl rfl
theorem wm_X1_144 : Cond.methodLink RX1 144 yX5_forget ∈ zx_tb := zx_in3 (i := 111) rfl rfl
theorem wm_X1_149 : Cond.methodLink RX1 149 yX6_clear ∈ zx_tb := zx_in3 (i := 112) rfl rfl
theorem wm_X1_78 : Cond.methodLink RX1 78 yX1_readShares ∈ zx_tb := zx_in3 (i := 113) rfl rfl
theorem wm_X1_152 : Cond.methodLink RX1 152 yX6_places ∈ zx_tb := zx_in3 (i := 117) rfl rfl
theorem wm_X1_155 : Cond.methodLink RX1 155 yX6_change ∈ zx_tb := zx_in3 (i := 118) rfl rfl
theorem wm_X1_81 : Cond.methodLink RX1 81 yX1_readSizes ∈ zx_tb := zx_in3 (i := 119) rfl rfl
theorem wm_X1_88 : Cond.methodLink RX1 88 yX0_prepare ∈ zx_tb := zx_in3 (i := 123) rfl rfl
theorem wm_X1_92 : Cond.methodLink RX1 92 yX1_readStates ∈ zx_tb := zx_in3 (i := 124) rfl rfl
theorem wm_X1_159 : Cond.methodLink RX1 159 yX0_stateCount ∈ zx_tb := zx_in3 (i := 128) rfl rfl
theorem wm_X1_162 : Cond.methodLink RX1 162 yX0_stateBase ∈ zx_tb := zx_in3 (i := 129) rfl rfl
theorem wm_X1_165 : Cond.methodLink RX1 165 yX0_stateBytes ∈ zx_tb := zx_in3 (i := 130) rfl rfl
theorem wm_X1_168 : Cond.methodLink RX1 168 yX0_isState ∈ zx_tb := zx_in3 (i := 131) rfl rfl
theorem wm_X1_95 : Cond.methodLink RX1 95 yX1_findPayload ∈ zx_tb := zx_in3 (i := 135) rfl rfl
theorem wm_X1_98 : Cond.methodLink RX1 98 yX1_readMessage ∈ zx_tb := zx_in3 (i := 139) rfl rfl
theorem wm_X1_171 : Cond.methodLink RX1 171 yX7_begin ∈ zx_tb := zx_in3 (i := 143) rfl rfl
theorem wm_X1_174 : Cond.methodLink RX1 174 yX7_meet ∈ zx_tb := zx_in3 (i := 144) rfl rfl
theorem wm_X1_177 : Cond.methodLink RX1 177 yX1_readSymbol ∈ zx_tb := zx_in3 (i := 145) rfl rfl
theorem wm_X1_186 : Cond.methodLink RX1 186 yX0_turnOf ∈ zx_tb := zx_in3 (i := 149) rfl rfl
theorem wm_X1_189 : Cond.methodLink RX1 189 yX0_symbolOf ∈ zx_tb := zx_in3 (i := 150) rfl rfl
theorem wm_X0_68 : Cond.methodLink RX0 68 yX0_placeOfState ∈ zx_tb := zx_in3 (i := 154) rfl rfl
theorem wm_X0_71 : Cond.methodLink RX0 71 yX5_symbolAt ∈ zx_tb := zx_in3 (i := 158) rfl rfl
theorem wm_X1_192 : Cond.methodLink RX1 192 yX0_behindSymbol ∈ zx_tb := zx_in3 (i := 159) rfl rfl
theorem wm_X0_74 : Cond.methodLink RX0 74 yX5_rankAt ∈ zx_tb := zx_in3 (i := 163) rfl rfl
theorem wm_X0_77 : Cond.methodLink RX0 77 yX0_symbolOf ∈ zx_tb := zx_in3 (i := 164) rfl rfl
theorem wm_X1_198 : Cond.methodLink RX1 198 yX1_readUnit ∈ zx_tb := zx_in3 (i := 165) rfl rfl
theorem wm_X1_201 : Cond.methodLink RX1 201 yX7_addSymbol ∈ zx_tb := zx_in3 (i := 169) rfl rfl
theorem wm_X1_183 : Cond.methodLink RX1 183 yX7_setBytes ∈ zx_tb := zx_in3 (i := 170) rfl rfl
theorem wm_X1_101 : Cond.methodLink RX1 101 yX1_checkPayloadEnd ∈ zx_tb := zx_in3 (i := 171) rfl rfl
theorem wm_X1_104 : Cond.methodLink RX1 104 yX1_checkStates ∈ zx_tb := zx_in3 (i := 175) rfl rfl
theorem wm_X8_159 : Cond.methodLink RX8 159 yX1_exchangeTable ∈ zx_tb := zx_in3 (i := 179) rfl rfl
theorem wm_X8_163 : Cond.methodLink RX8 163 yX1_writeMessage ∈ zx_tb := zx_in3 (i := 183) rfl rfl
theorem wm_X1_112 : Cond.methodLink RX1 112 yX4_add ∈ zx_tb := zx_in3 (i := 187) rfl rfl
theorem wm_L_57 : Cond.methodLink RL 57 yX8_fault ∈ zx_tb := zx_in3 (i := 188) rfl rfl
theorem wm_L_61 : Cond.methodLink RL 61 yX8_written ∈ zx_tb := zx_in3 (i := 192) rfl rfl
theorem wm_L_65 : Cond.methodLink RL 65 yX8_take ∈ zx_tb := zx_in3 (i := 196) rfl rfl
theorem wm_X8_177 : Cond.methodLink RX8 177 yX4_copy ∈ zx_tb := zx_in3 (i := 200) rfl rfl
theorem wm_X4_23 : Cond.methodLink RX4 23 arraycopyName ∈ zx_tb := zx_in3 (i := 204) rfl rfl
theorem wm_L_70 : Cond.methodLink RL 70 yX8_ideal ∈ zx_tb := zx_in3 (i := 205) rfl rfl
theorem wm_X8_179 : Cond.methodLink RX8 179 yX3_clear ∈ zx_tb := zx_in3 (i := 209) rfl rfl
theorem wm_X8_182 : Cond.methodLink RX8 182 yX3_times ∈ zx_tb := zx_in3 (i := 213) rfl rfl
theorem wl_X3_22 : Cond.constantLong RX3 22 1073741823 ∈ zx_tb := zx_in3 (i := 217) rfl rfl
theorem wm_X3_24 : Cond.methodLink RX3 24 yX3_multiply ∈ zx_tb := zx_in3 (i := 218) rfl rfl
theorem wm_X8_186 : Cond.methodLink RX8 186 yX3_highestBit ∈ zx_tb := zx_in3 (i := 222) rfl rfl
theorem wm_X3_27 : Cond.methodLink RX3 27 yJ6_numberOfLeadingZeros_0f7a4 ∈ zx_tb := zx_in3 (i := 226) rfl rfl
theorem wk_J6_264 : Cond.constant RJ6 264 65536 ∈ zx_tb := zx_in3 (i := 229) rfl rfl
theorem wm_L_74 : Cond.methodLink RL 74 yX8_code ∈ zx_tb := zx_in3 (i := 230) rfl rfl
theorem wm_X8_189 : Cond.methodLink RX8 189 yX8_prepareForState ∈ zx_tb := zx_in3 (i := 234) rfl rfl
theorem wm_X8_235 : Cond.methodLink RX8 235 yX0_isState ∈ zx_tb := zx_in3 (i := 238) rfl rfl
theorem wm_X8_193 : Cond.methodLink RX8 193 yX5_shareOf ∈ zx_tb := zx_in3 (i := 239) rfl rfl
theorem wm_X8_194 : Cond.methodLink RX8 194 yX0_advance ∈ zx_tb := zx_in4 (i := 0) rfl rfl
theorem wm_L_78 : Cond.methodLink RL 78 yX8_gone ∈ zx_tb := zx_in4 (i := 1) rfl rfl
theorem wm_L_82 : Cond.methodLink RL 82 yX8_symbol ∈ zx_tb := zx_in4 (i := 5) rfl rfl
theorem wm_X8_206 : Cond.methodLink RX8 206 yX0_symbolOf ∈ zx_tb := zx_in4 (i := 9) rfl rfl
theorem wm_L_87 : Cond.methodLink RL 87 yX8_left ∈ zx_tb := zx_in4 (i := 10) rfl rfl
theorem wm_X8_209 : Cond.methodLink RX8 209 yX0_behindSymbol ∈ zx_tb := zx_in4 (i := 14) rfl rfl
theorem wm_L_91 : Cond.methodLink RL 91 yX8_look ∈ zx_tb := zx_in4 (i := 15) rfl rfl
theorem wm_X8_212 : Cond.methodLink RX8 212 yX7_figure ∈ zx_tb := zx_in4 (i := 19) rfl rfl
theorem wm_L_12 : Cond.methodLink RL 12 yX9_init ∈ zx_tb := zx_in4 (i := 25) rfl rfl
theorem wm_X9_1 : Cond.methodLink RX9 1 objectInit ∈ zx_tb := zx_in4 (i := 28) rfl rfl
theorem wk_X9_29 : Cond.constant RX9 29 86016 ∈ zx_tb := zx_in4 (i := 29) rfl rfl
theorem wf_X9_7 : Cond.fieldLink RX9 7 (TX9 0).1 (TX9 0).2.1 (TX9 0).2.2.1 ∈ zx_tb := zx_in4 (i := 30) rfl rfl
theorem wf_X9_70 : Cond.fieldLink RX9 70 (TX9 1).1 (TX9 1).2.1 (TX9 1).2.2.1 ∈ zx_tb := zx_in4 (i := 31) rfl rfl
theorem wf_X9_13 : Cond.fieldLink RX9 13 (TX9 2).1 (TX9 2).2.1 (TX9 2).2.2.1 ∈ zx_tb := zx_in4 (i := 32) rfl rfl
theorem wf_X9_73 : Cond.fieldLink RX9 73 (TX9 3).1 (TX9 3).2.1 (TX9 3).2.2.1 ∈ zx_tb := zx_in4 (i := 33) rfl rfl
theorem wf_X9_16 : Cond.fieldLink RX9 16 (TX9 4).1 (TX9 4).2.1 (TX9 4).2.2.1 ∈ zx_tb := zx_in4 (i := 34) rfl rfl
theorem wf_X9_19 : Cond.fieldLink RX9 19 (TX9 5).1 (TX9 5).2.1 (TX9 5).2.2.1 ∈ zx_tb := zx_in4 (i := 35) rfl rfl
theorem wf_X9_22 : Cond.fieldLink RX9 22 (TX9 6).1 (TX9 6).2.1 (TX9 6).2.2.1 ∈ zx_tb := zx_in4 (i := 36) rfl rfl
theorem wf_X9_25 : Cond.fieldLink RX9 25 (TX9 7).1 (TX9 7).2.1 (TX9 7).2.2.1 ∈ zx_tb := zx_in4 (i := 37) rfl rfl
theorem wf_X9_30 : Cond.fieldLink RX9 30 (TX9 8).1 (TX9 8).2.1 (TX9 8).2.2.1 ∈ zx_tb := zx_in4 (i := 38) rfl rfl
theorem wf_X9_33 : Cond.fieldLink RX9 33 (TX9 9).1 (TX9 9).2.1 (TX9 9).2.2.1 ∈ zx_tb := zx_in4 (i := 39) rfl rfl
theorem wf_X9_36 : Cond.fieldLink RX9 36 (TX9 10).1 (TX9 10).2.1 (TX9 10).2.2.1 ∈ zx_tb := zx_in4 (i := 40) rfl rfl
theorem wf_X9_39 : Cond.fieldLink RX9 39 (TX9 11).1 (TX9 11).2.1 (TX9 11).2.2.1 ∈ zx_tb := zx_in4 (i := 41) rfl rfl
theorem wf_X9_42 : Cond.fieldLink RX9 42 (TX9 12).1 (TX9 12).2.1 (TX9 12).2.2.1 ∈ zx_tb := zx_in4 (i := 42) rfl rfl
theorem wf_X9_92 : Cond.fieldLink RX9 92 (TX9 13).1 (TX9 13).2.1 (TX9 13).2.2.1 ∈ zx_tb := zx_in4 (i := 43) rfl rfl
theorem wf_X9_45 : Cond.fieldLink RX9 45 (TX9 14).1 (TX9 14).2.1 (TX9 14).2.2.1 ∈ zx_tb := zx_in4 (i := 44) rfl rfl
theorem wf_X9_48 : Cond.fieldLink RX9 48 (TX9 15).1 (TX9 15).2.1 (TX9 15).2.2.1 ∈ zx_tb := zx_in4 (i := 45) rfl rfl
theorem wf_X9_170 : Cond.fieldLink RX9 170 (TX9 16).1 (TX9 16).2.1 (TX9 16).2.2.1 ∈ zx_tb := zx_in4 (i := 46) rfl rfl
theorem wf_X9_51 : Cond.fieldLink RX9 51 (TX9 17).1 (TX9 17).2.1 (TX9 17).2.2.1 ∈ zx_tb := zx_in4 (i := 47) rfl rfl
theorem wf_X9_134 : Cond.fieldLink RX9 134 (TX9 18).1 (TX9 18).2.1 (TX9 18).2.2.1 ∈ zx_tb := zx_in4 (i := 48) rfl rfl
theorem wf_X9_137 : Cond.fieldLink RX9 137 (TX9 19).1 (TX9 19).2.1 (TX9 19).2.2.1 ∈ zx_tb := zx_in4 (i := 49) rfl rfl
theorem wf_X9_109 : Cond.fieldLink RX9 109 (TX9 20).1 (TX9 20).2.1 (TX9 20).2.2.1 ∈ zx_tb := zx_in4 (i := 50) rfl rfl
theorem wf_X9_112 : Cond.fieldLink RX9 112 (TX9 21).1 (TX9 21).2.1 (TX9 21).2.2.1 ∈ zx_tb := zx_in4 (i := 51) rfl rfl
theorem wf_X9_115 : Cond.fieldLink RX9 115 (TX9 22).1 (TX9 22).2.1 (TX9 22).2.2.1 ∈ zx_tb := zx_in4 (i := 52) rfl rfl
theorem wf_X9_55 : Cond.fieldLink RX9 55 (TX9 23).1 (TX9 23).2.1 (TX9 23).2.2.1 ∈ zx_tb := zx_in4 (i := 53) rfl rfl
theorem wf_X9_58 : Cond.fieldLink RX9 58 (TX9 24).1 (TX9 24).2.1 (TX9 24).2.2.1 ∈ zx_tb := zx_in4 (i := 54) rfl rfl
theorem wf_X9_61 : Cond.fieldLink RX9 61 (TX9 25).1 (TX9 25).2.1 (TX9 25).2.2.1 ∈ zx_tb := zx_in4 (i := 55) rfl rfl
theorem wf_X9_64 : Cond.fieldLink RX9 64 (TX9 26).1 (TX9 26).2.1 (TX9 26).2.2.1 ∈ zx_tb := zx_in4 (i := 56) rfl rfl
theorem wf_X9_173 : Cond.fieldLink RX9 173 (TX9 27).1 (TX9 27).2.1 (TX9 27).2.2.1 ∈ zx_tb := zx_in4 (i := 57) rfl rfl
theorem wf_X9_187 : Cond.fieldLink RX9 187 (TX9 28).1 (TX9 28).2.1 (TX9 28).2.2.1 ∈ zx_tb := zx_in4 (i := 58) rfl rfl
theorem wf_X9_190 : Cond.fieldLink RX9 190 (TX9 29).1 (TX9 29).2.1 (TX9 29).2.2.1 ∈ zx_tb := zx_in4 (i := 59) rfl rfl
theorem wf_X9_201 : Cond.fieldLink RX9 201 (TX9 30).1 (TX9 30).2.1 (TX9 30).2.2.1 ∈ zx_tb := zx_in4 (i := 60) rfl rfl
theorem wf_X9_214 : Cond.fieldLink RX9 214 (TX9 31).1 (TX9 31).2.1 (TX9 31).2.2.1 ∈ zx_tb := zx_in4 (i := 61) rfl rfl
theorem wf_X9_204 : Cond.fieldLink RX9 204 (TX9 32).1 (TX9 32).2.1 (TX9 32).2.2.1 ∈ zx_tb := zx_in4 (i := 62) rfl rfl
theorem wf_X9_207 : Cond.fieldLink RX9 207 (TX9 33).1 (TX9 33).2.1 (TX9 33).2.2.1 ∈ zx_tb := zx_in4 (i := 63) rfl rfl
theorem wf_X9_67 : Cond.fieldLink RX9 67 (TX9 34).1 (TX9 34).2.1 (TX9 34).2.2.1 ∈ zx_tb := zx_in4 (i := 64) rfl rfl
theorem wm_L_17 : Cond.methodLink RL 17 yX9_feed ∈ zx_tb := zx_in4 (i := 137) rfl rfl
theorem wm_L_22 : Cond.methodLink RL 22 yX9_end ∈ zx_tb := zx_in4 (i := 141) rfl rfl
theorem wm_L_69 : Cond.methodLink RL 69 yX9_take ∈ zx_tb := zx_in4 (i := 145) rfl rfl
theorem wm_L_64 : Cond.methodLink RL 64 yX9_written ∈ zx_tb := zx_in4 (i := 149) rfl rfl
theorem wm_L_27 : Cond.methodLink RL 27 yX9_learn ∈ zx_tb := zx_in4 (i := 153) rfl rfl
theorem wm_X9_76 : Cond.methodLink RX9 76 yX9_lack ∈ zx_tb := zx_in4 (i := 157) rfl rfl
theorem wm_X9_80 : Cond.methodLink RX9 80 yX9_begin ∈ zx_tb := zx_in4 (i := 161) rfl rfl
theorem wm_L_31 : Cond.methodLink RL 31 yX9_log ∈ zx_tb := zx_in4 (i := 165) rfl rfl
theorem wm_X9_84 : Cond.methodLink RX9 84 yX9_isTable ∈ zx_tb := zx_in4 (i := 169) rfl rfl
theorem wm_L_35 : Cond.methodLink RL 35 yX9_share ∈ zx_tb := zx_in4 (i := 173) rfl rfl
theorem wm_L_39 : Cond.methodLink RL 39 yX9_start ∈ zx_tb := zx_in4 (i := 177) rfl rfl
theorem wm_L_44 : Cond.methodLink RL 44 yX9_place ∈ zx_tb := zx_in4 (i := 181) rfl rfl
theorem wm_X9_103 : Cond.methodLink RX9 103 yX9_isPlace ∈ zx_tb := zx_in4 (i := 185) rfl rfl
theorem wm_X9_106 : Cond.methodLink RX9 106 yX9_lay ∈ zx_tb := zx_in4 (i := 189) rfl rfl
theorem wm_X9_88 : Cond.methodLink RX9 88 yX9_even ∈ zx_tb := zx_in4 (i := 193) rfl rfl
theorem wm_X9_99 : Cond.methodLink RX9 99 yX9_sink ∈ zx_tb := zx_in4 (i := 197) rfl rfl
theorem wm_X9_95 : Cond.methodLink RX9 95 yX9_isAhead ∈ zx_tb := zx_in4 (i := 201) rfl rfl
theorem wm_L_48 : Cond.methodLink RL 48 yX9_rank ∈ zx_tb := zx_in4 (i := 205) rfl rfl
theorem wm_L_77 : Cond.methodLink RL 77 yX9_code ∈ zx_tb := zx_in4 (i := 209) rfl rfl
theorem wm_X9_126 : Cond.methodLink RX9 126 yX9_isAsked ∈ zx_tb := zx_in4 (i := 213) rfl rfl
theorem wm_X9_119 : Cond.methodLink RX9 119 yX9_isWay ∈ zx_tb := zx_in4 (i := 217) rfl rfl
theorem wm_X9_123 : Cond.methodLink RX9 123 yX9_isState ∈ zx_tb := zx_in4 (i := 220) rfl rfl
theorem wk_X9_118 : Cond.constant RX9 118 8388608 ∈ zx_tb := zx_in4 (i := 224) rfl rfl
theorem wm_X9_130 : Cond.methodLink RX9 130 yX9_step ∈ zx_tb := zx_in4 (i := 225) rfl rfl
theorem wm_L_81 : Cond.methodLink RL 81 yX9_gone ∈ zx_tb := zx_in4 (i := 229) rfl rfl
theorem wm_L_86 : Cond.methodLink RL 86 yX9_symbol ∈ zx_tb := zx_in4 (i := 233) rfl rfl
theorem wm_X9_140 : Cond.methodLink RX9 140 yX9_told ∈ zx_tb := zx_in4 (i := 237) rfl rfl
theorem wm_L_90 : Cond.methodLink RL 90 yX9_left ∈ zx_tb := zx_in5 (i := 1) rfl rfl
theorem wm_X9_144 : Cond.methodLink RX9 144 yX9_behind ∈ zx_tb := zx_in5 (i := 5) rfl rfl
theorem wm_L_52 : Cond.methodLink RL 52 yX9_pack ∈ zx_tb := zx_in5 (i := 9) rfl rfl
theorem wm_X9_149 : Cond.methodLink RX9 149 yX9_refusal ∈ zx_tb := zx_in5 (i := 13) rfl rfl
theorem wm_X9_153 : Cond.methodLink RX9 153 yX9_meetsNone ∈ zx_tb := zx_in5 (i := 17) rfl rfl
theorem wk_X9_148 : Cond.constant RX9 148 2147483647 ∈ zx_tb := zx_in5 (i := 21) rfl rfl
theorem wm_X9_156 : Cond.methodLink RX9 156 yX9_firstOf ∈ zx_tb := zx_in5 (i := 22) rfl rfl
theorem wm_X9_160 : Cond.methodLink RX9 160 yX9_meets ∈ zx_tb := zx_in5 (i := 26) rfl rfl
theorem wm_X9_163 : Cond.methodLink RX9 163 yX9_put ∈ zx_tb := zx_in5 (i := 30) rfl rfl
theorem wm_X9_166 : Cond.methodLink RX9 166 yX9_tells ∈ zx_tb := zx_in5 (i := 34) rfl rfl
theorem wm_L_73 : Cond.methodLink RL 73 yX9_ideal ∈ zx_tb := zx_in5 (i := 38) rfl rfl
theorem wk_X9_169 : Cond.constant RX9 169 65535 ∈ zx_tb := zx_in5 (i := 42) rfl rfl
theorem wm_L_94 : Cond.methodLink RL 94 yX9_look ∈ zx_tb := zx_in5 (i := 43) rfl rfl
theorem wm_L_56 : Cond.methodLink RL 56 yX9_unpack ∈ zx_tb := zx_in5 (i := 47) rfl rfl
theorem wm_X9_220 : Cond.methodLink RX9 220 yX9_reads ∈ zx_tb := zx_in5 (i := 51) rfl rfl
theorem wm_X9_181 : Cond.methodLink RX9 181 yX9_number ∈ zx_tb := zx_in5 (i := 55) rfl rfl
theorem wm_X9_176 : Cond.methodLink RX9 176 yX9_fails ∈ zx_tb := zx_in5 (i := 59) rfl rfl
theorem wl_X9_179 : Cond.constantLong RX9 179 (-1) ∈ zx_tb := zx_in5 (i := 63) rfl rfl
theorem wl_X9_185 : Cond.constantLong RX9 185 83 ∈ zx_tb := zx_in5 (i := 64) rfl rfl
theorem wl_X9_193 : Cond.constantLong RX9 193 12 ∈ zx_tb := zx_in5 (i := 65) rfl rfl
theorem wm_X9_195 : Cond.methodLink RX9 195 yX9_readsShares ∈ zx_tb := zx_in5 (i := 66) rfl rfl
theorem wl_X9_199 : Cond.constantLong RX9 199 1400 ∈ zx_tb := zx_in5 (i := 70) rfl rfl
theorem wl_X9_210 : Cond.constantLong RX9 210 8388608 ∈ zx_tb := zx_in5 (i := 71) rfl rfl
theorem wl_X9_212 : Cond.constantLong RX9 212 2147483647 ∈ zx_tb := zx_in5 (i := 72) rfl rfl
theorem wm_X9_217 : Cond.methodLink RX9 217 yX9_readsMessage ∈ zx_tb := zx_in5 (i := 73) rfl rfl
theorem wm_L_60 : Cond.methodLink RL 60 yX9_fault ∈ zx_tb := zx_in5 (i := 77) rfl rfl
theorem wc_X0_init : Cond.code yX0_init cX0_init 1 none ∈ zx_tb := zx_in1 (i := 52) rfl rfl
theorem wi_X0_init : Cond.instanceMethod yX0_init ∈ zx_tb := zx_in1 (i := 51) rfl rfl
theorem wc_X0_prepare : Cond.code yX0_prepare cX0_prepare 4 none ∈ zx_tb := zx_in2 (i := 221) rfl rfl
theorem wi_X0_prepare : Cond.instanceMethod yX0_prepare ∈ zx_tb := zx_in2 (i := 219) rfl rfl
theorem ws_X0_prepare : Cond.selects RX0 yX0_prepare yX0_prepare ∈ zx_tb := zx_in2 (i := 220) rfl rfl
theorem wc_X0_isByTable : Cond.code yX0_isByTable cX0_isByTable 1 (some (.boolean)) ∈ zx_tb := zx_in2 (i := 226) rfl rfl
theorem wi_X0_isByTable : Cond.instanceMethod yX0_isByTable ∈ zx_tb := zx_in2 (i := 224) rfl rfl
theorem ws_X0_isByTable : Cond.selects RX0 yX0_isByTable yX0_isByTable ∈ zx_tb := zx_in2 (i := 225) rfl rfl
theorem wc_X0_stateCount : Cond.code yX0_stateCount cX0_stateCount 1 (some (.int)) ∈ zx_tb := zx_in3 (i := 56) rfl rfl
theorem wi_X0_stateCount : Cond.instanceMethod yX0_stateCount ∈ zx_tb := zx_in3 (i := 54) rfl rfl
theorem ws_X0_stateCount : Cond.selects RX0 yX0_stateCount yX0_stateCount ∈ zx_tb := zx_in3 (i := 55) rfl rfl
theorem wc_X0_stateBytes : Cond.code yX0_stateBytes cX0_stateBytes 1 (some (.int)) ∈ zx_tb := zx_in3 (i := 64) rfl rfl
theorem wi_X0_stateBytes : Cond.instanceMethod yX0_stateBytes ∈ zx_tb := zx_in3 (i := 62) rfl rfl
theorem ws_X0_stateBytes : Cond.selects RX0 yX0_stateBytes yX0_stateBytes ∈ zx_tb := zx_in3 (i := 63) rfl rfl
theorem wc_X0_stateBase : Cond.code yX0_stateBase cX0_stateBase 1 (some (.int)) ∈ zx_tb := zx_in3 (i := 60) rfl rfl
theorem wi_X0_stateBase : Cond.instanceMethod yX0_stateBase ∈ zx_tb := zx_in3 (i := 58) rfl rfl
theorem ws_X0_stateBase : Cond.selects RX0 yX0_stateBase yX0_stateBase ∈ zx_tb := zx_in3 (i := 59) rfl rfl
theorem wc_X0_turnOf : Cond.code yX0_turnOf cX0_turnOf 2 (some (.int)) ∈ zx_tb := zx_in3 (i := 2) rfl rfl
theorem wi_X0_turnOf : Cond.instanceMethod yX0_turnOf ∈ zx_tb := zx_in3 (i := 0) rfl rfl
theorem ws_X0_turnOf : Cond.selects RX0 yX0_turnOf yX0_turnOf ∈ zx_tb := zx_in3 (i := 1) rfl rfl
theorem wc_X0_isState : Cond.code yX0_isState cX0_isState 2 (some (.boolean)) ∈ zx_tb := zx_in3 (i := 134) rfl rfl
theorem wi_X0_isState : Cond.instanceMethod yX0_isState ∈ zx_tb := zx_in3 (i := 132) rfl rfl
theorem ws_X0_isState : Cond.selects RX0 yX0_isState yX0_isState ∈ zx_tb := zx_in3 (i := 133) rfl rfl
theorem wc_X0_advance : Cond.code yX0_advance cX0_advance 9 none ∈ zx_tb := zx_in3 (i := 7) rfl rfl
theorem wi_X0_advance : Cond.instanceMethod yX0_advance ∈ zx_tb := zx_in3 (i := 5) rfl rfl
theorem ws_X0_advance : Cond.selects RX0 yX0_advance yX0_advance ∈ zx_tb := zx_in3 (i := 6) rfl rfl
theorem wc_X0_divided : Cond.code yX0_divided cX0_divided 4 (some (.int)) ∈ zx_tb := zx_in3 (i := 26) rfl rfl
theorem wi_X0_divided : Cond.instanceMethod yX0_divided ∈ zx_tb := zx_in3 (i := 25) rfl rfl
theorem ws_X0_divided : Cond.selects RX0 yX0_divided yX0_divided ∈ zx_tb := zx_ip1 (q := (yX0_divided, 8)) (i := 13) rfl rfl
theorem wc_X0_symbolOf : Cond.code yX0_symbolOf cX0_symbolOf 2 (some (.int)) ∈ zx_tb := zx_in3 (i := 153) rfl rfl
theorem wi_X0_symbolOf : Cond.instanceMethod yX0_symbolOf ∈ zx_tb := zx_in3 (i := 151) rfl rfl
theorem ws_X0_symbolOf : Cond.selects RX0 yX0_symbolOf yX0_symbolOf ∈ zx_tb := zx_in3 (i := 152) rfl rfl
theorem wc_X0_behindSymbol : Cond.code yX0_behindSymbol cX0_behindSymbol 3 (some (.int)) ∈ zx_tb := zx_in3 (i := 162) rfl rfl
theorem wi_X0_behindSymbol : Cond.instanceMethod yX0_behindSymbol ∈ zx_tb := zx_in3 (i := 160) rfl rfl
theorem ws_X0_behindSymbol : Cond.selects RX0 yX0_behindSymbol yX0_behindSymbol ∈ zx_tb := zx_in3 (i := 161) rfl rfl
theorem wc_X0_placeOfState : Cond.code yX0_placeOfState cX0_placeOfState 2 (some (.int)) ∈ zx_tb := zx_in3 (i := 157) rfl rfl
theorem wi_X0_placeOfState : Cond.instanceMethod yX0_placeOfState ∈ zx_tb := zx_in3 (i := 156) rfl rfl
theorem ws_X0_placeOfState : Cond.selects RX0 yX0_placeOfState yX0_placeOfState ∈ zx_tb := zx_ip2 (q := (yX0_placeOfState, 8)) (i := 11) rfl rfl
theorem wc_X1_init : Cond.code yX1_init cX1_init 1 none ∈ zx_tb := zx_in1 (i := 46) rfl rfl
theorem wi_X1_init : Cond.instanceMethod yX1_init ∈ zx_tb := zx_in1 (i := 45) rfl rfl
theorem wc_X1_readPacket : Cond.code yX1_readPacket cX1_readPacket 2 (some (.boolean)) ∈ zx_tb := zx_in3 (i := 83) rfl rfl
theorem wi_X1_readPacket : Cond.instanceMethod yX1_readPacket ∈ zx_tb := zx_in3 (i := 81) rfl rfl
theorem ws_X1_readPacket : Cond.selects RX1 yX1_readPacket yX1_readPacket ∈ zx_tb := zx_in3 (i := 82) rfl rfl
theorem wc_X1_exchangeTable : Cond.code yX1_exchangeTable cX1_exchangeTable 3 (some (.object "ShareCoder$Table")) ∈ zx_tb := zx_in3 (i := 182) rfl rfl
theorem wi_X1_exchangeTable : Cond.instanceMethod yX1_exchangeTable ∈ zx_tb := zx_in3 (i := 180) rfl rfl
theorem ws_X1_exchangeTable : Cond.selects RX1 yX1_exchangeTable yX1_exchangeTable ∈ zx_tb := zx_in3 (i := 181) rfl rfl
theorem wc_X1_writeMessage : Cond.code yX1_writeMessage cX1_writeMessage 3 none ∈ zx_tb := zx_in3 (i := 186) rfl rfl
theorem wi_X1_writeMessage : Cond.instanceMethod yX1_writeMessage ∈ zx_tb := zx_in3 (i := 184) rfl rfl
theorem ws_X1_writeMessage : Cond.selects RX1 yX1_writeMessage yX1_writeMessage ∈ zx_tb := zx_in3 (i := 185) rfl rfl
theorem wc_X1_isWhole : Cond.code yX1_isWhole cX1_isWhole 1 (some (.boolean)) ∈ zx_tb := zx_in3 (i := 103) rfl rfl
theorem wi_X1_isWhole : Cond.instanceMethod yX1_isWhole ∈ zx_tb := zx_in3 (i := 102) rfl rfl
theorem ws_X1_isWhole : Cond.selects RX1 yX1_isWhole yX1_isWhole ∈ zx_tb := zx_ip2 (q := (yX1_isWhole, 16)) (i := 3) rfl rfl
theorem wc_X1_demand : Cond.code yX1_demand cX1_demand 4 none ∈ zx_tb := zx_in3 (i := 99) rfl rfl
theorem wi_X1_demand : Cond.instanceMethod yX1_demand ∈ zx_tb := zx_in3 (i := 98) rfl rfl
theorem ws_X1_demand : Cond.selects RX1 yX1_demand yX1_demand ∈ zx_tb := zx_ip2 (q := (yX1_demand, 16)) (i := 2) rfl rfl
theorem wc_X1_byteCount : Cond.code yX1_byteCount cX1_byteCount 1 (some (.int)) ∈ zx_tb := zx_in3 (i := 95) rfl rfl
theorem wi_X1_byteCount : Cond.instanceMethod yX1_byteCount ∈ zx_tb := zx_in3 (i := 94) rfl rfl
theorem ws_X1_byteCount : Cond.selects RX1 yX1_byteCount yX1_byteCount ∈ zx_tb := zx_ip2 (q := (yX1_byteCount, 16)) (i := 1) rfl rfl
theorem wc_X1_byteAt : Cond.code yX1_byteAt cX1_byteAt 2 (some (.int)) ∈ zx_tb := zx_in3 (i := 107) rfl rfl
theorem wi_X1_byteAt : Cond.instanceMethod yX1_byteAt ∈ zx_tb := zx_in3 (i := 106) rfl rfl
theorem ws_X1_byteAt : Cond.selects RX1 yX1_byteAt yX1_byteAt ∈ zx_tb := zx_ip2 (q := (yX1_byteAt, 16)) (i := 4) rfl rfl
theorem wc_X1_readNumber : Cond.code yX1_readNumber cX1_readNumber 4 (some (.int)) ∈ zx_tb := zx_in3 (i := 91) rfl rfl
theorem wi_X1_readNumber : Cond.instanceMethod yX1_readNumber ∈ zx_tb := zx_in3 (i := 90) rfl rfl
theorem ws_X1_readNumber : Cond.selects RX1 yX1_readNumber yX1_readNumber ∈ zx_tb := zx_ip2 (q := (yX1_readNumber, 16)) (i := 0) rfl rfl
theorem wc_X1_readHead : Cond.code yX1_readHead cX1_readHead 3 none ∈ zx_tb := zx_in3 (i := 87) rfl rfl
theorem wi_X1_readHead : Cond.instanceMethod yX1_readHead ∈ zx_tb := zx_in3 (i := 86) rfl rfl
theorem ws_X1_readHead : Cond.selects RX1 yX1_readHead yX1_readHead ∈ zx_tb := zx_ip1 (q := (yX1_readHead, 16)) (i := 15) rfl rfl
theorem wc_X1_readShares : Cond.code yX1_readShares cX1_readShares 9 none ∈ zx_tb := zx_in3 (i := 116) rfl rfl
theorem wi_X1_readShares : Cond.instanceMethod yX1_readShares ∈ zx_tb := zx_in3 (i := 115) rfl rfl
theorem ws_X1_readShares : Cond.selects RX1 yX1_readShares yX1_readShares ∈ zx_tb := zx_ip2 (q := (yX1_readShares, 16)) (i := 5) rfl rfl
theorem wc_X1_readSizes : Cond.code yX1_readSizes cX1_readSizes 2 none ∈ zx_tb := zx_in3 (i := 122) rfl rfl
theorem wi_X1_readSizes : Cond.instanceMethod yX1_readSizes ∈ zx_tb := zx_in3 (i := 121) rfl rfl
theorem ws_X1_readSizes : Cond.selects RX1 yX1_readSizes yX1_readSizes ∈ zx_tb := zx_ip2 (q := (yX1_readSizes, 16)) (i := 6) rfl rfl
theorem wc_X1_readStates : Cond.code yX1_readStates cX1_readStates 3 none ∈ zx_tb := zx_in3 (i := 127) rfl rfl
theorem wi_X1_readStates : Cond.instanceMethod yX1_readStates ∈ zx_tb := zx_in3 (i := 126) rfl rfl
theorem ws_X1_readStates : Cond.selects RX1 yX1_readStates yX1_readStates ∈ zx_tb := zx_ip2 (q := (yX1_readStates, 16)) (i := 7) rfl rfl
theorem wc_X1_findPayload : Cond.code yX1_findPayload cX1_findPayload 1 none ∈ zx_tb := zx_in3 (i := 138) rfl rfl
theorem wi_X1_findPayload : Cond.instanceMethod yX1_findPayload ∈ zx_tb := zx_in3 (i := 137) rfl rfl
theorem ws_X1_findPayload : Cond.selects RX1 yX1_findPayload yX1_findPayload ∈ zx_tb := zx_ip2 (q := (yX1_findPayload, 16)) (i := 8) rfl rfl
theorem wc_X1_readMessage : Cond.code yX1_readMessage cX1_readMessage 2 none ∈ zx_tb := zx_in3 (i := 142) rfl rfl
theorem wi_X1_readMessage : Cond.instanceMethod yX1_readMessage ∈ zx_tb := zx_in3 (i := 141) rfl rfl
theorem ws_X1_readMessage : Cond.selects RX1 yX1_readMessage yX1_readMessage ∈ zx_tb := zx_ip2 (q := (yX1_readMessage, 16)) (i := 9) rfl rfl
theorem wc_X1_readSymbol : Cond.code yX1_readSymbol cX1_readSymbol 6 none ∈ zx_tb := zx_in3 (i := 148) rfl rfl
theorem wi_X1_readSymbol : Cond.instanceMethod yX1_readSymbol ∈ zx_tb := zx_in3 (i := 147) rfl rfl
theorem ws_X1_readSymbol : Cond.selects RX1 yX1_readSymbol yX1_readSymbol ∈ zx_tb := zx_ip2 (q := (yX1_readSymbol, 16)) (i := 10) rfl rfl
theorem wc_X1_readUnit : Cond.code yX1_readUnit cX1_readUnit 4 (some (.int)) ∈ zx_tb := zx_in3 (i := 168) rfl rfl
theorem wi_X1_readUnit : Cond.instanceMethod yX1_readUnit ∈ zx_tb := zx_in3 (i := 167) rfl rfl
theorem ws_X1_readUnit : Cond.selects RX1 yX1_readUnit yX1_readUnit ∈ zx_tb := zx_ip2 (q := (yX1_readUnit, 16)) (i := 12) rfl rfl
theorem wc_X1_checkPayloadEnd : Cond.code yX1_checkPayloadEnd cX1_checkPayloadEnd 4 none ∈ zx_tb := zx_in3 (i := 174) rfl rfl
theorem wi_X1_checkPayloadEnd : Cond.instanceMethod yX1_checkPayloadEnd ∈ zx_tb := zx_in3 (i := 173) rfl rfl
theorem ws_X1_checkPayloadEnd : Cond.selects RX1 yX1_checkPayloadEnd yX1_checkPayloadEnd ∈ zx_tb := zx_ip2 (q := (yX1_checkPayloadEnd, 16)) (i := 13) rfl rfl
theorem wc_X1_checkStates : Cond.code yX1_checkStates cX1_checkStates 2 none ∈ zx_tb := zx_in3 (i := 178) rfl rfl
theorem wi_X1_checkStates : Cond.instanceMethod yX1_checkStates ∈ zx_tb := zx_in3 (i := 177) rfl rfl
theorem ws_X1_checkStates : Cond.selects RX1 yX1_checkStates yX1_checkStates ∈ zx_tb := zx_ip2 (q := (yX1_checkStates, 16)) (i := 14) rfl rfl
theorem wc_X2_init : Cond.code yX2_init cX2_init 1 none ∈ zx_tb := zx_in1 (i := 216) rfl rfl
theorem wi_X2_init : Cond.instanceMethod yX2_init ∈ zx_tb := zx_in1 (i := 215) rfl rfl
theorem wc_X2_codeMessage : Cond.code yX2_codeMessage cX2_codeMessage 5 none ∈ zx_tb := zx_in2 (i := 231) rfl rfl
theorem wi_X2_codeMessage : Cond.instanceMethod yX2_codeMessage ∈ zx_tb := zx_in2 (i := 229) rfl rfl
theorem ws_X2_codeMessage : Cond.selects RX2 yX2_codeMessage yX2_codeMessage ∈ zx_tb := zx_in2 (i := 230) rfl rfl
theorem wc_X2_writePacket : Cond.code yX2_writePacket cX2_writePacket 5 none ∈ zx_tb := zx_in3 (i := 45) rfl rfl
theorem wi_X2_writePacket : Cond.instanceMethod yX2_writePacket ∈ zx_tb := zx_in3 (i := 43) rfl rfl
theorem ws_X2_writePacket : Cond.selects RX2 yX2_writePacket yX2_writePacket ∈ zx_tb := zx_in3 (i := 44) rfl rfl
theorem wc_X2_writePayload : Cond.code yX2_writePayload cX2_writePayload 8 none ∈ zx_tb := zx_in3 (i := 68) rfl rfl
theorem wi_X2_writePayload : Cond.instanceMethod yX2_writePayload ∈ zx_tb := zx_in3 (i := 67) rfl rfl
theorem ws_X2_writePayload : Cond.selects RX2 yX2_writePayload yX2_writePayload ∈ zx_tb := zx_ip1 (q := (yX2_writePayload, 3)) (i := 14) rfl rfl
theorem wc_X3_init : Cond.code yX3_init cX3_init 1 none ∈ zx_tb := zx_in1 (i := 237) rfl rfl
theorem wi_X3_init : Cond.instanceMethod yX3_init ∈ zx_tb := zx_in1 (i := 236) rfl rfl
theorem wc_X3_clear : Cond.code yX3_clear cX3_clear 1 none ∈ zx_tb := zx_in3 (i := 212) rfl rfl
theorem wi_X3_clear : Cond.instanceMethod yX3_clear ∈ zx_tb := zx_in3 (i := 210) rfl rfl
theorem ws_X3_clear : Cond.selects RX3 yX3_clear yX3_clear ∈ zx_tb := zx_in3 (i := 211) rfl rfl
theorem wc_X3_times : Cond.code yX3_times cX3_times 2 none ∈ zx_tb := zx_in3 (i := 216) rfl rfl
theorem wi_X3_times : Cond.instanceMethod yX3_times ∈ zx_tb := zx_in3 (i := 214) rfl rfl
theorem ws_X3_times : Cond.selects RX3 yX3_times yX3_times ∈ zx_tb := zx_in3 (i := 215) rfl rfl
theorem wc_X3_highestBit : Cond.code yX3_highestBit cX3_highestBit 2 (some (.int)) ∈ zx_tb := zx_in3 (i := 225) rfl rfl
theorem wi_X3_highestBit : Cond.instanceMethod yX3_highestBit ∈ zx_tb := zx_in3 (i := 223) rfl rfl
theorem ws_X3_highestBit : Cond.selects RX3 yX3_highestBit yX3_highestBit ∈ zx_tb := zx_in3 (i := 224) rfl rfl
theorem wc_X3_multiply : Cond.code yX3_multiply cX3_multiply 6 none ∈ zx_tb := zx_in3 (i := 221) rfl rfl
theorem wi_X3_multiply : Cond.instanceMethod yX3_multiply ∈ zx_tb := zx_in3 (i := 220) rfl rfl
theorem ws_X3_multiply : Cond.selects RX3 yX3_multiply yX3_multiply ∈ zx_tb := zx_ip2 (q := (yX3_multiply, 3)) (i := 15) rfl rfl
theorem wc_X4_init : Cond.code yX4_init cX4_init 1 none ∈ zx_tb := zx_in1 (i := 27) rfl rfl
theorem wi_X4_init : Cond.instanceMethod yX4_init ∈ zx_tb := zx_in1 (i := 26) rfl rfl
theorem wc_X4_byteAt : Cond.code yX4_byteAt cX4_byteAt 2 (some (.int)) ∈ zx_tb := zx_in2 (i := 80) rfl rfl
theorem wi_X4_byteAt : Cond.instanceMethod yX4_byteAt ∈ zx_tb := zx_in2 (i := 78) rfl rfl
theorem ws_X4_byteAt : Cond.selects RX4 yX4_byteAt yX4_byteAt ∈ zx_tb := zx_in2 (i := 79) rfl rfl
theorem wc_X4_add : Cond.code yX4_add cX4_add 2 none ∈ zx_tb := zx_in2 (i := 55) rfl rfl
theorem wi_X4_add : Cond.instanceMethod yX4_add ∈ zx_tb := zx_in2 (i := 53) rfl rfl
theorem ws_X4_add : Cond.selects RX4 yX4_add yX4_add ∈ zx_tb := zx_in2 (i := 54) rfl rfl
theorem wc_X4_addNumber : Cond.code yX4_addNumber cX4_addNumber 4 none ∈ zx_tb := zx_in2 (i := 51) rfl rfl
theorem wi_X4_addNumber : Cond.instanceMethod yX4_addNumber ∈ zx_tb := zx_in2 (i := 49) rfl rfl
theorem ws_X4_addNumber : Cond.selects RX4 yX4_addNumber yX4_addNumber ∈ zx_tb := zx_in2 (i := 50) rfl rfl
theorem wc_X4_copy : Cond.code yX4_copy cX4_copy 2 none ∈ zx_tb := zx_in3 (i := 203) rfl rfl
theorem wi_X4_copy : Cond.instanceMethod yX4_copy ∈ zx_tb := zx_in3 (i := 201) rfl rfl
theorem ws_X4_copy : Cond.selects RX4 yX4_copy yX4_copy ∈ zx_tb := zx_in3 (i := 202) rfl rfl
theorem wc_X5_init : Cond.code yX5_init cX5_init 1 none ∈ zx_tb := zx_in1 (i := 58) rfl rfl
theorem wi_X5_init : Cond.instanceMethod yX5_init ∈ zx_tb := zx_in1 (i := 57) rfl rfl
theorem wc_X5_forget : Cond.code yX5_forget cX5_forget 1 none ∈ zx_tb := zx_in2 (i := 120) rfl rfl
theorem wi_X5_forget : Cond.instanceMethod yX5_forget ∈ zx_tb := zx_in2 (i := 118) rfl rfl
theorem ws_X5_forget : Cond.selects RX5 yX5_forget yX5_forget ∈ zx_tb := zx_in2 (i := 119) rfl rfl
theorem wc_X5_shareOf : Cond.code yX5_shareOf cX5_shareOf 2 (some (.int)) ∈ zx_tb := zx_in3 (i := 11) rfl rfl
theorem wi_X5_shareOf : Cond.instanceMethod yX5_shareOf ∈ zx_tb := zx_in3 (i := 9) rfl rfl
theorem ws_X5_shareOf : Cond.selects RX5 yX5_shareOf yX5_shareOf ∈ zx_tb := zx_in3 (i := 10) rfl rfl
theorem wc_X5_startOf : Cond.code yX5_startOf cX5_startOf 2 (some (.int)) ∈ zx_tb := zx_in3 (i := 21) rfl rfl
theorem wi_X5_startOf : Cond.instanceMethod yX5_startOf ∈ zx_tb := zx_in3 (i := 19) rfl rfl
theorem ws_X5_startOf : Cond.selects RX5 yX5_startOf yX5_startOf ∈ zx_tb := zx_in3 (i := 20) rfl rfl
theorem wc_X5_symbolAt : Cond.code yX5_symbolAt cX5_symbolAt 2 (some (.int)) ∈ zx_tb := zx_in2 (i := 198) rfl rfl
theorem wi_X5_symbolAt : Cond.instanceMethod yX5_symbolAt ∈ zx_tb := zx_in2 (i := 196) rfl rfl
theorem ws_X5_symbolAt : Cond.selects RX5 yX5_symbolAt yX5_symbolAt ∈ zx_tb := zx_in2 (i := 197) rfl rfl
theorem wc_X5_rankAt : Cond.code yX5_rankAt cX5_rankAt 2 (some (.int)) ∈ zx_tb := zx_in2 (i := 206) rfl rfl
theorem wi_X5_rankAt : Cond.instanceMethod yX5_rankAt ∈ zx_tb := zx_in2 (i := 204) rfl rfl
theorem ws_X5_rankAt : Cond.selects RX5 yX5_rankAt yX5_rankAt ∈ zx_tb := zx_in2 (i := 205) rfl rfl
theorem wc_X5_placeOf : Cond.code yX5_placeOf cX5_placeOf 4 (some (.int)) ∈ zx_tb := zx_in3 (i := 17) rfl rfl
theorem wi_X5_placeOf : Cond.instanceMethod yX5_placeOf ∈ zx_tb := zx_in3 (i := 15) rfl rfl
theorem ws_X5_placeOf : Cond.selects RX5 yX5_placeOf yX5_placeOf ∈ zx_tb := zx_in3 (i := 16) rfl rfl
theorem wc_X5_lay : Cond.code yX5_lay cX5_lay 3 none ∈ zx_tb := zx_in2 (i := 164) rfl rfl
theorem wi_X5_lay : Cond.instanceMethod yX5_lay ∈ zx_tb := zx_in2 (i := 162) rfl rfl
theorem ws_X5_lay : Cond.selects RX5 yX5_lay yX5_lay ∈ zx_tb := zx_in2 (i := 163) rfl rfl
theorem wc_X5_takeShares : Cond.code yX5_takeShares cX5_takeShares 4 none ∈ zx_tb := zx_in2 (i := 172) rfl rfl
theorem wi_X5_takeShares : Cond.instanceMethod yX5_takeShares ∈ zx_tb := zx_in2 (i := 171) rfl rfl
theorem ws_X5_takeShares : Cond.selects RX5 yX5_takeShares yX5_takeShares ∈ zx_tb := zx_ip1 (q := (yX5_takeShares, 10)) (i := 6) rfl rfl
theorem wc_X5_layByStep : Cond.code yX5_layByStep cX5_layByStep 5 none ∈ zx_tb := zx_in2 (i := 190) rfl rfl
theorem wi_X5_layByStep : Cond.instanceMethod yX5_layByStep ∈ zx_tb := zx_in2 (i := 189) rfl rfl
theorem ws_X5_layByStep : Cond.selects RX5 yX5_layByStep yX5_layByStep ∈ zx_tb := zx_ip1 (q := (yX5_layByStep, 10)) (i := 10) rfl rfl
theorem wc_X5_layEven : Cond.code yX5_layEven cX5_layEven 3 none ∈ zx_tb := zx_in2 (i := 177) rfl rfl
theorem wi_X5_layEven : Cond.instanceMethod yX5_layEven ∈ zx_tb := zx_in2 (i := 176) rfl rfl
theorem ws_X5_layEven : Cond.selects RX5 yX5_layEven yX5_layEven ∈ zx_tb := zx_ip1 (q := (yX5_layEven, 10)) (i := 7) rfl rfl
theorem wc_X5_sink : Cond.code yX5_sink cX5_sink 5 none ∈ zx_tb := zx_in2 (i := 182) rfl rfl
theorem wi_X5_sink : Cond.instanceMethod yX5_sink ∈ zx_tb := zx_in2 (i := 181) rfl rfl
theorem ws_X5_sink : Cond.selects RX5 yX5_sink yX5_sink ∈ zx_tb := zx_ip1 (q := (yX5_sink, 10)) (i := 8) rfl rfl
theorem wc_X5_isAhead : Cond.code yX5_isAhead cX5_isAhead 5 (some (.boolean)) ∈ zx_tb := zx_in2 (i := 186) rfl rfl
theorem wi_X5_isAhead : Cond.instanceMethod yX5_isAhead ∈ zx_tb := zx_in2 (i := 185) rfl rfl
theorem ws_X5_isAhead : Cond.selects RX5 yX5_isAhead yX5_isAhead ∈ zx_tb := zx_ip1 (q := (yX5_isAhead, 10)) (i := 9) rfl rfl
theorem wc_X5_giveRanks : Cond.code yX5_giveRanks cX5_giveRanks 4 none ∈ zx_tb := zx_in2 (i := 194) rfl rfl
theorem wi_X5_giveRanks : Cond.instanceMethod yX5_giveRanks ∈ zx_tb := zx_in2 (i := 193) rfl rfl
theorem ws_X5_giveRanks : Cond.selects RX5 yX5_giveRanks yX5_giveRanks ∈ zx_tb := zx_ip1 (q := (yX5_giveRanks, 10)) (i := 11) rfl rfl
theorem wc_X6_init : Cond.code yX6_init cX6_init 1 none ∈ zx_tb := zx_in1 (i := 147) rfl rfl
theorem wi_X6_init : Cond.instanceMethod yX6_init ∈ zx_tb := zx_in1 (i := 146) rfl rfl
theorem wc_X6_isThere : Cond.code yX6_isThere cX6_isThere 1 (some (.boolean)) ∈ zx_tb := zx_in2 (i := 132) rfl rfl
theorem wi_X6_isThere : Cond.instanceMethod yX6_isThere ∈ zx_tb := zx_in2 (i := 130) rfl rfl
theorem ws_X6_isThere : Cond.selects RX6 yX6_isThere yX6_isThere ∈ zx_tb := zx_in2 (i := 131) rfl rfl
theorem wc_X6_places : Cond.code yX6_places cX6_places 1 (some (.int)) ∈ zx_tb := zx_in2 (i := 96) rfl rfl
theorem wi_X6_places : Cond.instanceMethod yX6_places ∈ zx_tb := zx_in2 (i := 94) rfl rfl
theorem ws_X6_places : Cond.selects RX6 yX6_places yX6_places ∈ zx_tb := zx_in2 (i := 95) rfl rfl
theorem wc_X6_shareOf : Cond.code yX6_shareOf cX6_shareOf 2 (some (.int)) ∈ zx_tb := zx_in2 (i := 140) rfl rfl
theorem wi_X6_shareOf : Cond.instanceMethod yX6_shareOf ∈ zx_tb := zx_in2 (i := 138) rfl rfl
theorem ws_X6_shareOf : Cond.selects RX6 yX6_shareOf yX6_shareOf ∈ zx_tb := zx_in2 (i := 139) rfl rfl
theorem wc_X6_startOf : Cond.code yX6_startOf cX6_startOf 4 (some (.int)) ∈ zx_tb := zx_in2 (i := 148) rfl rfl
theorem wi_X6_startOf : Cond.instanceMethod yX6_startOf ∈ zx_tb := zx_in2 (i := 146) rfl rfl
theorem ws_X6_startOf : Cond.selects RX6 yX6_startOf yX6_startOf ∈ zx_tb := zx_in2 (i := 147) rfl rfl
theorem wc_X6_different : Cond.code yX6_different cX6_different 3 (some (.int)) ∈ zx_tb := zx_in3 (i := 50) rfl rfl
theorem wi_X6_different : Cond.instanceMethod yX6_different ∈ zx_tb := zx_in3 (i := 48) rfl rfl
theorem ws_X6_different : Cond.selects RX6 yX6_different yX6_different ∈ zx_tb := zx_in3 (i := 49) rfl rfl
theorem wc_X6_clear : Cond.code yX6_clear cX6_clear 2 none ∈ zx_tb := zx_in2 (i := 91) rfl rfl
theorem wi_X6_clear : Cond.instanceMethod yX6_clear ∈ zx_tb := zx_in2 (i := 89) rfl rfl
theorem ws_X6_clear : Cond.selects RX6 yX6_clear yX6_clear ∈ zx_tb := zx_in2 (i := 90) rfl rfl
theorem wc_X6_change : Cond.code yX6_change cX6_change 3 none ∈ zx_tb := zx_in2 (i := 111) rfl rfl
theorem wi_X6_change : Cond.instanceMethod yX6_change ∈ zx_tb := zx_in2 (i := 109) rfl rfl
theorem ws_X6_change : Cond.selects RX6 yX6_change yX6_change ∈ zx_tb := zx_in2 (i := 110) rfl rfl
theorem wc_X6_fit : Cond.code yX6_fit cX6_fit 6 none ∈ zx_tb := zx_in2 (i := 87) rfl rfl
theorem wi_X6_fit : Cond.instanceMethod yX6_fit ∈ zx_tb := zx_in2 (i := 85) rfl rfl
theorem ws_X6_fit : Cond.selects RX6 yX6_fit yX6_fit ∈ zx_tb := zx_in2 (i := 86) rfl rfl
theorem wc_X6_lack : Cond.code yX6_lack cX6_lack 4 (some (.int)) ∈ zx_tb := zx_in2 (i := 107) rfl rfl
theorem wi_X6_lack : Cond.instanceMethod yX6_lack ∈ zx_tb := zx_in2 (i := 106) rfl rfl
theorem ws_X6_lack : Cond.selects RX6 yX6_lack yX6_lack ∈ zx_tb := zx_ip1 (q := (yX6_lack, 2)) (i := 2) rfl rfl
theorem wc_X6_mostLacking : Cond.code yX6_mostLacking cX6_mostLacking 6 (some (.int)) ∈ zx_tb := zx_in2 (i := 103) rfl rfl
theorem wi_X6_mostLacking : Cond.instanceMethod yX6_mostLacking ∈ zx_tb := zx_in2 (i := 102) rfl rfl
theorem ws_X6_mostLacking : Cond.selects RX6 yX6_mostLacking yX6_mostLacking ∈ zx_tb := zx_ip1 (q := (yX6_mostLacking, 2)) (i := 1) rfl rfl
theorem wc_X6_leastLacking : Cond.code yX6_leastLacking cX6_leastLacking 6 (some (.int)) ∈ zx_tb := zx_in2 (i := 116) rfl rfl
theorem wi_X6_leastLacking : Cond.instanceMethod yX6_leastLacking ∈ zx_tb := zx_in2 (i := 115) rfl rfl
theorem ws_X6_leastLacking : Cond.selects RX6 yX6_leastLacking yX6_leastLacking ∈ zx_tb := zx_ip1 (q := (yX6_leastLacking, 2)) (i := 3) rfl rfl
theorem wc_X7_init : Cond.code yX7_init cX7_init 1 none ∈ zx_tb := zx_in1 (i := 136) rfl rfl
theorem wi_X7_init : Cond.instanceMethod yX7_init ∈ zx_tb := zx_in1 (i := 135) rfl rfl
theorem wc_X7_figure : Cond.code yX7_figure cX7_figure 2 (some (.int)) ∈ zx_tb := zx_in4 (i := 22) rfl rfl
theorem wi_X7_figure : Cond.instanceMethod yX7_figure ∈ zx_tb := zx_in4 (i := 20) rfl rfl
theorem ws_X7_figure : Cond.selects RX7 yX7_figure yX7_figure ∈ zx_tb := zx_in4 (i := 21) rfl rfl
theorem wc_X7_begin : Cond.code yX7_begin cX7_begin 2 none ∈ zx_tb := zx_in2 (i := 236) rfl rfl
theorem wi_X7_begin : Cond.instanceMethod yX7_begin ∈ zx_tb := zx_in2 (i := 234) rfl rfl
theorem ws_X7_begin : Cond.selects RX7 yX7_begin yX7_begin ∈ zx_tb := zx_in2 (i := 235) rfl rfl
theorem wc_X7_meet : Cond.code yX7_meet cX7_meet 2 none ∈ zx_tb := zx_in3 (i := 35) rfl rfl
theorem wi_X7_meet : Cond.instanceMethod yX7_meet ∈ zx_tb := zx_in3 (i := 33) rfl rfl
theorem ws_X7_meet : Cond.selects RX7 yX7_meet yX7_meet ∈ zx_tb := zx_in3 (i := 34) rfl rfl
theorem wc_X7_addSymbol : Cond.code yX7_addSymbol cX7_addSymbol 3 none ∈ zx_tb := zx_in3 (i := 31) rfl rfl
theorem wi_X7_addSymbol : Cond.instanceMethod yX7_addSymbol ∈ zx_tb := zx_in3 (i := 29) rfl rfl
theorem ws_X7_addSymbol : Cond.selects RX7 yX7_addSymbol yX7_addSymbol ∈ zx_tb := zx_in3 (i := 30) rfl rfl
theorem wc_X7_setBytes : Cond.code yX7_setBytes cX7_setBytes 2 none ∈ zx_tb := zx_in3 (i := 41) rfl rfl
theorem wi_X7_setBytes : Cond.instanceMethod yX7_setBytes ∈ zx_tb := zx_in3 (i := 39) rfl rfl
theorem ws_X7_setBytes : Cond.selects RX7 yX7_setBytes yX7_setBytes ∈ zx_tb := zx_in3 (i := 40) rfl rfl
theorem wc_X7_copy : Cond.code yX7_copy cX7_copy 2 none ∈ zx_tb := zx_in3 (i := 72) rfl rfl
theorem wi_X7_copy : Cond.instanceMethod yX7_copy ∈ zx_tb := zx_in3 (i := 70) rfl rfl
theorem ws_X7_copy : Cond.selects RX7 yX7_copy yX7_copy ∈ zx_tb := zx_in3 (i := 71) rfl rfl
theorem wc_X8_init : Cond.code yX8_init cX8_init 2 none ∈ zx_tb := zx_in1 (i := 19) rfl rfl
theorem wi_X8_init : Cond.instanceMethod yX8_init ∈ zx_tb := zx_in1 (i := 18) rfl rfl
theorem wc_X8_feed : Cond.code yX8_feed cX8_feed 6 (some (.int)) ∈ zx_tb := zx_in2 (i := 47) rfl rfl
theorem wi_X8_feed : Cond.instanceMethod yX8_feed ∈ zx_tb := zx_in2 (i := 45) rfl rfl
theorem ws_X8_feed : Cond.selects RX8 yX8_feed yX8_feed ∈ zx_tb := zx_in2 (i := 46) rfl rfl
theorem wc_X8_end : Cond.code yX8_end cX8_end 2 (some (.int)) ∈ zx_tb := zx_in2 (i := 59) rfl rfl
theorem wi_X8_end : Cond.instanceMethod yX8_end ∈ zx_tb := zx_in2 (i := 57) rfl rfl
theorem ws_X8_end : Cond.selects RX8 yX8_end yX8_end ∈ zx_tb := zx_in2 (i := 58) rfl rfl
theorem wc_X8_learn : Cond.code yX8_learn cX8_learn 4 (some (.int)) ∈ zx_tb := zx_in2 (i := 63) rfl rfl
theorem wi_X8_learn : Cond.instanceMethod yX8_learn ∈ zx_tb := zx_in2 (i := 61) rfl rfl
theorem ws_X8_learn : Cond.selects RX8 yX8_learn yX8_learn ∈ zx_tb := zx_in2 (i := 62) rfl rfl
theorem wc_X8_log : Cond.code yX8_log cX8_log 3 (some (.int)) ∈ zx_tb := zx_in2 (i := 124) rfl rfl
theorem wi_X8_log : Cond.instanceMethod yX8_log ∈ zx_tb := zx_in2 (i := 122) rfl rfl
theorem ws_X8_log : Cond.selects RX8 yX8_log yX8_log ∈ zx_tb := zx_in2 (i := 123) rfl rfl
theorem wc_X8_share : Cond.code yX8_share cX8_share 4 (some (.int)) ∈ zx_tb := zx_in2 (i := 136) rfl rfl
theorem wi_X8_share : Cond.instanceMethod yX8_share ∈ zx_tb := zx_in2 (i := 134) rfl rfl
theorem ws_X8_share : Cond.selects RX8 yX8_share yX8_share ∈ zx_tb := zx_in2 (i := 135) rfl rfl
theorem wc_X8_start : Cond.code yX8_start cX8_start 4 (some (.int)) ∈ zx_tb := zx_in2 (i := 144) rfl rfl
theorem wi_X8_start : Cond.instanceMethod yX8_start ∈ zx_tb := zx_in2 (i := 142) rfl rfl
theorem ws_X8_start : Cond.selects RX8 yX8_start yX8_start ∈ zx_tb := zx_in2 (i := 143) rfl rfl
theorem wc_X8_place : Cond.code yX8_place cX8_place 4 (some (.int)) ∈ zx_tb := zx_in2 (i := 152) rfl rfl
theorem wi_X8_place : Cond.instanceMethod yX8_place ∈ zx_tb := zx_in2 (i := 150) rfl rfl
theorem ws_X8_place : Cond.selects RX8 yX8_place yX8_place ∈ zx_tb := zx_in2 (i := 151) rfl rfl
theorem wc_X8_rank : Cond.code yX8_rank cX8_rank 4 (some (.int)) ∈ zx_tb := zx_in2 (i := 202) rfl rfl
theorem wi_X8_rank : Cond.instanceMethod yX8_rank ∈ zx_tb := zx_in2 (i := 200) rfl rfl
theorem ws_X8_rank : Cond.selects RX8 yX8_rank yX8_rank ∈ zx_tb := zx_in2 (i := 201) rfl rfl
theorem wc_X8_pack : Cond.code yX8_pack cX8_pack 6 (some (.int)) ∈ zx_tb := zx_in2 (i := 210) rfl rfl
theorem wi_X8_pack : Cond.instanceMethod yX8_pack ∈ zx_tb := zx_in2 (i := 208) rfl rfl
theorem ws_X8_pack : Cond.selects RX8 yX8_pack yX8_pack ∈ zx_tb := zx_in2 (i := 209) rfl rfl
theorem wc_X8_unpack : Cond.code yX8_unpack cX8_unpack 3 (some (.int)) ∈ zx_tb := zx_in3 (i := 79) rfl rfl
theorem wi_X8_unpack : Cond.instanceMethod yX8_unpack ∈ zx_tb := zx_in3 (i := 77) rfl rfl
theorem ws_X8_unpack : Cond.selects RX8 yX8_unpack yX8_unpack ∈ zx_tb := zx_in3 (i := 78) rfl rfl
theorem wc_X8_fault : Cond.code yX8_fault cX8_fault 2 (some (.int)) ∈ zx_tb := zx_in3 (i := 191) rfl rfl
theorem wi_X8_fault : Cond.instanceMethod yX8_fault ∈ zx_tb := zx_in3 (i := 189) rfl rfl
theorem ws_X8_fault : Cond.selects RX8 yX8_fault yX8_fault ∈ zx_tb := zx_in3 (i := 190) rfl rfl
theorem wc_X8_written : Cond.code yX8_written cX8_written 2 (some (.int)) ∈ zx_tb := zx_in3 (i := 195) rfl rfl
theorem wi_X8_written : Cond.instanceMethod yX8_written ∈ zx_tb := zx_in3 (i := 193) rfl rfl
theorem ws_X8_written : Cond.selects RX8 yX8_written yX8_written ∈ zx_tb := zx_in3 (i := 194) rfl rfl
theorem wc_X8_take : Cond.code yX8_take cX8_take 1 (some (.int)) ∈ zx_tb := zx_in3 (i := 199) rfl rfl
theorem wi_X8_take : Cond.instanceMethod yX8_take ∈ zx_tb := zx_in3 (i := 197) rfl rfl
theorem ws_X8_take : Cond.selects RX8 yX8_take yX8_take ∈ zx_tb := zx_in3 (i := 198) rfl rfl
theorem wc_X8_ideal : Cond.code yX8_ideal cX8_ideal 5 (some (.int)) ∈ zx_tb := zx_in3 (i := 208) rfl rfl
theorem wi_X8_ideal : Cond.instanceMethod yX8_ideal ∈ zx_tb := zx_in3 (i := 206) rfl rfl
theorem ws_X8_ideal : Cond.selects RX8 yX8_ideal yX8_ideal ∈ zx_tb := zx_in3 (i := 207) rfl rfl
theorem wc_X8_code : Cond.code yX8_code cX8_code 6 (some (.int)) ∈ zx_tb := zx_in3 (i := 233) rfl rfl
theorem wi_X8_code : Cond.instanceMethod yX8_code ∈ zx_tb := zx_in3 (i := 231) rfl rfl
theorem ws_X8_code : Cond.selects RX8 yX8_code yX8_code ∈ zx_tb := zx_in3 (i := 232) rfl rfl
theorem wc_X8_gone : Cond.code yX8_gone cX8_gone 2 (some (.int)) ∈ zx_tb := zx_in4 (i := 4) rfl rfl
theorem wi_X8_gone : Cond.instanceMethod yX8_gone ∈ zx_tb := zx_in4 (i := 2) rfl rfl
theorem ws_X8_gone : Cond.selects RX8 yX8_gone yX8_gone ∈ zx_tb := zx_in4 (i := 3) rfl rfl
theorem wc_X8_symbol : Cond.code yX8_symbol cX8_symbol 5 (some (.int)) ∈ zx_tb := zx_in4 (i := 8) rfl rfl
theorem wi_X8_symbol : Cond.instanceMethod yX8_symbol ∈ zx_tb := zx_in4 (i := 6) rfl rfl
theorem ws_X8_symbol : Cond.selects RX8 yX8_symbol yX8_symbol ∈ zx_tb := zx_in4 (i := 7) rfl rfl
theorem wc_X8_left : Cond.code yX8_left cX8_left 5 (some (.int)) ∈ zx_tb := zx_in4 (i := 13) rfl rfl
theorem wi_X8_left : Cond.instanceMethod yX8_left ∈ zx_tb := zx_in4 (i := 11) rfl rfl
theorem ws_X8_left : Cond.selects RX8 yX8_left yX8_left ∈ zx_tb := zx_in4 (i := 12) rfl rfl
theorem wc_X8_look : Cond.code yX8_look cX8_look 2 (some (.int)) ∈ zx_tb := zx_in4 (i := 18) rfl rfl
theorem wi_X8_look : Cond.instanceMethod yX8_look ∈ zx_tb := zx_in4 (i := 16) rfl rfl
theorem ws_X8_look : Cond.selects RX8 yX8_look yX8_look ∈ zx_tb := zx_in4 (i := 17) rfl rfl
theorem wc_X8_isTableNumber : Cond.code yX8_isTableNumber cX8_isTableNumber 1 (some (.boolean)) ∈ zx_tb := zx_in2 (i := 66) rfl rfl
theorem wt_X8_isTableNumber : Cond.static yX8_isTableNumber ∈ zx_tb := zx_in2 (i := 65) rfl rfl
theorem wc_X8_isLog : Cond.code yX8_isLog cX8_isLog 1 (some (.boolean)) ∈ zx_tb := zx_in2 (i := 69) rfl rfl
theorem wt_X8_isLog : Cond.static yX8_isLog ∈ zx_tb := zx_in2 (i := 68) rfl rfl
theorem wc_X8_isSymbol : Cond.code yX8_isSymbol cX8_isSymbol 1 (some (.boolean)) ∈ zx_tb := zx_in2 (i := 83) rfl rfl
theorem wt_X8_isSymbol : Cond.static yX8_isSymbol ∈ zx_tb := zx_in2 (i := 82) rfl rfl
theorem wc_X8_isSpread : Cond.code yX8_isSpread cX8_isSpread 1 (some (.boolean)) ∈ zx_tb := zx_in2 (i := 159) rfl rfl
theorem wt_X8_isSpread : Cond.static yX8_isSpread ∈ zx_tb := zx_in2 (i := 158) rfl rfl
theorem wc_X8_isCoding : Cond.code yX8_isCoding cX8_isCoding 2 (some (.boolean)) ∈ zx_tb := zx_in2 (i := 213) rfl rfl
theorem wt_X8_isCoding : Cond.static yX8_isCoding ∈ zx_tb := zx_in2 (i := 212) rfl rfl
theorem wc_X8_tableOrNull : Cond.code yX8_tableOrNull cX8_tableOrNull 3 (some (.object "ShareCoder$Table")) ∈ zx_tb := zx_in2 (i := 128) rfl rfl
theorem wi_X8_tableOrNull : Cond.instanceMethod yX8_tableOrNull ∈ zx_tb := zx_in2 (i := 127) rfl rfl
theorem ws_X8_tableOrNull : Cond.selects RX8 yX8_tableOrNull yX8_tableOrNull ∈ zx_tb := zx_ip1 (q := (yX8_tableOrNull, 11)) (i := 4) rfl rfl
theorem wc_X8_countTape : Cond.code yX8_countTape cX8_countTape 4 (some (.int)) ∈ zx_tb := zx_in2 (i := 73) rfl rfl
theorem wi_X8_countTape : Cond.instanceMethod yX8_countTape ∈ zx_tb := zx_in2 (i := 72) rfl rfl
theorem ws_X8_countTape : Cond.selects RX8 yX8_countTape yX8_countTape ∈ zx_tb := zx_ip1 (q := (yX8_countTape, 11)) (i := 0) rfl rfl
theorem wc_X8_refusalOfTape : Cond.code yX8_refusalOfTape cX8_refusalOfTape 3 (some (.int)) ∈ zx_tb := zx_in2 (i := 217) rfl rfl
theorem wi_X8_refusalOfTape : Cond.instanceMethod yX8_refusalOfTape ∈ zx_tb := zx_in2 (i := 216) rfl rfl
theorem ws_X8_refusalOfTape : Cond.selects RX8 yX8_refusalOfTape yX8_refusalOfTape ∈ zx_tb := zx_ip1 (q := (yX8_refusalOfTape, 11)) (i := 12) rfl rfl
theorem wc_X8_layForPlace : Cond.code yX8_layForPlace cX8_layForPlace 5 (some (.boolean)) ∈ zx_tb := zx_in2 (i := 156) rfl rfl
theorem wi_X8_layForPlace : Cond.instanceMethod yX8_layForPlace ∈ zx_tb := zx_in2 (i := 155) rfl rfl
theorem ws_X8_layForPlace : Cond.selects RX8 yX8_layForPlace yX8_layForPlace ∈ zx_tb := zx_ip1 (q := (yX8_layForPlace, 11)) (i := 5) rfl rfl
theorem wc_X8_prepareForState : Cond.code yX8_prepareForState cX8_prepareForState 6 (some (.boolean)) ∈ zx_tb := zx_in3 (i := 237) rfl rfl
theorem wi_X8_prepareForState : Cond.instanceMethod yX8_prepareForState ∈ zx_tb := zx_in3 (i := 236) rfl rfl
theorem ws_X8_prepareForState : Cond.selects RX8 yX8_prepareForState yX8_prepareForState ∈ zx_tb := zx_ip3 (q := (yX8_prepareForState, 11)) (i := 0) rfl rfl
theorem wc_X9_init : Cond.code yX9_init cX9_init 1 none ∈ zx_tb := zx_in4 (i := 27) rfl rfl
theorem wi_X9_init : Cond.instanceMethod yX9_init ∈ zx_tb := zx_in4 (i := 26) rfl rfl
theorem wc_X9_feed : Cond.code yX9_feed cX9_feed 8 (some (.int)) ∈ zx_tb := zx_in4 (i := 140) rfl rfl
theorem wi_X9_feed : Cond.instanceMethod yX9_feed ∈ zx_tb := zx_in4 (i := 138) rfl rfl
theorem ws_X9_feed : Cond.selects RX9 yX9_feed yX9_feed ∈ zx_tb := zx_in4 (i := 139) rfl rfl
theorem wc_X9_end : Cond.code yX9_end cX9_end 2 (some (.int)) ∈ zx_tb := zx_in4 (i := 144) rfl rfl
theorem wi_X9_end : Cond.instanceMethod yX9_end ∈ zx_tb := zx_in4 (i := 142) rfl rfl
theorem ws_X9_end : Cond.selects RX9 yX9_end yX9_end ∈ zx_tb := zx_in4 (i := 143) rfl rfl
theorem wc_X9_take : Cond.code yX9_take cX9_take 2 (some (.int)) ∈ zx_tb := zx_in4 (i := 148) rfl rfl
theorem wi_X9_take : Cond.instanceMethod yX9_take ∈ zx_tb := zx_in4 (i := 146) rfl rfl
theorem ws_X9_take : Cond.selects RX9 yX9_take yX9_take ∈ zx_tb := zx_in4 (i := 147) rfl rfl
theorem wc_X9_written : Cond.code yX9_written cX9_written 2 (some (.int)) ∈ zx_tb := zx_in4 (i := 152) rfl rfl
theorem wi_X9_written : Cond.instanceMethod yX9_written ∈ zx_tb := zx_in4 (i := 150) rfl rfl
theorem ws_X9_written : Cond.selects RX9 yX9_written yX9_written ∈ zx_tb := zx_in4 (i := 151) rfl rfl
theorem wc_X9_isTable : Cond.code yX9_isTable cX9_isTable 2 (some (.boolean)) ∈ zx_tb := zx_in4 (i := 172) rfl rfl
theorem wi_X9_isTable : Cond.instanceMethod yX9_isTable ∈ zx_tb := zx_in4 (i := 171) rfl rfl
theorem ws_X9_isTable : Cond.selects RX9 yX9_isTable yX9_isTable ∈ zx_tb := zx_ip3 (q := (yX9_isTable, 35)) (i := 3) rfl rfl
theorem wc_X9_lack : Cond.code yX9_lack cX9_lack 4 (some (.int)) ∈ zx_tb := zx_in4 (i := 160) rfl rfl
theorem wi_X9_lack : Cond.instanceMethod yX9_lack ∈ zx_tb := zx_in4 (i := 159) rfl rfl
theorem ws_X9_lack : Cond.selects RX9 yX9_lack yX9_lack ∈ zx_tb := zx_ip3 (q := (yX9_lack, 35)) (i := 1) rfl rfl
theorem wc_X9_learn : Cond.code yX9_learn cX9_learn 8 (some (.int)) ∈ zx_tb := zx_in4 (i := 156) rfl rfl
theorem wi_X9_learn : Cond.instanceMethod yX9_learn ∈ zx_tb := zx_in4 (i := 154) rfl rfl
theorem ws_X9_learn : Cond.selects RX9 yX9_learn yX9_learn ∈ zx_tb := zx_in4 (i := 155) rfl rfl
theorem wc_X9_begin : Cond.code yX9_begin cX9_begin 4 none ∈ zx_tb := zx_in4 (i := 164) rfl rfl
theorem wi_X9_begin : Cond.instanceMethod yX9_begin ∈ zx_tb := zx_in4 (i := 163) rfl rfl
theorem ws_X9_begin : Cond.selects RX9 yX9_begin yX9_begin ∈ zx_tb := zx_ip3 (q := (yX9_begin, 35)) (i := 2) rfl rfl
theorem wc_X9_log : Cond.code yX9_log cX9_log 2 (some (.int)) ∈ zx_tb := zx_in4 (i := 168) rfl rfl
theorem wi_X9_log : Cond.instanceMethod yX9_log ∈ zx_tb := zx_in4 (i := 166) rfl rfl
theorem ws_X9_log : Cond.selects RX9 yX9_log yX9_log ∈ zx_tb := zx_in4 (i := 167) rfl rfl
theorem wc_X9_share : Cond.code yX9_share cX9_share 3 (some (.int)) ∈ zx_tb := zx_in4 (i := 176) rfl rfl
theorem wi_X9_share : Cond.instanceMethod yX9_share ∈ zx_tb := zx_in4 (i := 174) rfl rfl
theorem ws_X9_share : Cond.selects RX9 yX9_share yX9_share ∈ zx_tb := zx_in4 (i := 175) rfl rfl
theorem wc_X9_start : Cond.code yX9_start cX9_start 3 (some (.int)) ∈ zx_tb := zx_in4 (i := 180) rfl rfl
theorem wi_X9_start : Cond.instanceMethod yX9_start ∈ zx_tb := zx_in4 (i := 178) rfl rfl
theorem ws_X9_start : Cond.selects RX9 yX9_start yX9_start ∈ zx_tb := zx_in4 (i := 179) rfl rfl
theorem wc_X9_lay : Cond.code yX9_lay cX9_lay 9 none ∈ zx_tb := zx_in4 (i := 192) rfl rfl
theorem wi_X9_lay : Cond.instanceMethod yX9_lay ∈ zx_tb := zx_in4 (i := 191) rfl rfl
theorem ws_X9_lay : Cond.selects RX9 yX9_lay yX9_lay ∈ zx_tb := zx_ip3 (q := (yX9_lay, 35)) (i := 5) rfl rfl
theorem wc_X9_isAhead : Cond.code yX9_isAhead cX9_isAhead 6 (some (.boolean)) ∈ zx_tb := zx_in4 (i := 204) rfl rfl
theorem wi_X9_isAhead : Cond.instanceMethod yX9_isAhead ∈ zx_tb := zx_in4 (i := 203) rfl rfl
theorem ws_X9_isAhead : Cond.selects RX9 yX9_isAhead yX9_isAhead ∈ zx_tb := zx_ip3 (q := (yX9_isAhead, 35)) (i := 8) rfl rfl
theorem wc_X9_sink : Cond.code yX9_sink cX9_sink 6 none ∈ zx_tb := zx_in4 (i := 200) rfl rfl
theorem wi_X9_sink : Cond.instanceMethod yX9_sink ∈ zx_tb := zx_in4 (i := 199) rfl rfl
theorem ws_X9_sink : Cond.selects RX9 yX9_sink yX9_sink ∈ zx_tb := zx_ip3 (q := (yX9_sink, 35)) (i := 7) rfl rfl
theorem wc_X9_even : Cond.code yX9_even cX9_even 6 none ∈ zx_tb := zx_in4 (i := 196) rfl rfl
theorem wi_X9_even : Cond.instanceMethod yX9_even ∈ zx_tb := zx_in4 (i := 195) rfl rfl
theorem ws_X9_even : Cond.selects RX9 yX9_even yX9_even ∈ zx_tb := zx_ip3 (q := (yX9_even, 35)) (i := 6) rfl rfl
theorem wc_X9_isPlace : Cond.code yX9_isPlace cX9_isPlace 4 (some (.boolean)) ∈ zx_tb := zx_in4 (i := 188) rfl rfl
theorem wi_X9_isPlace : Cond.instanceMethod yX9_isPlace ∈ zx_tb := zx_in4 (i := 187) rfl rfl
theorem ws_X9_isPlace : Cond.selects RX9 yX9_isPlace yX9_isPlace ∈ zx_tb := zx_ip3 (q := (yX9_isPlace, 35)) (i := 4) rfl rfl
theorem wc_X9_place : Cond.code yX9_place cX9_place 4 (some (.int)) ∈ zx_tb := zx_in4 (i := 184) rfl rfl
theorem wi_X9_place : Cond.instanceMethod yX9_place ∈ zx_tb := zx_in4 (i := 182) rfl rfl
theorem ws_X9_place : Cond.selects RX9 yX9_place yX9_place ∈ zx_tb := zx_in4 (i := 183) rfl rfl
theorem wc_X9_rank : Cond.code yX9_rank cX9_rank 4 (some (.int)) ∈ zx_tb := zx_in4 (i := 208) rfl rfl
theorem wi_X9_rank : Cond.instanceMethod yX9_rank ∈ zx_tb := zx_in4 (i := 206) rfl rfl
theorem ws_X9_rank : Cond.selects RX9 yX9_rank yX9_rank ∈ zx_tb := zx_in4 (i := 207) rfl rfl
theorem wc_X9_isWay : Cond.code yX9_isWay cX9_isWay 2 (some (.boolean)) ∈ zx_tb := zx_in4 (i := 219) rfl rfl
theorem wt_X9_isWay : Cond.static yX9_isWay ∈ zx_tb := zx_in4 (i := 218) rfl rfl
theorem wc_X9_step : Cond.code yX9_step cX9_step 11 none ∈ zx_tb := zx_in4 (i := 228) rfl rfl
theorem wi_X9_step : Cond.instanceMethod yX9_step ∈ zx_tb := zx_in4 (i := 227) rfl rfl
theorem ws_X9_step : Cond.selects RX9 yX9_step yX9_step ∈ zx_tb := zx_ip3 (q := (yX9_step, 35)) (i := 11) rfl rfl
theorem wc_X9_told : Cond.code yX9_told cX9_told 10 (some (.int)) ∈ zx_tb := zx_in5 (i := 0) rfl rfl
theorem wi_X9_told : Cond.instanceMethod yX9_told ∈ zx_tb := zx_in4 (i := 239) rfl rfl
theorem ws_X9_told : Cond.selects RX9 yX9_told yX9_told ∈ zx_tb := zx_ip3 (q := (yX9_told, 35)) (i := 12) rfl rfl
theorem wc_X9_behind : Cond.code yX9_behind cX9_behind 7 (some (.int)) ∈ zx_tb := zx_in5 (i := 8) rfl rfl
theorem wi_X9_behind : Cond.instanceMethod yX9_behind ∈ zx_tb := zx_in5 (i := 7) rfl rfl
theorem ws_X9_behind : Cond.selects RX9 yX9_behind yX9_behind ∈ zx_tb := zx_ip3 (q := (yX9_behind, 35)) (i := 13) rfl rfl
theorem wc_X9_isState : Cond.code yX9_isState cX9_isState 4 (some (.boolean)) ∈ zx_tb := zx_in4 (i := 223) rfl rfl
theorem wi_X9_isState : Cond.instanceMethod yX9_isState ∈ zx_tb := zx_in4 (i := 222) rfl rfl
theorem ws_X9_isState : Cond.selects RX9 yX9_isState yX9_isState ∈ zx_tb := zx_ip3 (q := (yX9_isState, 35)) (i := 10) rfl rfl
theorem wc_X9_isAsked : Cond.code yX9_isAsked cX9_isAsked 5 (some (.boolean)) ∈ zx_tb := zx_in4 (i := 216) rfl rfl
theorem wi_X9_isAsked : Cond.instanceMethod yX9_isAsked ∈ zx_tb := zx_in4 (i := 215) rfl rfl
theorem ws_X9_isAsked : Cond.selects RX9 yX9_isAsked yX9_isAsked ∈ zx_tb := zx_ip3 (q := (yX9_isAsked, 35)) (i := 9) rfl rfl
theorem wc_X9_code : Cond.code yX9_code cX9_code 6 (some (.int)) ∈ zx_tb := zx_in4 (i := 212) rfl rfl
theorem wi_X9_code : Cond.instanceMethod yX9_code ∈ zx_tb := zx_in4 (i := 210) rfl rfl
theorem ws_X9_code : Cond.selects RX9 yX9_code yX9_code ∈ zx_tb := zx_in4 (i := 211) rfl rfl
theorem wc_X9_gone : Cond.code yX9_gone cX9_gone 2 (some (.int)) ∈ zx_tb := zx_in4 (i := 232) rfl rfl
theorem wi_X9_gone : Cond.instanceMethod yX9_gone ∈ zx_tb := zx_in4 (i := 230) rfl rfl
theorem ws_X9_gone : Cond.selects RX9 yX9_gone yX9_gone ∈ zx_tb := zx_in4 (i := 231) rfl rfl
theorem wc_X9_symbol : Cond.code yX9_symbol cX9_symbol 5 (some (.int)) ∈ zx_tb := zx_in4 (i := 236) rfl rfl
theorem wi_X9_symbol : Cond.instanceMethod yX9_symbol ∈ zx_tb := zx_in4 (i := 234) rfl rfl
theorem ws_X9_symbol : Cond.selects RX9 yX9_symbol yX9_symbol ∈ zx_tb := zx_in4 (i := 235) rfl rfl
theorem wc_X9_left : Cond.code yX9_left cX9_left 5 (some (.int)) ∈ zx_tb := zx_in5 (i := 4) rfl rfl
theorem wi_X9_left : Cond.instanceMethod yX9_left ∈ zx_tb := zx_in5 (i := 2) rfl rfl
theorem ws_X9_left : Cond.selects RX9 yX9_left yX9_left ∈ zx_tb := zx_in5 (i := 3) rfl rfl
theorem wc_X9_refusal : Cond.code yX9_refusal cX9_refusal 3 (some (.int)) ∈ zx_tb := zx_in5 (i := 16) rfl rfl
theorem wi_X9_refusal : Cond.instanceMethod yX9_refusal ∈ zx_tb := zx_in5 (i := 15) rfl rfl
theorem ws_X9_refusal : Cond.selects RX9 yX9_refusal yX9_refusal ∈ zx_tb := zx_ip3 (q := (yX9_refusal, 35)) (i := 14) rfl rfl
theorem wc_X9_meets : Cond.code yX9_meets cX9_meets 2 none ∈ zx_tb := zx_in5 (i := 29) rfl rfl
theorem wi_X9_meets : Cond.instanceMethod yX9_meets ∈ zx_tb := zx_in5 (i := 28) rfl rfl
theorem ws_X9_meets : Cond.selects RX9 yX9_meets yX9_meets ∈ zx_tb := zx_ip4 (q := (yX9_meets, 35)) (i := 1) rfl rfl
theorem wc_X9_meetsNone : Cond.code yX9_meetsNone cX9_meetsNone 1 none ∈ zx_tb := zx_in5 (i := 20) rfl rfl
theorem wi_X9_meetsNone : Cond.instanceMethod yX9_meetsNone ∈ zx_tb := zx_in5 (i := 19) rfl rfl
theorem ws_X9_meetsNone : Cond.selects RX9 yX9_meetsNone yX9_meetsNone ∈ zx_tb := zx_ip3 (q := (yX9_meetsNone, 35)) (i := 15) rfl rfl
theorem wc_X9_tells : Cond.code yX9_tells cX9_tells 2 none ∈ zx_tb := zx_in5 (i := 37) rfl rfl
theorem wi_X9_tells : Cond.instanceMethod yX9_tells ∈ zx_tb := zx_in5 (i := 36) rfl rfl
theorem ws_X9_tells : Cond.selects RX9 yX9_tells yX9_tells ∈ zx_tb := zx_ip4 (q := (yX9_tells, 35)) (i := 3) rfl rfl
theorem wc_X9_firstOf : Cond.code yX9_firstOf cX9_firstOf 3 (some (.int)) ∈ zx_tb := zx_in5 (i := 25) rfl rfl
theorem wi_X9_firstOf : Cond.instanceMethod yX9_firstOf ∈ zx_tb := zx_in5 (i := 24) rfl rfl
theorem ws_X9_firstOf : Cond.selects RX9 yX9_firstOf yX9_firstOf ∈ zx_tb := zx_ip4 (q := (yX9_firstOf, 35)) (i := 0) rfl rfl
theorem wc_X9_pack : Cond.code yX9_pack cX9_pack 12 (some (.int)) ∈ zx_tb := zx_in5 (i := 12) rfl rfl
theorem wi_X9_pack : Cond.instanceMethod yX9_pack ∈ zx_tb := zx_in5 (i := 10) rfl rfl
theorem ws_X9_pack : Cond.selects RX9 yX9_pack yX9_pack ∈ zx_tb := zx_in5 (i := 11) rfl rfl
theorem wc_X9_put : Cond.code yX9_put cX9_put 4 none ∈ zx_tb := zx_in5 (i := 33) rfl rfl
theorem wi_X9_put : Cond.instanceMethod yX9_put ∈ zx_tb := zx_in5 (i := 32) rfl rfl
theorem ws_X9_put : Cond.selects RX9 yX9_put yX9_put ∈ zx_tb := zx_ip4 (q := (yX9_put, 35)) (i := 2) rfl rfl
theorem wc_X9_ideal : Cond.code yX9_ideal cX9_ideal 9 (some (.int)) ∈ zx_tb := zx_in5 (i := 41) rfl rfl
theorem wi_X9_ideal : Cond.instanceMethod yX9_ideal ∈ zx_tb := zx_in5 (i := 39) rfl rfl
theorem ws_X9_ideal : Cond.selects RX9 yX9_ideal yX9_ideal ∈ zx_tb := zx_in5 (i := 40) rfl rfl
theorem wc_X9_look : Cond.code yX9_look cX9_look 2 (some (.int)) ∈ zx_tb := zx_in5 (i := 46) rfl rfl
theorem wi_X9_look : Cond.instanceMethod yX9_look ∈ zx_tb := zx_in5 (i := 44) rfl rfl
theorem ws_X9_look : Cond.selects RX9 yX9_look yX9_look ∈ zx_tb := zx_in5 (i := 45) rfl rfl
theorem wc_X9_fails : Cond.code yX9_fails cX9_fails 3 (some (.boolean)) ∈ zx_tb := zx_in5 (i := 62) rfl rfl
theorem wi_X9_fails : Cond.instanceMethod yX9_fails ∈ zx_tb := zx_in5 (i := 61) rfl rfl
theorem ws_X9_fails : Cond.selects RX9 yX9_fails yX9_fails ∈ zx_tb := zx_ip4 (q := (yX9_fails, 35)) (i := 6) rfl rfl
theorem wc_X9_number : Cond.code yX9_number cX9_number 5 (some (.long)) ∈ zx_tb := zx_in5 (i := 58) rfl rfl
theorem wi_X9_number : Cond.instanceMethod yX9_number ∈ zx_tb := zx_in5 (i := 57) rfl rfl
theorem ws_X9_number : Cond.selects RX9 yX9_number yX9_number ∈ zx_tb := zx_ip4 (q := (yX9_number, 35)) (i := 5) rfl rfl
theorem wc_X9_reads : Cond.code yX9_reads cX9_reads 5 (some (.boolean)) ∈ zx_tb := zx_in5 (i := 54) rfl rfl
theorem wi_X9_reads : Cond.instanceMethod yX9_reads ∈ zx_tb := zx_in5 (i := 53) rfl rfl
theorem ws_X9_reads : Cond.selects RX9 yX9_reads yX9_reads ∈ zx_tb := zx_ip4 (q := (yX9_reads, 35)) (i := 4) rfl rfl
theorem wc_X9_readsShares : Cond.code yX9_readsShares cX9_readsShares 9 (some (.boolean)) ∈ zx_tb := zx_in5 (i := 69) rfl rfl
theorem wi_X9_readsShares : Cond.instanceMethod yX9_readsShares ∈ zx_tb := zx_in5 (i := 68) rfl rfl
theorem ws_X9_readsShares : Cond.selects RX9 yX9_readsShares yX9_readsShares ∈ zx_tb := zx_ip4 (q := (yX9_readsShares, 35)) (i := 7) rfl rfl
theorem wc_X9_readsMessage : Cond.code yX9_readsMessage cX9_readsMessage 10 (some (.boolean)) ∈ zx_tb := zx_in5 (i := 76) rfl rfl
theorem wi_X9_readsMessage : Cond.instanceMethod yX9_readsMessage ∈ zx_tb := zx_in5 (i := 75) rfl rfl
theorem ws_X9_readsMessage : Cond.selects RX9 yX9_readsMessage yX9_readsMessage ∈ zx_tb := zx_ip4 (q := (yX9_readsMessage, 35)) (i := 8) rfl rfl
theorem wc_X9_unpack : Cond.code yX9_unpack cX9_unpack 4 (some (.int)) ∈ zx_tb := zx_in5 (i := 50) rfl rfl
theorem wi_X9_unpack : Cond.instanceMethod yX9_unpack ∈ zx_tb := zx_in5 (i := 48) rfl rfl
theorem ws_X9_unpack : Cond.selects RX9 yX9_unpack yX9_unpack ∈ zx_tb := zx_in5 (i := 49) rfl rfl
theorem wc_X9_fault : Cond.code yX9_fault cX9_fault 2 (some (.int)) ∈ zx_tb := zx_in5 (i := 80) rfl rfl
theorem wi_X9_fault : Cond.instanceMethod yX9_fault ∈ zx_tb := zx_in5 (i := 78) rfl rfl
theorem ws_X9_fault : Cond.selects RX9 yX9_fault yX9_fault ∈ zx_tb := zx_in5 (i := 79) rfl rfl
theorem wc_J6_numberOfLeadingZeros_0f7a4 : Cond.code yJ6_numberOfLeadingZeros_0f7a4 cJ6_numberOfLeadingZeros_0f7a4 2 (some (.int)) ∈ zx_tb := zx_in3 (i := 228) rfl rfl
theorem wt_J6_numberOfLeadingZeros_0f7a4 : Cond.static yJ6_numberOfLeadingZeros_0f7a4 ∈ zx_tb := zx_in3 (i := 227) rfl rfl
theorem wc_J9_max_7cf53 : Cond.code yJ9_max_7cf53 cJ9_max_7cf53 2 (some (.int)) ∈ zx_tb := zx_in2 (i := 99) rfl rfl
theorem wt_J9_max_7cf53 : Cond.static yJ9_max_7cf53 ∈ zx_tb := zx_in2 (i := 98) rfl rfl
theorem wc_J9_min_7cf53 : Cond.code yJ9_min_7cf53 cJ9_min_7cf53 2 (some (.int)) ∈ zx_tb := zx_in2 (i := 168) rfl rfl
theorem wt_J9_min_7cf53 : Cond.static yJ9_min_7cf53 ∈ zx_tb := zx_in2 (i := 167) rfl rfl
theorem wc_J7_fill_53178 : Cond.code yJ7_fill_53178 cJ7_fill_53178 4 none ∈ zx_tb := zx_in2 (i := 76) rfl rfl
theorem wt_J7_fill_53178 : Cond.static yJ7_fill_53178 ∈ zx_tb := zx_in2 (i := 75) rfl rfl
theorem wc_Math_max : Cond.code Lib.Math.max.name Lib.Math.max.code 2 (some .int) ∈ zx_tb := zx_in2 (i := 99) rfl rfl
theorem wt_Math_max : Cond.static Lib.Math.max.name ∈ zx_tb := zx_in2 (i := 98) rfl rfl
theorem wc_Math_min : Cond.code Lib.Math.min.name Lib.Math.min.code 2 (some .int) ∈ zx_tb := zx_in2 (i := 168) rfl rfl
theorem wt_Math_min : Cond.static Lib.Math.min.name ∈ zx_tb := zx_in2 (i := 167) rfl rfl
theorem wv_arraycopy : Cond.native arraycopyName ∈ zx_tb := zx_in3 (i := 75) rfl rfl
theorem wt_arraycopy : Cond.static arraycopyName ∈ zx_tb := zx_in3 (i := 74) rfl rfl
def zx_ne : List Cond := [Cond.methodLinkNest RX8 11 yX4_init RX8, Cond.methodLinkNest RX8 31 yX1_init RX8, Cond.methodLinkNest RX1 11 yX0_init RX8, Cond.methodLinkNest RX0 11 yX5_init RX8, Cond.methodLinkNest RX1 20 yX7_init RX8, Cond.methodLinkNest RX1 35 yX6_init RX8, Cond.methodLinkNest RX8 43 yX2_init RX8, Cond.methodLinkNest RX2 11 yX7_init RX8, Cond.methodLinkNest RX8 50 yX7_init RX8, Cond.methodLinkNest RX8 57 yX3_init RX8, Cond.methodLinkNest RX8 69 yX6_init RX8, Cond.methodLinkNest RX6 19 yX8_isSymbol RX8, Cond.methodLinkNest RX5 44 yX8_isSymbol RX8, Cond.methodLinkNest RX1 132 yX8_isCoding RX8, Cond.methodLinkNest RX1 136 yX8_isLog RX8]
theorem wN_X8_11 : Cond.methodLinkNest RX8 11 yX4_init RX8 ∈ zx_ne := List.mem_of_getElem? (i := 0) rfl
theorem wN_X8_31 : Cond.methodLinkNest RX8 31 yX1_init RX8 ∈ zx_ne := List.mem_of_getElem? (i := 1) rfl
theorem wN_X1_11 : Cond.methodLinkNest RX1 11 yX0_init RX8 ∈ zx_ne := List.mem_of_getElem? (i := 2) rfl
theorem wN_X0_11 : Cond.methodLinkNest RX0 11 yX5_init RX8 ∈ zx_ne := List.mem_of_getElem? (i := 3) rfl
theorem wN_X1_20 : Cond.methodLinkNest RX1 20 yX7_init RX8 ∈ zx_ne := List.mem_of_getElem? (i := 4) rfl
theorem wN_X1_35 : Cond.methodLinkNest RX1 35 yX6_init RX8 ∈ zx_ne := List.mem_of_getElem? (i := 5) rfl
theorem wN_X8_43 : Cond.methodLinkNest RX8 43 yX2_init RX8 ∈ zx_ne := List.mem_of_getElem? (i := 6) rfl
theorem wN_X2_11 : Cond.methodLinkNest RX2 11 yX7_init RX8 ∈ zx_ne := List.mem_of_getElem? (i := 7) rfl
theorem wN_X8_50 : Cond.methodLinkNest RX8 50 yX7_init RX8 ∈ zx_ne := List.mem_of_getElem? (i := 8) rfl
theorem wN_X8_57 : Cond.methodLinkNest RX8 57 yX3_init RX8 ∈ zx_ne := List.mem_of_getElem? (i := 9) rfl
theorem wN_X8_69 : Cond.methodLinkNest RX8 69 yX6_init RX8 ∈ zx_ne := List.mem_of_getElem? (i := 10) rfl
theorem wN_X6_19 : Cond.methodLinkNest RX6 19 yX8_isSymbol RX8 ∈ zx_ne := List.mem_of_getElem? (i := 11) rfl
theorem wN_X5_44 : Cond.methodLinkNest RX5 44 yX8_isSymbol RX8 ∈ zx_ne := List.mem_of_getElem? (i := 12) rfl
theorem wN_X1_132 : Cond.methodLinkNest RX1 132 yX8_isCoding RX8 ∈ zx_ne := List.mem_of_getElem? (i := 13) rfl
theorem wN_X1_136 : Cond.methodLinkNest RX1 136 yX8_isLog RX8 ∈ zx_ne := List.mem_of_getElem? (i := 14) rfl
theorem zx_ne_tb : ∀ w ∈ zx_ne, w ∈ lw_tbl := by
  unfold zx_ne
  refine List.forall_mem_cons.mpr ⟨zx_ix1 (i := 25) rfl, List.forall_mem_cons.mpr ⟨zx_ix1 (i := 44) rfl, List.forall_mem_cons.mpr ⟨zx_ix1 (i := 50) rfl, List.forall_mem_cons.mpr ⟨zx_ix1 (i := 56) rfl, List.forall_mem_cons.mpr ⟨zx_ix1 (i := 134) rfl, List.forall_mem_cons.mpr ⟨zx_ix1 (i := 145) rfl, List.forall_mem_cons.mpr ⟨zx_ix1 (i := 214) rfl, List.forall_mem_cons.mpr ⟨zx_ix1 (i := 219) rfl, List.forall_mem_cons.mpr ⟨zx_ix1 (i := 232) rfl, List.forall_mem_cons.mpr ⟨zx_ix1 (i := 235) rfl, List.forall_mem_cons.mpr ⟨zx_ix2 (i := 9) rfl, List.forall_mem_cons.mpr ⟨zx_ix2 (i := 112) rfl, List.forall_mem_cons.mpr ⟨zx_ix3 (i := 12) rfl, List.forall_mem_cons.mpr ⟨zx_ix3 (i := 109) rfl, List.forall_mem_cons.mpr ⟨zx_ix3 (i := 110) rfl, fun _ h => absurd h List.not_mem_nil⟩⟩⟩⟩⟩⟩⟩⟩⟩⟩⟩⟩⟩⟩⟩
theorem wu_X0 : ∀ w ∈ u_ws RX0 TX0 8, w ∈ zx_tb := by
  intro w hw
  obtain ⟨k, hk, rfl⟩ := List.mem_map.mp hw
  have hk := List.mem_range.mp hk
  match k, hk with
  | 0, _ => exact zx_in1 (i := 115) rfl rfl
  | 1, _ => exact zx_in1 (i := 117) rfl rfl
  | 2, _ => exact zx_in1 (i := 119) rfl rfl
  | 3, _ => exact zx_in1 (i := 121) rfl rfl
  | 4, _ => exact zx_in1 (i := 123) rfl rfl
  | 5, _ => exact zx_in1 (i := 125) rfl rfl
  | 6, _ => exact zx_in1 (i := 127) rfl rfl
  | 7, _ => exact zx_in1 (i := 129) rfl rfl
  | k + 8, h => exact absurd h (by omega)
theorem wu_X1 : ∀ w ∈ u_ws RX1 TX1 16, w ∈ zx_tb := by
  intro w hw
  obtain ⟨k, hk, rfl⟩ := List.mem_map.mp hw
  have hk := List.mem_range.mp hk
  match k, hk with
  | 0, _ => exact zx_in1 (i := 179) rfl rfl
  | 1, _ => exact zx_in1 (i := 181) rfl rfl
  | 2, _ => exact zx_in1 (i := 183) rfl rfl
  | 3, _ => exact zx_in1 (i := 185) rfl rfl
  | 4, _ => exact zx_in1 (i := 187) rfl rfl
  | 5, _ => exact zx_in1 (i := 189) rfl rfl
  | 6, _ => exact zx_in1 (i := 191) rfl rfl
  | 7, _ => exact zx_in1 (i := 193) rfl rfl
  | 8, _ => exact zx_in1 (i := 195) rfl rfl
  | 9, _ => exact zx_in1 (i := 197) rfl rfl
  | 10, _ => exact zx_in1 (i := 199) rfl rfl
  | 11, _ => exact zx_in1 (i := 201) rfl rfl
  | 12, _ => exact zx_in1 (i := 203) rfl rfl
  | 13, _ => exact zx_in1 (i := 205) rfl rfl
  | 14, _ => exact zx_in1 (i := 207) rfl rfl
  | 15, _ => exact zx_in1 (i := 209) rfl rfl
  | k + 16, h => exact absurd h (by omega)
theorem wu_X2 : ∀ w ∈ u_ws RX2 TX2 3, w ∈ zx_tb := by
  intro w hw
  obtain ⟨k, hk, rfl⟩ := List.mem_map.mp hw
  have hk := List.mem_range.mp hk
  match k, hk with
  | 0, _ => exact zx_in1 (i := 224) rfl rfl
  | 1, _ => exact zx_in1 (i := 226) rfl rfl
  | 2, _ => exact zx_in1 (i := 228) rfl rfl
  | k + 3, h => exact absurd h (by omega)
theorem wu_X3 : ∀ w ∈ u_ws RX3 TX3 3, w ∈ zx_tb := by
  intro w hw
  obtain ⟨k, hk, rfl⟩ := List.mem_map.mp hw
  have hk := List.mem_range.mp hk
  match k, hk with
  | 0, _ => exact zx_in2 (i := 2) rfl rfl
  | 1, _ => exact zx_in2 (i := 4) rfl rfl
  | 2, _ => exact zx_in2 (i := 6) rfl rfl
  | k + 3, h => exact absurd h (by omega)
theorem wu_X4 : ∀ w ∈ u_ws RX4 TX4 2, w ∈ zx_tb := by
  intro w hw
  obtain ⟨k, hk, rfl⟩ := List.mem_map.mp hw
  have hk := List.mem_range.mp hk
  match k, hk with
  | 0, _ => exact zx_in1 (i := 34) rfl rfl
  | 1, _ => exact zx_in1 (i := 36) rfl rfl
  | k + 2, h => exact absurd h (by omega)
theorem wu_X5 : ∀ w ∈ u_ws RX5 TX5 10, w ∈ zx_tb := by
  intro w hw
  obtain ⟨k, hk, rfl⟩ := List.mem_map.mp hw
  have hk := List.mem_range.mp hk
  match k, hk with
  | 0, _ => exact zx_in1 (i := 71) rfl rfl
  | 1, _ => exact zx_in1 (i := 73) rfl rfl
  | 2, _ => exact zx_in1 (i := 75) rfl rfl
  | 3, _ => exact zx_in1 (i := 77) rfl rfl
  | 4, _ => exact zx_in1 (i := 79) rfl rfl
  | 5, _ => exact zx_in1 (i := 81) rfl rfl
  | 6, _ => exact zx_in1 (i := 83) rfl rfl
  | 7, _ => exact zx_in1 (i := 85) rfl rfl
  | 8, _ => exact zx_in1 (i := 87) rfl rfl
  | 9, _ => exact zx_in1 (i := 89) rfl rfl
  | k + 10, h => exact absurd h (by omega)
theorem wu_X6 : ∀ w ∈ u_ws RX6 TX6 2, w ∈ zx_tb := by
  intro w hw
  obtain ⟨k, hk, rfl⟩ := List.mem_map.mp hw
  have hk := List.mem_range.mp hk
  match k, hk with
  | 0, _ => exact zx_in1 (i := 154) rfl rfl
  | 1, _ => exact zx_in1 (i := 156) rfl rfl
  | k + 2, h => exact absurd h (by omega)
theorem wu_X7 : ∀ w ∈ u_ws RX7 TX7 1, w ∈ zx_tb := by
  intro w hw
  obtain ⟨k, hk, rfl⟩ := List.mem_map.mp hw
  have hk := List.mem_range.mp hk
  match k, hk with
  | 0, _ => exact zx_in1 (i := 140) rfl rfl
  | k + 1, h => exact absurd h (by omega)
theorem wu_X8 : ∀ w ∈ u_ws RX8 TX8 11, w ∈ zx_tb := by
  intro w hw
  obtain ⟨k, hk, rfl⟩ := List.mem_map.mp hw
  have hk := List.mem_range.mp hk
  match k, hk with
  | 0, _ => exact zx_in2 (i := 21) rfl rfl
  | 1, _ => exact zx_in2 (i := 23) rfl rfl
  | 2, _ => exact zx_in2 (i := 25) rfl rfl
  | 3, _ => exact zx_in2 (i := 27) rfl rfl
  | 4, _ => exact zx_in2 (i := 29) rfl rfl
  | 5, _ => exact zx_in2 (i := 31) rfl rfl
  | 6, _ => exact zx_in2 (i := 33) rfl rfl
  | 7, _ => exact zx_in2 (i := 35) rfl rfl
  | 8, _ => exact zx_in2 (i := 37) rfl rfl
  | 9, _ => exact zx_in2 (i := 39) rfl rfl
  | 10, _ => exact zx_in2 (i := 41) rfl rfl
  | k + 11, h => exact absurd h (by omega)
theorem wu_X9 : ∀ w ∈ u_ws RX9 TX9 35, w ∈ zx_tb := by
  intro w hw
  obtain ⟨k, hk, rfl⟩ := List.mem_map.mp hw
  have hk := List.mem_range.mp hk
  match k, hk with
  | 0, _ => exact zx_in4 (i := 65) rfl rfl
  | 1, _ => exact zx_in4 (i := 67) rfl rfl
  | 2, _ => exact zx_in4 (i := 69) rfl rfl
  | 3, _ => exact zx_in4 (i := 71) rfl rfl
  | 4, _ => exact zx_in4 (i := 73) rfl rfl
  | 5, _ => exact zx_in4 (i := 75) rfl rfl
  | 6, _ => exact zx_in4 (i := 77) rfl rfl
  | 7, _ => exact zx_in4 (i := 79) rfl rfl
  | 8, _ => exact zx_in4 (i := 81) rfl rfl
  | 9, _ => exact zx_in4 (i := 83) rfl rfl
  | 10, _ => exact zx_in4 (i := 85) rfl rfl
  | 11, _ => exact zx_in4 (i := 87) rfl rfl
  | 12, _ => exact zx_in4 (i := 89) rfl rfl
  | 13, _ => exact zx_in4 (i := 91) rfl rfl
  | 14, _ => exact zx_in4 (i := 93) rfl rfl
  | 15, _ => exact zx_in4 (i := 95) rfl rfl
  | 16, _ => exact zx_in4 (i := 97) rfl rfl
  | 17, _ => exact zx_in4 (i := 99) rfl rfl
  | 18, _ => exact zx_in4 (i := 101) rfl rfl
  | 19, _ => exact zx_in4 (i := 103) rfl rfl
  | 20, _ => exact zx_in4 (i := 105) rfl rfl
  | 21, _ => exact zx_in4 (i := 107) rfl rfl
  | 22, _ => exact zx_in4 (i := 109) rfl rfl
  | 23, _ => exact zx_in4 (i := 111) rfl rfl
  | 24, _ => exact zx_in4 (i := 113) rfl rfl
  | 25, _ => exact zx_in4 (i := 115) rfl rfl
  | 26, _ => exact zx_in4 (i := 117) rfl rfl
  | 27, _ => exact zx_in4 (i := 119) rfl rfl
  | 28, _ => exact zx_in4 (i := 121) rfl rfl
  | 29, _ => exact zx_in4 (i := 123) rfl rfl
  | 30, _ => exact zx_in4 (i := 125) rfl rfl
  | 31, _ => exact zx_in4 (i := 127) rfl rfl
  | 32, _ => exact zx_in4 (i := 129) rfl rfl
  | 33, _ => exact zx_in4 (i := 131) rfl rfl
  | 34, _ => exact zx_in4 (i := 133) rfl rfl
  | k + 35, h => exact absurd h (by omega)
end
section
/-! the world of all cells of the class (0 .. 42) and of the reference (43 .. 61), by number: St k j is the j-th int of cell k (an array's element; an object's field; of a reference that moves its cell's number, 0 for null) -/
abbrev St : Type := Nat → Nat → Int32
/-- the classes of int, byte, boolean arrays, and of the array of tables -/
abbrev zx_C : Type := ClassId × ClassId × ClassId × ClassId
def upS (S : St) (k : Nat) (f : Nat → Int32) : St := fun j => if j = k then f else S j
def puS (S : St) (k i : Nat) (v : Int32) : St := upS S k (upd (S k) i v)
def pin {α β : Type} (x : α) (k : α → β) : β := k x
def zx_rfo (a : Nat → Nat) (v : Int32) : Option Nat := if v = 0 then none else some (a v.toNatClampNeg)
def bnd {α β : Type} (x : Option (α × St)) (k : α → St → Option β) : Option β := match x with
  | none => none
  | some y => k y.1 y.2
def zx_cl (a : Nat → Nat) (cs : zx_C) : List ((Nat → Int32) → va_E) := [
  fun f => .inr (8, [.ref (a 1), .ref (a 3), .ref (a 5), .ref (a 6), .ref (a 7), .ref (a 8), .ref (a 34), .ref (a 39), .ref (a 41), .int (f 9), .int (f 10)]),
  fun f => .inr (4, [.ref (a 2), .int (f 1)]),
  fun f => .inl (cs.2.1, 4000, .inl f),
  fun f => .inr (4, [.ref (a 4), .int (f 1)]),
  fun f => .inl (cs.2.1, 4000, .inl f),
  fun f => .inl (cs.2.2.2, 6, .inr (.inr (.inr (.inr (fun j => zx_rfo a (f j)))))),
  fun f => .inl (cs.1, 256, .inl f),
  fun f => .inr (1, [.ref (a 8), .ref (a 16), .ref (a 18), .ref (a 19), va_rf (zx_rfo a (f 4)), va_rf (zx_rfo a (f 5)), .int (f 6), .int (f 7), .int (f 8), .int (f 9), .int (f 10), .int (f 11), .int (f 12), .int (f 13), .int (f 14), .int (f 15)]),
  fun f => .inr (0, [.ref (a 9), .int (f 1), .int (f 2), .int (f 3), .int (f 4), .int (f 5), .int (f 6), .int (f 7)]),
  fun f => .inr (5, [.ref (a 10), .ref (a 11), .ref (a 12), .ref (a 13), .ref (a 14), .ref (a 15), .int (f 6), .int (f 7), .int (f 8), va_rf (zx_rfo a (f 9))]),
  fun f => .inl (cs.1, 4096, .inl f),
  fun f => .inl (cs.1, 4096, .inl f),
  fun f => .inl (cs.1, 256, .inl f),
  fun f => .inl (cs.1, 256, .inl f),
  fun f => .inl (cs.1, 256, .inl f),
  fun f => .inl (cs.1, 256, .inl f),
  fun f => .inr (7, [.ref (a 17)]),
  fun f => .inl (cs.1, 6, .inl f),
  fun f => .inl (cs.1, 2, .inl f),
  fun f => .inl (cs.2.1, 1400, .inl f),
  fun f => .inr (6, [.ref (a 21), .int (f 1)]),
  fun f => .inl (cs.1, 256, .inl f),
  fun f => .inr (6, [.ref (a 23), .int (f 1)]),
  fun f => .inl (cs.1, 256, .inl f),
  fun f => .inr (6, [.ref (a 25), .int (f 1)]),
  fun f => .inl (cs.1, 256, .inl f),
  fun f => .inr (6, [.ref (a 27), .int (f 1)]),
  fun f => .inl (cs.1, 256, .inl f),
  fun f => .inr (6, [.ref (a 29), .int (f 1)]),
  fun f => .inl (cs.1, 256, .inl f),
  fun f => .inr (6, [.ref (a 31), .int (f 1)]),
  fun f => .inl (cs.1, 256, .inl f),
  fun f => .inr (6, [.ref (a 33), .int (f 1)]),
  fun f => .inl (cs.1, 256, .inl f),
  fun f => .inr (2, [.ref (a 35), .ref (a 37), .ref (a 38)]),
  fun f => .inr (7, [.ref (a 36)]),
  fun f => .inl (cs.1, 6, .inl f),
  fun f => .inl (cs.1, 2, .inl f),
  fun f => .inl (cs.1, 1400, .inl f),
  fun f => .inr (7, [.ref (a 40)]),
  fun f => .inl (cs.1, 6, .inl f),
  fun f => .inr (3, [.ref (a 42), .int (f 1), .int (f 2)]),
  fun f => .inl (cs.1, 562, .inl f),
  fun f => .inr (9, [.ref (a 44), .int (f 1), .ref (a 45), .int (f 3), .ref (a 46), .ref (a 47), .ref (a 48), .ref (a 49), .ref (a 50), .ref (a 51), .ref (a 52), .ref (a 53), .ref (a 54), .int (f 13), .ref (a 55), .ref (a 56), .int (f 16), .int (f 17), .int (f 18), .int (f 19), .int (f 20), .int (f 21), .int (f 22), .ref (a 57), .ref (a 58), .ref (a 59), .ref (a 60), .int (f 27), .int (f 28), .int (f 29), .int (f 30), .int (f 31), .int (f 32), .int (f 33), .ref (a 61)]),
  fun f => .inl (cs.1, 4000, .inl f),
  fun f => .inl (cs.1, 4000, .inl f),
  fun f => .inl (cs.1, 7, .inl f),
  fun f => .inl (cs.1, 1792, .inl f),
  fun f => .inl (cs.1, 1792, .inl f),
  fun f => .inl (cs.2.2.1, 21, .inl f),
  fun f => .inl (cs.1, 86016, .inl f),
  fun f => .inl (cs.1, 86016, .inl f),
  fun f => .inl (cs.1, 86016, .inl f),
  fun f => .inl (cs.1, 256, .inl f),
  fun f => .inl (cs.1, 256, .inl f),
  fun f => .inl (cs.1, 256, .inl f),
  fun f => .inl (cs.1, 6, .inl f),
  fun f => .inl (cs.1, 17000, .inl f),
  fun f => .inl (cs.1, 2, .inl f),
  fun f => .inl (cs.1, 6, .inl f),
  fun f => .inl (cs.1, 1060, .inl f),
  fun f => .inl (cs.1, 1400, .inl f)]
def zx_E (a : Nat → Nat) (cs : zx_C) (k : Nat) (f : Nat → Int32) : va_E := match (zx_cl a cs)[k]? with
  | some g => g f
  | none => .inl (cs.1, 0, .inl f)
theorem zx_E0 {a : Nat → Nat} {cs : zx_C} {f : Nat → Int32} : zx_E a cs 0 f = .inr (8, [.ref (a 1), .ref (a 3), .ref (a 5), .ref (a 6), .ref (a 7), .ref (a 8), .ref (a 34), .ref (a 39), .ref (a 41), .int (f 9), .int (f 10)]) := rfl
theorem zx_E1 {a : Nat → Nat} {cs : zx_C} {f : Nat → Int32} : zx_E a cs 1 f = .inr (4, [.ref (a 2), .int (f 1)]) := rfl
theorem zx_E2 {a : Nat → Nat} {cs : zx_C} {f : Nat → Int32} : zx_E a cs 2 f = .inl (cs.2.1, 4000, .inl f) := rfl
theorem zx_E3 {a : Nat → Nat} {cs : zx_C} {f : Nat → Int32} : zx_E a cs 3 f = .inr (4, [.ref (a 4), .int (f 1)]) := rfl
theorem zx_E4 {a : Nat → Nat} {cs : zx_C} {f : Nat → Int32} : zx_E a cs 4 f = .inl (cs.2.1, 4000, .inl f) := rfl
theorem zx_E5 {a : Nat → Nat} {cs : zx_C} {f : Nat → Int32} : zx_E a cs 5 f = .inl (cs.2.2.2, 6, .inr (.inr (.inr (.inr (fun j => zx_rfo a (f j)))))) := rfl
theorem zx_E6 {a : Nat → Nat} {cs : zx_C} {f : Nat → Int32} : zx_E a cs 6 f = .inl (cs.1, 256, .inl f) := rfl
theorem zx_E7 {a : Nat → Nat} {cs : zx_C} {f : Nat → Int32} : zx_E a cs 7 f = .inr (1, [.ref (a 8), .ref (a 16), .ref (a 18), .ref (a 19), va_rf (zx_rfo a (f 4)), va_rf (zx_rfo a (f 5)), .int (f 6), .int (f 7), .int (f 8), .int (f 9), .int (f 10), .int (f 11), .int (f 12), .int (f 13), .int (f 14), .int (f 15)]) := rfl
theorem zx_E8 {a : Nat → Nat} {cs : zx_C} {f : Nat → Int32} : zx_E a cs 8 f = .inr (0, [.ref (a 9), .int (f 1), .int (f 2), .int (f 3), .int (f 4), .int (f 5), .int (f 6), .int (f 7)]) := rfl
theorem zx_E9 {a : Nat → Nat} {cs : zx_C} {f : Nat → Int32} : zx_E a cs 9 f = .inr (5, [.ref (a 10), .ref (a 11), .ref (a 12), .ref (a 13), .ref (a 14), .ref (a 15), .int (f 6), .int (f 7), .int (f 8), va_rf (zx_rfo a (f 9))]) := rfl
theorem zx_E10 {a : Nat → Nat} {cs : zx_C} {f : Nat → Int32} : zx_E a cs 10 f = .inl (cs.1, 4096, .inl f) := rfl
theorem zx_E11 {a : Nat → Nat} {cs : zx_C} {f : Nat → Int32} : zx_E a cs 11 f = .inl (cs.1, 4096, .inl f) := rfl
theorem zx_E12 {a : Nat → Nat} {cs : zx_C} {f : Nat → Int32} : zx_E a cs 12 f = .inl (cs.1, 256, .inl f) := rfl
theorem zx_E13 {a : Nat → Nat} {cs : zx_C} {f : Nat → Int32} : zx_E a cs 13 f = .inl (cs.1, 256, .inl f) := rfl
theorem zx_E14 {a : Nat → Nat} {cs : zx_C} {f : Nat → Int32} : zx_E a cs 14 f = .inl (cs.1, 256, .inl f) := rfl
theorem zx_E15 {a : Nat → Nat} {cs : zx_C} {f : Nat → Int32} : zx_E a cs 15 f = .inl (cs.1, 256, .inl f) := rfl
theorem zx_E16 {a : Nat → Nat} {cs : zx_C} {f : Nat → Int32} : zx_E a cs 16 f = .inr (7, [.ref (a 17)]) := rfl
theorem zx_E17 {a : Nat → Nat} {cs : zx_C} {f : Nat → Int32} : zx_E a cs 17 f = .inl (cs.1, 6, .inl f) := rfl
theorem zx_E18 {a : Nat → Nat} {cs : zx_C} {f : Nat → Int32} : zx_E a cs 18 f = .inl (cs.1, 2, .inl f) := rfl
theorem zx_E19 {a : Nat → Nat} {cs : zx_C} {f : Nat → Int32} : zx_E a cs 19 f = .inl (cs.2.1, 1400, .inl f) := rfl
theorem zx_E20 {a : Nat → Nat} {cs : zx_C} {f : Nat → Int32} : zx_E a cs 20 f = .inr (6, [.ref (a 21), .int (f 1)]) := rfl
theorem zx_E21 {a : Nat → Nat} {cs : zx_C} {f : Nat → Int32} : zx_E a cs 21 f = .inl (cs.1, 256, .inl f) := rfl
theorem zx_E22 {a : Nat → Nat} {cs : zx_C} {f : Nat → Int32} : zx_E a cs 22 f = .inr (6, [.ref (a 23), .int (f 1)]) := rfl
theorem zx_E23 {a : Nat → Nat} {cs : zx_C} {f : Nat → Int32} : zx_E a cs 23 f = .inl (cs.1, 256, .inl f) := rfl
theorem zx_E24 {a : Nat → Nat} {cs : zx_C} {f : Nat → Int32} : zx_E a cs 24 f = .inr (6, [.ref (a 25), .int (f 1)]) := rfl
theorem zx_E25 {a : Nat → Nat} {cs : zx_C} {f : Nat → Int32} : zx_E a cs 25 f = .inl (cs.1, 256, .inl f) := rfl
theorem zx_E26 {a : Nat → Nat} {cs : zx_C} {f : Nat → Int32} : zx_E a cs 26 f = .inr (6, [.ref (a 27), .int (f 1)]) := rfl
theorem zx_E27 {a : Nat → Nat} {cs : zx_C} {f : Nat → Int32} : zx_E a cs 27 f = .inl (cs.1, 256, .inl f) := rfl
theorem zx_E28 {a : Nat → Nat} {cs : zx_C} {f : Nat → Int32} : zx_E a cs 28 f = .inr (6, [.ref (a 29), .int (f 1)]) := rfl
theorem zx_E29 {a : Nat → Nat} {cs : zx_C} {f : Nat → Int32} : zx_E a cs 29 f = .inl (cs.1, 256, .inl f) := rfl
theorem zx_E30 {a : Nat → Nat} {cs : zx_C} {f : Nat → Int32} : zx_E a cs 30 f = .inr (6, [.ref (a 31), .int (f 1)]) := rfl
theorem zx_E31 {a : Nat → Nat} {cs : zx_C} {f : Nat → Int32} : zx_E a cs 31 f = .inl (cs.1, 256, .inl f) := rfl
theorem zx_E32 {a : Nat → Nat} {cs : zx_C} {f : Nat → Int32} : zx_E a cs 32 f = .inr (6, [.ref (a 33), .int (f 1)]) := rfl
theorem zx_E33 {a : Nat → Nat} {cs : zx_C} {f : Nat → Int32} : zx_E a cs 33 f = .inl (cs.1, 256, .inl f) := rfl
theorem zx_E34 {a : Nat → Nat} {cs : zx_C} {f : Nat → Int32} : zx_E a cs 34 f = .inr (2, [.ref (a 35), .ref (a 37), .ref (a 38)]) := rfl
theorem zx_E35 {a : Nat → Nat} {cs : zx_C} {f : Nat → Int32} : zx_E a cs 35 f = .inr (7, [.ref (a 36)]) := rfl
theorem zx_E36 {a : Nat → Nat} {cs : zx_C} {f : Nat → Int32} : zx_E a cs 36 f = .inl (cs.1, 6, .inl f) := rfl
theorem zx_E37 {a : Nat → Nat} {cs : zx_C} {f : Nat → Int32} : zx_E a cs 37 f = .inl (cs.1, 2, .inl f) := rfl
theorem zx_E38 {a : Nat → Nat} {cs : zx_C} {f : Nat → Int32} : zx_E a cs 38 f = .inl (cs.1, 1400, .inl f) := rfl
theorem zx_E39 {a : Nat → Nat} {cs : zx_C} {f : Nat → Int32} : zx_E a cs 39 f = .inr (7, [.ref (a 40)]) := rfl
theorem zx_E40 {a : Nat → Nat} {cs : zx_C} {f : Nat → Int32} : zx_E a cs 40 f = .inl (cs.1, 6, .inl f) := rfl
theorem zx_E41 {a : Nat → Nat} {cs : zx_C} {f : Nat → Int32} : zx_E a cs 41 f = .inr (3, [.ref (a 42), .int (f 1), .int (f 2)]) := rfl
theorem zx_E42 {a : Nat → Nat} {cs : zx_C} {f : Nat → Int32} : zx_E a cs 42 f = .inl (cs.1, 562, .inl f) := rfl
theorem zx_E43 {a : Nat → Nat} {cs : zx_C} {f : Nat → Int32} : zx_E a cs 43 f = .inr (9, [.ref (a 44), .int (f 1), .ref (a 45), .int (f 3), .ref (a 46), .ref (a 47), .ref (a 48), .ref (a 49), .ref (a 50), .ref (a 51), .ref (a 52), .ref (a 53), .ref (a 54), .int (f 13), .ref (a 55), .ref (a 56), .int (f 16), .int (f 17), .int (f 18), .int (f 19), .int (f 20), .int (f 21), .int (f 22), .ref (a 57), .ref (a 58), .ref (a 59), .ref (a 60), .int (f 27), .int (f 28), .int (f 29), .int (f 30), .int (f 31), .int (f 32), .int (f 33), .ref (a 61)]) := rfl
theorem zx_E44 {a : Nat → Nat} {cs : zx_C} {f : Nat → Int32} : zx_E a cs 44 f = .inl (cs.1, 4000, .inl f) := rfl
theorem zx_E45 {a : Nat → Nat} {cs : zx_C} {f : Nat → Int32} : zx_E a cs 45 f = .inl (cs.1, 4000, .inl f) := rfl
theorem zx_E46 {a : Nat → Nat} {cs : zx_C} {f : Nat → Int32} : zx_E a cs 46 f = .inl (cs.1, 7, .inl f) := rfl
theorem zx_E47 {a : Nat → Nat} {cs : zx_C} {f : Nat → Int32} : zx_E a cs 47 f = .inl (cs.1, 1792, .inl f) := rfl
theorem zx_E48 {a : Nat → Nat} {cs : zx_C} {f : Nat → Int32} : zx_E a cs 48 f = .inl (cs.1, 1792, .inl f) := rfl
theorem zx_E49 {a : Nat → Nat} {cs : zx_C} {f : Nat → Int32} : zx_E a cs 49 f = .inl (cs.2.2.1, 21, .inl f) := rfl
theorem zx_E50 {a : Nat → Nat} {cs : zx_C} {f : Nat → Int32} : zx_E a cs 50 f = .inl (cs.1, 86016, .inl f) := rfl
theorem zx_E51 {a : Nat → Nat} {cs : zx_C} {f : Nat → Int32} : zx_E a cs 51 f = .inl (cs.1, 86016, .inl f) := rfl
theorem zx_E52 {a : Nat → Nat} {cs : zx_C} {f : Nat → Int32} : zx_E a cs 52 f = .inl (cs.1, 86016, .inl f) := rfl
theorem zx_E53 {a : Nat → Nat} {cs : zx_C} {f : Nat → Int32} : zx_E a cs 53 f = .inl (cs.1, 256, .inl f) := rfl
theorem zx_E54 {a : Nat → Nat} {cs : zx_C} {f : Nat → Int32} : zx_E a cs 54 f = .inl (cs.1, 256, .inl f) := rfl
theorem zx_E55 {a : Nat → Nat} {cs : zx_C} {f : Nat → Int32} : zx_E a cs 55 f = .inl (cs.1, 256, .inl f) := rfl
theorem zx_E56 {a : Nat → Nat} {cs : zx_C} {f : Nat → Int32} : zx_E a cs 56 f = .inl (cs.1, 6, .inl f) := rfl
theorem zx_E57 {a : Nat → Nat} {cs : zx_C} {f : Nat → Int32} : zx_E a cs 57 f = .inl (cs.1, 17000, .inl f) := rfl
theorem zx_E58 {a : Nat → Nat} {cs : zx_C} {f : Nat → Int32} : zx_E a cs 58 f = .inl (cs.1, 2, .inl f) := rfl
theorem zx_E59 {a : Nat → Nat} {cs : zx_C} {f : Nat → Int32} : zx_E a cs 59 f = .inl (cs.1, 6, .inl f) := rfl
theorem zx_E60 {a : Nat → Nat} {cs : zx_C} {f : Nat → Int32} : zx_E a cs 60 f = .inl (cs.1, 1060, .inl f) := rfl
theorem zx_E61 {a : Nat → Nat} {cs : zx_C} {f : Nat → Int32} : zx_E a cs 61 f = .inl (cs.1, 1400, .inl f) := rfl
def zx_wl (a : Nat → Nat) (cs : zx_C) (S : St) : va_W := (List.range 62).map (fun k => (a k, zx_E a cs k (S k)))
theorem zx_wl_get {a : Nat → Nat} {cs : zx_C} {S : St} {k : Nat} (hk : k < 62) : (zx_wl a cs S)[k]? = some (a k, zx_E a cs k (S k)) := by
  simp [zx_wl, List.getElem?_map, List.getElem?_range, hk]
theorem zx_wl_at {a : Nat → Nat} {cs : zx_C} {S : St} {k : Nat} {q : Nat × va_E} (h : (zx_wl a cs S)[k]? = some q) : k < 62 ∧ q = (a k, zx_E a cs k (S k)) := by
  by_cases hk : k < 62
  · rw [zx_wl_get hk] at h
    exact ⟨hk, (Option.some.inj h).symm⟩
  · rw [List.getElem?_eq_none (by simp [zx_wl]; omega)] at h
    cases h
theorem zx_wl_set {a : Nat → Nat} {cs : zx_C} {S : St} {k : Nat} {f : Nat → Int32} {e : va_E} (hk : k < 62) (he : zx_E a cs k f = e) : (zx_wl a cs S).set k (a k, e) = zx_wl a cs (upS S k f) := by
  subst he
  apply List.ext_getElem?
  intro i
  by_cases hi : i < 62
  · rw [zx_wl_get hi, List.getElem?_set]
    by_cases h : k = i
    · subst h
      simp [upS, zx_wl, hk]
    · have h' : ¬ i = k := fun e => h e.symm
      simp only [if_neg h, upS, if_neg h']
      exact zx_wl_get hi
  · rw [List.getElem?_eq_none (by simp [zx_wl]; omega), List.getElem?_eq_none (by simp [zx_wl]; omega)]
/-- the addresses are apart -/
def zx_J (a : Nat → Nat) : Prop := ∀ i j, i < 62 → j < 62 → a i = a j → i = j
def zx_A (a : Nat → Nat) : Nat → Prop := fun q => ∃ k, k < 62 ∧ a k = q
theorem zx_D {a : Nat → Nat} {cs : zx_C} {S : St} (h : zx_J a) : va_D (zx_A a) (zx_wl a cs S) := by
  refine ⟨fun i j p q hi hj e => ?_, fun k q hk => ?_⟩
  · obtain ⟨hi1, rfl⟩ := zx_wl_at hi
    obtain ⟨hj1, rfl⟩ := zx_wl_at hj
    exact h i j hi1 hj1 e
  · obtain ⟨hk1, rfl⟩ := zx_wl_at hk
    exact ⟨k, hk1, rfl⟩
abbrev zx_ty (cs : zx_C) : List (ClassId × FieldType) := [(cs.1, .int), (cs.2.1, .byte), (cs.2.2.1, .boolean), (cs.2.2.2, .object RX6)]
/-- the words of nest mates -/
def zx_N (U : State) : Prop := ∀ w ∈ zx_ne, va_Nw w U
def zx_W (D : va_G) (a : Nat → Nat) (cs : zx_C) (S : St) (H : Heap) : Prop := va_P D vwCl (zx_wl a cs S) H
/-- what stays the same in a walk -/
def zx_F (D : va_G) (a : Nat → Nat) (cs : zx_C) (p : Program) (m : MethodId) (c : Code) (cc : ByteArray) (nL : Nat) (s : State) (args : Array Value) (own : String) (meth : Method) : Prop :=
  (p.tables.exec = Jvm.exec ∧ c.code = cc ∧ c.maxLocals = nL ∧ s.vm.findClass own = some m.cls ∧ ∀ w ∈ zx_tb, w.before args s = true) ∧ meth.locks = false ∧ va_K D vwCl (zx_ty cs) s ∧ zx_J a ∧ zx_N s
theorem zx_ne_on : ∀ w ∈ zx_ne, w.onTables = true := by decide +kernel
theorem zx_N.same {u U : State} (h : u.vm = U.vm) (hN : zx_N u) : zx_N U := fun w hw => va_Nw.same (zx_ne_on w hw) h (hN w hw)
theorem zx_N.warm {u U : State} (h : u.WarmedH U.vm) (hN : zx_N u) : zx_N U := by
  intro w hw
  have h2 := hN w hw
  have h3 : ∃ (a : String) (i : Nat) (x : MethodName) (b : String), w = Cond.methodLinkNest a i x b := by
    revert w
    unfold zx_ne
    intro w hw _
    simp only [List.mem_cons, List.not_mem_nil, or_false] at hw
    rcases hw with rfl | rfl | rfl | rfl | rfl | rfl | rfl | rfl | rfl | rfl | rfl | rfl | rfl | rfl | rfl <;> exact ⟨_, _, _, _, rfl⟩
  obtain ⟨a, i, x, b, rfl⟩ := h3
  exact va_Nw.warmM h h2
/-- a contract's start and its ends -/
def zx_P (D : va_G) (a : Nat → Nat) (cs : zx_C) (av : List Value) (S : St) : Array Value → State → Prop := va_Pc av (fun U => zx_W D a cs S U.heap ∧ va_K D vwCl (zx_ty cs) U ∧ zx_J a ∧ zx_N U)
def zx_Qi (D : va_G) (a : Nat → Nat) (cs : zx_C) (r : Int32) (S : St) : Array Value → State → Outcome → State → Prop := va_Qi (fun (x : Int32) (_ : Unit) => x = r) (fun _ t => zx_W D a cs S t.heap) (zx_A a)
def zx_Ql (D : va_G) (a : Nat → Nat) (cs : zx_C) (r : Int64) (S : St) : Array Value → State → Outcome → State → Prop := va_Ql (fun (x : Int64) (_ : Unit) => x = r) (fun _ t => zx_W D a cs S t.heap) (zx_A a)
def zx_Qv (D : va_G) (a : Nat → Nat) (cs : zx_C) (S : St) : Array Value → State → Outcome → State → Prop := va_Qv (fun (_ : Unit) => True) (fun _ t => zx_W D a cs S t.heap) (zx_A a)
/-- an answer that is a cell by its number, or null (0) -/
def zx_Qa (D : va_G) (a : Nat → Nat) (cs : zx_C) (r : Int32) (S : St) : Array Value → State → Outcome → State → Prop := fun _ st oc t => oc = .returned (some (va_rf (zx_rfo a r))) ∧ zx_W D a cs S t.heap ∧ va_F (zx_A a) st t
theorem zx_blind {D : va_G} {a : Nat → Nat} {cs : zx_C} {av : List Value} {S : St} : FrameBlind (zx_P D a cs av S) := by
  intro b U g mk q
  obtain ⟨q0, qP, qK, qD, qN⟩ := q
  exact ⟨q0, qP, va_K.moved (u := U) (U := U.calling g mk b) (Vm.Alike.refl U.vm) qK, qD, zx_N.same (u := U) (U := U.calling g mk b) rfl qN⟩
-- steps of the pure text
theorem g_no {α : Type} {c : Prop} [Decidable c] {X : Option α} {R : α} (h : (if c then none else X) = some R) : ¬ c ∧ X = some R := by
  by_cases hc : c
  · rw [if_pos hc] at h; cases h
  · rw [if_neg hc] at h; exact ⟨hc, h⟩
theorem g_ok {α : Type} {c : Prop} [Decidable c] {X : Option α} {R : α} (h : (if c then X else none) = some R) : c ∧ X = some R := by
  by_cases hc : c
  · rw [if_pos hc] at h; exact ⟨hc, h⟩
  · rw [if_neg hc] at h; cases h
theorem g_t {α : Type} {c : Prop} [Decidable c] {X Y : Option α} {R : α} (hc : c) (h : (if c then X else Y) = some R) : X = some R := by
  rw [if_pos hc] at h; exact h
theorem g_f {α : Type} {c : Prop} [Decidable c] {X Y : Option α} {R : α} (hc : ¬ c) (h : (if c then X else Y) = some R) : Y = some R := by
  rw [if_neg hc] at h; exact h
theorem g_bd {α β : Type} {x : Option (α × St)} {k : α → St → Option β} {R : β} (h : bnd x k = some R) : ∃ r S, x = some (r, S) ∧ k r S = some R := by
  cases x with
  | none => cases h
  | some y => exact ⟨y.1, y.2, rfl, h⟩
theorem g_pin {α β : Type} {x : α} {k : α → Option β} {R : β} (h : pin x k = some R) : ∃ y, y = x ∧ k y = some R := ⟨x, rfl, h⟩
section ZX
variable {p : Program} {l : Launch} {e : Env} {R : Room} {s : State} {m : MethodId} {args : Array Value} {below : List Frame} {meth : Method} {c : Code} {H : Heap} {locs : List Loc} {cells slots : Nat} {Q : State → Prop}
variable {cc : ByteArray} {pc nL : Nat} {ls : Array Slot} {rest : List Value} {D : va_G} {a : Nat → Nat} {cs : zx_C} {S : St} {own : String}
theorem zx_get (F : zx_F D a cs p m c cc nL s args own meth) (hW : zx_W D a cs S H) {C : String} {T : u_T} {N ci index k : Nat} (hin : ∀ w ∈ u_ws C T N, w ∈ zx_tb) (hk : k < 62) {fs : List Value} (he : zx_E a cs k (S k) = .inr (ci, fs)) (hc : vwCl[ci]? = some (C, T, N)) (j : Nat) (hj : j < N) (hlink : Cond.fieldLink own index (T j).1 (T j).2.1 (T j).2.2.1 ∈ zx_tb) {v : Value} (hv : fs[j]? = some v) (hdg : decode cc pc = .ok (.getfield index, 3))
    (kk : W p l e R s m args below meth c H locs cells slots Q (F0 m (pc + 3) ls (v :: rest))) : W p l e R s m args below meth c H locs cells slots Q (F0 m pc ls (.ref (a k) :: rest)) := by
  obtain ⟨⟨hx, hb, hml, hown, hts⟩, -, hK, hJ, hN⟩ := F
  exact va_get hx hb hts hin hown hK hW k (by rw [zx_wl_get hk, he]) hc j hj (hts _ hlink) (fun _ h => h) hv hdg kk
theorem zx_putv (F : zx_F D a cs p m c cc nL s args own meth) (hW : zx_W D a cs S H) (hS : va_S (zx_A a) s.heap H locs) {C : String} {T : u_T} {N ci index k : Nat} (hin : ∀ w ∈ u_ws C T N, w ∈ zx_tb) {ty0 : Nat → FieldType} (hty : ∀ k, k < N → parseFieldDescriptor (T k).2.2.1 = some (ty0 k)) (hnm : ∀ a, a < N → ∀ b, b < N → a ≠ b → (T a).2.1 ≠ (T b).2.1) (hk : k < 62) {fs : List Value} (he : zx_E a cs k (S k) = .inr (ci, fs)) (hc : vwCl[ci]? = some (C, T, N)) (j : Nat) (hj : j < N) (hlink : Cond.fieldLink own index (T j).1 (T j).2.1 (T j).2.2.1 ∈ zx_tb) (hfin : (T j).2.2.2 = false) {v : Value} (x : Int32) (hn : narrow (ty0 j) v = v) (hfit : fits (ty0 j) v = true) (hl : j < fs.length) (he2 : zx_E a cs k (upd (S k) j x) = .inr (ci, fs.set j v)) (hdg : decode cc pc = .ok (.putfield index, 3))
    (kk : ∀ (H1 : Heap) (locs1 : List Loc), zx_W D a cs (puS S k j x) H1 → va_S (zx_A a) s.heap H1 locs1 → W p l e R s m args below meth c H1 locs1 cells slots Q (F0 m (pc + 3) ls rest)) : W p l e R s m args below meth c H locs cells slots Q (F0 m pc ls (v :: .ref (a k) :: rest)) := by
  obtain ⟨⟨hx, hb, hml, hown, hts⟩, -, hK, hJ, hN⟩ := F
  refine va_put hx hb hts hin ty0 hty hnm hown hK hW (zx_D hJ) hS k (by rw [zx_wl_get hk, he]) hc j hj (hts _ hlink) (fun _ h => h) hfin (hty j hj) hn hfit hl hdg (fun H1 locs1 hP _ hS1 => ?_)
  rw [zx_wl_set hk he2] at hP
  exact kk H1 locs1 hP hS1
theorem zx_iald (F : zx_F D a cs p m c cc nL s args own meth) (hW : zx_W D a cs S H) {k n : Nat} (hk : k < 62) (he : zx_E a cs k (S k) = .inl (cs.1, n, .inl (S k))) {i : Int32} (hin : vp_in i n) (hdg : decode cc pc = .ok (.iaload, 1))
    (kk : W p l e R s m args below meth c H locs cells slots Q (F0 m (pc + 1) ls (.int (S k i.toNatClampNeg) :: rest))) : W p l e R s m args below meth c H locs cells slots Q (F0 m pc ls (.int i :: .ref (a k) :: rest)) := by
  obtain ⟨⟨hx, hb, hml, hown, hts⟩, -, hK, hJ, hN⟩ := F
  exact va_iald hx hb hK hW k 0 (by rw [zx_wl_get hk, he]) rfl hin hdg kk
theorem zx_bald (F : zx_F D a cs p m c cc nL s args own meth) (hW : zx_W D a cs S H) {k n : Nat} (hk : k < 62) (he : zx_E a cs k (S k) = .inl (cs.2.1, n, .inl (S k))) {i : Int32} (hin : vp_in i n) (hdg : decode cc pc = .ok (.baload, 1))
    (kk : W p l e R s m args below meth c H locs cells slots Q (F0 m (pc + 1) ls (.int (S k i.toNatClampNeg) :: rest))) : W p l e R s m args below meth c H locs cells slots Q (F0 m pc ls (.int i :: .ref (a k) :: rest)) := by
  obtain ⟨⟨hx, hb, hml, hown, hts⟩, -, hK, hJ, hN⟩ := F
  exact va_bald hx hb hK hW k 1 (by rw [zx_wl_get hk, he]) rfl hin hdg kk
theorem zx_zald (F : zx_F D a cs p m c cc nL s args own meth) (hW : zx_W D a cs S H) {k n : Nat} (hk : k < 62) (he : zx_E a cs k (S k) = .inl (cs.2.2.1, n, .inl (S k))) {i : Int32} (hin : vp_in i n) (hdg : decode cc pc = .ok (.baload, 1))
    (kk : W p l e R s m args below meth c H locs cells slots Q (F0 m (pc + 1) ls (.int (S k i.toNatClampNeg) :: rest))) : W p l e R s m args below meth c H locs cells slots Q (F0 m pc ls (.int i :: .ref (a k) :: rest)) := by
  obtain ⟨⟨hx, hb, hml, hown, hts⟩, -, hK, hJ, hN⟩ := F
  exact va_zald hx hb hK hW k 2 (by rw [zx_wl_get hk, he]) rfl hin hdg kk
theorem zx_aald (F : zx_F D a cs p m c cc nL s args own meth) (hW : zx_W D a cs S H) {i : Int32} (hin : vp_in i 6) (hdg : decode cc pc = .ok (.aaload, 1))
    (kk : W p l e R s m args below meth c H locs cells slots Q (F0 m (pc + 1) ls (va_rf (zx_rfo a (S 5 i.toNatClampNeg)) :: rest))) : W p l e R s m args below meth c H locs cells slots Q (F0 m pc ls (.int i :: .ref (a 5) :: rest)) := by
  obtain ⟨⟨hx, hb, hml, hown, hts⟩, -, hK, hJ, hN⟩ := F
  exact va_aldq (f := fun j => zx_rfo a (S 5 j)) (C := RX6) hx hb hK hW 5 3 (by rw [zx_wl_get (by decide), zx_E5]) rfl hin hdg kk
theorem zx_iast (F : zx_F D a cs p m c cc nL s args own meth) (hW : zx_W D a cs S H) (hS : va_S (zx_A a) s.heap H locs) {k n : Nat} (hk : k < 62) (he : ∀ f, zx_E a cs k f = .inl (cs.1, n, .inl f)) {i x : Int32} (hin : vp_in i n) (hdg : decode cc pc = .ok (.iastore, 1))
    (kk : ∀ (H1 : Heap) (locs1 : List Loc), zx_W D a cs (puS S k i.toNatClampNeg x) H1 → va_S (zx_A a) s.heap H1 locs1 → W p l e R s m args below meth c H1 locs1 cells slots Q (F0 m (pc + 1) ls rest)) : W p l e R s m args below meth c H locs cells slots Q (F0 m pc ls (.int x :: .int i :: .ref (a k) :: rest)) := by
  obtain ⟨⟨hx, hb, hml, hown, hts⟩, -, hK, hJ, hN⟩ := F
  refine va_iast hx hb hK hW (zx_D hJ) hS k 0 (by rw [zx_wl_get hk, he]) rfl hin hdg (fun H1 locs1 hP _ hS1 => ?_)
  rw [zx_wl_set hk (he _)] at hP
  exact kk H1 locs1 hP hS1
theorem zx_bast (F : zx_F D a cs p m c cc nL s args own meth) (hW : zx_W D a cs S H) (hS : va_S (zx_A a) s.heap H locs) {k n : Nat} (hk : k < 62) (he : ∀ f, zx_E a cs k f = .inl (cs.2.1, n, .inl f)) {i x : Int32} (hin : vp_in i n) (hdg : decode cc pc = .ok (.bastore, 1))
    (kk : ∀ (H1 : Heap) (locs1 : List Loc), zx_W D a cs (puS S k i.toNatClampNeg (vp_nar .byte x)) H1 → va_S (zx_A a) s.heap H1 locs1 → W p l e R s m args below meth c H1 locs1 cells slots Q (F0 m (pc + 1) ls rest)) : W p l e R s m args below meth c H locs cells slots Q (F0 m pc ls (.int x :: .int i :: .ref (a k) :: rest)) := by
  obtain ⟨⟨hx, hb, hml, hown, hts⟩, -, hK, hJ, hN⟩ := F
  refine va_bast hx hb hK hW (zx_D hJ) hS k 1 (by rw [zx_wl_get hk, he]) rfl hin hdg (fun H1 locs1 hP _ hS1 => ?_)
  rw [zx_wl_set hk (he _)] at hP
  exact kk H1 locs1 hP hS1
theorem zx_zast (F : zx_F D a cs p m c cc nL s args own meth) (hW : zx_W D a cs S H) (hS : va_S (zx_A a) s.heap H locs) {k n : Nat} (hk : k < 62) (he : ∀ f, zx_E a cs k f = .inl (cs.2.2.1, n, .inl f)) {i x : Int32} (hin : vp_in i n) (hdg : decode cc pc = .ok (.bastore, 1))
    (kk : ∀ (H1 : Heap) (locs1 : List Loc), zx_W D a cs (puS S k i.toNatClampNeg (vp_nar .boolean x)) H1 → va_S (zx_A a) s.heap H1 locs1 → W p l e R s m args below meth c H1 locs1 cells slots Q (F0 m (pc + 1) ls rest)) : W p l e R s m args below meth c H locs cells slots Q (F0 m pc ls (.int x :: .int i :: .ref (a k) :: rest)) := by
  obtain ⟨⟨hx, hb, hml, hown, hts⟩, -, hK, hJ, hN⟩ := F
  refine va_zast hx hb hK hW (zx_D hJ) hS k 2 (by rw [zx_wl_get hk, he]) rfl hin hdg (fun H1 locs1 hP _ hS1 => ?_)
  rw [zx_wl_set hk (he _)] at hP
  exact kk H1 locs1 hP hS1
theorem zx_alen (F : zx_F D a cs p m c cc nL s args own meth) (hW : zx_W D a cs S H) {k n : Nat} (hk : k < 62) (he : zx_E a cs k (S k) = .inl (cs.1, n, .inl (S k))) {v : Int32} (hv : Int32.ofNat n = v) (hdg : decode cc pc = .ok (.arraylength, 1))
    (kk : W p l e R s m args below meth c H locs cells slots Q (F0 m (pc + 1) ls (.int v :: rest))) : W p l e R s m args below meth c H locs cells slots Q (F0 m pc ls (.ref (a k) :: rest)) := by
  obtain ⟨⟨hx, hb, hml, hown, hts⟩, -, hK, hJ, hN⟩ := F
  exact va_alen (x := (n, .inl (S k))) hx hb hK hW k 0 (by rw [zx_wl_get hk, he]) (ty := .int) rfl hv hdg kk
/-- entry of a method -/
theorem zx_met {y : MethodName} {rm : Room} {Qc : Array Value → State → Outcome → State → Prop} {maxL : Nat} {ret : Option FieldType} {av : List Value} (hy : plainName y.cls = true) (hlen : (lg_sl av).length ≤ maxL) (hown : y.cls = own)
    (body : ∀ (p : Program) (e : Env) (s : State) (m : MethodId) (below : List Frame) (meth : Method) (c : Code) (ls : Array Slot), zx_F D a cs p m c cc maxL s av.toArray own meth → meth.sig.returnType = ret → zx_W D a cs S s.heap → va_S (zx_A a) s.heap s.heap [] → lv_has ls maxL (lv_args 0 av) →
      W p l e rm s m av.toArray below meth c s.heap [] 0 0 (MQ below Qc av.toArray s 0 0 (zx_A a)) (F0 m 0 ls [])) : Met l y (Cond.code y cc maxL ret :: zx_tb) rm (zx_P D a cs av S) Qc 0 0 (zx_A a) := by
  refine Met.ofW (cc := cc) (maxL := maxL) (ret := ret) hy rfl ?_
  intro p e s m args below meth c s₁ B hml hv
  obtain ⟨rfl, hW, hK, hJ, hN⟩ := hv
  have hl := lv_entry av (n := maxL) hlen
  rw [lg_entry_eq]
  generalize (lg_sl av ++ List.replicate (maxL - (lg_sl av).length) Slot.unset).toArray = ls at hl ⊢
  have hts := atoms_spec (ws := Cond.code y cc maxL ret :: zx_tb) B.pre
  exact body p e s m below meth c ls ⟨⟨B.exec, B.bytes, hml, by rw [← hown]; exact findClass_of_methodNamed B.named, fun w h => hts w (List.mem_cons_of_mem _ h)⟩, B.notSynchronized, hK, hJ, hN⟩ B.returns hW va_S.rf hl
theorem zx_good : GoodIn zx_tb zx_tb := fun w h => ⟨h, good_of_word (List.mem_filter.mp h).2⟩
theorem zx_goodc {y : MethodName} {bytes : ByteArray} {maxL : Nat} {ret : Option FieldType} (h : Cond.code y bytes maxL ret ∈ zx_tb) : GoodIn zx_tb (Cond.code y bytes maxL ret :: zx_tb) := fun w hw => by
  rcases List.mem_cons.mp hw with rfl | h2
  · exact zx_good _ h
  · exact zx_good _ h2
/-- what a call asks of the callee: its code, its class, its name, the room -/
def zx_Y (y : MethodName) (bytes : ByteArray) (maxL : Nat) (ret : Option FieldType) (n : Nat) : Prop := Cond.code y bytes maxL ret ∈ zx_tb ∧ Cond.initialized y.cls ∈ zx_tb ∧ y.cls ≠ "java/lang/invoke/MethodHandle" ∧ y.cls ≠ "java/lang/invoke/VarHandle" ∧ (parseMethodDescriptor y.desc).map (fun d => d.parameters.length) = some n
def zx_R (rm R : Room) (maxL : Nat) : Prop := rm.cells = 0 ∧ rm.slots = 0 ∧ rm.frames + 1 ≤ R.frames ∧ 8 + (maxL + 11) + rm.locals ≤ R.locals ∧ 0 + 0 ≤ R.cells ∧ 0 + 0 ≤ R.slots
variable {y : MethodName} {bytes : ByteArray} {maxL n index : Nat} {ret : Option FieldType} {rm : Room} {Qc : Array Value → State → Outcome → State → Prop} {As st0 : List Value}
theorem zx_runV (F : zx_F D a cs p m c cc nL s args own meth) (hW : zx_W D a cs S H) {k ci : Nat} {q : vw_C} {fs : List Value} (hM : Met l y (Cond.code y bytes maxL ret :: zx_tb) rm (zx_P D a cs (.ref (a k) :: As) S) Qc 0 0 (zx_A a)) (hY : zx_Y y bytes maxL ret n) (hinst : Cond.instanceMethod y ∈ zx_tb) (hsel : Cond.selects q.1 y y ∈ zx_tb) (hlink : Cond.methodLink own index y ∈ zx_tb) (hR : zx_R rm R maxL) (hk : k < 62) (he : zx_E a cs k (S k) = .inr (ci, fs)) (hc : vwCl[ci]? = some q) (hn : As.length = n) (hsz : ls.size = nL) (hst : st0 = As.reverse ++ .ref (a k) :: rest) (hroom : (rest.map fun v => v.category).sum ≤ 8) (hdg : decode cc pc = .ok (.invokevirtual index, 3)) :
    va_Run p l e R s m args below meth c H locs 0 0 0 0 (F0 m pc ls st0) rest (Qc (Value.ref (a k) :: As).toArray) (zx_A a) := by
  obtain ⟨⟨hx, hb, hml, hown, hts⟩, -, hK, hJ, hN⟩ := F
  obtain ⟨hcode, hini, hd⟩ := hY
  obtain ⟨h1, h2, h3, h4, h5, h6⟩ := hR
  exact va_runV ⟨hx, hb, hml, hown, hts⟩ hM ⟨callB_of n hts (zx_goodc hcode) rfl h1 h2 (hts _ hini) (hts _ hlink) hd ⟨h3, h4⟩, hts _ hinst, hts _ hsel⟩ ⟨zx_blind, va_recv hK hW hc (by rw [zx_wl_get hk, he]), fun U hU hWm => ⟨rfl, by rw [hU]; exact hW, va_K.moved hWm.alike hK, hJ, hN.warm hWm⟩⟩ rfl hn hsz hst (lv_room hroom) hdg ⟨h5, h6⟩
theorem zx_runS (F : zx_F D a cs p m c cc nL s args own meth) (hW : zx_W D a cs S H) (hM : Met l y (Cond.code y bytes maxL ret :: zx_tb) rm (zx_P D a cs As S) Qc 0 0 (zx_A a)) (hY : zx_Y y bytes maxL ret n) (hstat : Cond.static y ∈ zx_tb) (hlink : Cond.methodLink own index y ∈ zx_tb) (hR : zx_R rm R maxL) (hn : As.length = n) (hsz : ls.size = nL) (hst : st0 = As.reverse ++ rest) (hroom : (rest.map fun v => v.category).sum ≤ 8) (hdg : decode cc pc = .ok (.invokestatic index, 3)) :
    va_Run p l e R s m args below meth c H locs 0 0 0 0 (F0 m pc ls st0) rest (Qc As.toArray) (zx_A a) := by
  obtain ⟨⟨hx, hb, hml, hown, hts⟩, -, hK, hJ, hN⟩ := F
  obtain ⟨hcode, hini, hd⟩ := hY
  obtain ⟨h1, h2, h3, h4, h5, h6⟩ := hR
  exact va_runS ⟨hx, hb, hml, hown, hts⟩ hM ⟨callB_of n hts (zx_goodc hcode) rfl h1 h2 (hts _ hini) (hts _ hlink) hd ⟨h3, h4⟩, hts _ hstat⟩ ⟨zx_blind, fun U hU hWm => ⟨rfl, by rw [hU]; exact hW, va_K.moved hWm.alike hK, hJ, hN.warm hWm⟩⟩ rfl hn hsz hst (lv_room hroom) hdg ⟨h5, h6⟩
theorem zx_runSN (F : zx_F D a cs p m c cc nL s args own meth) (hW : zx_W D a cs S H) {host : String} (hM : Met l y (Cond.code y bytes maxL ret :: zx_tb) rm (zx_P D a cs As S) Qc 0 0 (zx_A a)) (hY : zx_Y y bytes maxL ret n) (hstat : Cond.static y ∈ zx_tb) (hlink : Cond.methodLinkNest own index y host ∈ zx_ne) (hR : zx_R rm R maxL) (hn : As.length = n) (hsz : ls.size = nL) (hst : st0 = As.reverse ++ rest) (hroom : (rest.map fun v => v.category).sum ≤ 8) (hdg : decode cc pc = .ok (.invokestatic index, 3)) :
    va_Run p l e R s m args below meth c H locs 0 0 0 0 (F0 m pc ls st0) rest (Qc As.toArray) (zx_A a) := by
  obtain ⟨⟨hx, hb, hml, hown, hts⟩, -, hK, hJ, hN⟩ := F
  obtain ⟨hcode, hini, hd⟩ := hY
  obtain ⟨h1, h2, h3, h4, h5, h6⟩ := hR
  exact va_runSN ⟨hx, hb, hml, hown, hts⟩ hM ⟨va_cnB n hts (zx_goodc hcode) rfl h1 h2 (hN _ hlink) (hts _ hini) hd ⟨h3, h4⟩, hts _ hstat, trivial⟩ ⟨zx_blind, fun U hU hWm => ⟨rfl, by rw [hU]; exact hW, va_K.moved hWm.alike hK, hJ, hN.warm hWm⟩⟩ rfl hn hsz hst (lv_room hroom) hdg ⟨h5, h6⟩
variable {S1 : St} {b : Array Value}
theorem zx_ci {r : Int32} (hr : va_Run p l e R s m args below meth c H locs 0 0 0 0 (F0 m pc ls st0) rest (zx_Qi D a cs r S1 b) (zx_A a)) (hS : va_S (zx_A a) s.heap H locs) (kk : ∀ (H1 : Heap) (locs1 : List Loc), zx_W D a cs S1 H1 → va_S (zx_A a) s.heap H1 locs1 → W p l e R s m args below meth c H1 locs1 0 0 Q (F0 m (pc + 3) ls (.int r :: rest))) : W p l e R s m args below meth c H locs 0 0 Q (F0 m pc ls st0) :=
  va_calli hr hS (fun _ _ h => h) (fun _ h => h) (fun r2 _ t H1 locs1 ht _ hp hB _ _ hS1 => by subst hp; subst ht; exact kk _ locs1 hB hS1)
theorem zx_cl1 {r : Int64} (hr : va_Run p l e R s m args below meth c H locs 0 0 0 0 (F0 m pc ls st0) rest (zx_Ql D a cs r S1 b) (zx_A a)) (hS : va_S (zx_A a) s.heap H locs) (kk : ∀ (H1 : Heap) (locs1 : List Loc), zx_W D a cs S1 H1 → va_S (zx_A a) s.heap H1 locs1 → W p l e R s m args below meth c H1 locs1 0 0 Q (F0 m (pc + 3) ls (.long r :: rest))) : W p l e R s m args below meth c H locs 0 0 Q (F0 m pc ls st0) :=
  va_calll hr hS (fun _ _ h => h) (fun _ h => h) (fun r2 _ t H1 locs1 ht _ hp hB _ _ hS1 => by subst hp; subst ht; exact kk _ locs1 hB hS1)
theorem zx_cv (hr : va_Run p l e R s m args below meth c H locs 0 0 0 0 (F0 m pc ls st0) rest (zx_Qv D a cs S1 b) (zx_A a)) (hS : va_S (zx_A a) s.heap H locs) (kk : ∀ (H1 : Heap) (locs1 : List Loc), zx_W D a cs S1 H1 → va_S (zx_A a) s.heap H1 locs1 → W p l e R s m args below meth c H1 locs1 0 0 Q (F0 m (pc + 3) ls rest)) : W p l e R s m args below meth c H locs 0 0 Q (F0 m pc ls st0) :=
  va_callv hr hS (fun _ _ h => h) (fun _ h => h) (fun _ t H1 locs1 ht _ hp hB _ _ hS1 => by subst ht; exact kk _ locs1 hB hS1)
theorem zx_ca {r : Int32} (hr : va_Run p l e R s m args below meth c H locs 0 0 0 0 (F0 m pc ls st0) rest (zx_Qa D a cs r S1 b) (zx_A a)) (hS : va_S (zx_A a) s.heap H locs) (kk : ∀ (H1 : Heap) (locs1 : List Loc), zx_W D a cs S1 H1 → va_S (zx_A a) s.heap H1 locs1 → W p l e R s m args below meth c H1 locs1 0 0 Q (F0 m (pc + 3) ls (va_rf (zx_rfo a r) :: rest))) : W p l e R s m args below meth c H locs 0 0 Q (F0 m pc ls st0) := by
  intro T hT X
  obtain ⟨v, st₀, t, T', L, h0, X', hL, e1, e2, ⟨hv, hB, hz, hk⟩, st⟩ := hr T hT X
  have hv : v = some (va_rf (zx_rfo a r)) := by injection hv
  subst hv
  rw [h0] at hz hk
  obtain ⟨t2, a1, b1⟩ := kk T'.heap (locs ++ L) (by rw [e1]; exact hB)
    ⟨Nat.le_trans hS.1 (by rw [e1]; exact hz), fun q h1 h2 => by rw [e1, hk q (Nat.lt_of_lt_of_le h1 hS.1) h2]; exact hS.2.1 q h1 h2, fun q hq => by
      rcases List.mem_append.mp hq with h | h
      · exact hS.2.2 q h
      · exact hL q h⟩ T' rfl X'
  exact ⟨t2, st t2 a1, b1⟩
theorem zx_ri {v r : Int32} (F : zx_F D a cs p m c cc nL s args own meth) (hr : meth.sig.returnType = some .int) (hW : zx_W D a cs S H) (hS : va_S (zx_A a) s.heap H locs) (h : some (v, S) = some (r, S1)) (hdg : decode cc pc = .ok (.ireturn, 1)) : W p l e R s m args below meth c H locs 0 0 (MQ below (zx_Qi D a cs r S1) args s 0 0 (zx_A a)) (F0 m pc ls [.int v]) := by
  obtain ⟨⟨hx, hb, hml, hown, hts⟩, hlocks, hK, hJ, hN⟩ := F
  obtain ⟨rfl, rfl⟩ := Prod.mk.inj (Option.some.inj h)
  exact W.iret hx hb hr (fun t ht hWm => ⟨⟨v, (), rfl, rfl, (show zx_W D a cs S t.heap by rw [ht]; exact hW)⟩, hS.F ht⟩) hS.2.2 hdg
theorem zx_rz {v r : Int32} (F : zx_F D a cs p m c cc nL s args own meth) (hr : meth.sig.returnType = some .boolean) (hv : v = 0 ∨ v = 1) (hW : zx_W D a cs S H) (hS : va_S (zx_A a) s.heap H locs) (h : some (v, S) = some (r, S1)) (hdg : decode cc pc = .ok (.ireturn, 1)) : W p l e R s m args below meth c H locs 0 0 (MQ below (zx_Qi D a cs r S1) args s 0 0 (zx_A a)) (F0 m pc ls [.int v]) := by
  obtain ⟨⟨hx, hb, hml, hown, hts⟩, hlocks, hK, hJ, hN⟩ := F
  obtain ⟨rfl, rfl⟩ := Prod.mk.inj (Option.some.inj h)
  exact W.zret hx hb hr (by rcases hv with rfl | rfl <;> rfl) (fun t ht hWm => ⟨⟨v, (), rfl, rfl, (show zx_W D a cs S t.heap by rw [ht]; exact hW)⟩, hS.F ht⟩) hS.2.2 hdg
theorem zx_rl {v r : Int64} (F : zx_F D a cs p m c cc nL s args own meth) (hr : meth.sig.returnType = some .long) (hW : zx_W D a cs S H) (hS : va_S (zx_A a) s.heap H locs) (h : some (v, S) = some (r, S1)) (hdg : decode cc pc = .ok (.lreturn, 1)) : W p l e R s m args below meth c H locs 0 0 (MQ below (zx_Ql D a cs r S1) args s 0 0 (zx_A a)) (F0 m pc ls [.long v]) := by
  obtain ⟨⟨hx, hb, hml, hown, hts⟩, hlocks, hK, hJ, hN⟩ := F
  obtain ⟨rfl, rfl⟩ := Prod.mk.inj (Option.some.inj h)
  exact W.lret hx hb hr (fun t ht hWm => ⟨⟨v, (), rfl, rfl, (show zx_W D a cs S t.heap by rw [ht]; exact hW)⟩, hS.F ht⟩) hS.2.2 hdg
theorem zx_rv {r : Int32} (F : zx_F D a cs p m c cc nL s args own meth) (hr : meth.sig.returnType = none) (hW : zx_W D a cs S H) (hS : va_S (zx_A a) s.heap H locs) (h : some ((0 : Int32), S) = some (r, S1)) (hdg : decode cc pc = .ok (.return_, 1)) : W p l e R s m args below meth c H locs 0 0 (MQ below (zx_Qv D a cs S1) args s 0 0 (zx_A a)) (F0 m pc ls []) := by
  obtain ⟨⟨hx, hb, hml, hown, hts⟩, hlocks, hK, hJ, hN⟩ := F
  obtain ⟨rfl, rfl⟩ := Prod.mk.inj (Option.some.inj h)
  exact W.vret hx hb hr (fun t ht hWm => ⟨⟨(), rfl, trivial, (show zx_W D a cs S t.heap by rw [ht]; exact hW)⟩, hS.F ht⟩) hS.2.2 hdg
theorem zx_ra {v : Value} {x r : Int32} {cn : String} (F : zx_F D a cs p m c cc nL s args own meth) (hr : meth.sig.returnType = some (.object cn)) (hv : v = va_rf (zx_rfo a x)) (hW : zx_W D a cs S H) (hS : va_S (zx_A a) s.heap H locs) (h : some (x, S) = some (r, S1)) (hdg : decode cc pc = .ok (.areturn, 1)) : W p l e R s m args below meth c H locs 0 0 (MQ below (zx_Qa D a cs r S1) args s 0 0 (zx_A a)) (F0 m pc ls [v]) := by
  obtain ⟨⟨hx, hb, hml, hown, hts⟩, hlocks, hK, hJ, hN⟩ := F
  obtain ⟨rfl, rfl⟩ := Prod.mk.inj (Option.some.inj h)
  refine W.aret hx hb hr (Or.inl ⟨_, rfl⟩) ?_ (fun t ht hWm => ⟨by rw [hv], by rw [ht]; exact hW, hS.F ht⟩) hS.2.2 hdg
  rw [hv]
  cases zx_rfo a x with
  | none => exact Or.inl rfl
  | some q => exact Or.inr ⟨q, rfl⟩
theorem zx_nm {x z : Int32} (h : z = x) (kk : W p l e R s m args below meth c H locs cells slots Q (F0 m pc ls (.int z :: rest))) : W p l e R s m args below meth c H locs cells slots Q (F0 m pc ls (.int x :: rest)) := by
  subst h; exact kk
theorem zx_nml {x z : Int64} (h : z = x) (kk : W p l e R s m args below meth c H locs cells slots Q (F0 m pc ls (.long z :: rest))) : W p l e R s m args below meth c H locs cells slots Q (F0 m pc ls (.long x :: rest)) := by
  subst h; exact kk
theorem zx_min (F : zx_F D a cs p m c cc nL s args own meth) (hsz : ls.size = nL) (hlink : Cond.methodLink own index Lib.Math.min.name ∈ zx_tb) (hR : 1 ≤ R.frames ∧ 21 ≤ R.locals) (hroom : (rest.map fun v => v.category).sum ≤ 8) {x z : Int32} (hdg : decode cc pc = .ok (.invokestatic index, 3))
    (kk : W p l e R s m args below meth c H locs 0 0 Q (F0 m (pc + 3) ls (.int (if z < x then z else x) :: rest))) : W p l e R s m args below meth c H locs 0 0 Q (F0 m pc ls (.int z :: .int x :: rest)) := by
  obtain ⟨⟨hx, hb, hml, hown, hts⟩, hlocks, hK, hJ, hN⟩ := F
  exact va_mmin hx hb (hml.trans hsz.symm) hown (hts _ hlink) (hts _ wt_Math_min) (hts _ wn_J9) (hts _ wc_Math_min) hR.1 (Nat.le_trans (Nat.add_le_add_right hroom 13) hR.2) (Nat.zero_le _) (Nat.zero_le _) hdg kk
theorem zx_max (F : zx_F D a cs p m c cc nL s args own meth) (hsz : ls.size = nL) (hlink : Cond.methodLink own index Lib.Math.max.name ∈ zx_tb) (hR : 1 ≤ R.frames ∧ 21 ≤ R.locals) (hroom : (rest.map fun v => v.category).sum ≤ 8) {x z : Int32} (hdg : decode cc pc = .ok (.invokestatic index, 3))
    (kk : W p l e R s m args below meth c H locs 0 0 Q (F0 m (pc + 3) ls (.int (if x < z then z else x) :: rest))) : W p l e R s m args below meth c H locs 0 0 Q (F0 m pc ls (.int z :: .int x :: rest)) := by
  obtain ⟨⟨hx, hb, hml, hown, hts⟩, hlocks, hK, hJ, hN⟩ := F
  exact va_mmax hx hb (hml.trans hsz.symm) hown (hts _ hlink) (hts _ wt_Math_max) (hts _ wn_J9) (hts _ wc_Math_max) hR.1 (Nat.le_trans (Nat.add_le_add_right hroom 13) hR.2) (Nat.zero_le _) (Nat.zero_le _) hdg kk
/-- System.arraycopy of a whole row of n places, from its start, between arrays of one kind (t0: its place in zx_ty) -/
theorem zx_copy (F : zx_F D a cs p m c cc nL s args own meth) (hW : zx_W D a cs S H) (hS : va_S (zx_A a) s.heap H locs) (hsz : ls.size = nL) (hlink : Cond.methodLink own index arraycopyName ∈ zx_tb) {k0 k1 n t0 : Nat} {cA : ClassId} {ty : FieldType} (ht : (zx_ty cs)[t0]? = some (cA, ty)) (hprim : refKind ty = false) (h0 : k0 < 62) (h1 : k1 < 62) (he0 : ∀ f, zx_E a cs k0 f = .inl (cA, n, .inl f)) (he1 : ∀ f, zx_E a cs k1 f = .inl (cA, n, .inl f)) {w : Int32} (hw : w.toNatClampNeg = n) (hw0 : ¬ w < 0) (hfit : ∀ i, i < n → fits ty (.int (S k0 i)) = true) (hR : 1 ≤ R.frames ∧ 8 + (nativeFrameWords "java/lang/System" "arraycopy" 5 + 11) ≤ R.locals) (hroom : (rest.map fun v => v.category).sum ≤ 8) (hdg : decode cc pc = .ok (.invokestatic index, 3))
    (kk : ∀ (H1 : Heap) (locs1 : List Loc), zx_W D a cs (upS S k1 (va_cpy (S k0) (S k1) 0 0 n)) H1 → va_S (zx_A a) s.heap H1 locs1 → W p l e R s m args below meth c H1 locs1 cells slots Q (F0 m (pc + 3) ls rest)) : W p l e R s m args below meth c H locs cells slots Q (F0 m pc ls (.int w :: .int 0 :: .ref (a k1) :: .int 0 :: .ref (a k0) :: rest)) := by
  obtain ⟨⟨hx, hb, hml, hown, hts⟩, hlocks, hK, hJ, hN⟩ := F
  refine va_copyi (ty := ty) hx hb (hml.trans hsz.symm) hown (hts _ hlink) (hts _ wv_arraycopy) (hts _ wt_arraycopy) (hts _ wn_J10) hK hW (zx_D hJ) hS k0 k1 t0 t0 (by rw [zx_wl_get h0, he0]) (by rw [zx_wl_get h1, he1]) ht ht hprim (by decide) (by decide) hw0 (by rw [hw]; show 0 + n ≤ n; omega) (by rw [hw]; show 0 + n ≤ n; omega) (by rw [hw]; intro i hi; show fits ty (.int (S k0 (0 + i))) = true; rw [Nat.zero_add]; exact hfit i hi) hR.1 (Nat.le_trans (Nat.add_le_add_right hroom _) hR.2) hdg (fun H1 locs1 hP _ hS1 => ?_)
  rw [zx_wl_set h1 (he1 _)] at hP
  refine kk H1 locs1 ?_ hS1
  have e : va_cpy (S k0) (S k1) (0 : Int32).toNatClampNeg (0 : Int32).toNatClampNeg w.toNatClampNeg = va_cpy (S k0) (S k1) 0 0 n := by rw [hw]; rfl
  rw [e] at hP
  exact hP
theorem zx_acmp (F : zx_F D a cs p m c cc nL s args own meth) {k : Nat} (hk : k < 62) (hk0 : 0 < k) {v : Int32} (hv : v.toNatClampNeg < 62) {off : Int} {tgt : Nat} (hdg : decode cc pc = .ok (.if_acmp .ne off, 3)) (ht : (pc : Int) + off = (tgt : Int))
    (kt : ¬ v.toNatClampNeg = k → W p l e R s m args below meth c H locs cells slots Q (F0 m tgt ls rest)) (kf : v.toNatClampNeg = k → W p l e R s m args below meth c H locs cells slots Q (F0 m (pc + 3) ls rest)) : W p l e R s m args below meth c H locs cells slots Q (F0 m pc ls (va_rf (zx_rfo a v) :: .ref (a k) :: rest)) := by
  obtain ⟨⟨hx, hb, hml, hown, hts⟩, hlocks, hK, hJ, hN⟩ := F
  have e : some (a k) = zx_rfo a v ↔ v.toNatClampNeg = k := by
    unfold zx_rfo
    by_cases h0 : v = 0
    · subst h0
      rw [if_pos rfl]
      refine ⟨fun h => (by cases h), fun h => ?_⟩
      have : (0 : Int32).toNatClampNeg = 0 := by decide
      omega
    · rw [if_neg h0]
      exact ⟨fun h => (hJ _ _ hk hv (Option.some.inj h)).symm, fun h => by rw [h]⟩
  exact lv_acmp_ne (rx := some (a k)) hx hb hdg ht (fun h => kt fun q => h (e.mpr q)) (fun h => kf (e.mp h))
theorem zx_rfo_nI {k : Nat} (h : 0 < k) (h2 : k < 62) : va_rf (zx_rfo a (nI k)) = .ref (a k) := by
  have h3 : ¬ nI k = 0 := nI_ne0 h (by omega)
  have h4 : (nI k).toNatClampNeg = k := nI_clamp (by omega)
  simp [zx_rfo, h3, h4, va_rf]
theorem zx_rfo_nI2 {k : Nat} (h : 0 < k) (h2 : k < 62) : zx_rfo a (nI k) = some (a k) := by
  have h3 : ¬ nI k = 0 := nI_ne0 h (by omega)
  have h4 : (nI k).toNatClampNeg = k := nI_clamp (by omega)
  simp [zx_rfo, h3, h4]
theorem zx_aast (F : zx_F D a cs p m c cc nL s args own meth) (hW : zx_W D a cs S H) (hS : va_S (zx_A a) s.heap H locs) {k : Nat} {fs : List Value} (hk : k < 62) (hk0 : 0 < k) (he : zx_E a cs k (S k) = .inr (6, fs)) {i : Int32} (hin : vp_in i 6) (hdg : decode cc pc = .ok (.aastore, 1))
    (kk : ∀ (H1 : Heap) (locs1 : List Loc), zx_W D a cs (puS S 5 i.toNatClampNeg (nI k)) H1 → va_S (zx_A a) s.heap H1 locs1 → W p l e R s m args below meth c H1 locs1 cells slots Q (F0 m (pc + 1) ls rest)) : W p l e R s m args below meth c H locs cells slots Q (F0 m pc ls (.ref (a k) :: .int i :: .ref (a 5) :: rest)) := by
  obtain ⟨⟨hx, hb, hml, hown, hts⟩, -, hK, hJ, hN⟩ := F
  refine va_astq (f := fun j => zx_rfo a (S 5 j)) (r := (RX6, TX6, 2)) hx hb hK hW (zx_D hJ) hS 5 3 k 6 (by rw [zx_wl_get (by decide), zx_E5]) rfl (by rw [zx_wl_get hk, he]) rfl hin hdg (fun H1 locs1 hP _ hS1 => ?_)
  have e : va_up (fun j => zx_rfo a (S 5 j)) i.toNatClampNeg (some (a k)) = fun j => zx_rfo a (upd (S 5) i.toNatClampNeg (nI k) j) := by
    funext j
    by_cases h : j = i.toNatClampNeg
    · simp only [va_up, upd, if_pos h]
      exact (zx_rfo_nI2 hk0 hk).symm
    · simp only [va_up, upd, if_neg h]
  rw [e, zx_wl_set (f := upd (S 5) i.toNatClampNeg (nI k)) (by decide) zx_E5] at hP
  exact kk H1 locs1 hP hS1
end ZX
/-- the tables' cells -/
def zx_tab (k : Nat) : Bool := k == 20 || k == 22 || k == 24 || k == 26 || k == 28 || k == 30 || k == 32
def zx_row (k : Nat) : Bool := k == 1 || k == 3
def zx_tal (k : Nat) : Bool := k == 16 || k == 35 || k == 39
theorem zx_tab_c {k : Nat} (h : zx_tab k = true) : k = 20 ∨ k = 22 ∨ k = 24 ∨ k = 26 ∨ k = 28 ∨ k = 30 ∨ k = 32 := by simp [zx_tab] at h; omega
theorem zx_row_c {k : Nat} (h : zx_row k = true) : k = 1 ∨ k = 3 := by simp [zx_row] at h; omega
theorem zx_tal_c {k : Nat} (h : zx_tal k = true) : k = 16 ∨ k = 35 ∨ k = 39 := by simp [zx_tal] at h; omega
theorem zx_tab_l {k : Nat} (h : zx_tab k = true) : k < 62 ∧ k + 1 < 62 := by rcases zx_tab_c h with rfl | rfl | rfl | rfl | rfl | rfl | rfl <;> decide
theorem zx_row_l {k : Nat} (h : zx_row k = true) : k < 62 ∧ k + 1 < 62 := by rcases zx_row_c h with rfl | rfl <;> decide
theorem zx_tal_l {k : Nat} (h : zx_tal k = true) : k < 62 ∧ k + 1 < 62 := by rcases zx_tal_c h with rfl | rfl | rfl <;> decide
theorem zx_tab_E {k : Nat} (h : zx_tab k = true) {a : Nat → Nat} {cs : zx_C} {f : Nat → Int32} : zx_E a cs k f = .inr (6, [.ref (a (k + 1)), .int (f 1)]) := by rcases zx_tab_c h with rfl | rfl | rfl | rfl | rfl | rfl | rfl <;> rfl
theorem zx_tab_A {k : Nat} (h : zx_tab k = true) {a : Nat → Nat} {cs : zx_C} {f : Nat → Int32} : zx_E a cs (k + 1) f = .inl (cs.1, 256, .inl f) := by rcases zx_tab_c h with rfl | rfl | rfl | rfl | rfl | rfl | rfl <;> rfl
theorem zx_row_E {k : Nat} (h : zx_row k = true) {a : Nat → Nat} {cs : zx_C} {f : Nat → Int32} : zx_E a cs k f = .inr (4, [.ref (a (k + 1)), .int (f 1)]) := by rcases zx_row_c h with rfl | rfl <;> rfl
theorem zx_row_A {k : Nat} (h : zx_row k = true) {a : Nat → Nat} {cs : zx_C} {f : Nat → Int32} : zx_E a cs (k + 1) f = .inl (cs.2.1, 4000, .inl f) := by rcases zx_row_c h with rfl | rfl <;> rfl
theorem zx_tal_E {k : Nat} (h : zx_tal k = true) {a : Nat → Nat} {cs : zx_C} {f : Nat → Int32} : zx_E a cs k f = .inr (7, [.ref (a (k + 1))]) := by rcases zx_tal_c h with rfl | rfl | rfl <;> rfl
theorem zx_tal_A {k : Nat} (h : zx_tal k = true) {a : Nat → Nat} {cs : zx_C} {f : Nat → Int32} : zx_E a cs (k + 1) f = .inl (cs.1, 6, .inl f) := by rcases zx_tal_c h with rfl | rfl | rfl <;> rfl
/-- the lengths of the int arrays, by cell -/
def zx_len (k : Nat) : Nat := if k = 10 ∨ k = 11 then 4096 else if k = 17 ∨ k = 36 ∨ k = 40 then 6 else if k = 18 ∨ k = 37 then 2 else if k = 38 then 1400 else if k = 42 then 562 else 256
def zx_ia (k : Nat) : Bool := k == 6 || k == 14 || k == 17 || k == 21 || k == 23 || k == 25 || k == 27 || k == 29 || k == 31 || k == 33 || k == 36 || k == 37 || k == 40
theorem zx_ia_c {k : Nat} (h : zx_ia k = true) : k = 6 ∨ k = 14 ∨ k = 17 ∨ k = 21 ∨ k = 23 ∨ k = 25 ∨ k = 27 ∨ k = 29 ∨ k = 31 ∨ k = 33 ∨ k = 36 ∨ k = 37 ∨ k = 40 := by simp [zx_ia] at h; omega
theorem zx_ia_l {k : Nat} (h : zx_ia k = true) : k < 62 := by rcases zx_ia_c h with rfl | rfl | rfl | rfl | rfl | rfl | rfl | rfl | rfl | rfl | rfl | rfl | rfl <;> decide
theorem zx_ia_A {k : Nat} (h : zx_ia k = true) {a : Nat → Nat} {cs : zx_C} {f : Nat → Int32} : zx_E a cs k f = .inl (cs.1, zx_len k, .inl f) := by rcases zx_ia_c h with rfl | rfl | rfl | rfl | rfl | rfl | rfl | rfl | rfl | rfl | rfl | rfl | rfl <;> rfl
theorem zx_tab_ia {k : Nat} (h : zx_tab k = true) : zx_ia (k + 1) = true ∧ zx_len (k + 1) = 256 := by rcases zx_tab_c h with rfl | rfl | rfl | rfl | rfl | rfl | rfl <;> decide
theorem zx_tal_ia {k : Nat} (h : zx_tal k = true) : zx_ia (k + 1) = true ∧ zx_len (k + 1) = 6 := by rcases zx_tal_c h with rfl | rfl | rfl <;> decide
/-- a table's number out of a moving reference -/
theorem zx_rfo_tab {a : Nat → Nat} {v : Int32} (h : zx_tab v.toNatClampNeg = true) : va_rf (zx_rfo a v) = .ref (a v.toNatClampNeg) := by
  have : ¬ v = 0 := fun e => by subst e; revert h; decide
  simp [zx_rfo, this, va_rf]
theorem zx_rfo_0 {a : Nat → Nat} : va_rf (zx_rfo a 0) = .null := rfl
end
section
theorem zz_probe : 1 + 1 = 2 := rfl
end
