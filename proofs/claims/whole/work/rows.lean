section
-- ===== PART A: goes FIRST, ahead of the names: the tables' words, and 'selects' of the private methods out of them =====
/-- a private method of a class that the tables say can be made, by its rows of tables_1 -/
def lw_okq (q : MethodName × Nat) : Prop := (q.1.cls ≠ "java/lang/invoke/MethodHandle" ∧ q.1.cls ≠ "java/lang/invoke/VarHandle") ∧ Cond.instantiable q.1.cls q.2 ∈ tables_1 ∧ Cond.privateMethod q.1 ∈ tables_1 ∧ Cond.instanceMethod q.1 ∈ tables_1
theorem lw_p0 : lw_okq (⟨"ShelfWays$Tape", "takeLine", "(LShelfWays$House;)Z"⟩, 9) := ⟨⟨by decide +kernel, by decide +kernel⟩, List.mem_of_getElem? (i := 95) (by decide +kernel), List.mem_of_getElem? (i := 247) (by decide +kernel), List.mem_of_getElem? (i := 248) (by decide +kernel)⟩
theorem lw_p1 : lw_okq (⟨"ShelfWays$Tape", "scan", "()V"⟩, 9) := ⟨⟨by decide +kernel, by decide +kernel⟩, List.mem_of_getElem? (i := 95) (by decide +kernel), List.mem_of_getElem? (i := 251) (by decide +kernel), List.mem_of_getElem? (i := 252) (by decide +kernel)⟩
theorem lw_p2 : lw_okq (⟨"ShelfWays$Tape", "scanName", "()V"⟩, 9) := ⟨⟨by decide +kernel, by decide +kernel⟩, List.mem_of_getElem? (i := 95) (by decide +kernel), List.mem_of_getElem? (i := 258) (by decide +kernel), List.mem_of_getElem? (i := 259) (by decide +kernel)⟩
theorem lw_p3 : lw_okq (⟨"ShelfWays$Tape", "scanNumber", "()V"⟩, 9) := ⟨⟨by decide +kernel, by decide +kernel⟩, List.mem_of_getElem? (i := 95) (by decide +kernel), List.mem_of_getElem? (i := 265) (by decide +kernel), List.mem_of_getElem? (i := 266) (by decide +kernel)⟩
theorem lw_p4 : lw_okq (⟨"ShelfWays$Tape", "refuse", "(I)Z"⟩, 9) := ⟨⟨by decide +kernel, by decide +kernel⟩, List.mem_of_getElem? (i := 95) (by decide +kernel), List.mem_of_getElem? (i := 269) (by decide +kernel), List.mem_of_getElem? (i := 270) (by decide +kernel)⟩
theorem lw_p5 : lw_okq (⟨"ShelfWays$Tape", "isNamed", "(Ljava/lang/String;)Z"⟩, 9) := ⟨⟨by decide +kernel, by decide +kernel⟩, List.mem_of_getElem? (i := 95) (by decide +kernel), List.mem_of_getElem? (i := 274) (by decide +kernel), List.mem_of_getElem? (i := 275) (by decide +kernel)⟩
theorem lw_p6 : lw_okq (⟨"ShelfWays$Tape", "takeBooks", "(LShelfWays$House;)Z"⟩, 9) := ⟨⟨by decide +kernel, by decide +kernel⟩, List.mem_of_getElem? (i := 95) (by decide +kernel), List.mem_of_getElem? (i := 326) (by decide +kernel), List.mem_of_getElem? (i := 327) (by decide +kernel)⟩
theorem lw_p7 : lw_okq (⟨"ShelfWays$Tape", "takeSemicolon", "()Z"⟩, 9) := ⟨⟨by decide +kernel, by decide +kernel⟩, List.mem_of_getElem? (i := 95) (by decide +kernel), List.mem_of_getElem? (i := 330) (by decide +kernel), List.mem_of_getElem? (i := 331) (by decide +kernel)⟩
theorem lw_p8 : lw_okq (⟨"ShelfWays$Tape", "takeWants", "(LShelfWays$House;)Z"⟩, 9) := ⟨⟨by decide +kernel, by decide +kernel⟩, List.mem_of_getElem? (i := 95) (by decide +kernel), List.mem_of_getElem? (i := 335) (by decide +kernel), List.mem_of_getElem? (i := 336) (by decide +kernel)⟩
theorem lw_p9 : lw_okq (⟨"ShelfWays$Tape", "kindNamed", "()I"⟩, 9) := ⟨⟨by decide +kernel, by decide +kernel⟩, List.mem_of_getElem? (i := 95) (by decide +kernel), List.mem_of_getElem? (i := 343) (by decide +kernel), List.mem_of_getElem? (i := 344) (by decide +kernel)⟩
theorem lw_p10 : lw_okq (⟨"ShelfWays$Tape", "takeShelf", "(LShelfWays$House;I)Z"⟩, 9) := ⟨⟨by decide +kernel, by decide +kernel⟩, List.mem_of_getElem? (i := 95) (by decide +kernel), List.mem_of_getElem? (i := 351) (by decide +kernel), List.mem_of_getElem? (i := 352) (by decide +kernel)⟩
theorem lw_p11 : lw_okq (⟨"ShelfWays", "leastCost", "()I"⟩, 12) := ⟨⟨by decide +kernel, by decide +kernel⟩, List.mem_of_getElem? (i := 17) (by decide +kernel), List.mem_of_getElem? (i := 392) (by decide +kernel), List.mem_of_getElem? (i := 393) (by decide +kernel)⟩
theorem lw_p12 : lw_okq (⟨"ShelfWays$Shelf", "payFor", "(I)I"⟩, 4) := ⟨⟨by decide +kernel, by decide +kernel⟩, List.mem_of_getElem? (i := 32) (by decide +kernel), List.mem_of_getElem? (i := 477) (by decide +kernel), List.mem_of_getElem? (i := 478) (by decide +kernel)⟩
theorem lw_p13 : lw_okq (⟨"ShelfWays$Shelf", "goalOf", "(II)I"⟩, 4) := ⟨⟨by decide +kernel, by decide +kernel⟩, List.mem_of_getElem? (i := 32) (by decide +kernel), List.mem_of_getElem? (i := 485) (by decide +kernel), List.mem_of_getElem? (i := 486) (by decide +kernel)⟩
theorem lw_p14 : lw_okq (⟨"ShelfWays", "cheapestIn", "(I)I"⟩, 12) := ⟨⟨by decide +kernel, by decide +kernel⟩, List.mem_of_getElem? (i := 17) (by decide +kernel), List.mem_of_getElem? (i := 516) (by decide +kernel), List.mem_of_getElem? (i := 517) (by decide +kernel)⟩
theorem lw_p15 : lw_okq (⟨"ShelfWays", "findBestRow", "(I)I"⟩, 12) := ⟨⟨by decide +kernel, by decide +kernel⟩, List.mem_of_getElem? (i := 17) (by decide +kernel), List.mem_of_getElem? (i := 562) (by decide +kernel), List.mem_of_getElem? (i := 563) (by decide +kernel)⟩
def lw_privs_1 : List (MethodName × Nat) := [(⟨"ShelfWays$Tape", "takeLine", "(LShelfWays$House;)Z"⟩, 9), (⟨"ShelfWays$Tape", "scan", "()V"⟩, 9), (⟨"ShelfWays$Tape", "scanName", "()V"⟩, 9), (⟨"ShelfWays$Tape", "scanNumber", "()V"⟩, 9), (⟨"ShelfWays$Tape", "refuse", "(I)Z"⟩, 9), (⟨"ShelfWays$Tape", "isNamed", "(Ljava/lang/String;)Z"⟩, 9), (⟨"ShelfWays$Tape", "takeBooks", "(LShelfWays$House;)Z"⟩, 9), (⟨"ShelfWays$Tape", "takeSemicolon", "()Z"⟩, 9), (⟨"ShelfWays$Tape", "takeWants", "(LShelfWays$House;)Z"⟩, 9), (⟨"ShelfWays$Tape", "kindNamed", "()I"⟩, 9), (⟨"ShelfWays$Tape", "takeShelf", "(LShelfWays$House;I)Z"⟩, 9), (⟨"ShelfWays", "leastCost", "()I"⟩, 12), (⟨"ShelfWays$Shelf", "payFor", "(I)I"⟩, 4), (⟨"ShelfWays$Shelf", "goalOf", "(II)I"⟩, 4), (⟨"ShelfWays", "cheapestIn", "(I)I"⟩, 12), (⟨"ShelfWays", "findBestRow", "(I)I"⟩, 12)]
theorem lw_r1 : ∀ q ∈ lw_privs_1, lw_okq q := List.forall_mem_cons.mpr ⟨lw_p0, List.forall_mem_cons.mpr ⟨lw_p1, List.forall_mem_cons.mpr ⟨lw_p2, List.forall_mem_cons.mpr ⟨lw_p3, List.forall_mem_cons.mpr ⟨lw_p4, List.forall_mem_cons.mpr ⟨lw_p5, List.forall_mem_cons.mpr ⟨lw_p6, List.forall_mem_cons.mpr ⟨lw_p7, List.forall_mem_cons.mpr ⟨lw_p8, List.forall_mem_cons.mpr ⟨lw_p9, List.forall_mem_cons.mpr ⟨lw_p10, List.forall_mem_cons.mpr ⟨lw_p11, List.forall_mem_cons.mpr ⟨lw_p12, List.forall_mem_cons.mpr ⟨lw_p13, List.forall_mem_cons.mpr ⟨lw_p14, List.forall_mem_cons.mpr ⟨lw_p15, fun _ h => absurd h List.not_mem_nil⟩⟩⟩⟩⟩⟩⟩⟩⟩⟩⟩⟩⟩⟩⟩⟩
theorem lw_p16 : lw_okq (⟨"ShelfWays", "resetToPaidNow", "(I)V"⟩, 12) := ⟨⟨by decide +kernel, by decide +kernel⟩, List.mem_of_getElem? (i := 17) (by decide +kernel), List.mem_of_getElem? (i := 590) (by decide +kernel), List.mem_of_getElem? (i := 591) (by decide +kernel)⟩
theorem lw_p17 : lw_okq (⟨"ShelfWays$Seen", "latest", "()I"⟩, 4) := ⟨⟨by decide +kernel, by decide +kernel⟩, List.mem_of_getElem? (i := 135) (by decide +kernel), List.mem_of_getElem? (i := 649) (by decide +kernel), List.mem_of_getElem? (i := 650) (by decide +kernel)⟩
theorem lw_p18 : lw_okq (⟨"ShelfWays$Seen", "isSoBehind", "(ILShelfWays$House;)Z"⟩, 4) := ⟨⟨by decide +kernel, by decide +kernel⟩, List.mem_of_getElem? (i := 135) (by decide +kernel), List.mem_of_getElem? (i := 654) (by decide +kernel), List.mem_of_getElem? (i := 655) (by decide +kernel)⟩
theorem lw_p19 : lw_okq (⟨"ShelfWays", "candidates", "(I)I"⟩, 12) := ⟨⟨by decide +kernel, by decide +kernel⟩, List.mem_of_getElem? (i := 17) (by decide +kernel), List.mem_of_getElem? (i := 664) (by decide +kernel), List.mem_of_getElem? (i := 665) (by decide +kernel)⟩
theorem lw_p20 : lw_okq (⟨"ShelfWays", "countLooks", "(II)V"⟩, 12) := ⟨⟨by decide +kernel, by decide +kernel⟩, List.mem_of_getElem? (i := 17) (by decide +kernel), List.mem_of_getElem? (i := 672) (by decide +kernel), List.mem_of_getElem? (i := 673) (by decide +kernel)⟩
theorem lw_p21 : lw_okq (⟨"ShelfWays", "countLooksOfTrial", "()V"⟩, 12) := ⟨⟨by decide +kernel, by decide +kernel⟩, List.mem_of_getElem? (i := 17) (by decide +kernel), List.mem_of_getElem? (i := 676) (by decide +kernel), List.mem_of_getElem? (i := 677) (by decide +kernel)⟩
theorem lw_p22 : lw_okq (⟨"ShelfWays", "paidBySeed", "(LShelfWays$Shelf;II)I"⟩, 12) := ⟨⟨by decide +kernel, by decide +kernel⟩, List.mem_of_getElem? (i := 17) (by decide +kernel), List.mem_of_getElem? (i := 688) (by decide +kernel), List.mem_of_getElem? (i := 689) (by decide +kernel)⟩
theorem lw_p23 : lw_okq (⟨"ShelfWays", "imagesKept", "()I"⟩, 12) := ⟨⟨by decide +kernel, by decide +kernel⟩, List.mem_of_getElem? (i := 17) (by decide +kernel), List.mem_of_getElem? (i := 735) (by decide +kernel), List.mem_of_getElem? (i := 736) (by decide +kernel)⟩
theorem lw_p24 : lw_okq (⟨"ShelfWaysModel", "readsOn", "()V"⟩, 29) := ⟨⟨by decide +kernel, by decide +kernel⟩, List.mem_of_getElem? (i := 747) (by decide +kernel), List.mem_of_getElem? (i := 857) (by decide +kernel), List.mem_of_getElem? (i := 858) (by decide +kernel)⟩
theorem lw_p25 : lw_okq (⟨"ShelfWaysModel", "byteAt", "(I)I"⟩, 29) := ⟨⟨by decide +kernel, by decide +kernel⟩, List.mem_of_getElem? (i := 747) (by decide +kernel), List.mem_of_getElem? (i := 861) (by decide +kernel), List.mem_of_getElem? (i := 862) (by decide +kernel)⟩
theorem lw_p26 : lw_okq (⟨"ShelfWaysModel", "fails", "(I)V"⟩, 29) := ⟨⟨by decide +kernel, by decide +kernel⟩, List.mem_of_getElem? (i := 747) (by decide +kernel), List.mem_of_getElem? (i := 869) (by decide +kernel), List.mem_of_getElem? (i := 870) (by decide +kernel)⟩
theorem lw_p27 : lw_okq (⟨"ShelfWaysModel", "readLine", "()V"⟩, 29) := ⟨⟨by decide +kernel, by decide +kernel⟩, List.mem_of_getElem? (i := 747) (by decide +kernel), List.mem_of_getElem? (i := 873) (by decide +kernel), List.mem_of_getElem? (i := 874) (by decide +kernel)⟩
theorem lw_p28 : lw_okq (⟨"ShelfWaysModel", "nameHere", "()I"⟩, 29) := ⟨⟨by decide +kernel, by decide +kernel⟩, List.mem_of_getElem? (i := 747) (by decide +kernel), List.mem_of_getElem? (i := 877) (by decide +kernel), List.mem_of_getElem? (i := 878) (by decide +kernel)⟩
theorem lw_p29 : lw_okq (⟨"ShelfWaysModel", "readMore", "(I)V"⟩, 29) := ⟨⟨by decide +kernel, by decide +kernel⟩, List.mem_of_getElem? (i := 747) (by decide +kernel), List.mem_of_getElem? (i := 882) (by decide +kernel), List.mem_of_getElem? (i := 883) (by decide +kernel)⟩
theorem lw_p30 : lw_okq (⟨"ShelfWaysModel", "number", "(II)I"⟩, 29) := ⟨⟨by decide +kernel, by decide +kernel⟩, List.mem_of_getElem? (i := 747) (by decide +kernel), List.mem_of_getElem? (i := 886) (by decide +kernel), List.mem_of_getElem? (i := 887) (by decide +kernel)⟩
theorem lw_p31 : lw_okq (⟨"ShelfWaysModel", "readWants", "()V"⟩, 29) := ⟨⟨by decide +kernel, by decide +kernel⟩, List.mem_of_getElem? (i := 747) (by decide +kernel), List.mem_of_getElem? (i := 890) (by decide +kernel), List.mem_of_getElem? (i := 891) (by decide +kernel)⟩
def lw_privs_2 : List (MethodName × Nat) := [(⟨"ShelfWays", "resetToPaidNow", "(I)V"⟩, 12), (⟨"ShelfWays$Seen", "latest", "()I"⟩, 4), (⟨"ShelfWays$Seen", "isSoBehind", "(ILShelfWays$House;)Z"⟩, 4), (⟨"ShelfWays", "candidates", "(I)I"⟩, 12), (⟨"ShelfWays", "countLooks", "(II)V"⟩, 12), (⟨"ShelfWays", "countLooksOfTrial", "()V"⟩, 12), (⟨"ShelfWays", "paidBySeed", "(LShelfWays$Shelf;II)I"⟩, 12), (⟨"ShelfWays", "imagesKept", "()I"⟩, 12), (⟨"ShelfWaysModel", "readsOn", "()V"⟩, 29), (⟨"ShelfWaysModel", "byteAt", "(I)I"⟩, 29), (⟨"ShelfWaysModel", "fails", "(I)V"⟩, 29), (⟨"ShelfWaysModel", "readLine", "()V"⟩, 29), (⟨"ShelfWaysModel", "nameHere", "()I"⟩, 29), (⟨"ShelfWaysModel", "readMore", "(I)V"⟩, 29), (⟨"ShelfWaysModel", "number", "(II)I"⟩, 29), (⟨"ShelfWaysModel", "readWants", "()V"⟩, 29)]
theorem lw_r2 : ∀ q ∈ lw_privs_2, lw_okq q := List.forall_mem_cons.mpr ⟨lw_p16, List.forall_mem_cons.mpr ⟨lw_p17, List.forall_mem_cons.mpr ⟨lw_p18, List.forall_mem_cons.mpr ⟨lw_p19, List.forall_mem_cons.mpr ⟨lw_p20, List.forall_mem_cons.mpr ⟨lw_p21, List.forall_mem_cons.mpr ⟨lw_p22, List.forall_mem_cons.mpr ⟨lw_p23, List.forall_mem_cons.mpr ⟨lw_p24, List.forall_mem_cons.mpr ⟨lw_p25, List.forall_mem_cons.mpr ⟨lw_p26, List.forall_mem_cons.mpr ⟨lw_p27, List.forall_mem_cons.mpr ⟨lw_p28, List.forall_mem_cons.mpr ⟨lw_p29, List.forall_mem_cons.mpr ⟨lw_p30, List.forall_mem_cons.mpr ⟨lw_p31, fun _ h => absurd h List.not_mem_nil⟩⟩⟩⟩⟩⟩⟩⟩⟩⟩⟩⟩⟩⟩⟩⟩
theorem lw_p32 : lw_okq (⟨"ShelfWaysModel", "ordersFirst", "(I)V"⟩, 29) := ⟨⟨by decide +kernel, by decide +kernel⟩, List.mem_of_getElem? (i := 747) (by decide +kernel), List.mem_of_getElem? (i := 894) (by decide +kernel), List.mem_of_getElem? (i := 895) (by decide +kernel)⟩
theorem lw_p33 : lw_okq (⟨"ShelfWaysModel", "turnOn", "(I)I"⟩, 29) := ⟨⟨by decide +kernel, by decide +kernel⟩, List.mem_of_getElem? (i := 747) (by decide +kernel), List.mem_of_getElem? (i := 906) (by decide +kernel), List.mem_of_getElem? (i := 907) (by decide +kernel)⟩
theorem lw_p34 : lw_okq (⟨"ShelfWaysModel", "isShelf", "(I)Z"⟩, 29) := ⟨⟨by decide +kernel, by decide +kernel⟩, List.mem_of_getElem? (i := 747) (by decide +kernel), List.mem_of_getElem? (i := 914) (by decide +kernel), List.mem_of_getElem? (i := 915) (by decide +kernel)⟩
theorem lw_p35 : lw_okq (⟨"ShelfWaysModel", "isBook", "(I)Z"⟩, 29) := ⟨⟨by decide +kernel, by decide +kernel⟩, List.mem_of_getElem? (i := 747) (by decide +kernel), List.mem_of_getElem? (i := 918) (by decide +kernel), List.mem_of_getElem? (i := 919) (by decide +kernel)⟩
theorem lw_p36 : lw_okq (⟨"ShelfWaysModel", "placeOn", "(III)I"⟩, 29) := ⟨⟨by decide +kernel, by decide +kernel⟩, List.mem_of_getElem? (i := 747) (by decide +kernel), List.mem_of_getElem? (i := 926) (by decide +kernel), List.mem_of_getElem? (i := 927) (by decide +kernel)⟩
theorem lw_p37 : lw_okq (⟨"ShelfWaysModel", "isWant", "(I)Z"⟩, 29) := ⟨⟨by decide +kernel, by decide +kernel⟩, List.mem_of_getElem? (i := 747) (by decide +kernel), List.mem_of_getElem? (i := 934) (by decide +kernel), List.mem_of_getElem? (i := 935) (by decide +kernel)⟩
theorem lw_p38 : lw_okq (⟨"ShelfWaysModel", "puts", "(ZII)I"⟩, 29) := ⟨⟨by decide +kernel, by decide +kernel⟩, List.mem_of_getElem? (i := 747) (by decide +kernel), List.mem_of_getElem? (i := 943) (by decide +kernel), List.mem_of_getElem? (i := 944) (by decide +kernel)⟩
theorem lw_p39 : lw_okq (⟨"ShelfWaysModel", "standsOn", "(IIII)V"⟩, 29) := ⟨⟨by decide +kernel, by decide +kernel⟩, List.mem_of_getElem? (i := 747) (by decide +kernel), List.mem_of_getElem? (i := 959) (by decide +kernel), List.mem_of_getElem? (i := 960) (by decide +kernel)⟩
theorem lw_p40 : lw_okq (⟨"ShelfWaysModel", "adds", "(I)I"⟩, 29) := ⟨⟨by decide +kernel, by decide +kernel⟩, List.mem_of_getElem? (i := 747) (by decide +kernel), List.mem_of_getElem? (i := 971) (by decide +kernel), List.mem_of_getElem? (i := 972) (by decide +kernel)⟩
theorem lw_p41 : lw_okq (⟨"ShelfWaysModel", "asksOn", "(II)I"⟩, 29) := ⟨⟨by decide +kernel, by decide +kernel⟩, List.mem_of_getElem? (i := 747) (by decide +kernel), List.mem_of_getElem? (i := 983) (by decide +kernel), List.mem_of_getElem? (i := 984) (by decide +kernel)⟩
theorem lw_p42 : lw_okq (⟨"ShelfWaysModel", "goalOn", "(III)I"⟩, 29) := ⟨⟨by decide +kernel, by decide +kernel⟩, List.mem_of_getElem? (i := 747) (by decide +kernel), List.mem_of_getElem? (i := 988) (by decide +kernel), List.mem_of_getElem? (i := 989) (by decide +kernel)⟩
theorem lw_p43 : lw_okq (⟨"ShelfWaysModel", "starts", "()V"⟩, 29) := ⟨⟨by decide +kernel, by decide +kernel⟩, List.mem_of_getElem? (i := 747) (by decide +kernel), List.mem_of_getElem? (i := 997) (by decide +kernel), List.mem_of_getElem? (i := 998) (by decide +kernel)⟩
theorem lw_p44 : lw_okq (⟨"ShelfWaysModel", "stepOn", "(IZ)V"⟩, 29) := ⟨⟨by decide +kernel, by decide +kernel⟩, List.mem_of_getElem? (i := 747) (by decide +kernel), List.mem_of_getElem? (i := 1001) (by decide +kernel), List.mem_of_getElem? (i := 1002) (by decide +kernel)⟩
theorem lw_p45 : lw_okq (⟨"ShelfWaysModel", "paidAll", "()I"⟩, 29) := ⟨⟨by decide +kernel, by decide +kernel⟩, List.mem_of_getElem? (i := 747) (by decide +kernel), List.mem_of_getElem? (i := 1005) (by decide +kernel), List.mem_of_getElem? (i := 1006) (by decide +kernel)⟩
theorem lw_p46 : lw_okq (⟨"ShelfWaysModel", "stepsGo", "(II)I"⟩, 29) := ⟨⟨by decide +kernel, by decide +kernel⟩, List.mem_of_getElem? (i := 747) (by decide +kernel), List.mem_of_getElem? (i := 1014) (by decide +kernel), List.mem_of_getElem? (i := 1015) (by decide +kernel)⟩
theorem lw_p47 : lw_okq (⟨"ShelfWaysModel", "copies", "(II)V"⟩, 29) := ⟨⟨by decide +kernel, by decide +kernel⟩, List.mem_of_getElem? (i := 747) (by decide +kernel), List.mem_of_getElem? (i := 1018) (by decide +kernel), List.mem_of_getElem? (i := 1019) (by decide +kernel)⟩
def lw_privs_3 : List (MethodName × Nat) := [(⟨"ShelfWaysModel", "ordersFirst", "(I)V"⟩, 29), (⟨"ShelfWaysModel", "turnOn", "(I)I"⟩, 29), (⟨"ShelfWaysModel", "isShelf", "(I)Z"⟩, 29), (⟨"ShelfWaysModel", "isBook", "(I)Z"⟩, 29), (⟨"ShelfWaysModel", "placeOn", "(III)I"⟩, 29), (⟨"ShelfWaysModel", "isWant", "(I)Z"⟩, 29), (⟨"ShelfWaysModel", "puts", "(ZII)I"⟩, 29), (⟨"ShelfWaysModel", "standsOn", "(IIII)V"⟩, 29), (⟨"ShelfWaysModel", "adds", "(I)I"⟩, 29), (⟨"ShelfWaysModel", "asksOn", "(II)I"⟩, 29), (⟨"ShelfWaysModel", "goalOn", "(III)I"⟩, 29), (⟨"ShelfWaysModel", "starts", "()V"⟩, 29), (⟨"ShelfWaysModel", "stepOn", "(IZ)V"⟩, 29), (⟨"ShelfWaysModel", "paidAll", "()I"⟩, 29), (⟨"ShelfWaysModel", "stepsGo", "(II)I"⟩, 29), (⟨"ShelfWaysModel", "copies", "(II)V"⟩, 29)]
theorem lw_r3 : ∀ q ∈ lw_privs_3, lw_okq q := List.forall_mem_cons.mpr ⟨lw_p32, List.forall_mem_cons.mpr ⟨lw_p33, List.forall_mem_cons.mpr ⟨lw_p34, List.forall_mem_cons.mpr ⟨lw_p35, List.forall_mem_cons.mpr ⟨lw_p36, List.forall_mem_cons.mpr ⟨lw_p37, List.forall_mem_cons.mpr ⟨lw_p38, List.forall_mem_cons.mpr ⟨lw_p39, List.forall_mem_cons.mpr ⟨lw_p40, List.forall_mem_cons.mpr ⟨lw_p41, List.forall_mem_cons.mpr ⟨lw_p42, List.forall_mem_cons.mpr ⟨lw_p43, List.forall_mem_cons.mpr ⟨lw_p44, List.forall_mem_cons.mpr ⟨lw_p45, List.forall_mem_cons.mpr ⟨lw_p46, List.forall_mem_cons.mpr ⟨lw_p47, fun _ h => absurd h List.not_mem_nil⟩⟩⟩⟩⟩⟩⟩⟩⟩⟩⟩⟩⟩⟩⟩⟩
theorem lw_p48 : lw_okq (⟨"ShelfWaysModel", "cheapest", "()I"⟩, 29) := ⟨⟨by decide +kernel, by decide +kernel⟩, List.mem_of_getElem? (i := 747) (by decide +kernel), List.mem_of_getElem? (i := 1022) (by decide +kernel), List.mem_of_getElem? (i := 1023) (by decide +kernel)⟩
theorem lw_p49 : lw_okq (⟨"ShelfWaysModel", "isRow", "(I)Z"⟩, 29) := ⟨⟨by decide +kernel, by decide +kernel⟩, List.mem_of_getElem? (i := 747) (by decide +kernel), List.mem_of_getElem? (i := 1047) (by decide +kernel), List.mem_of_getElem? (i := 1048) (by decide +kernel)⟩
theorem lw_p50 : lw_okq (⟨"ShelfWaysModel", "ordered", "(II)Z"⟩, 29) := ⟨⟨by decide +kernel, by decide +kernel⟩, List.mem_of_getElem? (i := 747) (by decide +kernel), List.mem_of_getElem? (i := 1051) (by decide +kernel), List.mem_of_getElem? (i := 1052) (by decide +kernel)⟩
theorem lw_p51 : lw_okq (⟨"ShelfWaysModel", "byNothing", "(IIIII)J"⟩, 29) := ⟨⟨by decide +kernel, by decide +kernel⟩, List.mem_of_getElem? (i := 747) (by decide +kernel), List.mem_of_getElem? (i := 1077) (by decide +kernel), List.mem_of_getElem? (i := 1078) (by decide +kernel)⟩
theorem lw_p52 : lw_okq (⟨"ShelfWaysModel", "numbersAt", "(II)I"⟩, 29) := ⟨⟨by decide +kernel, by decide +kernel⟩, List.mem_of_getElem? (i := 747) (by decide +kernel), List.mem_of_getElem? (i := 1102) (by decide +kernel), List.mem_of_getElem? (i := 1103) (by decide +kernel)⟩
theorem lw_p53 : lw_okq (⟨"ShelfWaysModel", "isAsSeen", "(I)Z"⟩, 29) := ⟨⟨by decide +kernel, by decide +kernel⟩, List.mem_of_getElem? (i := 747) (by decide +kernel), List.mem_of_getElem? (i := 1106) (by decide +kernel), List.mem_of_getElem? (i := 1107) (by decide +kernel)⟩
theorem lw_p54 : lw_okq (⟨"ShelfWaysModel", "worstAt", "(II)I"⟩, 29) := ⟨⟨by decide +kernel, by decide +kernel⟩, List.mem_of_getElem? (i := 747) (by decide +kernel), List.mem_of_getElem? (i := 1118) (by decide +kernel), List.mem_of_getElem? (i := 1119) (by decide +kernel)⟩
def lw_privs_4 : List (MethodName × Nat) := [(⟨"ShelfWaysModel", "cheapest", "()I"⟩, 29), (⟨"ShelfWaysModel", "isRow", "(I)Z"⟩, 29), (⟨"ShelfWaysModel", "ordered", "(II)Z"⟩, 29), (⟨"ShelfWaysModel", "byNothing", "(IIIII)J"⟩, 29), (⟨"ShelfWaysModel", "numbersAt", "(II)I"⟩, 29), (⟨"ShelfWaysModel", "isAsSeen", "(I)Z"⟩, 29), (⟨"ShelfWaysModel", "worstAt", "(II)I"⟩, 29)]
theorem lw_r4 : ∀ q ∈ lw_privs_4, lw_okq q := List.forall_mem_cons.mpr ⟨lw_p48, List.forall_mem_cons.mpr ⟨lw_p49, List.forall_mem_cons.mpr ⟨lw_p50, List.forall_mem_cons.mpr ⟨lw_p51, List.forall_mem_cons.mpr ⟨lw_p52, List.forall_mem_cons.mpr ⟨lw_p53, List.forall_mem_cons.mpr ⟨lw_p54, fun _ h => absurd h List.not_mem_nil⟩⟩⟩⟩⟩⟩⟩
def lw_privs : List (MethodName × Nat) := lw_privs_1 ++ (lw_privs_2 ++ (lw_privs_3 ++ (lw_privs_4)))
def lw_tbl : List Cond := k2_sels lw_privs ++ tables_1
theorem lw_privs_ok : ∀ q ∈ lw_privs, lw_okq q := by
  show ∀ q ∈ lw_privs_1 ++ (lw_privs_2 ++ (lw_privs_3 ++ (lw_privs_4))), lw_okq q
  exact List.forall_mem_append.mpr ⟨lw_r1, List.forall_mem_append.mpr ⟨lw_r2, List.forall_mem_append.mpr ⟨lw_r3, lw_r4⟩⟩⟩
end
section
def RX0 : String := "ShelfWays$House"
def TX0 : u_T := fun k => match k with
  | 0 => ("ShelfWays$House", "bookCount", "I", false)
  | 1 => ("ShelfWays$House", "shelfCount", "I", false)
  | 2 => ("ShelfWays$House", "wantCount", "I", false)
  | 3 => ("ShelfWays$House", "step", "I", false)
  | 4 => ("ShelfWays$House", "shelves", "[LShelfWays$Shelf;", true)
  | _ => ("ShelfWays$House", "wants", "[I", true)
def tyX0 : Nat → FieldType := fun k => match k with
  | 0 => .int
  | 1 => .int
  | 2 => .int
  | 3 => .int
  | 4 => .array (.object "ShelfWays$Shelf")
  | _ => .array .int
theorem nmX0 : ∀ a, a < 6 → ∀ b, b < 6 → a ≠ b → (TX0 a).2.1 ≠ (TX0 b).2.1 := by decide +kernel
theorem tyX0_ok : ∀ k, k < 6 → parseFieldDescriptor (TX0 k).2.2.1 = some (tyX0 k) := by decide +kernel
abbrev cX0_init : ByteArray := prog_2_method_1_code
def yX0_init : MethodName := ⟨RX0, "<init>", "()V"⟩
abbrev cX0_empty : ByteArray := prog_2_method_2_code
def yX0_empty : MethodName := ⟨RX0, "empty", "()V"⟩
abbrev cX0_copy : ByteArray := prog_2_method_3_code
def yX0_copy : MethodName := ⟨RX0, "copy", "(LShelfWays$House;)V"⟩
abbrev cX0_hasShelf : ByteArray := prog_2_method_4_code
def yX0_hasShelf : MethodName := ⟨RX0, "hasShelf", "(I)Z"⟩
abbrev cX0_hasBook : ByteArray := prog_2_method_5_code
def yX0_hasBook : MethodName := ⟨RX0, "hasBook", "(I)Z"⟩
abbrev cX0_hasWant : ByteArray := prog_2_method_6_code
def yX0_hasWant : MethodName := ⟨RX0, "hasWant", "(I)Z"⟩
abbrev cX0_addShelf : ByteArray := prog_2_method_7_code
def yX0_addShelf : MethodName := ⟨RX0, "addShelf", "(I)Z"⟩
abbrev cX0_addWant : ByteArray := prog_2_method_8_code
def yX0_addWant : MethodName := ⟨RX0, "addWant", "(I)Z"⟩
abbrev cX0_wantsNoSuchBook : ByteArray := prog_2_method_9_code
def yX0_wantsNoSuchBook : MethodName := ⟨RX0, "wantsNoSuchBook", "()Z"⟩
abbrev cX0_turn : ByteArray := prog_2_method_10_code
def yX0_turn : MethodName := ⟨RX0, "turn", "(I)I"⟩
abbrev cX0_serveAll : ByteArray := prog_2_method_11_code
def yX0_serveAll : MethodName := ⟨RX0, "serveAll", "(I)I"⟩
abbrev cX0_stepOn : ByteArray := prog_2_method_12_code
def yX0_stepOn : MethodName := ⟨RX0, "stepOn", "()I"⟩
abbrev cX0_serveTurn : ByteArray := prog_2_method_13_code
def yX0_serveTurn : MethodName := ⟨RX0, "serveTurn", "(II)I"⟩
abbrev cX0_paidBy : ByteArray := prog_2_method_14_code
def yX0_paidBy : MethodName := ⟨RX0, "paidBy", "(III)I"⟩
abbrev cX0_paidByAll : ByteArray := prog_2_method_15_code
def yX0_paidByAll : MethodName := ⟨RX0, "paidByAll", "(II)I"⟩
abbrev cX0_paidWithout : ByteArray := prog_2_method_16_code
def yX0_paidWithout : MethodName := ⟨RX0, "paidWithout", "(III)I"⟩
abbrev cX0_dearestPay : ByteArray := prog_2_method_17_code
def yX0_dearestPay : MethodName := ⟨RX0, "dearestPay", "(I)I"⟩
abbrev cX0_movesIn : ByteArray := prog_2_method_18_code
def yX0_movesIn : MethodName := ⟨RX0, "movesIn", "(I)I"⟩
abbrev cX0_standsAs : ByteArray := prog_2_method_19_code
def yX0_standsAs : MethodName := ⟨RX0, "standsAs", "(LShelfWays$House;)Z"⟩
abbrev cX0_costOfAll : ByteArray := prog_2_method_20_code
def yX0_costOfAll : MethodName := ⟨RX0, "costOfAll", "()I"⟩
abbrev cX0_wantsSummed : ByteArray := prog_2_method_21_code
def yX0_wantsSummed : MethodName := ⟨RX0, "wantsSummed", "()I"⟩
def RX1 : String := "ShelfWays$Least"
def TX1 : u_T := fun k => match k with
  | 0 => ("ShelfWays$Least", "name", "I", false)
  | _ => ("ShelfWays$Least", "much", "I", false)
def tyX1 : Nat → FieldType := fun k => match k with
  | 0 => .int
  | _ => .int
theorem nmX1 : ∀ a, a < 2 → ∀ b, b < 2 → a ≠ b → (TX1 a).2.1 ≠ (TX1 b).2.1 := by decide +kernel
theorem tyX1_ok : ∀ k, k < 2 → parseFieldDescriptor (TX1 k).2.2.1 = some (tyX1 k) := by decide +kernel
abbrev cX1_init : ByteArray := prog_3_method_1_code
def yX1_init : MethodName := ⟨RX1, "<init>", "()V"⟩
abbrev cX1_reset : ByteArray := prog_3_method_2_code
def yX1_reset : MethodName := ⟨RX1, "reset", "(I)V"⟩
abbrev cX1_offer : ByteArray := prog_3_method_3_code
def yX1_offer : MethodName := ⟨RX1, "offer", "(II)V"⟩
abbrev cX1_answer : ByteArray := prog_3_method_4_code
def yX1_answer : MethodName := ⟨RX1, "answer", "(I)I"⟩
def RX2 : String := "ShelfWays$Seen"
def TX2 : u_T := fun k => match k with
  | 0 => ("ShelfWays$Seen", "many", "I", false)
  | 1 => ("ShelfWays$Seen", "behind", "[I", true)
  | 2 => ("ShelfWays$Seen", "onShelf", "[I", true)
  | _ => ("ShelfWays$Seen", "book", "[I", true)
def tyX2 : Nat → FieldType := fun k => match k with
  | 0 => .int
  | 1 => .array .int
  | 2 => .array .int
  | _ => .array .int
theorem nmX2 : ∀ a, a < 4 → ∀ b, b < 4 → a ≠ b → (TX2 a).2.1 ≠ (TX2 b).2.1 := by decide +kernel
theorem tyX2_ok : ∀ k, k < 4 → parseFieldDescriptor (TX2 k).2.2.1 = some (tyX2 k) := by decide +kernel
abbrev cX2_init : ByteArray := prog_4_method_1_code
def yX2_init : MethodName := ⟨RX2, "<init>", "()V"⟩
abbrev cX2_note : ByteArray := prog_4_method_2_code
def yX2_note : MethodName := ⟨RX2, "note", "(III)Z"⟩
abbrev cX2_isSoIn : ByteArray := prog_4_method_3_code
def yX2_isSoIn : MethodName := ⟨RX2, "isSoIn", "(LShelfWays$House;)Z"⟩
abbrev cX2_latest : ByteArray := prog_4_method_4_code
def yX2_latest : MethodName := ⟨RX2, "latest", "()I"⟩
abbrev cX2_isSoBehind : ByteArray := prog_4_method_5_code
def yX2_isSoBehind : MethodName := ⟨RX2, "isSoBehind", "(ILShelfWays$House;)Z"⟩
def RX3 : String := "ShelfWays$Sheet"
def TX3 : u_T := fun k => match k with
  | 0 => ("ShelfWays$Sheet", "laneNow", "I", false)
  | 1 => ("ShelfWays$Sheet", "length", "I", false)
  | _ => ("ShelfWays$Sheet", "cells", "[I", true)
def tyX3 : Nat → FieldType := fun k => match k with
  | 0 => .int
  | 1 => .int
  | _ => .array .int
theorem nmX3 : ∀ a, a < 3 → ∀ b, b < 3 → a ≠ b → (TX3 a).2.1 ≠ (TX3 b).2.1 := by decide +kernel
theorem tyX3_ok : ∀ k, k < 3 → parseFieldDescriptor (TX3 k).2.2.1 = some (tyX3 k) := by decide +kernel
abbrev cX3_init : ByteArray := prog_5_method_1_code
def yX3_init : MethodName := ⟨RX3, "<init>", "()V"⟩
abbrev cX3_begin : ByteArray := prog_5_method_2_code
def yX3_begin : MethodName := ⟨RX3, "begin", "(II)V"⟩
abbrev cX3_faultOf : ByteArray := prog_5_method_3_code
def yX3_faultOf : MethodName := ⟨RX3, "faultOf", "(II)I"⟩
abbrev cX3_write : ByteArray := prog_5_method_4_code
def yX3_write : MethodName := ⟨RX3, "write", "(II)V"⟩
def RX4 : String := "ShelfWays$Shelf"
def TX4 : u_T := fun k => match k with
  | 0 => ("ShelfWays$Shelf", "kindNow", "I", false)
  | 1 => ("ShelfWays$Shelf", "cost", "I", false)
  | 2 => ("ShelfWays$Shelf", "row", "[I", true)
  | _ => ("ShelfWays$Shelf", "asked", "[I", true)
def tyX4 : Nat → FieldType := fun k => match k with
  | 0 => .int
  | 1 => .int
  | 2 => .array .int
  | _ => .array .int
theorem nmX4 : ∀ a, a < 4 → ∀ b, b < 4 → a ≠ b → (TX4 a).2.1 ≠ (TX4 b).2.1 := by decide +kernel
theorem tyX4_ok : ∀ k, k < 4 → parseFieldDescriptor (TX4 k).2.2.1 = some (tyX4 k) := by decide +kernel
abbrev cX4_init : ByteArray := prog_6_method_1_code
def yX4_init : MethodName := ⟨RX4, "<init>", "()V"⟩
abbrev cX4_begin : ByteArray := prog_6_method_2_code
def yX4_begin : MethodName := ⟨RX4, "begin", "(I)V"⟩
abbrev cX4_copy : ByteArray := prog_6_method_3_code
def yX4_copy : MethodName := ⟨RX4, "copy", "(LShelfWays$Shelf;)V"⟩
abbrev cX4_find : ByteArray := prog_6_method_4_code
def yX4_find : MethodName := ⟨RX4, "find", "(I)I"⟩
abbrev cX4_serve : ByteArray := prog_6_method_5_code
def yX4_serve : MethodName := ⟨RX4, "serve", "(I)I"⟩
abbrev cX4_payFor : ByteArray := prog_6_method_6_code
def yX4_payFor : MethodName := ⟨RX4, "payFor", "(I)I"⟩
abbrev cX4_goalOf : ByteArray := prog_6_method_7_code
def yX4_goalOf : MethodName := ⟨RX4, "goalOf", "(II)I"⟩
abbrev cX4_shift : ByteArray := prog_6_method_8_code
def yX4_shift : MethodName := ⟨RX4, "shift", "(II)V"⟩
abbrev cX4_standsAs : ByteArray := prog_6_method_9_code
def yX4_standsAs : MethodName := ⟨RX4, "standsAs", "(LShelfWays$Shelf;)Z"⟩
def RX5 : String := "ShelfWays$Tape"
def TX5 : u_T := fun k => match k with
  | 0 => ("ShelfWays$Tape", "bytes", "[B", true)
  | 1 => ("ShelfWays$Tape", "length", "I", false)
  | 2 => ("ShelfWays$Tape", "faultSort", "I", false)
  | 3 => ("ShelfWays$Tape", "faultPlace", "I", false)
  | 4 => ("ShelfWays$Tape", "cursor", "I", false)
  | 5 => ("ShelfWays$Tape", "tokenPlace", "I", false)
  | 6 => ("ShelfWays$Tape", "tokenSort", "I", false)
  | 7 => ("ShelfWays$Tape", "number", "I", false)
  | _ => ("ShelfWays$Tape", "booksTold", "Z", false)
def tyX5 : Nat → FieldType := fun k => match k with
  | 0 => .array .byte
  | 1 => .int
  | 2 => .int
  | 3 => .int
  | 4 => .int
  | 5 => .int
  | 6 => .int
  | 7 => .int
  | _ => .boolean
theorem nmX5 : ∀ a, a < 9 → ∀ b, b < 9 → a ≠ b → (TX5 a).2.1 ≠ (TX5 b).2.1 := by decide +kernel
theorem tyX5_ok : ∀ k, k < 9 → parseFieldDescriptor (TX5 k).2.2.1 = some (tyX5 k) := by decide +kernel
abbrev cX5_init : ByteArray := prog_7_method_1_code
def yX5_init : MethodName := ⟨RX5, "<init>", "()V"⟩
abbrev cX5_tellTo : ByteArray := prog_7_method_2_code
def yX5_tellTo : MethodName := ⟨RX5, "tellTo", "(LShelfWays$House;)I"⟩
abbrev cX5_takeLine : ByteArray := prog_7_method_3_code
def yX5_takeLine : MethodName := ⟨RX5, "takeLine", "(LShelfWays$House;)Z"⟩
abbrev cX5_takeShelf : ByteArray := prog_7_method_4_code
def yX5_takeShelf : MethodName := ⟨RX5, "takeShelf", "(LShelfWays$House;I)Z"⟩
abbrev cX5_takeBooks : ByteArray := prog_7_method_5_code
def yX5_takeBooks : MethodName := ⟨RX5, "takeBooks", "(LShelfWays$House;)Z"⟩
abbrev cX5_takeWants : ByteArray := prog_7_method_6_code
def yX5_takeWants : MethodName := ⟨RX5, "takeWants", "(LShelfWays$House;)Z"⟩
abbrev cX5_takeSemicolon : ByteArray := prog_7_method_7_code
def yX5_takeSemicolon : MethodName := ⟨RX5, "takeSemicolon", "()Z"⟩
abbrev cX5_refuse : ByteArray := prog_7_method_8_code
def yX5_refuse : MethodName := ⟨RX5, "refuse", "(I)Z"⟩
abbrev cX5_kindNamed : ByteArray := prog_7_method_9_code
def yX5_kindNamed : MethodName := ⟨RX5, "kindNamed", "()I"⟩
abbrev cX5_isNamed : ByteArray := prog_7_method_10_code
def yX5_isNamed : MethodName := ⟨RX5, "isNamed", "(Ljava/lang/String;)Z"⟩
abbrev cX5_scan : ByteArray := prog_7_method_11_code
def yX5_scan : MethodName := ⟨RX5, "scan", "()V"⟩
abbrev cX5_scanName : ByteArray := prog_7_method_12_code
def yX5_scanName : MethodName := ⟨RX5, "scanName", "()V"⟩
abbrev cX5_scanNumber : ByteArray := prog_7_method_13_code
def yX5_scanNumber : MethodName := ⟨RX5, "scanNumber", "()V"⟩
abbrev cX5_isLetter : ByteArray := prog_7_method_14_code
def yX5_isLetter : MethodName := ⟨RX5, "isLetter", "(I)Z"⟩
abbrev cX5_isFigure : ByteArray := prog_7_method_15_code
def yX5_isFigure : MethodName := ⟨RX5, "isFigure", "(I)Z"⟩
def RX6 : String := "ShelfWays"
def TX6 : u_T := fun k => match k with
  | 0 => ("ShelfWays", "now", "LShelfWays$House;", true)
  | 1 => ("ShelfWays", "trial", "LShelfWays$House;", true)
  | 2 => ("ShelfWays", "images", "[LShelfWays$House;", true)
  | 3 => ("ShelfWays", "kept", "[Z", true)
  | 4 => ("ShelfWays", "tape", "LShelfWays$Tape;", true)
  | 5 => ("ShelfWays", "seen", "LShelfWays$Seen;", true)
  | 6 => ("ShelfWays", "sheets", "[LShelfWays$Sheet;", true)
  | 7 => ("ShelfWays", "least", "LShelfWays$Least;", true)
  | 8 => ("ShelfWays", "rowTried", "[I", true)
  | 9 => ("ShelfWays", "rowBest", "[I", true)
  | 10 => ("ShelfWays", "looks", "[I", true)
  | _ => ("ShelfWays", "lastTorn", "I", false)
def tyX6 : Nat → FieldType := fun k => match k with
  | 0 => .object "ShelfWays$House"
  | 1 => .object "ShelfWays$House"
  | 2 => .array (.object "ShelfWays$House")
  | 3 => .array .boolean
  | 4 => .object "ShelfWays$Tape"
  | 5 => .object "ShelfWays$Seen"
  | 6 => .array (.object "ShelfWays$Sheet")
  | 7 => .object "ShelfWays$Least"
  | 8 => .array .int
  | 9 => .array .int
  | 10 => .array .int
  | _ => .int
theorem nmX6 : ∀ a, a < 12 → ∀ b, b < 12 → a ≠ b → (TX6 a).2.1 ≠ (TX6 b).2.1 := by decide +kernel
theorem tyX6_ok : ∀ k, k < 12 → parseFieldDescriptor (TX6 k).2.2.1 = some (tyX6 k) := by decide +kernel
abbrev cX6_init : ByteArray := prog_1_method_1_code
def yX6_init : MethodName := ⟨RX6, "<init>", "()V"⟩
abbrev cX6_feed : ByteArray := prog_1_method_2_code
def yX6_feed : MethodName := ⟨RX6, "feed", "(I)I"⟩
abbrev cX6_end : ByteArray := prog_1_method_3_code
def yX6_end : MethodName := ⟨RX6, "end", "(I)I"⟩
abbrev cX6_text : ByteArray := prog_1_method_4_code
def yX6_text : MethodName := ⟨RX6, "text", "()I"⟩
abbrev cX6_fault : ByteArray := prog_1_method_5_code
def yX6_fault : MethodName := ⟨RX6, "fault", "()I"⟩
abbrev cX6_rule : ByteArray := prog_1_method_6_code
def yX6_rule : MethodName := ⟨RX6, "rule", "(I)I"⟩
abbrev cX6_leastCost : ByteArray := prog_1_method_7_code
def yX6_leastCost : MethodName := ⟨RX6, "leastCost", "()I"⟩
abbrev cX6_shelf : ByteArray := prog_1_method_8_code
def yX6_shelf : MethodName := ⟨RX6, "shelf", "(II)I"⟩
abbrev cX6_place : ByteArray := prog_1_method_9_code
def yX6_place : MethodName := ⟨RX6, "place", "(II)I"⟩
abbrev cX6_want : ByteArray := prog_1_method_10_code
def yX6_want : MethodName := ⟨RX6, "want", "(I)I"⟩
abbrev cX6_alter : ByteArray := prog_1_method_11_code
def yX6_alter : MethodName := ⟨RX6, "alter", "(II)I"⟩
abbrev cX6_put : ByteArray := prog_1_method_12_code
def yX6_put : MethodName := ⟨RX6, "put", "(I)I"⟩
abbrev cX6_cut : ByteArray := prog_1_method_13_code
def yX6_cut : MethodName := ⟨RX6, "cut", "(I)I"⟩
abbrev cX6_stand : ByteArray := prog_1_method_14_code
def yX6_stand : MethodName := ⟨RX6, "stand", "(III)I"⟩
abbrev cX6_set : ByteArray := prog_1_method_15_code
def yX6_set : MethodName := ⟨RX6, "set", "(II)I"⟩
abbrev cX6_add : ByteArray := prog_1_method_16_code
def yX6_add : MethodName := ⟨RX6, "add", "(I)I"⟩
abbrev cX6_drop : ByteArray := prog_1_method_17_code
def yX6_drop : MethodName := ⟨RX6, "drop", "(I)I"⟩
abbrev cX6_take : ByteArray := prog_1_method_18_code
def yX6_take : MethodName := ⟨RX6, "take", "(I)I"⟩
abbrev cX6_steps : ByteArray := prog_1_method_19_code
def yX6_steps : MethodName := ⟨RX6, "steps", "(I)I"⟩
abbrev cX6_runs : ByteArray := prog_1_method_20_code
def yX6_runs : MethodName := ⟨RX6, "runs", "(II)I"⟩
abbrev cX6_cheapestIn : ByteArray := prog_1_method_21_code
def yX6_cheapestIn : MethodName := ⟨RX6, "cheapestIn", "(I)I"⟩
abbrev cX6_paid : ByteArray := prog_1_method_22_code
def yX6_paid : MethodName := ⟨RX6, "paid", "(II)I"⟩
abbrev cX6_ahead : ByteArray := prog_1_method_23_code
def yX6_ahead : MethodName := ⟨RX6, "ahead", "(III)I"⟩
abbrev cX6_when : ByteArray := prog_1_method_24_code
def yX6_when : MethodName := ⟨RX6, "when", "(II)I"⟩
abbrev cX6_again : ByteArray := prog_1_method_25_code
def yX6_again : MethodName := ⟨RX6, "again", "()I"⟩
abbrev cX6_order : ByteArray := prog_1_method_26_code
def yX6_order : MethodName := ⟨RX6, "order", "(II)I"⟩
abbrev cX6_findBestRow : ByteArray := prog_1_method_27_code
def yX6_findBestRow : MethodName := ⟨RX6, "findBestRow", "(I)I"⟩
abbrev cX6_nextRow : ByteArray := prog_1_method_28_code
def yX6_nextRow : MethodName := ⟨RX6, "nextRow", "([II)Z"⟩
abbrev cX6_exchange : ByteArray := prog_1_method_29_code
def yX6_exchange : MethodName := ⟨RX6, "exchange", "([III)V"⟩
abbrev cX6_kind : ByteArray := prog_1_method_30_code
def yX6_kind : MethodName := ⟨RX6, "kind", "(III)I"⟩
abbrev cX6_first : ByteArray := prog_1_method_31_code
def yX6_first : MethodName := ⟨RX6, "first", "(III)I"⟩
abbrev cX6_swap : ByteArray := prog_1_method_32_code
def yX6_swap : MethodName := ⟨RX6, "swap", "(II)I"⟩
abbrev cX6_lose : ByteArray := prog_1_method_33_code
def yX6_lose : MethodName := ⟨RX6, "lose", "(II)I"⟩
abbrev cX6_resetToPaidNow : ByteArray := prog_1_method_34_code
def yX6_resetToPaidNow : MethodName := ⟨RX6, "resetToPaidNow", "(I)V"⟩
abbrev cX6_luck : ByteArray := prog_1_method_35_code
def yX6_luck : MethodName := ⟨RX6, "luck", "(IIIII)J"⟩
abbrev cX6_mean : ByteArray := prog_1_method_36_code
def yX6_mean : MethodName := ⟨RX6, "mean", "(III)J"⟩
abbrev cX6_areOdds : ByteArray := prog_1_method_37_code
def yX6_areOdds : MethodName := ⟨RX6, "areOdds", "(III)Z"⟩
abbrev cX6_weightOf : ByteArray := prog_1_method_38_code
def yX6_weightOf : MethodName := ⟨RX6, "weightOf", "(III)J"⟩
abbrev cX6_power : ByteArray := prog_1_method_39_code
def yX6_power : MethodName := ⟨RX6, "power", "(II)J"⟩
abbrev cX6_inLowestTerms : ByteArray := prog_1_method_40_code
def yX6_inLowestTerms : MethodName := ⟨RX6, "inLowestTerms", "(JJI)J"⟩
abbrev cX6_see : ByteArray := prog_1_method_41_code
def yX6_see : MethodName := ⟨RX6, "see", "(III)I"⟩
abbrev cX6_forget : ByteArray := prog_1_method_42_code
def yX6_forget : MethodName := ⟨RX6, "forget", "(I)I"⟩
abbrev cX6_kinds : ByteArray := prog_1_method_43_code
def yX6_kinds : MethodName := ⟨RX6, "kinds", "(I)I"⟩
abbrev cX6_books : ByteArray := prog_1_method_44_code
def yX6_books : MethodName := ⟨RX6, "books", "(I)I"⟩
abbrev cX6_candidates : ByteArray := prog_1_method_45_code
def yX6_candidates : MethodName := ⟨RX6, "candidates", "(I)I"⟩
abbrev cX6_ask : ByteArray := prog_1_method_46_code
def yX6_ask : MethodName := ⟨RX6, "ask", "(II)I"⟩
abbrev cX6_countLooks : ByteArray := prog_1_method_47_code
def yX6_countLooks : MethodName := ⟨RX6, "countLooks", "(II)V"⟩
abbrev cX6_countLooksOfTrial : ByteArray := prog_1_method_48_code
def yX6_countLooksOfTrial : MethodName := ⟨RX6, "countLooksOfTrial", "()V"⟩
abbrev cX6_mostShowingOne : ByteArray := prog_1_method_49_code
def yX6_mostShowingOne : MethodName := ⟨RX6, "mostShowingOne", "(I)I"⟩
abbrev cX6_drift : ByteArray := prog_1_method_50_code
def yX6_drift : MethodName := ⟨RX6, "drift", "(III)I"⟩
abbrev cX6_paidBySeed : ByteArray := prog_1_method_51_code
def yX6_paidBySeed : MethodName := ⟨RX6, "paidBySeed", "(LShelfWays$Shelf;II)I"⟩
abbrev cX6_keep : ByteArray := prog_1_method_52_code
def yX6_keep : MethodName := ⟨RX6, "keep", "(I)I"⟩
abbrev cX6_back : ByteArray := prog_1_method_53_code
def yX6_back : MethodName := ⟨RX6, "back", "(I)I"⟩
abbrev cX6_sheet : ByteArray := prog_1_method_54_code
def yX6_sheet : MethodName := ⟨RX6, "sheet", "(III)I"⟩
abbrev cX6_lay : ByteArray := prog_1_method_55_code
def yX6_lay : MethodName := ⟨RX6, "lay", "(III)I"⟩
abbrev cX6_read : ByteArray := prog_1_method_56_code
def yX6_read : MethodName := ⟨RX6, "read", "(IIII)I"⟩
abbrev cX6_torn : ByteArray := prog_1_method_57_code
def yX6_torn : MethodName := ⟨RX6, "torn", "()I"⟩
abbrev cX6_count : ByteArray := prog_1_method_58_code
def yX6_count : MethodName := ⟨RX6, "count", "(I)I"⟩
abbrev cX6_imagesKept : ByteArray := prog_1_method_59_code
def yX6_imagesKept : MethodName := ⟨RX6, "imagesKept", "()I"⟩
abbrev cX6_within : ByteArray := prog_1_method_60_code
def yX6_within : MethodName := ⟨RX6, "within", "(III)Z"⟩
def RX7 : String := "ShelfWaysModel"
def TX7 : u_T := fun k => match k with
  | 0 => ("ShelfWaysModel", "state", "[I", true)
  | 1 => ("ShelfWaysModel", "bookMany", "I", false)
  | 2 => ("ShelfWaysModel", "readPage", "[I", true)
  | 3 => ("ShelfWaysModel", "readBooks", "I", false)
  | 4 => ("ShelfWaysModel", "isBooksTold", "Z", false)
  | 5 => ("ShelfWaysModel", "topBook", "I", false)
  | 6 => ("ShelfWaysModel", "tape", "[I", true)
  | 7 => ("ShelfWaysModel", "taped", "I", false)
  | 8 => ("ShelfWaysModel", "fault", "I", false)
  | 9 => ("ShelfWaysModel", "broken", "I", false)
  | 10 => ("ShelfWaysModel", "brokenAt", "I", false)
  | 11 => ("ShelfWaysModel", "spot", "I", false)
  | 12 => ("ShelfWaysModel", "here", "I", false)
  | 13 => ("ShelfWaysModel", "token", "I", false)
  | 14 => ("ShelfWaysModel", "value", "I", false)
  | 15 => ("ShelfWaysModel", "ends", "[I", true)
  | 16 => ("ShelfWaysModel", "letters", "[I", true)
  | 17 => ("ShelfWaysModel", "paidBy", "[I", true)
  | 18 => ("ShelfWaysModel", "dearest", "I", false)
  | 19 => ("ShelfWaysModel", "moves", "I", false)
  | 20 => ("ShelfWaysModel", "lost", "I", false)
  | 21 => ("ShelfWaysModel", "seen", "[I", true)
  | 22 => ("ShelfWaysModel", "seenMany", "I", false)
  | 23 => ("ShelfWaysModel", "firstBy", "[I", true)
  | 24 => ("ShelfWaysModel", "isKept", "[Z", true)
  | 25 => ("ShelfWaysModel", "lanes", "[I", true)
  | 26 => ("ShelfWaysModel", "lengths", "[I", true)
  | 27 => ("ShelfWaysModel", "cells", "[I", true)
  | _ => ("ShelfWaysModel", "torn", "I", false)
def tyX7 : Nat → FieldType := fun k => match k with
  | 0 => .array .int
  | 1 => .int
  | 2 => .array .int
  | 3 => .int
  | 4 => .boolean
  | 5 => .int
  | 6 => .array .int
  | 7 => .int
  | 8 => .int
  | 9 => .int
  | 10 => .int
  | 11 => .int
  | 12 => .int
  | 13 => .int
  | 14 => .int
  | 15 => .array .int
  | 16 => .array .int
  | 17 => .array .int
  | 18 => .int
  | 19 => .int
  | 20 => .int
  | 21 => .array .int
  | 22 => .int
  | 23 => .array .int
  | 24 => .array .boolean
  | 25 => .array .int
  | 26 => .array .int
  | 27 => .array .int
  | _ => .int
theorem nmX7 : ∀ a, a < 29 → ∀ b, b < 29 → a ≠ b → (TX7 a).2.1 ≠ (TX7 b).2.1 := by decide +kernel
theorem tyX7_ok : ∀ k, k < 29 → parseFieldDescriptor (TX7 k).2.2.1 = some (tyX7 k) := by decide +kernel
abbrev cX7_init : ByteArray := prog_9_method_1_code
def yX7_init : MethodName := ⟨RX7, "<init>", "()V"⟩
abbrev cX7_in : ByteArray := prog_9_method_3_code
def yX7_in : MethodName := ⟨RX7, "in", "(JJJ)Z"⟩
abbrev cX7_feed : ByteArray := prog_9_method_4_code
def yX7_feed : MethodName := ⟨RX7, "feed", "(I)I"⟩
abbrev cX7_end : ByteArray := prog_9_method_5_code
def yX7_end : MethodName := ⟨RX7, "end", "(I)I"⟩
abbrev cX7_byteAt : ByteArray := prog_9_method_6_code
def yX7_byteAt : MethodName := ⟨RX7, "byteAt", "(I)I"⟩
abbrev cX7_fails : ByteArray := prog_9_method_7_code
def yX7_fails : MethodName := ⟨RX7, "fails", "(I)V"⟩
abbrev cX7_nameHere : ByteArray := prog_9_method_8_code
def yX7_nameHere : MethodName := ⟨RX7, "nameHere", "()I"⟩
abbrev cX7_readsOn : ByteArray := prog_9_method_9_code
def yX7_readsOn : MethodName := ⟨RX7, "readsOn", "()V"⟩
abbrev cX7_number : ByteArray := prog_9_method_10_code
def yX7_number : MethodName := ⟨RX7, "number", "(II)I"⟩
abbrev cX7_readWants : ByteArray := prog_9_method_11_code
def yX7_readWants : MethodName := ⟨RX7, "readWants", "()V"⟩
abbrev cX7_readMore : ByteArray := prog_9_method_12_code
def yX7_readMore : MethodName := ⟨RX7, "readMore", "(I)V"⟩
abbrev cX7_readLine : ByteArray := prog_9_method_13_code
def yX7_readLine : MethodName := ⟨RX7, "readLine", "()V"⟩
abbrev cX7_text : ByteArray := prog_9_method_14_code
def yX7_text : MethodName := ⟨RX7, "text", "()I"⟩
abbrev cX7_fault : ByteArray := prog_9_method_15_code
def yX7_fault : MethodName := ⟨RX7, "fault", "()I"⟩
abbrev cX7_ordersFirst : ByteArray := prog_9_method_16_code
def yX7_ordersFirst : MethodName := ⟨RX7, "ordersFirst", "(I)V"⟩
abbrev cX7_isShelf : ByteArray := prog_9_method_17_code
def yX7_isShelf : MethodName := ⟨RX7, "isShelf", "(I)Z"⟩
abbrev cX7_isBook : ByteArray := prog_9_method_18_code
def yX7_isBook : MethodName := ⟨RX7, "isBook", "(I)Z"⟩
abbrev cX7_isWant : ByteArray := prog_9_method_19_code
def yX7_isWant : MethodName := ⟨RX7, "isWant", "(I)Z"⟩
abbrev cX7_placeOn : ByteArray := prog_9_method_20_code
def yX7_placeOn : MethodName := ⟨RX7, "placeOn", "(III)I"⟩
abbrev cX7_standsOn : ByteArray := prog_9_method_21_code
def yX7_standsOn : MethodName := ⟨RX7, "standsOn", "(IIII)V"⟩
abbrev cX7_goalOn : ByteArray := prog_9_method_22_code
def yX7_goalOn : MethodName := ⟨RX7, "goalOn", "(III)I"⟩
abbrev cX7_starts : ByteArray := prog_9_method_23_code
def yX7_starts : MethodName := ⟨RX7, "starts", "()V"⟩
abbrev cX7_asksOn : ByteArray := prog_9_method_24_code
def yX7_asksOn : MethodName := ⟨RX7, "asksOn", "(II)I"⟩
abbrev cX7_turnOn : ByteArray := prog_9_method_25_code
def yX7_turnOn : MethodName := ⟨RX7, "turnOn", "(I)I"⟩
abbrev cX7_stepOn : ByteArray := prog_9_method_26_code
def yX7_stepOn : MethodName := ⟨RX7, "stepOn", "(IZ)V"⟩
abbrev cX7_paidAll : ByteArray := prog_9_method_27_code
def yX7_paidAll : MethodName := ⟨RX7, "paidAll", "()I"⟩
abbrev cX7_cheapest : ByteArray := prog_9_method_28_code
def yX7_cheapest : MethodName := ⟨RX7, "cheapest", "()I"⟩
abbrev cX7_rule : ByteArray := prog_9_method_29_code
def yX7_rule : MethodName := ⟨RX7, "rule", "(I)I"⟩
abbrev cX7_shelf : ByteArray := prog_9_method_30_code
def yX7_shelf : MethodName := ⟨RX7, "shelf", "(II)I"⟩
abbrev cX7_place : ByteArray := prog_9_method_31_code
def yX7_place : MethodName := ⟨RX7, "place", "(II)I"⟩
abbrev cX7_want : ByteArray := prog_9_method_32_code
def yX7_want : MethodName := ⟨RX7, "want", "(I)I"⟩
abbrev cX7_puts : ByteArray := prog_9_method_33_code
def yX7_puts : MethodName := ⟨RX7, "puts", "(ZII)I"⟩
abbrev cX7_alter : ByteArray := prog_9_method_34_code
def yX7_alter : MethodName := ⟨RX7, "alter", "(II)I"⟩
abbrev cX7_put : ByteArray := prog_9_method_35_code
def yX7_put : MethodName := ⟨RX7, "put", "(I)I"⟩
abbrev cX7_cut : ByteArray := prog_9_method_36_code
def yX7_cut : MethodName := ⟨RX7, "cut", "(I)I"⟩
abbrev cX7_stand : ByteArray := prog_9_method_37_code
def yX7_stand : MethodName := ⟨RX7, "stand", "(III)I"⟩
abbrev cX7_set : ByteArray := prog_9_method_38_code
def yX7_set : MethodName := ⟨RX7, "set", "(II)I"⟩
abbrev cX7_adds : ByteArray := prog_9_method_39_code
def yX7_adds : MethodName := ⟨RX7, "adds", "(I)I"⟩
abbrev cX7_add : ByteArray := prog_9_method_40_code
def yX7_add : MethodName := ⟨RX7, "add", "(I)I"⟩
abbrev cX7_drop : ByteArray := prog_9_method_41_code
def yX7_drop : MethodName := ⟨RX7, "drop", "(I)I"⟩
abbrev cX7_take : ByteArray := prog_9_method_42_code
def yX7_take : MethodName := ⟨RX7, "take", "(I)I"⟩
abbrev cX7_steps : ByteArray := prog_9_method_43_code
def yX7_steps : MethodName := ⟨RX7, "steps", "(I)I"⟩
abbrev cX7_copies : ByteArray := prog_9_method_44_code
def yX7_copies : MethodName := ⟨RX7, "copies", "(II)V"⟩
abbrev cX7_stepsGo : ByteArray := prog_9_method_45_code
def yX7_stepsGo : MethodName := ⟨RX7, "stepsGo", "(II)I"⟩
abbrev cX7_runs : ByteArray := prog_9_method_46_code
def yX7_runs : MethodName := ⟨RX7, "runs", "(II)I"⟩
abbrev cX7_paid : ByteArray := prog_9_method_47_code
def yX7_paid : MethodName := ⟨RX7, "paid", "(II)I"⟩
abbrev cX7_ahead : ByteArray := prog_9_method_48_code
def yX7_ahead : MethodName := ⟨RX7, "ahead", "(III)I"⟩
abbrev cX7_when : ByteArray := prog_9_method_49_code
def yX7_when : MethodName := ⟨RX7, "when", "(II)I"⟩
abbrev cX7_again : ByteArray := prog_9_method_50_code
def yX7_again : MethodName := ⟨RX7, "again", "()I"⟩
abbrev cX7_ordered : ByteArray := prog_9_method_51_code
def yX7_ordered : MethodName := ⟨RX7, "ordered", "(II)Z"⟩
abbrev cX7_isRow : ByteArray := prog_9_method_52_code
def yX7_isRow : MethodName := ⟨RX7, "isRow", "(I)Z"⟩
abbrev cX7_order : ByteArray := prog_9_method_53_code
def yX7_order : MethodName := ⟨RX7, "order", "(II)I"⟩
abbrev cX7_kind : ByteArray := prog_9_method_54_code
def yX7_kind : MethodName := ⟨RX7, "kind", "(III)I"⟩
abbrev cX7_first : ByteArray := prog_9_method_55_code
def yX7_first : MethodName := ⟨RX7, "first", "(III)I"⟩
abbrev cX7_swap : ByteArray := prog_9_method_56_code
def yX7_swap : MethodName := ⟨RX7, "swap", "(II)I"⟩
abbrev cX7_lose : ByteArray := prog_9_method_57_code
def yX7_lose : MethodName := ⟨RX7, "lose", "(II)I"⟩
abbrev cX7_lowest : ByteArray := prog_9_method_58_code
def yX7_lowest : MethodName := ⟨RX7, "lowest", "(JJI)J"⟩
abbrev cX7_byNothing : ByteArray := prog_9_method_59_code
def yX7_byNothing : MethodName := ⟨RX7, "byNothing", "(IIIII)J"⟩
abbrev cX7_luck : ByteArray := prog_9_method_60_code
def yX7_luck : MethodName := ⟨RX7, "luck", "(IIIII)J"⟩
abbrev cX7_mean : ByteArray := prog_9_method_61_code
def yX7_mean : MethodName := ⟨RX7, "mean", "(III)J"⟩
abbrev cX7_see : ByteArray := prog_9_method_62_code
def yX7_see : MethodName := ⟨RX7, "see", "(III)I"⟩
abbrev cX7_forget : ByteArray := prog_9_method_63_code
def yX7_forget : MethodName := ⟨RX7, "forget", "(I)I"⟩
abbrev cX7_isAsSeen : ByteArray := prog_9_method_64_code
def yX7_isAsSeen : MethodName := ⟨RX7, "isAsSeen", "(I)Z"⟩
abbrev cX7_numbersAt : ByteArray := prog_9_method_65_code
def yX7_numbersAt : MethodName := ⟨RX7, "numbersAt", "(II)I"⟩
abbrev cX7_kinds : ByteArray := prog_9_method_66_code
def yX7_kinds : MethodName := ⟨RX7, "kinds", "(I)I"⟩
abbrev cX7_books : ByteArray := prog_9_method_67_code
def yX7_books : MethodName := ⟨RX7, "books", "(I)I"⟩
abbrev cX7_worstAt : ByteArray := prog_9_method_68_code
def yX7_worstAt : MethodName := ⟨RX7, "worstAt", "(II)I"⟩
abbrev cX7_ask : ByteArray := prog_9_method_69_code
def yX7_ask : MethodName := ⟨RX7, "ask", "(II)I"⟩
abbrev cX7_drift : ByteArray := prog_9_method_70_code
def yX7_drift : MethodName := ⟨RX7, "drift", "(III)I"⟩
abbrev cX7_keep : ByteArray := prog_9_method_71_code
def yX7_keep : MethodName := ⟨RX7, "keep", "(I)I"⟩
abbrev cX7_back : ByteArray := prog_9_method_72_code
def yX7_back : MethodName := ⟨RX7, "back", "(I)I"⟩
abbrev cX7_sheet : ByteArray := prog_9_method_73_code
def yX7_sheet : MethodName := ⟨RX7, "sheet", "(III)I"⟩
abbrev cX7_lay : ByteArray := prog_9_method_74_code
def yX7_lay : MethodName := ⟨RX7, "lay", "(III)I"⟩
abbrev cX7_read : ByteArray := prog_9_method_75_code
def yX7_read : MethodName := ⟨RX7, "read", "(IIII)I"⟩
abbrev cX7_torn : ByteArray := prog_9_method_76_code
def yX7_torn : MethodName := ⟨RX7, "torn", "()I"⟩
abbrev cX7_count : ByteArray := prog_9_method_77_code
def yX7_count : MethodName := ⟨RX7, "count", "(I)I"⟩
def RJ6 : String := "java/lang/Integer"
def TJ6 : u_T := fun k => match k with
  | _ => ("", "", "", false)
def tyJ6 : Nat → FieldType := fun k => match k with
  | _ => .int
abbrev cJ6_bitCount_0f7a4 : ByteArray := prog_10_method_49_code
def yJ6_bitCount_0f7a4 : MethodName := ⟨RJ6, "bitCount", "(I)I"⟩
def RJ9 : String := "java/lang/Math"
def TJ9 : u_T := fun k => match k with
  | _ => ("", "", "", false)
def tyJ9 : Nat → FieldType := fun k => match k with
  | _ => .int
abbrev cJ9_max_7cf53 : ByteArray := prog_11_method_65_code
def yJ9_max_7cf53 : MethodName := ⟨RJ9, "max", "(II)I"⟩
abbrev cJ9_min_7cf53 : ByteArray := prog_11_method_69_code
def yJ9_min_7cf53 : MethodName := ⟨RJ9, "min", "(II)I"⟩
def RJ0 : String := "java/lang/String"
def TJ0 : u_T := fun k => match k with
  | _ => ("", "", "", false)
def tyJ0 : Nat → FieldType := fun k => match k with
  | _ => .int
abbrev cJ0_length_8abf5 : ByteArray := prog_12_method_54_code
def yJ0_length_8abf5 : MethodName := ⟨RJ0, "length", "()I"⟩
abbrev cJ0_charAt_5068e : ByteArray := prog_12_method_56_code
def yJ0_charAt_5068e : MethodName := ⟨RJ0, "charAt", "(I)C"⟩
abbrev cJ0_coder_7d493 : ByteArray := prog_12_method_152_code
def yJ0_coder_7d493 : MethodName := ⟨RJ0, "coder", "()B"⟩
abbrev cJ0_isLatin1_aae02 : ByteArray := prog_12_method_154_code
def yJ0_isLatin1_aae02 : MethodName := ⟨RJ0, "isLatin1", "()Z"⟩
abbrev cJ0_checkIndex_df160 : ByteArray := prog_12_method_155_code
def yJ0_checkIndex_df160 : MethodName := ⟨RJ0, "checkIndex", "(II)V"⟩
def RJ1 : String := "java/lang/StringLatin1"
def TJ1 : u_T := fun k => match k with
  | _ => ("", "", "", false)
def tyJ1 : Nat → FieldType := fun k => match k with
  | _ => .int
abbrev cJ1_charAt_3b067 : ByteArray := prog_13_method_2_code
def yJ1_charAt_3b067 : MethodName := ⟨RJ1, "charAt", "([BI)C"⟩
def RJ2 : String := "java/lang/StringUTF16"
def TJ2 : u_T := fun k => match k with
  | _ => ("", "", "", false)
def tyJ2 : Nat → FieldType := fun k => match k with
  | _ => .int
abbrev cJ2_getChar_3b067 : ByteArray := prog_14_method_5_code
def yJ2_getChar_3b067 : MethodName := ⟨RJ2, "getChar", "([BI)C"⟩
abbrev cJ2_length_9d52b : ByteArray := prog_14_method_6_code
def yJ2_length_9d52b : MethodName := ⟨RJ2, "length", "([B)I"⟩
abbrev cJ2_charAt_3b067 : ByteArray := prog_14_method_83_code
def yJ2_charAt_3b067 : MethodName := ⟨RJ2, "charAt", "([BI)C"⟩
abbrev cJ2_checkIndex_2214a : ByteArray := prog_14_method_91_code
def yJ2_checkIndex_2214a : MethodName := ⟨RJ2, "checkIndex", "(I[B)V"⟩
def RJ10 : String := "java/lang/System"
def TJ10 : u_T := fun k => match k with
  | _ => ("", "", "", false)
def tyJ10 : Nat → FieldType := fun k => match k with
  | _ => .int
def RJ3 : String := "jdk/internal/util/Preconditions"
def TJ3 : u_T := fun k => match k with
  | _ => ("", "", "", false)
def tyJ3 : Nat → FieldType := fun k => match k with
  | _ => .int
abbrev cJ3_checkIndex_8e157 : ByteArray := prog_16_method_11_code
def yJ3_checkIndex_8e157 : MethodName := ⟨RJ3, "checkIndex", "(IILjava/util/function/BiFunction;)I"⟩
def RL : String := "ShelfWaysLaw"
abbrev cL_law : ByteArray := code
def yL_law : MethodName := ⟨RL, "law", "([I)Z"⟩
abbrev vwCl : List vw_C := [(RX0, TX0, 6), (RX1, TX1, 2), (RX2, TX2, 4), (RX3, TX3, 3), (RX4, TX4, 4), (RX5, TX5, 9), (RX6, TX6, 12), (RX7, TX7, 29)]
end
section
theorem dX0_init_0 : decode cX0_init 0 = .ok (.aload_n 0, 1) := by decide +kernel
theorem dX0_init_1 : decode cX0_init 1 = .ok (.invokespecial 3, 3) := by decide +kernel
theorem dX0_init_4 : decode cX0_init 4 = .ok (.aload_n 0, 1) := by decide +kernel
theorem dX0_init_5 : decode cX0_init 5 = .ok (.iconst 4, 1) := by decide +kernel
theorem dX0_init_6 : decode cX0_init 6 = .ok (.anewarray 9, 3) := by decide +kernel
theorem dX0_init_9 : decode cX0_init 9 = .ok (.putfield 11, 3) := by decide +kernel
theorem dX0_init_12 : decode cX0_init 12 = .ok (.aload_n 0, 1) := by decide +kernel
theorem dX0_init_13 : decode cX0_init 13 = .ok (.bipush 16, 2) := by decide +kernel
theorem dX0_init_15 : decode cX0_init 15 = .ok (.newarray .int, 2) := by decide +kernel
theorem dX0_init_17 : decode cX0_init 17 = .ok (.putfield 17, 3) := by decide +kernel
theorem dX0_init_20 : decode cX0_init 20 = .ok (.iconst 0, 1) := by decide +kernel
theorem dX0_init_21 : decode cX0_init 21 = .ok (.istore_n 1, 1) := by decide +kernel
theorem dX0_init_22 : decode cX0_init 22 = .ok (.iload_n 1, 1) := by decide +kernel
theorem dX0_init_23 : decode cX0_init 23 = .ok (.iconst 4, 1) := by decide +kernel
theorem dX0_init_24 : decode cX0_init 24 = .ok (.if_icmp .ge 22, 3) := by decide +kernel
theorem dX0_init_27 : decode cX0_init 27 = .ok (.aload_n 0, 1) := by decide +kernel
theorem dX0_init_28 : decode cX0_init 28 = .ok (.getfield 11, 3) := by decide +kernel
theorem dX0_init_31 : decode cX0_init 31 = .ok (.iload_n 1, 1) := by decide +kernel
theorem dX0_init_32 : decode cX0_init 32 = .ok (.new 9, 3) := by decide +kernel
theorem dX0_init_35 : decode cX0_init 35 = .ok (.dup, 1) := by decide +kernel
theorem dX0_init_36 : decode cX0_init 36 = .ok (.invokespecial 21, 3) := by decide +kernel
theorem dX0_init_39 : decode cX0_init 39 = .ok (.aastore, 1) := by decide +kernel
theorem dX0_init_40 : decode cX0_init 40 = .ok (.iinc 1 1, 3) := by decide +kernel
theorem dX0_init_43 : decode cX0_init 43 = .ok (.goto (-21), 3) := by decide +kernel
theorem dX0_init_46 : decode cX0_init 46 = .ok (.aload_n 0, 1) := by decide +kernel
theorem dX0_init_47 : decode cX0_init 47 = .ok (.invokevirtual 22, 3) := by decide +kernel
theorem dX0_init_50 : decode cX0_init 50 = .ok (.return_, 1) := by decide +kernel
theorem dX0_empty_0 : decode cX0_empty 0 = .ok (.aload_n 0, 1) := by decide +kernel
theorem dX0_empty_1 : decode cX0_empty 1 = .ok (.iconst 4, 1) := by decide +kernel
theorem dX0_empty_2 : decode cX0_empty 2 = .ok (.putfield 25, 3) := by decide +kernel
theorem dX0_empty_5 : decode cX0_empty 5 = .ok (.aload_n 0, 1) := by decide +kernel
theorem dX0_empty_6 : decode cX0_empty 6 = .ok (.iconst 0, 1) := by decide +kernel
theorem dX0_empty_7 : decode cX0_empty 7 = .ok (.putfield 29, 3) := by decide +kernel
theorem dX0_empty_10 : decode cX0_empty 10 = .ok (.aload_n 0, 1) := by decide +kernel
theorem dX0_empty_11 : decode cX0_empty 11 = .ok (.iconst 0, 1) := by decide +kernel
theorem dX0_empty_12 : decode cX0_empty 12 = .ok (.putfield 32, 3) := by decide +kernel
theorem dX0_empty_15 : decode cX0_empty 15 = .ok (.aload_n 0, 1) := by decide +kernel
theorem dX0_empty_16 : decode cX0_empty 16 = .ok (.iconst 0, 1) := by decide +kernel
theorem dX0_empty_17 : decode cX0_empty 17 = .ok (.putfield 35, 3) := by decide +kernel
theorem dX0_empty_20 : decode cX0_empty 20 = .ok (.return_, 1) := by decide +kernel
theorem dX0_copy_0 : decode cX0_copy 0 = .ok (.aload_n 0, 1) := by decide +kernel
theorem dX0_copy_1 : decode cX0_copy 1 = .ok (.aload_n 1, 1) := by decide +kernel
theorem dX0_copy_2 : decode cX0_copy 2 = .ok (.getfield 25, 3) := by decide +kernel
theorem dX0_copy_5 : decode cX0_copy 5 = .ok (.putfield 25, 3) := by decide +kernel
theorem dX0_copy_8 : decode cX0_copy 8 = .ok (.aload_n 0, 1) := by decide +kernel
theorem dX0_copy_9 : decode cX0_copy 9 = .ok (.aload_n 1, 1) := by decide +kernel
theorem dX0_copy_10 : decode cX0_copy 10 = .ok (.getfield 29, 3) := by decide +kernel
theorem dX0_copy_13 : decode cX0_copy 13 = .ok (.putfield 29, 3) := by decide +kernel
theorem dX0_copy_16 : decode cX0_copy 16 = .ok (.aload_n 0, 1) := by decide +kernel
theorem dX0_copy_17 : decode cX0_copy 17 = .ok (.aload_n 1, 1) := by decide +kernel
theorem dX0_copy_18 : decode cX0_copy 18 = .ok (.getfield 32, 3) := by decide +kernel
theorem dX0_copy_21 : decode cX0_copy 21 = .ok (.putfield 32, 3) := by decide +kernel
theorem dX0_copy_24 : decode cX0_copy 24 = .ok (.aload_n 0, 1) := by decide +kernel
theorem dX0_copy_25 : decode cX0_copy 25 = .ok (.aload_n 1, 1) := by decide +kernel
theorem dX0_copy_26 : decode cX0_copy 26 = .ok (.getfield 35, 3) := by decide +kernel
theorem dX0_copy_29 : decode cX0_copy 29 = .ok (.putfield 35, 3) := by decide +kernel
theorem dX0_copy_32 : decode cX0_copy 32 = .ok (.iconst 0, 1) := by decide +kernel
theorem dX0_copy_33 : decode cX0_copy 33 = .ok (.istore_n 2, 1) := by decide +kernel
theorem dX0_copy_34 : decode cX0_copy 34 = .ok (.iload_n 2, 1) := by decide +kernel
theorem dX0_copy_35 : decode cX0_copy 35 = .ok (.aload_n 0, 1) := by decide +kernel
theorem dX0_copy_36 : decode cX0_copy 36 = .ok (.getfield 29, 3) := by decide +kernel
theorem dX0_copy_39 : decode cX0_copy 39 = .ok (.if_icmp .ge 24, 3) := by decide +kernel
theorem dX0_copy_42 : decode cX0_copy 42 = .ok (.aload_n 0, 1) := by decide +kernel
theorem dX0_copy_43 : decode cX0_copy 43 = .ok (.getfield 11, 3) := by decide +kernel
theorem dX0_copy_46 : decode cX0_copy 46 = .ok (.iload_n 2, 1) := by decide +kernel
theorem dX0_copy_47 : decode cX0_copy 47 = .ok (.aaload, 1) := by decide +kernel
theorem dX0_copy_48 : decode cX0_copy 48 = .ok (.aload_n 1, 1) := by decide +kernel
theorem dX0_copy_49 : decode cX0_copy 49 = .ok (.getfield 11, 3) := by decide +kernel
theorem dX0_copy_52 : decode cX0_copy 52 = .ok (.iload_n 2, 1) := by decide +kernel
theorem dX0_copy_53 : decode cX0_copy 53 = .ok (.aaload, 1) := by decide +kernel
theorem dX0_copy_54 : decode cX0_copy 54 = .ok (.invokevirtual 38, 3) := by decide +kernel
theorem dX0_copy_57 : decode cX0_copy 57 = .ok (.iinc 2 1, 3) := by decide +kernel
theorem dX0_copy_60 : decode cX0_copy 60 = .ok (.goto (-26), 3) := by decide +kernel
theorem dX0_copy_63 : decode cX0_copy 63 = .ok (.aload_n 1, 1) := by decide +kernel
theorem dX0_copy_64 : decode cX0_copy 64 = .ok (.getfield 17, 3) := by decide +kernel
theorem dX0_copy_67 : decode cX0_copy 67 = .ok (.iconst 0, 1) := by decide +kernel
theorem dX0_copy_68 : decode cX0_copy 68 = .ok (.aload_n 0, 1) := by decide +kernel
theorem dX0_copy_69 : decode cX0_copy 69 = .ok (.getfield 17, 3) := by decide +kernel
theorem dX0_copy_72 : decode cX0_copy 72 = .ok (.iconst 0, 1) := by decide +kernel
theorem dX0_copy_73 : decode cX0_copy 73 = .ok (.bipush 16, 2) := by decide +kernel
theorem dX0_copy_75 : decode cX0_copy 75 = .ok (.invokestatic 42, 3) := by decide +kernel
theorem dX0_copy_78 : decode cX0_copy 78 = .ok (.return_, 1) := by decide +kernel
theorem dX0_hasShelf_0 : decode cX0_hasShelf 0 = .ok (.iload_n 1, 1) := by decide +kernel
theorem dX0_hasShelf_1 : decode cX0_hasShelf 1 = .ok (.ifCond .lt 15, 3) := by decide +kernel
theorem dX0_hasShelf_4 : decode cX0_hasShelf 4 = .ok (.iload_n 1, 1) := by decide +kernel
theorem dX0_hasShelf_5 : decode cX0_hasShelf 5 = .ok (.aload_n 0, 1) := by decide +kernel
theorem dX0_hasShelf_6 : decode cX0_hasShelf 6 = .ok (.getfield 29, 3) := by decide +kernel
theorem dX0_hasShelf_9 : decode cX0_hasShelf 9 = .ok (.if_icmp .ge 7, 3) := by decide +kernel
theorem dX0_hasShelf_12 : decode cX0_hasShelf 12 = .ok (.iconst 1, 1) := by decide +kernel
theorem dX0_hasShelf_13 : decode cX0_hasShelf 13 = .ok (.goto 4, 3) := by decide +kernel
theorem dX0_hasShelf_16 : decode cX0_hasShelf 16 = .ok (.iconst 0, 1) := by decide +kernel
theorem dX0_hasShelf_17 : decode cX0_hasShelf 17 = .ok (.ireturn, 1) := by decide +kernel
theorem dX0_hasBook_0 : decode cX0_hasBook 0 = .ok (.iload_n 1, 1) := by decide +kernel
theorem dX0_hasBook_1 : decode cX0_hasBook 1 = .ok (.ifCond .lt 15, 3) := by decide +kernel
theorem dX0_hasBook_4 : decode cX0_hasBook 4 = .ok (.iload_n 1, 1) := by decide +kernel
theorem dX0_hasBook_5 : decode cX0_hasBook 5 = .ok (.aload_n 0, 1) := by decide +kernel
theorem dX0_hasBook_6 : decode cX0_hasBook 6 = .ok (.getfield 25, 3) := by decide +kernel
theorem dX0_hasBook_9 : decode cX0_hasBook 9 = .ok (.if_icmp .ge 7, 3) := by decide +kernel
theorem dX0_hasBook_12 : decode cX0_hasBook 12 = .ok (.iconst 1, 1) := by decide +kernel
theorem dX0_hasBook_13 : decode cX0_hasBook 13 = .ok (.goto 4, 3) := by decide +kernel
theorem dX0_hasBook_16 : decode cX0_hasBook 16 = .ok (.iconst 0, 1) := by decide +kernel
theorem dX0_hasBook_17 : decode cX0_hasBook 17 = .ok (.ireturn, 1) := by decide +kernel
theorem dX0_hasWant_0 : decode cX0_hasWant 0 = .ok (.iload_n 1, 1) := by decide +kernel
theorem dX0_hasWant_1 : decode cX0_hasWant 1 = .ok (.ifCond .lt 15, 3) := by decide +kernel
theorem dX0_hasWant_4 : decode cX0_hasWant 4 = .ok (.iload_n 1, 1) := by decide +kernel
theorem dX0_hasWant_5 : decode cX0_hasWant 5 = .ok (.aload_n 0, 1) := by decide +kernel
theorem dX0_hasWant_6 : decode cX0_hasWant 6 = .ok (.getfield 32, 3) := by decide +kernel
theorem dX0_hasWant_9 : decode cX0_hasWant 9 = .ok (.if_icmp .ge 7, 3) := by decide +kernel
theorem dX0_hasWant_12 : decode cX0_hasWant 12 = .ok (.iconst 1, 1) := by decide +kernel
theorem dX0_hasWant_13 : decode cX0_hasWant 13 = .ok (.goto 4, 3) := by decide +kernel
theorem dX0_hasWant_16 : decode cX0_hasWant 16 = .ok (.iconst 0, 1) := by decide +kernel
theorem dX0_hasWant_17 : decode cX0_hasWant 17 = .ok (.ireturn, 1) := by decide +kernel
theorem dX0_addShelf_0 : decode cX0_addShelf 0 = .ok (.aload_n 0, 1) := by decide +kernel
theorem dX0_addShelf_1 : decode cX0_addShelf 1 = .ok (.getfield 29, 3) := by decide +kernel
theorem dX0_addShelf_4 : decode cX0_addShelf 4 = .ok (.iconst 4, 1) := by decide +kernel
theorem dX0_addShelf_5 : decode cX0_addShelf 5 = .ok (.if_icmp .lt 5, 3) := by decide +kernel
theorem dX0_addShelf_8 : decode cX0_addShelf 8 = .ok (.iconst 0, 1) := by decide +kernel
theorem dX0_addShelf_9 : decode cX0_addShelf 9 = .ok (.ireturn, 1) := by decide +kernel
theorem dX0_addShelf_10 : decode cX0_addShelf 10 = .ok (.aload_n 0, 1) := by decide +kernel
theorem dX0_addShelf_11 : decode cX0_addShelf 11 = .ok (.getfield 11, 3) := by decide +kernel
theorem dX0_addShelf_14 : decode cX0_addShelf 14 = .ok (.aload_n 0, 1) := by decide +kernel
theorem dX0_addShelf_15 : decode cX0_addShelf 15 = .ok (.getfield 29, 3) := by decide +kernel
theorem dX0_addShelf_18 : decode cX0_addShelf 18 = .ok (.aaload, 1) := by decide +kernel
theorem dX0_addShelf_19 : decode cX0_addShelf 19 = .ok (.iload_n 1, 1) := by decide +kernel
theorem dX0_addShelf_20 : decode cX0_addShelf 20 = .ok (.invokevirtual 48, 3) := by decide +kernel
theorem dX0_addShelf_23 : decode cX0_addShelf 23 = .ok (.aload_n 0, 1) := by decide +kernel
theorem dX0_addShelf_24 : decode cX0_addShelf 24 = .ok (.dup, 1) := by decide +kernel
theorem dX0_addShelf_25 : decode cX0_addShelf 25 = .ok (.getfield 29, 3) := by decide +kernel
theorem dX0_addShelf_28 : decode cX0_addShelf 28 = .ok (.iconst 1, 1) := by decide +kernel
theorem dX0_addShelf_29 : decode cX0_addShelf 29 = .ok (.iadd, 1) := by decide +kernel
theorem dX0_addShelf_30 : decode cX0_addShelf 30 = .ok (.putfield 29, 3) := by decide +kernel
theorem dX0_addShelf_33 : decode cX0_addShelf 33 = .ok (.iconst 1, 1) := by decide +kernel
theorem dX0_addShelf_34 : decode cX0_addShelf 34 = .ok (.ireturn, 1) := by decide +kernel
theorem dX0_addWant_0 : decode cX0_addWant 0 = .ok (.aload_n 0, 1) := by decide +kernel
theorem dX0_addWant_1 : decode cX0_addWant 1 = .ok (.getfield 32, 3) := by decide +kernel
theorem dX0_addWant_4 : decode cX0_addWant 4 = .ok (.bipush 16, 2) := by decide +kernel
theorem dX0_addWant_6 : decode cX0_addWant 6 = .ok (.if_icmp .lt 5, 3) := by decide +kernel
theorem dX0_addWant_9 : decode cX0_addWant 9 = .ok (.iconst 0, 1) := by decide +kernel
theorem dX0_addWant_10 : decode cX0_addWant 10 = .ok (.ireturn, 1) := by decide +kernel
theorem dX0_addWant_11 : decode cX0_addWant 11 = .ok (.aload_n 0, 1) := by decide +kernel
theorem dX0_addWant_12 : decode cX0_addWant 12 = .ok (.getfield 17, 3) := by decide +kernel
theorem dX0_addWant_15 : decode cX0_addWant 15 = .ok (.aload_n 0, 1) := by decide +kernel
theorem dX0_addWant_16 : decode cX0_addWant 16 = .ok (.getfield 32, 3) := by decide +kernel
theorem dX0_addWant_19 : decode cX0_addWant 19 = .ok (.iload_n 1, 1) := by decide +kernel
theorem dX0_addWant_20 : decode cX0_addWant 20 = .ok (.iastore, 1) := by decide +kernel
theorem dX0_addWant_21 : decode cX0_addWant 21 = .ok (.aload_n 0, 1) := by decide +kernel
theorem dX0_addWant_22 : decode cX0_addWant 22 = .ok (.dup, 1) := by decide +kernel
theorem dX0_addWant_23 : decode cX0_addWant 23 = .ok (.getfield 32, 3) := by decide +kernel
theorem dX0_addWant_26 : decode cX0_addWant 26 = .ok (.iconst 1, 1) := by decide +kernel
theorem dX0_addWant_27 : decode cX0_addWant 27 = .ok (.iadd, 1) := by decide +kernel
theorem dX0_addWant_28 : decode cX0_addWant 28 = .ok (.putfield 32, 3) := by decide +kernel
theorem dX0_addWant_31 : decode cX0_addWant 31 = .ok (.iconst 1, 1) := by decide +kernel
theorem dX0_addWant_32 : decode cX0_addWant 32 = .ok (.ireturn, 1) := by decide +kernel
theorem dX0_wantsNoSuchBook_0 : decode cX0_wantsNoSuchBook 0 = .ok (.iconst 0, 1) := by decide +kernel
theorem dX0_wantsNoSuchBook_1 : decode cX0_wantsNoSuchBook 1 = .ok (.istore_n 1, 1) := by decide +kernel
theorem dX0_wantsNoSuchBook_2 : decode cX0_wantsNoSuchBook 2 = .ok (.iload_n 1, 1) := by decide +kernel
theorem dX0_wantsNoSuchBook_3 : decode cX0_wantsNoSuchBook 3 = .ok (.aload_n 0, 1) := by decide +kernel
theorem dX0_wantsNoSuchBook_4 : decode cX0_wantsNoSuchBook 4 = .ok (.getfield 32, 3) := by decide +kernel
theorem dX0_wantsNoSuchBook_7 : decode cX0_wantsNoSuchBook 7 = .ok (.if_icmp .ge 24, 3) := by decide +kernel
theorem dX0_wantsNoSuchBook_10 : decode cX0_wantsNoSuchBook 10 = .ok (.aload_n 0, 1) := by decide +kernel
theorem dX0_wantsNoSuchBook_11 : decode cX0_wantsNoSuchBook 11 = .ok (.aload_n 0, 1) := by decide +kernel
theorem dX0_wantsNoSuchBook_12 : decode cX0_wantsNoSuchBook 12 = .ok (.getfield 17, 3) := by decide +kernel
theorem dX0_wantsNoSuchBook_15 : decode cX0_wantsNoSuchBook 15 = .ok (.iload_n 1, 1) := by decide +kernel
theorem dX0_wantsNoSuchBook_16 : decode cX0_wantsNoSuchBook 16 = .ok (.iaload, 1) := by decide +kernel
theorem dX0_wantsNoSuchBook_17 : decode cX0_wantsNoSuchBook 17 = .ok (.invokevirtual 52, 3) := by decide +kernel
theorem dX0_wantsNoSuchBook_20 : decode cX0_wantsNoSuchBook 20 = .ok (.ifCond .ne 5, 3) := by decide +kernel
theorem dX0_wantsNoSuchBook_23 : decode cX0_wantsNoSuchBook 23 = .ok (.iconst 1, 1) := by decide +kernel
theorem dX0_wantsNoSuchBook_24 : decode cX0_wantsNoSuchBook 24 = .ok (.ireturn, 1) := by decide +kernel
theorem dX0_wantsNoSuchBook_25 : decode cX0_wantsNoSuchBook 25 = .ok (.iinc 1 1, 3) := by decide +kernel
theorem dX0_wantsNoSuchBook_28 : decode cX0_wantsNoSuchBook 28 = .ok (.goto (-26), 3) := by decide +kernel
theorem dX0_wantsNoSuchBook_31 : decode cX0_wantsNoSuchBook 31 = .ok (.iconst 0, 1) := by decide +kernel
theorem dX0_wantsNoSuchBook_32 : decode cX0_wantsNoSuchBook 32 = .ok (.ireturn, 1) := by decide +kernel
theorem dX0_turn_0 : decode cX0_turn 0 = .ok (.aload_n 0, 1) := by decide +kernel
theorem dX0_turn_1 : decode cX0_turn 1 = .ok (.getfield 32, 3) := by decide +kernel
theorem dX0_turn_4 : decode cX0_turn 4 = .ok (.ifCond .le 17, 3) := by decide +kernel
theorem dX0_turn_7 : decode cX0_turn 7 = .ok (.aload_n 0, 1) := by decide +kernel
theorem dX0_turn_8 : decode cX0_turn 8 = .ok (.getfield 35, 3) := by decide +kernel
theorem dX0_turn_11 : decode cX0_turn 11 = .ok (.iload_n 1, 1) := by decide +kernel
theorem dX0_turn_12 : decode cX0_turn 12 = .ok (.iadd, 1) := by decide +kernel
theorem dX0_turn_13 : decode cX0_turn 13 = .ok (.aload_n 0, 1) := by decide +kernel
theorem dX0_turn_14 : decode cX0_turn 14 = .ok (.getfield 32, 3) := by decide +kernel
theorem dX0_turn_17 : decode cX0_turn 17 = .ok (.irem, 1) := by decide +kernel
theorem dX0_turn_18 : decode cX0_turn 18 = .ok (.goto 5, 3) := by decide +kernel
theorem dX0_turn_21 : decode cX0_turn 21 = .ok (.bipush (-4), 2) := by decide +kernel
theorem dX0_turn_23 : decode cX0_turn 23 = .ok (.ireturn, 1) := by decide +kernel
theorem dX0_serveAll_0 : decode cX0_serveAll 0 = .ok (.iconst 0, 1) := by decide +kernel
theorem dX0_serveAll_1 : decode cX0_serveAll 1 = .ok (.istore_n 2, 1) := by decide +kernel
theorem dX0_serveAll_2 : decode cX0_serveAll 2 = .ok (.iconst 0, 1) := by decide +kernel
theorem dX0_serveAll_3 : decode cX0_serveAll 3 = .ok (.istore_n 3, 1) := by decide +kernel
theorem dX0_serveAll_4 : decode cX0_serveAll 4 = .ok (.iload_n 3, 1) := by decide +kernel
theorem dX0_serveAll_5 : decode cX0_serveAll 5 = .ok (.aload_n 0, 1) := by decide +kernel
theorem dX0_serveAll_6 : decode cX0_serveAll 6 = .ok (.getfield 29, 3) := by decide +kernel
theorem dX0_serveAll_9 : decode cX0_serveAll 9 = .ok (.if_icmp .ge 22, 3) := by decide +kernel
theorem dX0_serveAll_12 : decode cX0_serveAll 12 = .ok (.iload_n 2, 1) := by decide +kernel
theorem dX0_serveAll_13 : decode cX0_serveAll 13 = .ok (.aload_n 0, 1) := by decide +kernel
theorem dX0_serveAll_14 : decode cX0_serveAll 14 = .ok (.getfield 11, 3) := by decide +kernel
theorem dX0_serveAll_17 : decode cX0_serveAll 17 = .ok (.iload_n 3, 1) := by decide +kernel
theorem dX0_serveAll_18 : decode cX0_serveAll 18 = .ok (.aaload, 1) := by decide +kernel
theorem dX0_serveAll_19 : decode cX0_serveAll 19 = .ok (.iload_n 1, 1) := by decide +kernel
theorem dX0_serveAll_20 : decode cX0_serveAll 20 = .ok (.invokevirtual 56, 3) := by decide +kernel
theorem dX0_serveAll_23 : decode cX0_serveAll 23 = .ok (.iadd, 1) := by decide +kernel
theorem dX0_serveAll_24 : decode cX0_serveAll 24 = .ok (.istore_n 2, 1) := by decide +kernel
theorem dX0_serveAll_25 : decode cX0_serveAll 25 = .ok (.iinc 3 1, 3) := by decide +kernel
theorem dX0_serveAll_28 : decode cX0_serveAll 28 = .ok (.goto (-24), 3) := by decide +kernel
theorem dX0_serveAll_31 : decode cX0_serveAll 31 = .ok (.iload_n 2, 1) := by decide +kernel
theorem dX0_serveAll_32 : decode cX0_serveAll 32 = .ok (.ireturn, 1) := by decide +kernel
theorem dX0_stepOn_0 : decode cX0_stepOn 0 = .ok (.aload_n 0, 1) := by decide +kernel
theorem dX0_stepOn_1 : decode cX0_stepOn 1 = .ok (.iconst 0, 1) := by decide +kernel
theorem dX0_stepOn_2 : decode cX0_stepOn 2 = .ok (.invokevirtual 60, 3) := by decide +kernel
theorem dX0_stepOn_5 : decode cX0_stepOn 5 = .ok (.istore_n 1, 1) := by decide +kernel
theorem dX0_stepOn_6 : decode cX0_stepOn 6 = .ok (.aload_n 0, 1) := by decide +kernel
theorem dX0_stepOn_7 : decode cX0_stepOn 7 = .ok (.dup, 1) := by decide +kernel
theorem dX0_stepOn_8 : decode cX0_stepOn 8 = .ok (.getfield 35, 3) := by decide +kernel
theorem dX0_stepOn_11 : decode cX0_stepOn 11 = .ok (.iconst 1, 1) := by decide +kernel
theorem dX0_stepOn_12 : decode cX0_stepOn 12 = .ok (.iadd, 1) := by decide +kernel
theorem dX0_stepOn_13 : decode cX0_stepOn 13 = .ok (.putfield 35, 3) := by decide +kernel
theorem dX0_stepOn_16 : decode cX0_stepOn 16 = .ok (.iload_n 1, 1) := by decide +kernel
theorem dX0_stepOn_17 : decode cX0_stepOn 17 = .ok (.ifCond .lt 12, 3) := by decide +kernel
theorem dX0_stepOn_20 : decode cX0_stepOn 20 = .ok (.aload_n 0, 1) := by decide +kernel
theorem dX0_stepOn_21 : decode cX0_stepOn 21 = .ok (.getfield 17, 3) := by decide +kernel
theorem dX0_stepOn_24 : decode cX0_stepOn 24 = .ok (.iload_n 1, 1) := by decide +kernel
theorem dX0_stepOn_25 : decode cX0_stepOn 25 = .ok (.iaload, 1) := by decide +kernel
theorem dX0_stepOn_26 : decode cX0_stepOn 26 = .ok (.ifCond .ge 7, 3) := by decide +kernel
theorem dX0_stepOn_29 : decode cX0_stepOn 29 = .ok (.iconst 0, 1) := by decide +kernel
theorem dX0_stepOn_30 : decode cX0_stepOn 30 = .ok (.goto 13, 3) := by decide +kernel
theorem dX0_stepOn_33 : decode cX0_stepOn 33 = .ok (.aload_n 0, 1) := by decide +kernel
theorem dX0_stepOn_34 : decode cX0_stepOn 34 = .ok (.aload_n 0, 1) := by decide +kernel
theorem dX0_stepOn_35 : decode cX0_stepOn 35 = .ok (.getfield 17, 3) := by decide +kernel
theorem dX0_stepOn_38 : decode cX0_stepOn 38 = .ok (.iload_n 1, 1) := by decide +kernel
theorem dX0_stepOn_39 : decode cX0_stepOn 39 = .ok (.iaload, 1) := by decide +kernel
theorem dX0_stepOn_40 : decode cX0_stepOn 40 = .ok (.invokevirtual 63, 3) := by decide +kernel
theorem dX0_stepOn_43 : decode cX0_stepOn 43 = .ok (.ireturn, 1) := by decide +kernel
theorem dX0_serveTurn_0 : decode cX0_serveTurn 0 = .ok (.aload_n 0, 1) := by decide +kernel
theorem dX0_serveTurn_1 : decode cX0_serveTurn 1 = .ok (.iload_n 2, 1) := by decide +kernel
theorem dX0_serveTurn_2 : decode cX0_serveTurn 2 = .ok (.invokevirtual 60, 3) := by decide +kernel
theorem dX0_serveTurn_5 : decode cX0_serveTurn 5 = .ok (.istore_n 3, 1) := by decide +kernel
theorem dX0_serveTurn_6 : decode cX0_serveTurn 6 = .ok (.iload_n 3, 1) := by decide +kernel
theorem dX0_serveTurn_7 : decode cX0_serveTurn 7 = .ok (.ifCond .lt 12, 3) := by decide +kernel
theorem dX0_serveTurn_10 : decode cX0_serveTurn 10 = .ok (.aload_n 0, 1) := by decide +kernel
theorem dX0_serveTurn_11 : decode cX0_serveTurn 11 = .ok (.getfield 17, 3) := by decide +kernel
theorem dX0_serveTurn_14 : decode cX0_serveTurn 14 = .ok (.iload_n 3, 1) := by decide +kernel
theorem dX0_serveTurn_15 : decode cX0_serveTurn 15 = .ok (.iaload, 1) := by decide +kernel
theorem dX0_serveTurn_16 : decode cX0_serveTurn 16 = .ok (.ifCond .ge 7, 3) := by decide +kernel
theorem dX0_serveTurn_19 : decode cX0_serveTurn 19 = .ok (.iconst 0, 1) := by decide +kernel
theorem dX0_serveTurn_20 : decode cX0_serveTurn 20 = .ok (.goto 18, 3) := by decide +kernel
theorem dX0_serveTurn_23 : decode cX0_serveTurn 23 = .ok (.aload_n 0, 1) := by decide +kernel
theorem dX0_serveTurn_24 : decode cX0_serveTurn 24 = .ok (.getfield 11, 3) := by decide +kernel
theorem dX0_serveTurn_27 : decode cX0_serveTurn 27 = .ok (.iload_n 1, 1) := by decide +kernel
theorem dX0_serveTurn_28 : decode cX0_serveTurn 28 = .ok (.aaload, 1) := by decide +kernel
theorem dX0_serveTurn_29 : decode cX0_serveTurn 29 = .ok (.aload_n 0, 1) := by decide +kernel
theorem dX0_serveTurn_30 : decode cX0_serveTurn 30 = .ok (.getfield 17, 3) := by decide +kernel
theorem dX0_serveTurn_33 : decode cX0_serveTurn 33 = .ok (.iload_n 3, 1) := by decide +kernel
theorem dX0_serveTurn_34 : decode cX0_serveTurn 34 = .ok (.iaload, 1) := by decide +kernel
theorem dX0_serveTurn_35 : decode cX0_serveTurn 35 = .ok (.invokevirtual 56, 3) := by decide +kernel
theorem dX0_serveTurn_38 : decode cX0_serveTurn 38 = .ok (.ireturn, 1) := by decide +kernel
theorem dX0_paidBy_0 : decode cX0_paidBy 0 = .ok (.iconst 0, 1) := by decide +kernel
theorem dX0_paidBy_1 : decode cX0_paidBy 1 = .ok (.istore 4, 2) := by decide +kernel
theorem dX0_paidBy_3 : decode cX0_paidBy 3 = .ok (.iconst 0, 1) := by decide +kernel
theorem dX0_paidBy_4 : decode cX0_paidBy 4 = .ok (.istore 5, 2) := by decide +kernel
theorem dX0_paidBy_6 : decode cX0_paidBy 6 = .ok (.iload 5, 2) := by decide +kernel
theorem dX0_paidBy_8 : decode cX0_paidBy 8 = .ok (.iload_n 2, 1) := by decide +kernel
theorem dX0_paidBy_9 : decode cX0_paidBy 9 = .ok (.if_icmp .ge 27, 3) := by decide +kernel
theorem dX0_paidBy_12 : decode cX0_paidBy 12 = .ok (.iload 4, 2) := by decide +kernel
theorem dX0_paidBy_14 : decode cX0_paidBy 14 = .ok (.iload_n 3, 1) := by decide +kernel
theorem dX0_paidBy_15 : decode cX0_paidBy 15 = .ok (.if_icmp .ge 21, 3) := by decide +kernel
theorem dX0_paidBy_18 : decode cX0_paidBy 18 = .ok (.iload 4, 2) := by decide +kernel
theorem dX0_paidBy_20 : decode cX0_paidBy 20 = .ok (.aload_n 0, 1) := by decide +kernel
theorem dX0_paidBy_21 : decode cX0_paidBy 21 = .ok (.iload_n 1, 1) := by decide +kernel
theorem dX0_paidBy_22 : decode cX0_paidBy 22 = .ok (.iload 5, 2) := by decide +kernel
theorem dX0_paidBy_24 : decode cX0_paidBy 24 = .ok (.invokevirtual 66, 3) := by decide +kernel
theorem dX0_paidBy_27 : decode cX0_paidBy 27 = .ok (.iadd, 1) := by decide +kernel
theorem dX0_paidBy_28 : decode cX0_paidBy 28 = .ok (.istore 4, 2) := by decide +kernel
theorem dX0_paidBy_30 : decode cX0_paidBy 30 = .ok (.iinc 5 1, 3) := by decide +kernel
theorem dX0_paidBy_33 : decode cX0_paidBy 33 = .ok (.goto (-27), 3) := by decide +kernel
theorem dX0_paidBy_36 : decode cX0_paidBy 36 = .ok (.iload 4, 2) := by decide +kernel
theorem dX0_paidBy_38 : decode cX0_paidBy 38 = .ok (.ireturn, 1) := by decide +kernel
theorem dX0_paidByAll_0 : decode cX0_paidByAll 0 = .ok (.iconst 0, 1) := by decide +kernel
theorem dX0_paidByAll_1 : decode cX0_paidByAll 1 = .ok (.istore_n 3, 1) := by decide +kernel
theorem dX0_paidByAll_2 : decode cX0_paidByAll 2 = .ok (.iconst 0, 1) := by decide +kernel
theorem dX0_paidByAll_3 : decode cX0_paidByAll 3 = .ok (.istore 4, 2) := by decide +kernel
theorem dX0_paidByAll_5 : decode cX0_paidByAll 5 = .ok (.iload 4, 2) := by decide +kernel
theorem dX0_paidByAll_7 : decode cX0_paidByAll 7 = .ok (.aload_n 0, 1) := by decide +kernel
theorem dX0_paidByAll_8 : decode cX0_paidByAll 8 = .ok (.getfield 29, 3) := by decide +kernel
theorem dX0_paidByAll_11 : decode cX0_paidByAll 11 = .ok (.if_icmp .ge 27, 3) := by decide +kernel
theorem dX0_paidByAll_14 : decode cX0_paidByAll 14 = .ok (.iload_n 3, 1) := by decide +kernel
theorem dX0_paidByAll_15 : decode cX0_paidByAll 15 = .ok (.iload_n 2, 1) := by decide +kernel
theorem dX0_paidByAll_16 : decode cX0_paidByAll 16 = .ok (.if_icmp .ge 22, 3) := by decide +kernel
theorem dX0_paidByAll_19 : decode cX0_paidByAll 19 = .ok (.iload_n 3, 1) := by decide +kernel
theorem dX0_paidByAll_20 : decode cX0_paidByAll 20 = .ok (.aload_n 0, 1) := by decide +kernel
theorem dX0_paidByAll_21 : decode cX0_paidByAll 21 = .ok (.iload 4, 2) := by decide +kernel
theorem dX0_paidByAll_23 : decode cX0_paidByAll 23 = .ok (.iload_n 1, 1) := by decide +kernel
theorem dX0_paidByAll_24 : decode cX0_paidByAll 24 = .ok (.iload_n 2, 1) := by decide +kernel
theorem dX0_paidByAll_25 : decode cX0_paidByAll 25 = .ok (.iload_n 3, 1) := by decide +kernel
theorem dX0_paidByAll_26 : decode cX0_paidByAll 26 = .ok (.isub, 1) := by decide +kernel
theorem dX0_paidByAll_27 : decode cX0_paidByAll 27 = .ok (.invokevirtual 70, 3) := by decide +kernel
theorem dX0_paidByAll_30 : decode cX0_paidByAll 30 = .ok (.iadd, 1) := by decide +kernel
theorem dX0_paidByAll_31 : decode cX0_paidByAll 31 = .ok (.istore_n 3, 1) := by decide +kernel
theorem dX0_paidByAll_32 : decode cX0_paidByAll 32 = .ok (.iinc 4 1, 3) := by decide +kernel
theorem dX0_paidByAll_35 : decode cX0_paidByAll 35 = .ok (.goto (-30), 3) := by decide +kernel
theorem dX0_paidByAll_38 : decode cX0_paidByAll 38 = .ok (.iload_n 3, 1) := by decide +kernel
theorem dX0_paidByAll_39 : decode cX0_paidByAll 39 = .ok (.ireturn, 1) := by decide +kernel
theorem dX0_paidWithout_0 : decode cX0_paidWithout 0 = .ok (.iconst 0, 1) := by decide +kernel
theorem dX0_paidWithout_1 : decode cX0_paidWithout 1 = .ok (.istore 4, 2) := by decide +kernel
theorem dX0_paidWithout_3 : decode cX0_paidWithout 3 = .ok (.iconst 0, 1) := by decide +kernel
theorem dX0_paidWithout_4 : decode cX0_paidWithout 4 = .ok (.istore 5, 2) := by decide +kernel
theorem dX0_paidWithout_6 : decode cX0_paidWithout 6 = .ok (.iload 5, 2) := by decide +kernel
theorem dX0_paidWithout_8 : decode cX0_paidWithout 8 = .ok (.iload_n 3, 1) := by decide +kernel
theorem dX0_paidWithout_9 : decode cX0_paidWithout 9 = .ok (.if_icmp .ge 30, 3) := by decide +kernel
theorem dX0_paidWithout_12 : decode cX0_paidWithout 12 = .ok (.iload_n 1, 1) := by decide +kernel
theorem dX0_paidWithout_13 : decode cX0_paidWithout 13 = .ok (.iload 5, 2) := by decide +kernel
theorem dX0_paidWithout_15 : decode cX0_paidWithout 15 = .ok (.ishr, 1) := by decide +kernel
theorem dX0_paidWithout_16 : decode cX0_paidWithout 16 = .ok (.iconst 1, 1) := by decide +kernel
theorem dX0_paidWithout_17 : decode cX0_paidWithout 17 = .ok (.iand, 1) := by decide +kernel
theorem dX0_paidWithout_18 : decode cX0_paidWithout 18 = .ok (.ifCond .ne 15, 3) := by decide +kernel
theorem dX0_paidWithout_21 : decode cX0_paidWithout 21 = .ok (.iload 4, 2) := by decide +kernel
theorem dX0_paidWithout_23 : decode cX0_paidWithout 23 = .ok (.aload_n 0, 1) := by decide +kernel
theorem dX0_paidWithout_24 : decode cX0_paidWithout 24 = .ok (.iload_n 2, 1) := by decide +kernel
theorem dX0_paidWithout_25 : decode cX0_paidWithout 25 = .ok (.iload 5, 2) := by decide +kernel
theorem dX0_paidWithout_27 : decode cX0_paidWithout 27 = .ok (.invokevirtual 66, 3) := by decide +kernel
theorem dX0_paidWithout_30 : decode cX0_paidWithout 30 = .ok (.iadd, 1) := by decide +kernel
theorem dX0_paidWithout_31 : decode cX0_paidWithout 31 = .ok (.istore 4, 2) := by decide +kernel
theorem dX0_paidWithout_33 : decode cX0_paidWithout 33 = .ok (.iinc 5 1, 3) := by decide +kernel
theorem dX0_paidWithout_36 : decode cX0_paidWithout 36 = .ok (.goto (-30), 3) := by decide +kernel
theorem dX0_paidWithout_39 : decode cX0_paidWithout 39 = .ok (.iload 4, 2) := by decide +kernel
theorem dX0_paidWithout_41 : decode cX0_paidWithout 41 = .ok (.ireturn, 1) := by decide +kernel
theorem dX0_dearestPay_0 : decode cX0_dearestPay 0 = .ok (.iconst 0, 1) := by decide +kernel
theorem dX0_dearestPay_1 : decode cX0_dearestPay 1 = .ok (.istore_n 2, 1) := by decide +kernel
theorem dX0_dearestPay_2 : decode cX0_dearestPay 2 = .ok (.iconst 0, 1) := by decide +kernel
theorem dX0_dearestPay_3 : decode cX0_dearestPay 3 = .ok (.istore_n 3, 1) := by decide +kernel
theorem dX0_dearestPay_4 : decode cX0_dearestPay 4 = .ok (.iload_n 3, 1) := by decide +kernel
theorem dX0_dearestPay_5 : decode cX0_dearestPay 5 = .ok (.aload_n 0, 1) := by decide +kernel
theorem dX0_dearestPay_6 : decode cX0_dearestPay 6 = .ok (.getfield 29, 3) := by decide +kernel
theorem dX0_dearestPay_9 : decode cX0_dearestPay 9 = .ok (.if_icmp .ge 36, 3) := by decide +kernel
theorem dX0_dearestPay_12 : decode cX0_dearestPay 12 = .ok (.iconst 0, 1) := by decide +kernel
theorem dX0_dearestPay_13 : decode cX0_dearestPay 13 = .ok (.istore 4, 2) := by decide +kernel
theorem dX0_dearestPay_15 : decode cX0_dearestPay 15 = .ok (.iload 4, 2) := by decide +kernel
theorem dX0_dearestPay_17 : decode cX0_dearestPay 17 = .ok (.iload_n 1, 1) := by decide +kernel
theorem dX0_dearestPay_18 : decode cX0_dearestPay 18 = .ok (.if_icmp .ge 21, 3) := by decide +kernel
theorem dX0_dearestPay_21 : decode cX0_dearestPay 21 = .ok (.iload_n 2, 1) := by decide +kernel
theorem dX0_dearestPay_22 : decode cX0_dearestPay 22 = .ok (.aload_n 0, 1) := by decide +kernel
theorem dX0_dearestPay_23 : decode cX0_dearestPay 23 = .ok (.iload_n 3, 1) := by decide +kernel
theorem dX0_dearestPay_24 : decode cX0_dearestPay 24 = .ok (.iload 4, 2) := by decide +kernel
theorem dX0_dearestPay_26 : decode cX0_dearestPay 26 = .ok (.invokevirtual 66, 3) := by decide +kernel
theorem dX0_dearestPay_29 : decode cX0_dearestPay 29 = .ok (.invokestatic 74, 3) := by decide +kernel
theorem dX0_dearestPay_32 : decode cX0_dearestPay 32 = .ok (.istore_n 2, 1) := by decide +kernel
theorem dX0_dearestPay_33 : decode cX0_dearestPay 33 = .ok (.iinc 4 1, 3) := by decide +kernel
theorem dX0_dearestPay_36 : decode cX0_dearestPay 36 = .ok (.goto (-21), 3) := by decide +kernel
theorem dX0_dearestPay_39 : decode cX0_dearestPay 39 = .ok (.iinc 3 1, 3) := by decide +kernel
theorem dX0_dearestPay_42 : decode cX0_dearestPay 42 = .ok (.goto (-38), 3) := by decide +kernel
theorem dX0_dearestPay_45 : decode cX0_dearestPay 45 = .ok (.iload_n 2, 1) := by decide +kernel
theorem dX0_dearestPay_46 : decode cX0_dearestPay 46 = .ok (.ireturn, 1) := by decide +kernel
theorem dX0_movesIn_0 : decode cX0_movesIn 0 = .ok (.iconst 0, 1) := by decide +kernel
theorem dX0_movesIn_1 : decode cX0_movesIn 1 = .ok (.istore_n 2, 1) := by decide +kernel
theorem dX0_movesIn_2 : decode cX0_movesIn 2 = .ok (.iconst 0, 1) := by decide +kernel
theorem dX0_movesIn_3 : decode cX0_movesIn 3 = .ok (.istore_n 3, 1) := by decide +kernel
theorem dX0_movesIn_4 : decode cX0_movesIn 4 = .ok (.iload_n 3, 1) := by decide +kernel
theorem dX0_movesIn_5 : decode cX0_movesIn 5 = .ok (.aload_n 0, 1) := by decide +kernel
theorem dX0_movesIn_6 : decode cX0_movesIn 6 = .ok (.getfield 29, 3) := by decide +kernel
theorem dX0_movesIn_9 : decode cX0_movesIn 9 = .ok (.if_icmp .ge 93, 3) := by decide +kernel
theorem dX0_movesIn_12 : decode cX0_movesIn 12 = .ok (.iconst 0, 1) := by decide +kernel
theorem dX0_movesIn_13 : decode cX0_movesIn 13 = .ok (.istore 4, 2) := by decide +kernel
theorem dX0_movesIn_15 : decode cX0_movesIn 15 = .ok (.iload 4, 2) := by decide +kernel
theorem dX0_movesIn_17 : decode cX0_movesIn 17 = .ok (.iload_n 1, 1) := by decide +kernel
theorem dX0_movesIn_18 : decode cX0_movesIn 18 = .ok (.if_icmp .ge 78, 3) := by decide +kernel
theorem dX0_movesIn_21 : decode cX0_movesIn 21 = .ok (.aload_n 0, 1) := by decide +kernel
theorem dX0_movesIn_22 : decode cX0_movesIn 22 = .ok (.getfield 32, 3) := by decide +kernel
theorem dX0_movesIn_25 : decode cX0_movesIn 25 = .ok (.ifCond .le 71, 3) := by decide +kernel
theorem dX0_movesIn_28 : decode cX0_movesIn 28 = .ok (.aload_n 0, 1) := by decide +kernel
theorem dX0_movesIn_29 : decode cX0_movesIn 29 = .ok (.getfield 17, 3) := by decide +kernel
theorem dX0_movesIn_32 : decode cX0_movesIn 32 = .ok (.aload_n 0, 1) := by decide +kernel
theorem dX0_movesIn_33 : decode cX0_movesIn 33 = .ok (.iload 4, 2) := by decide +kernel
theorem dX0_movesIn_35 : decode cX0_movesIn 35 = .ok (.invokevirtual 60, 3) := by decide +kernel
theorem dX0_movesIn_38 : decode cX0_movesIn 38 = .ok (.iaload, 1) := by decide +kernel
theorem dX0_movesIn_39 : decode cX0_movesIn 39 = .ok (.istore 5, 2) := by decide +kernel
theorem dX0_movesIn_41 : decode cX0_movesIn 41 = .ok (.aload_n 0, 1) := by decide +kernel
theorem dX0_movesIn_42 : decode cX0_movesIn 42 = .ok (.getfield 11, 3) := by decide +kernel
theorem dX0_movesIn_45 : decode cX0_movesIn 45 = .ok (.iload_n 3, 1) := by decide +kernel
theorem dX0_movesIn_46 : decode cX0_movesIn 46 = .ok (.aaload, 1) := by decide +kernel
theorem dX0_movesIn_47 : decode cX0_movesIn 47 = .ok (.iload 5, 2) := by decide +kernel
theorem dX0_movesIn_49 : decode cX0_movesIn 49 = .ok (.invokevirtual 79, 3) := by decide +kernel
theorem dX0_movesIn_52 : decode cX0_movesIn 52 = .ok (.istore 6, 2) := by decide +kernel
theorem dX0_movesIn_54 : decode cX0_movesIn 54 = .ok (.aload_n 0, 1) := by decide +kernel
theorem dX0_movesIn_55 : decode cX0_movesIn 55 = .ok (.getfield 11, 3) := by decide +kernel
theorem dX0_movesIn_58 : decode cX0_movesIn 58 = .ok (.iload_n 3, 1) := by decide +kernel
theorem dX0_movesIn_59 : decode cX0_movesIn 59 = .ok (.aaload, 1) := by decide +kernel
theorem dX0_movesIn_60 : decode cX0_movesIn 60 = .ok (.iload 5, 2) := by decide +kernel
theorem dX0_movesIn_62 : decode cX0_movesIn 62 = .ok (.invokevirtual 56, 3) := by decide +kernel
theorem dX0_movesIn_65 : decode cX0_movesIn 65 = .ok (.pop, 1) := by decide +kernel
theorem dX0_movesIn_66 : decode cX0_movesIn 66 = .ok (.iload_n 2, 1) := by decide +kernel
theorem dX0_movesIn_67 : decode cX0_movesIn 67 = .ok (.aload_n 0, 1) := by decide +kernel
theorem dX0_movesIn_68 : decode cX0_movesIn 68 = .ok (.getfield 11, 3) := by decide +kernel
theorem dX0_movesIn_71 : decode cX0_movesIn 71 = .ok (.iload_n 3, 1) := by decide +kernel
theorem dX0_movesIn_72 : decode cX0_movesIn 72 = .ok (.aaload, 1) := by decide +kernel
theorem dX0_movesIn_73 : decode cX0_movesIn 73 = .ok (.iload 5, 2) := by decide +kernel
theorem dX0_movesIn_75 : decode cX0_movesIn 75 = .ok (.invokevirtual 79, 3) := by decide +kernel
theorem dX0_movesIn_78 : decode cX0_movesIn 78 = .ok (.iload 6, 2) := by decide +kernel
theorem dX0_movesIn_80 : decode cX0_movesIn 80 = .ok (.if_icmp .ne 7, 3) := by decide +kernel
theorem dX0_movesIn_83 : decode cX0_movesIn 83 = .ok (.iconst 0, 1) := by decide +kernel
theorem dX0_movesIn_84 : decode cX0_movesIn 84 = .ok (.goto 4, 3) := by decide +kernel
theorem dX0_movesIn_87 : decode cX0_movesIn 87 = .ok (.iconst 1, 1) := by decide +kernel
theorem dX0_movesIn_88 : decode cX0_movesIn 88 = .ok (.iadd, 1) := by decide +kernel
theorem dX0_movesIn_89 : decode cX0_movesIn 89 = .ok (.istore_n 2, 1) := by decide +kernel
theorem dX0_movesIn_90 : decode cX0_movesIn 90 = .ok (.iinc 4 1, 3) := by decide +kernel
theorem dX0_movesIn_93 : decode cX0_movesIn 93 = .ok (.goto (-78), 3) := by decide +kernel
theorem dX0_movesIn_96 : decode cX0_movesIn 96 = .ok (.iinc 3 1, 3) := by decide +kernel
theorem dX0_movesIn_99 : decode cX0_movesIn 99 = .ok (.goto (-95), 3) := by decide +kernel
theorem dX0_movesIn_102 : decode cX0_movesIn 102 = .ok (.iload_n 2, 1) := by decide +kernel
theorem dX0_movesIn_103 : decode cX0_movesIn 103 = .ok (.ireturn, 1) := by decide +kernel
theorem dX0_standsAs_0 : decode cX0_standsAs 0 = .ok (.iconst 0, 1) := by decide +kernel
theorem dX0_standsAs_1 : decode cX0_standsAs 1 = .ok (.istore_n 2, 1) := by decide +kernel
theorem dX0_standsAs_2 : decode cX0_standsAs 2 = .ok (.iload_n 2, 1) := by decide +kernel
theorem dX0_standsAs_3 : decode cX0_standsAs 3 = .ok (.aload_n 0, 1) := by decide +kernel
theorem dX0_standsAs_4 : decode cX0_standsAs 4 = .ok (.getfield 29, 3) := by decide +kernel
theorem dX0_standsAs_7 : decode cX0_standsAs 7 = .ok (.if_icmp .ge 29, 3) := by decide +kernel
theorem dX0_standsAs_10 : decode cX0_standsAs 10 = .ok (.aload_n 0, 1) := by decide +kernel
theorem dX0_standsAs_11 : decode cX0_standsAs 11 = .ok (.getfield 11, 3) := by decide +kernel
theorem dX0_standsAs_14 : decode cX0_standsAs 14 = .ok (.iload_n 2, 1) := by decide +kernel
theorem dX0_standsAs_15 : decode cX0_standsAs 15 = .ok (.aaload, 1) := by decide +kernel
theorem dX0_standsAs_16 : decode cX0_standsAs 16 = .ok (.aload_n 1, 1) := by decide +kernel
theorem dX0_standsAs_17 : decode cX0_standsAs 17 = .ok (.getfield 11, 3) := by decide +kernel
theorem dX0_standsAs_20 : decode cX0_standsAs 20 = .ok (.iload_n 2, 1) := by decide +kernel
theorem dX0_standsAs_21 : decode cX0_standsAs 21 = .ok (.aaload, 1) := by decide +kernel
theorem dX0_standsAs_22 : decode cX0_standsAs 22 = .ok (.invokevirtual 82, 3) := by decide +kernel
theorem dX0_standsAs_25 : decode cX0_standsAs 25 = .ok (.ifCond .ne 5, 3) := by decide +kernel
theorem dX0_standsAs_28 : decode cX0_standsAs 28 = .ok (.iconst 0, 1) := by decide +kernel
theorem dX0_standsAs_29 : decode cX0_standsAs 29 = .ok (.ireturn, 1) := by decide +kernel
theorem dX0_standsAs_30 : decode cX0_standsAs 30 = .ok (.iinc 2 1, 3) := by decide +kernel
theorem dX0_standsAs_33 : decode cX0_standsAs 33 = .ok (.goto (-31), 3) := by decide +kernel
theorem dX0_standsAs_36 : decode cX0_standsAs 36 = .ok (.iconst 1, 1) := by decide +kernel
theorem dX0_standsAs_37 : decode cX0_standsAs 37 = .ok (.ireturn, 1) := by decide +kernel
theorem dX0_costOfAll_0 : decode cX0_costOfAll 0 = .ok (.iconst 0, 1) := by decide +kernel
theorem dX0_costOfAll_1 : decode cX0_costOfAll 1 = .ok (.istore_n 1, 1) := by decide +kernel
theorem dX0_costOfAll_2 : decode cX0_costOfAll 2 = .ok (.iconst 0, 1) := by decide +kernel
theorem dX0_costOfAll_3 : decode cX0_costOfAll 3 = .ok (.istore_n 2, 1) := by decide +kernel
theorem dX0_costOfAll_4 : decode cX0_costOfAll 4 = .ok (.iload_n 2, 1) := by decide +kernel
theorem dX0_costOfAll_5 : decode cX0_costOfAll 5 = .ok (.aload_n 0, 1) := by decide +kernel
theorem dX0_costOfAll_6 : decode cX0_costOfAll 6 = .ok (.getfield 29, 3) := by decide +kernel
theorem dX0_costOfAll_9 : decode cX0_costOfAll 9 = .ok (.if_icmp .ge 21, 3) := by decide +kernel
theorem dX0_costOfAll_12 : decode cX0_costOfAll 12 = .ok (.iload_n 1, 1) := by decide +kernel
theorem dX0_costOfAll_13 : decode cX0_costOfAll 13 = .ok (.aload_n 0, 1) := by decide +kernel
theorem dX0_costOfAll_14 : decode cX0_costOfAll 14 = .ok (.getfield 11, 3) := by decide +kernel
theorem dX0_costOfAll_17 : decode cX0_costOfAll 17 = .ok (.iload_n 2, 1) := by decide +kernel
theorem dX0_costOfAll_18 : decode cX0_costOfAll 18 = .ok (.aaload, 1) := by decide +kernel
theorem dX0_costOfAll_19 : decode cX0_costOfAll 19 = .ok (.getfield 86, 3) := by decide +kernel
theorem dX0_costOfAll_22 : decode cX0_costOfAll 22 = .ok (.iadd, 1) := by decide +kernel
theorem dX0_costOfAll_23 : decode cX0_costOfAll 23 = .ok (.istore_n 1, 1) := by decide +kernel
theorem dX0_costOfAll_24 : decode cX0_costOfAll 24 = .ok (.iinc 2 1, 3) := by decide +kernel
theorem dX0_costOfAll_27 : decode cX0_costOfAll 27 = .ok (.goto (-23), 3) := by decide +kernel
theorem dX0_costOfAll_30 : decode cX0_costOfAll 30 = .ok (.iload_n 1, 1) := by decide +kernel
theorem dX0_costOfAll_31 : decode cX0_costOfAll 31 = .ok (.ireturn, 1) := by decide +kernel
theorem dX0_wantsSummed_0 : decode cX0_wantsSummed 0 = .ok (.iconst 0, 1) := by decide +kernel
theorem dX0_wantsSummed_1 : decode cX0_wantsSummed 1 = .ok (.istore_n 1, 1) := by decide +kernel
theorem dX0_wantsSummed_2 : decode cX0_wantsSummed 2 = .ok (.iconst 0, 1) := by decide +kernel
theorem dX0_wantsSummed_3 : decode cX0_wantsSummed 3 = .ok (.istore_n 2, 1) := by decide +kernel
theorem dX0_wantsSummed_4 : decode cX0_wantsSummed 4 = .ok (.iload_n 2, 1) := by decide +kernel
theorem dX0_wantsSummed_5 : decode cX0_wantsSummed 5 = .ok (.aload_n 0, 1) := by decide +kernel
theorem dX0_wantsSummed_6 : decode cX0_wantsSummed 6 = .ok (.getfield 32, 3) := by decide +kernel
theorem dX0_wantsSummed_9 : decode cX0_wantsSummed 9 = .ok (.if_icmp .ge 18, 3) := by decide +kernel
theorem dX0_wantsSummed_12 : decode cX0_wantsSummed 12 = .ok (.iload_n 1, 1) := by decide +kernel
theorem dX0_wantsSummed_13 : decode cX0_wantsSummed 13 = .ok (.aload_n 0, 1) := by decide +kernel
theorem dX0_wantsSummed_14 : decode cX0_wantsSummed 14 = .ok (.getfield 17, 3) := by decide +kernel
theorem dX0_wantsSummed_17 : decode cX0_wantsSummed 17 = .ok (.iload_n 2, 1) := by decide +kernel
theorem dX0_wantsSummed_18 : decode cX0_wantsSummed 18 = .ok (.iaload, 1) := by decide +kernel
theorem dX0_wantsSummed_19 : decode cX0_wantsSummed 19 = .ok (.iadd, 1) := by decide +kernel
theorem dX0_wantsSummed_20 : decode cX0_wantsSummed 20 = .ok (.istore_n 1, 1) := by decide +kernel
theorem dX0_wantsSummed_21 : decode cX0_wantsSummed 21 = .ok (.iinc 2 1, 3) := by decide +kernel
theorem dX0_wantsSummed_24 : decode cX0_wantsSummed 24 = .ok (.goto (-20), 3) := by decide +kernel
theorem dX0_wantsSummed_27 : decode cX0_wantsSummed 27 = .ok (.iload_n 1, 1) := by decide +kernel
theorem dX0_wantsSummed_28 : decode cX0_wantsSummed 28 = .ok (.ireturn, 1) := by decide +kernel
theorem dX1_init_0 : decode cX1_init 0 = .ok (.aload_n 0, 1) := by decide +kernel
theorem dX1_init_1 : decode cX1_init 1 = .ok (.invokespecial 3, 3) := by decide +kernel
theorem dX1_init_4 : decode cX1_init 4 = .ok (.return_, 1) := by decide +kernel
theorem dX1_reset_0 : decode cX1_reset 0 = .ok (.aload_n 0, 1) := by decide +kernel
theorem dX1_reset_1 : decode cX1_reset 1 = .ok (.bipush (-4), 2) := by decide +kernel
theorem dX1_reset_3 : decode cX1_reset 3 = .ok (.putfield 9, 3) := by decide +kernel
theorem dX1_reset_6 : decode cX1_reset 6 = .ok (.aload_n 0, 1) := by decide +kernel
theorem dX1_reset_7 : decode cX1_reset 7 = .ok (.iload_n 1, 1) := by decide +kernel
theorem dX1_reset_8 : decode cX1_reset 8 = .ok (.putfield 15, 3) := by decide +kernel
theorem dX1_reset_11 : decode cX1_reset 11 = .ok (.return_, 1) := by decide +kernel
theorem dX1_offer_0 : decode cX1_offer 0 = .ok (.iload_n 2, 1) := by decide +kernel
theorem dX1_offer_1 : decode cX1_offer 1 = .ok (.aload_n 0, 1) := by decide +kernel
theorem dX1_offer_2 : decode cX1_offer 2 = .ok (.getfield 15, 3) := by decide +kernel
theorem dX1_offer_5 : decode cX1_offer 5 = .ok (.if_icmp .ge 13, 3) := by decide +kernel
theorem dX1_offer_8 : decode cX1_offer 8 = .ok (.aload_n 0, 1) := by decide +kernel
theorem dX1_offer_9 : decode cX1_offer 9 = .ok (.iload_n 1, 1) := by decide +kernel
theorem dX1_offer_10 : decode cX1_offer 10 = .ok (.putfield 9, 3) := by decide +kernel
theorem dX1_offer_13 : decode cX1_offer 13 = .ok (.aload_n 0, 1) := by decide +kernel
theorem dX1_offer_14 : decode cX1_offer 14 = .ok (.iload_n 2, 1) := by decide +kernel
theorem dX1_offer_15 : decode cX1_offer 15 = .ok (.putfield 15, 3) := by decide +kernel
theorem dX1_offer_18 : decode cX1_offer 18 = .ok (.return_, 1) := by decide +kernel
theorem dX1_answer_0 : decode cX1_answer 0 = .ok (.aload_n 0, 1) := by decide +kernel
theorem dX1_answer_1 : decode cX1_answer 1 = .ok (.getfield 9, 3) := by decide +kernel
theorem dX1_answer_4 : decode cX1_answer 4 = .ok (.bipush (-4), 2) := by decide +kernel
theorem dX1_answer_6 : decode cX1_answer 6 = .ok (.if_icmp .eq 7, 3) := by decide +kernel
theorem dX1_answer_9 : decode cX1_answer 9 = .ok (.iload_n 1, 1) := by decide +kernel
theorem dX1_answer_10 : decode cX1_answer 10 = .ok (.ifCond .ne 10, 3) := by decide +kernel
theorem dX1_answer_13 : decode cX1_answer 13 = .ok (.aload_n 0, 1) := by decide +kernel
theorem dX1_answer_14 : decode cX1_answer 14 = .ok (.getfield 9, 3) := by decide +kernel
theorem dX1_answer_17 : decode cX1_answer 17 = .ok (.goto 7, 3) := by decide +kernel
theorem dX1_answer_20 : decode cX1_answer 20 = .ok (.aload_n 0, 1) := by decide +kernel
theorem dX1_answer_21 : decode cX1_answer 21 = .ok (.getfield 15, 3) := by decide +kernel
theorem dX1_answer_24 : decode cX1_answer 24 = .ok (.ireturn, 1) := by decide +kernel
theorem dX2_init_0 : decode cX2_init 0 = .ok (.aload_n 0, 1) := by decide +kernel
theorem dX2_init_1 : decode cX2_init 1 = .ok (.invokespecial 3, 3) := by decide +kernel
theorem dX2_init_4 : decode cX2_init 4 = .ok (.aload_n 0, 1) := by decide +kernel
theorem dX2_init_5 : decode cX2_init 5 = .ok (.bipush 6, 2) := by decide +kernel
theorem dX2_init_7 : decode cX2_init 7 = .ok (.newarray .int, 2) := by decide +kernel
theorem dX2_init_9 : decode cX2_init 9 = .ok (.putfield 9, 3) := by decide +kernel
theorem dX2_init_12 : decode cX2_init 12 = .ok (.aload_n 0, 1) := by decide +kernel
theorem dX2_init_13 : decode cX2_init 13 = .ok (.bipush 6, 2) := by decide +kernel
theorem dX2_init_15 : decode cX2_init 15 = .ok (.newarray .int, 2) := by decide +kernel
theorem dX2_init_17 : decode cX2_init 17 = .ok (.putfield 15, 3) := by decide +kernel
theorem dX2_init_20 : decode cX2_init 20 = .ok (.aload_n 0, 1) := by decide +kernel
theorem dX2_init_21 : decode cX2_init 21 = .ok (.bipush 6, 2) := by decide +kernel
theorem dX2_init_23 : decode cX2_init 23 = .ok (.newarray .int, 2) := by decide +kernel
theorem dX2_init_25 : decode cX2_init 25 = .ok (.putfield 18, 3) := by decide +kernel
theorem dX2_init_28 : decode cX2_init 28 = .ok (.return_, 1) := by decide +kernel
theorem dX2_note_0 : decode cX2_note 0 = .ok (.aload_n 0, 1) := by decide +kernel
theorem dX2_note_1 : decode cX2_note 1 = .ok (.getfield 21, 3) := by decide +kernel
theorem dX2_note_4 : decode cX2_note 4 = .ok (.bipush 6, 2) := by decide +kernel
theorem dX2_note_6 : decode cX2_note 6 = .ok (.if_icmp .lt 5, 3) := by decide +kernel
theorem dX2_note_9 : decode cX2_note 9 = .ok (.iconst 0, 1) := by decide +kernel
theorem dX2_note_10 : decode cX2_note 10 = .ok (.ireturn, 1) := by decide +kernel
theorem dX2_note_11 : decode cX2_note 11 = .ok (.aload_n 0, 1) := by decide +kernel
theorem dX2_note_12 : decode cX2_note 12 = .ok (.getfield 9, 3) := by decide +kernel
theorem dX2_note_15 : decode cX2_note 15 = .ok (.aload_n 0, 1) := by decide +kernel
theorem dX2_note_16 : decode cX2_note 16 = .ok (.getfield 21, 3) := by decide +kernel
theorem dX2_note_19 : decode cX2_note 19 = .ok (.iload_n 1, 1) := by decide +kernel
theorem dX2_note_20 : decode cX2_note 20 = .ok (.iastore, 1) := by decide +kernel
theorem dX2_note_21 : decode cX2_note 21 = .ok (.aload_n 0, 1) := by decide +kernel
theorem dX2_note_22 : decode cX2_note 22 = .ok (.getfield 15, 3) := by decide +kernel
theorem dX2_note_25 : decode cX2_note 25 = .ok (.aload_n 0, 1) := by decide +kernel
theorem dX2_note_26 : decode cX2_note 26 = .ok (.getfield 21, 3) := by decide +kernel
theorem dX2_note_29 : decode cX2_note 29 = .ok (.iload_n 2, 1) := by decide +kernel
theorem dX2_note_30 : decode cX2_note 30 = .ok (.iastore, 1) := by decide +kernel
theorem dX2_note_31 : decode cX2_note 31 = .ok (.aload_n 0, 1) := by decide +kernel
theorem dX2_note_32 : decode cX2_note 32 = .ok (.getfield 18, 3) := by decide +kernel
theorem dX2_note_35 : decode cX2_note 35 = .ok (.aload_n 0, 1) := by decide +kernel
theorem dX2_note_36 : decode cX2_note 36 = .ok (.getfield 21, 3) := by decide +kernel
theorem dX2_note_39 : decode cX2_note 39 = .ok (.iload_n 3, 1) := by decide +kernel
theorem dX2_note_40 : decode cX2_note 40 = .ok (.iastore, 1) := by decide +kernel
theorem dX2_note_41 : decode cX2_note 41 = .ok (.aload_n 0, 1) := by decide +kernel
theorem dX2_note_42 : decode cX2_note 42 = .ok (.dup, 1) := by decide +kernel
theorem dX2_note_43 : decode cX2_note 43 = .ok (.getfield 21, 3) := by decide +kernel
theorem dX2_note_46 : decode cX2_note 46 = .ok (.iconst 1, 1) := by decide +kernel
theorem dX2_note_47 : decode cX2_note 47 = .ok (.iadd, 1) := by decide +kernel
theorem dX2_note_48 : decode cX2_note 48 = .ok (.putfield 21, 3) := by decide +kernel
theorem dX2_note_51 : decode cX2_note 51 = .ok (.iconst 1, 1) := by decide +kernel
theorem dX2_note_52 : decode cX2_note 52 = .ok (.ireturn, 1) := by decide +kernel
theorem dX2_isSoIn_0 : decode cX2_isSoIn 0 = .ok (.aload_n 0, 1) := by decide +kernel
theorem dX2_isSoIn_1 : decode cX2_isSoIn 1 = .ok (.invokevirtual 25, 3) := by decide +kernel
theorem dX2_isSoIn_4 : decode cX2_isSoIn 4 = .ok (.istore_n 2, 1) := by decide +kernel
theorem dX2_isSoIn_5 : decode cX2_isSoIn 5 = .ok (.iconst 0, 1) := by decide +kernel
theorem dX2_isSoIn_6 : decode cX2_isSoIn 6 = .ok (.istore_n 3, 1) := by decide +kernel
theorem dX2_isSoIn_7 : decode cX2_isSoIn 7 = .ok (.iload_n 3, 1) := by decide +kernel
theorem dX2_isSoIn_8 : decode cX2_isSoIn 8 = .ok (.iload_n 2, 1) := by decide +kernel
theorem dX2_isSoIn_9 : decode cX2_isSoIn 9 = .ok (.if_icmp .gt 25, 3) := by decide +kernel
theorem dX2_isSoIn_12 : decode cX2_isSoIn 12 = .ok (.aload_n 0, 1) := by decide +kernel
theorem dX2_isSoIn_13 : decode cX2_isSoIn 13 = .ok (.iload_n 3, 1) := by decide +kernel
theorem dX2_isSoIn_14 : decode cX2_isSoIn 14 = .ok (.aload_n 1, 1) := by decide +kernel
theorem dX2_isSoIn_15 : decode cX2_isSoIn 15 = .ok (.invokevirtual 29, 3) := by decide +kernel
theorem dX2_isSoIn_18 : decode cX2_isSoIn 18 = .ok (.ifCond .ne 5, 3) := by decide +kernel
theorem dX2_isSoIn_21 : decode cX2_isSoIn 21 = .ok (.iconst 0, 1) := by decide +kernel
theorem dX2_isSoIn_22 : decode cX2_isSoIn 22 = .ok (.ireturn, 1) := by decide +kernel
theorem dX2_isSoIn_23 : decode cX2_isSoIn 23 = .ok (.aload_n 1, 1) := by decide +kernel
theorem dX2_isSoIn_24 : decode cX2_isSoIn 24 = .ok (.invokevirtual 33, 3) := by decide +kernel
theorem dX2_isSoIn_27 : decode cX2_isSoIn 27 = .ok (.pop, 1) := by decide +kernel
theorem dX2_isSoIn_28 : decode cX2_isSoIn 28 = .ok (.iinc 3 1, 3) := by decide +kernel
theorem dX2_isSoIn_31 : decode cX2_isSoIn 31 = .ok (.goto (-24), 3) := by decide +kernel
theorem dX2_isSoIn_34 : decode cX2_isSoIn 34 = .ok (.iconst 1, 1) := by decide +kernel
theorem dX2_isSoIn_35 : decode cX2_isSoIn 35 = .ok (.ireturn, 1) := by decide +kernel
theorem dX2_latest_0 : decode cX2_latest 0 = .ok (.iconst 0, 1) := by decide +kernel
theorem dX2_latest_1 : decode cX2_latest 1 = .ok (.istore_n 1, 1) := by decide +kernel
theorem dX2_latest_2 : decode cX2_latest 2 = .ok (.iconst 0, 1) := by decide +kernel
theorem dX2_latest_3 : decode cX2_latest 3 = .ok (.istore_n 2, 1) := by decide +kernel
theorem dX2_latest_4 : decode cX2_latest 4 = .ok (.iload_n 2, 1) := by decide +kernel
theorem dX2_latest_5 : decode cX2_latest 5 = .ok (.aload_n 0, 1) := by decide +kernel
theorem dX2_latest_6 : decode cX2_latest 6 = .ok (.getfield 21, 3) := by decide +kernel
theorem dX2_latest_9 : decode cX2_latest 9 = .ok (.if_icmp .ge 20, 3) := by decide +kernel
theorem dX2_latest_12 : decode cX2_latest 12 = .ok (.iload_n 1, 1) := by decide +kernel
theorem dX2_latest_13 : decode cX2_latest 13 = .ok (.aload_n 0, 1) := by decide +kernel
theorem dX2_latest_14 : decode cX2_latest 14 = .ok (.getfield 9, 3) := by decide +kernel
theorem dX2_latest_17 : decode cX2_latest 17 = .ok (.iload_n 2, 1) := by decide +kernel
theorem dX2_latest_18 : decode cX2_latest 18 = .ok (.iaload, 1) := by decide +kernel
theorem dX2_latest_19 : decode cX2_latest 19 = .ok (.invokestatic 38, 3) := by decide +kernel
theorem dX2_latest_22 : decode cX2_latest 22 = .ok (.istore_n 1, 1) := by decide +kernel
theorem dX2_latest_23 : decode cX2_latest 23 = .ok (.iinc 2 1, 3) := by decide +kernel
theorem dX2_latest_26 : decode cX2_latest 26 = .ok (.goto (-22), 3) := by decide +kernel
theorem dX2_latest_29 : decode cX2_latest 29 = .ok (.iload_n 1, 1) := by decide +kernel
theorem dX2_latest_30 : decode cX2_latest 30 = .ok (.ireturn, 1) := by decide +kernel
theorem dX2_isSoBehind_0 : decode cX2_isSoBehind 0 = .ok (.iconst 0, 1) := by decide +kernel
theorem dX2_isSoBehind_1 : decode cX2_isSoBehind 1 = .ok (.istore_n 3, 1) := by decide +kernel
theorem dX2_isSoBehind_2 : decode cX2_isSoBehind 2 = .ok (.iload_n 3, 1) := by decide +kernel
theorem dX2_isSoBehind_3 : decode cX2_isSoBehind 3 = .ok (.aload_n 0, 1) := by decide +kernel
theorem dX2_isSoBehind_4 : decode cX2_isSoBehind 4 = .ok (.getfield 21, 3) := by decide +kernel
theorem dX2_isSoBehind_7 : decode cX2_isSoBehind 7 = .ok (.if_icmp .ge 59, 3) := by decide +kernel
theorem dX2_isSoBehind_10 : decode cX2_isSoBehind 10 = .ok (.aload_n 0, 1) := by decide +kernel
theorem dX2_isSoBehind_11 : decode cX2_isSoBehind 11 = .ok (.getfield 9, 3) := by decide +kernel
theorem dX2_isSoBehind_14 : decode cX2_isSoBehind 14 = .ok (.iload_n 3, 1) := by decide +kernel
theorem dX2_isSoBehind_15 : decode cX2_isSoBehind 15 = .ok (.iaload, 1) := by decide +kernel
theorem dX2_isSoBehind_16 : decode cX2_isSoBehind 16 = .ok (.iload_n 1, 1) := by decide +kernel
theorem dX2_isSoBehind_17 : decode cX2_isSoBehind 17 = .ok (.if_icmp .ne 43, 3) := by decide +kernel
theorem dX2_isSoBehind_20 : decode cX2_isSoBehind 20 = .ok (.aload_n 0, 1) := by decide +kernel
theorem dX2_isSoBehind_21 : decode cX2_isSoBehind 21 = .ok (.getfield 15, 3) := by decide +kernel
theorem dX2_isSoBehind_24 : decode cX2_isSoBehind 24 = .ok (.iload_n 3, 1) := by decide +kernel
theorem dX2_isSoBehind_25 : decode cX2_isSoBehind 25 = .ok (.iaload, 1) := by decide +kernel
theorem dX2_isSoBehind_26 : decode cX2_isSoBehind 26 = .ok (.istore 4, 2) := by decide +kernel
theorem dX2_isSoBehind_28 : decode cX2_isSoBehind 28 = .ok (.aload_n 2, 1) := by decide +kernel
theorem dX2_isSoBehind_29 : decode cX2_isSoBehind 29 = .ok (.iload 4, 2) := by decide +kernel
theorem dX2_isSoBehind_31 : decode cX2_isSoBehind 31 = .ok (.invokevirtual 44, 3) := by decide +kernel
theorem dX2_isSoBehind_34 : decode cX2_isSoBehind 34 = .ok (.ifCond .eq 24, 3) := by decide +kernel
theorem dX2_isSoBehind_37 : decode cX2_isSoBehind 37 = .ok (.aload_n 2, 1) := by decide +kernel
theorem dX2_isSoBehind_38 : decode cX2_isSoBehind 38 = .ok (.getfield 48, 3) := by decide +kernel
theorem dX2_isSoBehind_41 : decode cX2_isSoBehind 41 = .ok (.iload 4, 2) := by decide +kernel
theorem dX2_isSoBehind_43 : decode cX2_isSoBehind 43 = .ok (.aaload, 1) := by decide +kernel
theorem dX2_isSoBehind_44 : decode cX2_isSoBehind 44 = .ok (.getfield 52, 3) := by decide +kernel
theorem dX2_isSoBehind_47 : decode cX2_isSoBehind 47 = .ok (.iconst 0, 1) := by decide +kernel
theorem dX2_isSoBehind_48 : decode cX2_isSoBehind 48 = .ok (.iaload, 1) := by decide +kernel
theorem dX2_isSoBehind_49 : decode cX2_isSoBehind 49 = .ok (.aload_n 0, 1) := by decide +kernel
theorem dX2_isSoBehind_50 : decode cX2_isSoBehind 50 = .ok (.getfield 18, 3) := by decide +kernel
theorem dX2_isSoBehind_53 : decode cX2_isSoBehind 53 = .ok (.iload_n 3, 1) := by decide +kernel
theorem dX2_isSoBehind_54 : decode cX2_isSoBehind 54 = .ok (.iaload, 1) := by decide +kernel
theorem dX2_isSoBehind_55 : decode cX2_isSoBehind 55 = .ok (.if_icmp .eq 5, 3) := by decide +kernel
theorem dX2_isSoBehind_58 : decode cX2_isSoBehind 58 = .ok (.iconst 0, 1) := by decide +kernel
theorem dX2_isSoBehind_59 : decode cX2_isSoBehind 59 = .ok (.ireturn, 1) := by decide +kernel
theorem dX2_isSoBehind_60 : decode cX2_isSoBehind 60 = .ok (.iinc 3 1, 3) := by decide +kernel
theorem dX2_isSoBehind_63 : decode cX2_isSoBehind 63 = .ok (.goto (-61), 3) := by decide +kernel
theorem dX2_isSoBehind_66 : decode cX2_isSoBehind 66 = .ok (.iconst 1, 1) := by decide +kernel
theorem dX2_isSoBehind_67 : decode cX2_isSoBehind 67 = .ok (.ireturn, 1) := by decide +kernel
theorem dX3_init_0 : decode cX3_init 0 = .ok (.aload_n 0, 1) := by decide +kernel
theorem dX3_init_1 : decode cX3_init 1 = .ok (.invokespecial 3, 3) := by decide +kernel
theorem dX3_init_4 : decode cX3_init 4 = .ok (.aload_n 0, 1) := by decide +kernel
theorem dX3_init_5 : decode cX3_init 5 = .ok (.iconst (-1), 1) := by decide +kernel
theorem dX3_init_6 : decode cX3_init 6 = .ok (.putfield 9, 3) := by decide +kernel
theorem dX3_init_9 : decode cX3_init 9 = .ok (.aload_n 0, 1) := by decide +kernel
theorem dX3_init_10 : decode cX3_init 10 = .ok (.bipush 40, 2) := by decide +kernel
theorem dX3_init_12 : decode cX3_init 12 = .ok (.newarray .int, 2) := by decide +kernel
theorem dX3_init_14 : decode cX3_init 14 = .ok (.putfield 15, 3) := by decide +kernel
theorem dX3_init_17 : decode cX3_init 17 = .ok (.return_, 1) := by decide +kernel
theorem dX3_begin_0 : decode cX3_begin 0 = .ok (.aload_n 0, 1) := by decide +kernel
theorem dX3_begin_1 : decode cX3_begin 1 = .ok (.iload_n 1, 1) := by decide +kernel
theorem dX3_begin_2 : decode cX3_begin 2 = .ok (.putfield 9, 3) := by decide +kernel
theorem dX3_begin_5 : decode cX3_begin 5 = .ok (.aload_n 0, 1) := by decide +kernel
theorem dX3_begin_6 : decode cX3_begin 6 = .ok (.iload_n 2, 1) := by decide +kernel
theorem dX3_begin_7 : decode cX3_begin 7 = .ok (.putfield 19, 3) := by decide +kernel
theorem dX3_begin_10 : decode cX3_begin 10 = .ok (.iconst 0, 1) := by decide +kernel
theorem dX3_begin_11 : decode cX3_begin 11 = .ok (.istore_n 3, 1) := by decide +kernel
theorem dX3_begin_12 : decode cX3_begin 12 = .ok (.iload_n 3, 1) := by decide +kernel
theorem dX3_begin_13 : decode cX3_begin 13 = .ok (.bipush 40, 2) := by decide +kernel
theorem dX3_begin_15 : decode cX3_begin 15 = .ok (.if_icmp .ge 16, 3) := by decide +kernel
theorem dX3_begin_18 : decode cX3_begin 18 = .ok (.aload_n 0, 1) := by decide +kernel
theorem dX3_begin_19 : decode cX3_begin 19 = .ok (.getfield 15, 3) := by decide +kernel
theorem dX3_begin_22 : decode cX3_begin 22 = .ok (.iload_n 3, 1) := by decide +kernel
theorem dX3_begin_23 : decode cX3_begin 23 = .ok (.iconst 0, 1) := by decide +kernel
theorem dX3_begin_24 : decode cX3_begin 24 = .ok (.iastore, 1) := by decide +kernel
theorem dX3_begin_25 : decode cX3_begin 25 = .ok (.iinc 3 1, 3) := by decide +kernel
theorem dX3_begin_28 : decode cX3_begin 28 = .ok (.goto (-16), 3) := by decide +kernel
theorem dX3_begin_31 : decode cX3_begin 31 = .ok (.return_, 1) := by decide +kernel
theorem dX3_faultOf_0 : decode cX3_faultOf 0 = .ok (.aload_n 0, 1) := by decide +kernel
theorem dX3_faultOf_1 : decode cX3_faultOf 1 = .ok (.getfield 9, 3) := by decide +kernel
theorem dX3_faultOf_4 : decode cX3_faultOf 4 = .ok (.iconst (-1), 1) := by decide +kernel
theorem dX3_faultOf_5 : decode cX3_faultOf 5 = .ok (.if_icmp .ne 5, 3) := by decide +kernel
theorem dX3_faultOf_8 : decode cX3_faultOf 8 = .ok (.iconst 1, 1) := by decide +kernel
theorem dX3_faultOf_9 : decode cX3_faultOf 9 = .ok (.ireturn, 1) := by decide +kernel
theorem dX3_faultOf_10 : decode cX3_faultOf 10 = .ok (.aload_n 0, 1) := by decide +kernel
theorem dX3_faultOf_11 : decode cX3_faultOf 11 = .ok (.getfield 9, 3) := by decide +kernel
theorem dX3_faultOf_14 : decode cX3_faultOf 14 = .ok (.iload_n 1, 1) := by decide +kernel
theorem dX3_faultOf_15 : decode cX3_faultOf 15 = .ok (.if_icmp .eq 5, 3) := by decide +kernel
theorem dX3_faultOf_18 : decode cX3_faultOf 18 = .ok (.iconst 3, 1) := by decide +kernel
theorem dX3_faultOf_19 : decode cX3_faultOf 19 = .ok (.ireturn, 1) := by decide +kernel
theorem dX3_faultOf_20 : decode cX3_faultOf 20 = .ok (.iload_n 2, 1) := by decide +kernel
theorem dX3_faultOf_21 : decode cX3_faultOf 21 = .ok (.ifCond .lt 15, 3) := by decide +kernel
theorem dX3_faultOf_24 : decode cX3_faultOf 24 = .ok (.iload_n 2, 1) := by decide +kernel
theorem dX3_faultOf_25 : decode cX3_faultOf 25 = .ok (.aload_n 0, 1) := by decide +kernel
theorem dX3_faultOf_26 : decode cX3_faultOf 26 = .ok (.getfield 19, 3) := by decide +kernel
theorem dX3_faultOf_29 : decode cX3_faultOf 29 = .ok (.if_icmp .ge 7, 3) := by decide +kernel
theorem dX3_faultOf_32 : decode cX3_faultOf 32 = .ok (.iconst 0, 1) := by decide +kernel
theorem dX3_faultOf_33 : decode cX3_faultOf 33 = .ok (.goto 4, 3) := by decide +kernel
theorem dX3_faultOf_36 : decode cX3_faultOf 36 = .ok (.iconst 2, 1) := by decide +kernel
theorem dX3_faultOf_37 : decode cX3_faultOf 37 = .ok (.ireturn, 1) := by decide +kernel
theorem dX3_write_0 : decode cX3_write 0 = .ok (.aload_n 0, 1) := by decide +kernel
theorem dX3_write_1 : decode cX3_write 1 = .ok (.getfield 9, 3) := by decide +kernel
theorem dX3_write_4 : decode cX3_write 4 = .ok (.lookupswitch 50 #[(0, 28), (1, 39)], 28) := by decide +kernel
theorem dX3_write_32 : decode cX3_write 32 = .ok (.aload_n 0, 1) := by decide +kernel
theorem dX3_write_33 : decode cX3_write 33 = .ok (.getfield 15, 3) := by decide +kernel
theorem dX3_write_36 : decode cX3_write 36 = .ok (.iload_n 1, 1) := by decide +kernel
theorem dX3_write_37 : decode cX3_write 37 = .ok (.iload_n 2, 1) := by decide +kernel
theorem dX3_write_38 : decode cX3_write 38 = .ok (.i2b, 1) := by decide +kernel
theorem dX3_write_39 : decode cX3_write 39 = .ok (.iastore, 1) := by decide +kernel
theorem dX3_write_40 : decode cX3_write 40 = .ok (.goto 21, 3) := by decide +kernel
theorem dX3_write_43 : decode cX3_write 43 = .ok (.aload_n 0, 1) := by decide +kernel
theorem dX3_write_44 : decode cX3_write 44 = .ok (.getfield 15, 3) := by decide +kernel
theorem dX3_write_47 : decode cX3_write 47 = .ok (.iload_n 1, 1) := by decide +kernel
theorem dX3_write_48 : decode cX3_write 48 = .ok (.iload_n 2, 1) := by decide +kernel
theorem dX3_write_49 : decode cX3_write 49 = .ok (.i2s, 1) := by decide +kernel
theorem dX3_write_50 : decode cX3_write 50 = .ok (.iastore, 1) := by decide +kernel
theorem dX3_write_51 : decode cX3_write 51 = .ok (.goto 10, 3) := by decide +kernel
theorem dX3_write_54 : decode cX3_write 54 = .ok (.aload_n 0, 1) := by decide +kernel
theorem dX3_write_55 : decode cX3_write 55 = .ok (.getfield 15, 3) := by decide +kernel
theorem dX3_write_58 : decode cX3_write 58 = .ok (.iload_n 1, 1) := by decide +kernel
theorem dX3_write_59 : decode cX3_write 59 = .ok (.iload_n 2, 1) := by decide +kernel
theorem dX3_write_60 : decode cX3_write 60 = .ok (.iastore, 1) := by decide +kernel
theorem dX3_write_61 : decode cX3_write 61 = .ok (.return_, 1) := by decide +kernel
theorem dX4_init_0 : decode cX4_init 0 = .ok (.aload_n 0, 1) := by decide +kernel
theorem dX4_init_1 : decode cX4_init 1 = .ok (.invokespecial 3, 3) := by decide +kernel
theorem dX4_init_4 : decode cX4_init 4 = .ok (.aload_n 0, 1) := by decide +kernel
theorem dX4_init_5 : decode cX4_init 5 = .ok (.bipush 6, 2) := by decide +kernel
theorem dX4_init_7 : decode cX4_init 7 = .ok (.newarray .int, 2) := by decide +kernel
theorem dX4_init_9 : decode cX4_init 9 = .ok (.putfield 9, 3) := by decide +kernel
theorem dX4_init_12 : decode cX4_init 12 = .ok (.aload_n 0, 1) := by decide +kernel
theorem dX4_init_13 : decode cX4_init 13 = .ok (.bipush 6, 2) := by decide +kernel
theorem dX4_init_15 : decode cX4_init 15 = .ok (.newarray .int, 2) := by decide +kernel
theorem dX4_init_17 : decode cX4_init 17 = .ok (.putfield 15, 3) := by decide +kernel
theorem dX4_init_20 : decode cX4_init 20 = .ok (.aload_n 0, 1) := by decide +kernel
theorem dX4_init_21 : decode cX4_init 21 = .ok (.iconst 0, 1) := by decide +kernel
theorem dX4_init_22 : decode cX4_init 22 = .ok (.invokevirtual 18, 3) := by decide +kernel
theorem dX4_init_25 : decode cX4_init 25 = .ok (.return_, 1) := by decide +kernel
theorem dX4_begin_0 : decode cX4_begin 0 = .ok (.aload_n 0, 1) := by decide +kernel
theorem dX4_begin_1 : decode cX4_begin 1 = .ok (.iload_n 1, 1) := by decide +kernel
theorem dX4_begin_2 : decode cX4_begin 2 = .ok (.putfield 22, 3) := by decide +kernel
theorem dX4_begin_5 : decode cX4_begin 5 = .ok (.aload_n 0, 1) := by decide +kernel
theorem dX4_begin_6 : decode cX4_begin 6 = .ok (.iconst 0, 1) := by decide +kernel
theorem dX4_begin_7 : decode cX4_begin 7 = .ok (.putfield 26, 3) := by decide +kernel
theorem dX4_begin_10 : decode cX4_begin 10 = .ok (.iconst 0, 1) := by decide +kernel
theorem dX4_begin_11 : decode cX4_begin 11 = .ok (.istore_n 2, 1) := by decide +kernel
theorem dX4_begin_12 : decode cX4_begin 12 = .ok (.iload_n 2, 1) := by decide +kernel
theorem dX4_begin_13 : decode cX4_begin 13 = .ok (.bipush 6, 2) := by decide +kernel
theorem dX4_begin_15 : decode cX4_begin 15 = .ok (.if_icmp .ge 23, 3) := by decide +kernel
theorem dX4_begin_18 : decode cX4_begin 18 = .ok (.aload_n 0, 1) := by decide +kernel
theorem dX4_begin_19 : decode cX4_begin 19 = .ok (.getfield 9, 3) := by decide +kernel
theorem dX4_begin_22 : decode cX4_begin 22 = .ok (.iload_n 2, 1) := by decide +kernel
theorem dX4_begin_23 : decode cX4_begin 23 = .ok (.iload_n 2, 1) := by decide +kernel
theorem dX4_begin_24 : decode cX4_begin 24 = .ok (.iastore, 1) := by decide +kernel
theorem dX4_begin_25 : decode cX4_begin 25 = .ok (.aload_n 0, 1) := by decide +kernel
theorem dX4_begin_26 : decode cX4_begin 26 = .ok (.getfield 15, 3) := by decide +kernel
theorem dX4_begin_29 : decode cX4_begin 29 = .ok (.iload_n 2, 1) := by decide +kernel
theorem dX4_begin_30 : decode cX4_begin 30 = .ok (.iconst 0, 1) := by decide +kernel
theorem dX4_begin_31 : decode cX4_begin 31 = .ok (.iastore, 1) := by decide +kernel
theorem dX4_begin_32 : decode cX4_begin 32 = .ok (.iinc 2 1, 3) := by decide +kernel
theorem dX4_begin_35 : decode cX4_begin 35 = .ok (.goto (-23), 3) := by decide +kernel
theorem dX4_begin_38 : decode cX4_begin 38 = .ok (.return_, 1) := by decide +kernel
theorem dX4_copy_0 : decode cX4_copy 0 = .ok (.aload_n 0, 1) := by decide +kernel
theorem dX4_copy_1 : decode cX4_copy 1 = .ok (.aload_n 1, 1) := by decide +kernel
theorem dX4_copy_2 : decode cX4_copy 2 = .ok (.getfield 22, 3) := by decide +kernel
theorem dX4_copy_5 : decode cX4_copy 5 = .ok (.putfield 22, 3) := by decide +kernel
theorem dX4_copy_8 : decode cX4_copy 8 = .ok (.aload_n 0, 1) := by decide +kernel
theorem dX4_copy_9 : decode cX4_copy 9 = .ok (.aload_n 1, 1) := by decide +kernel
theorem dX4_copy_10 : decode cX4_copy 10 = .ok (.getfield 26, 3) := by decide +kernel
theorem dX4_copy_13 : decode cX4_copy 13 = .ok (.putfield 26, 3) := by decide +kernel
theorem dX4_copy_16 : decode cX4_copy 16 = .ok (.aload_n 1, 1) := by decide +kernel
theorem dX4_copy_17 : decode cX4_copy 17 = .ok (.getfield 9, 3) := by decide +kernel
theorem dX4_copy_20 : decode cX4_copy 20 = .ok (.iconst 0, 1) := by decide +kernel
theorem dX4_copy_21 : decode cX4_copy 21 = .ok (.aload_n 0, 1) := by decide +kernel
theorem dX4_copy_22 : decode cX4_copy 22 = .ok (.getfield 9, 3) := by decide +kernel
theorem dX4_copy_25 : decode cX4_copy 25 = .ok (.iconst 0, 1) := by decide +kernel
theorem dX4_copy_26 : decode cX4_copy 26 = .ok (.bipush 6, 2) := by decide +kernel
theorem dX4_copy_28 : decode cX4_copy 28 = .ok (.invokestatic 29, 3) := by decide +kernel
theorem dX4_copy_31 : decode cX4_copy 31 = .ok (.aload_n 1, 1) := by decide +kernel
theorem dX4_copy_32 : decode cX4_copy 32 = .ok (.getfield 15, 3) := by decide +kernel
theorem dX4_copy_35 : decode cX4_copy 35 = .ok (.iconst 0, 1) := by decide +kernel
theorem dX4_copy_36 : decode cX4_copy 36 = .ok (.aload_n 0, 1) := by decide +kernel
theorem dX4_copy_37 : decode cX4_copy 37 = .ok (.getfield 15, 3) := by decide +kernel
theorem dX4_copy_40 : decode cX4_copy 40 = .ok (.iconst 0, 1) := by decide +kernel
theorem dX4_copy_41 : decode cX4_copy 41 = .ok (.bipush 6, 2) := by decide +kernel
theorem dX4_copy_43 : decode cX4_copy 43 = .ok (.invokestatic 29, 3) := by decide +kernel
theorem dX4_copy_46 : decode cX4_copy 46 = .ok (.return_, 1) := by decide +kernel
theorem dX4_find_0 : decode cX4_find 0 = .ok (.iconst 0, 1) := by decide +kernel
theorem dX4_find_1 : decode cX4_find 1 = .ok (.istore_n 2, 1) := by decide +kernel
theorem dX4_find_2 : decode cX4_find 2 = .ok (.iload_n 2, 1) := by decide +kernel
theorem dX4_find_3 : decode cX4_find 3 = .ok (.iconst 5, 1) := by decide +kernel
theorem dX4_find_4 : decode cX4_find 4 = .ok (.if_icmp .ge 19, 3) := by decide +kernel
theorem dX4_find_7 : decode cX4_find 7 = .ok (.aload_n 0, 1) := by decide +kernel
theorem dX4_find_8 : decode cX4_find 8 = .ok (.getfield 9, 3) := by decide +kernel
theorem dX4_find_11 : decode cX4_find 11 = .ok (.iload_n 2, 1) := by decide +kernel
theorem dX4_find_12 : decode cX4_find 12 = .ok (.iaload, 1) := by decide +kernel
theorem dX4_find_13 : decode cX4_find 13 = .ok (.iload_n 1, 1) := by decide +kernel
theorem dX4_find_14 : decode cX4_find 14 = .ok (.if_icmp .eq 9, 3) := by decide +kernel
theorem dX4_find_17 : decode cX4_find 17 = .ok (.iinc 2 1, 3) := by decide +kernel
theorem dX4_find_20 : decode cX4_find 20 = .ok (.goto (-18), 3) := by decide +kernel
theorem dX4_find_23 : decode cX4_find 23 = .ok (.iload_n 2, 1) := by decide +kernel
theorem dX4_find_24 : decode cX4_find 24 = .ok (.ireturn, 1) := by decide +kernel
theorem dX4_serve_0 : decode cX4_serve 0 = .ok (.aload_n 0, 1) := by decide +kernel
theorem dX4_serve_1 : decode cX4_serve 1 = .ok (.iload_n 1, 1) := by decide +kernel
theorem dX4_serve_2 : decode cX4_serve 2 = .ok (.invokevirtual 35, 3) := by decide +kernel
theorem dX4_serve_5 : decode cX4_serve 5 = .ok (.istore_n 2, 1) := by decide +kernel
theorem dX4_serve_6 : decode cX4_serve 6 = .ok (.aload_n 0, 1) := by decide +kernel
theorem dX4_serve_7 : decode cX4_serve 7 = .ok (.iload_n 2, 1) := by decide +kernel
theorem dX4_serve_8 : decode cX4_serve 8 = .ok (.invokevirtual 39, 3) := by decide +kernel
theorem dX4_serve_11 : decode cX4_serve 11 = .ok (.istore_n 3, 1) := by decide +kernel
theorem dX4_serve_12 : decode cX4_serve 12 = .ok (.aload_n 0, 1) := by decide +kernel
theorem dX4_serve_13 : decode cX4_serve 13 = .ok (.ldc 42, 2) := by decide +kernel
theorem dX4_serve_15 : decode cX4_serve 15 = .ok (.aload_n 0, 1) := by decide +kernel
theorem dX4_serve_16 : decode cX4_serve 16 = .ok (.getfield 26, 3) := by decide +kernel
theorem dX4_serve_19 : decode cX4_serve 19 = .ok (.iload_n 3, 1) := by decide +kernel
theorem dX4_serve_20 : decode cX4_serve 20 = .ok (.iadd, 1) := by decide +kernel
theorem dX4_serve_21 : decode cX4_serve 21 = .ok (.invokestatic 43, 3) := by decide +kernel
theorem dX4_serve_24 : decode cX4_serve 24 = .ok (.putfield 26, 3) := by decide +kernel
theorem dX4_serve_27 : decode cX4_serve 27 = .ok (.aload_n 0, 1) := by decide +kernel
theorem dX4_serve_28 : decode cX4_serve 28 = .ok (.getfield 15, 3) := by decide +kernel
theorem dX4_serve_31 : decode cX4_serve 31 = .ok (.iload_n 1, 1) := by decide +kernel
theorem dX4_serve_32 : decode cX4_serve 32 = .ok (.bipush 99, 2) := by decide +kernel
theorem dX4_serve_34 : decode cX4_serve 34 = .ok (.aload_n 0, 1) := by decide +kernel
theorem dX4_serve_35 : decode cX4_serve 35 = .ok (.getfield 15, 3) := by decide +kernel
theorem dX4_serve_38 : decode cX4_serve 38 = .ok (.iload_n 1, 1) := by decide +kernel
theorem dX4_serve_39 : decode cX4_serve 39 = .ok (.iaload, 1) := by decide +kernel
theorem dX4_serve_40 : decode cX4_serve 40 = .ok (.iconst 1, 1) := by decide +kernel
theorem dX4_serve_41 : decode cX4_serve 41 = .ok (.iadd, 1) := by decide +kernel
theorem dX4_serve_42 : decode cX4_serve 42 = .ok (.invokestatic 43, 3) := by decide +kernel
theorem dX4_serve_45 : decode cX4_serve 45 = .ok (.iastore, 1) := by decide +kernel
theorem dX4_serve_46 : decode cX4_serve 46 = .ok (.aload_n 0, 1) := by decide +kernel
theorem dX4_serve_47 : decode cX4_serve 47 = .ok (.iload_n 2, 1) := by decide +kernel
theorem dX4_serve_48 : decode cX4_serve 48 = .ok (.aload_n 0, 1) := by decide +kernel
theorem dX4_serve_49 : decode cX4_serve 49 = .ok (.iload_n 1, 1) := by decide +kernel
theorem dX4_serve_50 : decode cX4_serve 50 = .ok (.iload_n 2, 1) := by decide +kernel
theorem dX4_serve_51 : decode cX4_serve 51 = .ok (.invokevirtual 49, 3) := by decide +kernel
theorem dX4_serve_54 : decode cX4_serve 54 = .ok (.invokevirtual 52, 3) := by decide +kernel
theorem dX4_serve_57 : decode cX4_serve 57 = .ok (.iload_n 3, 1) := by decide +kernel
theorem dX4_serve_58 : decode cX4_serve 58 = .ok (.ireturn, 1) := by decide +kernel
theorem dX4_payFor_0 : decode cX4_payFor 0 = .ok (.aload_n 0, 1) := by decide +kernel
theorem dX4_payFor_1 : decode cX4_payFor 1 = .ok (.getfield 22, 3) := by decide +kernel
theorem dX4_payFor_4 : decode cX4_payFor 4 = .ok (.iconst 2, 1) := by decide +kernel
theorem dX4_payFor_5 : decode cX4_payFor 5 = .ok (.if_icmp .ne 13, 3) := by decide +kernel
theorem dX4_payFor_8 : decode cX4_payFor 8 = .ok (.iload_n 1, 1) := by decide +kernel
theorem dX4_payFor_9 : decode cX4_payFor 9 = .ok (.ifCond .eq 9, 3) := by decide +kernel
theorem dX4_payFor_12 : decode cX4_payFor 12 = .ok (.iload_n 1, 1) := by decide +kernel
theorem dX4_payFor_13 : decode cX4_payFor 13 = .ok (.iconst 2, 1) := by decide +kernel
theorem dX4_payFor_14 : decode cX4_payFor 14 = .ok (.iadd, 1) := by decide +kernel
theorem dX4_payFor_15 : decode cX4_payFor 15 = .ok (.goto 6, 3) := by decide +kernel
theorem dX4_payFor_18 : decode cX4_payFor 18 = .ok (.iload_n 1, 1) := by decide +kernel
theorem dX4_payFor_19 : decode cX4_payFor 19 = .ok (.iconst 1, 1) := by decide +kernel
theorem dX4_payFor_20 : decode cX4_payFor 20 = .ok (.iadd, 1) := by decide +kernel
theorem dX4_payFor_21 : decode cX4_payFor 21 = .ok (.ireturn, 1) := by decide +kernel
theorem dX4_goalOf_0 : decode cX4_goalOf 0 = .ok (.aload_n 0, 1) := by decide +kernel
theorem dX4_goalOf_1 : decode cX4_goalOf 1 = .ok (.getfield 22, 3) := by decide +kernel
theorem dX4_goalOf_4 : decode cX4_goalOf 4 = .ok (.iconst 1, 1) := by decide +kernel
theorem dX4_goalOf_5 : decode cX4_goalOf 5 = .ok (.if_icmp .ne 15, 3) := by decide +kernel
theorem dX4_goalOf_8 : decode cX4_goalOf 8 = .ok (.iload_n 2, 1) := by decide +kernel
theorem dX4_goalOf_9 : decode cX4_goalOf 9 = .ok (.ifCond .le 9, 3) := by decide +kernel
theorem dX4_goalOf_12 : decode cX4_goalOf 12 = .ok (.iload_n 2, 1) := by decide +kernel
theorem dX4_goalOf_13 : decode cX4_goalOf 13 = .ok (.iconst 1, 1) := by decide +kernel
theorem dX4_goalOf_14 : decode cX4_goalOf 14 = .ok (.isub, 1) := by decide +kernel
theorem dX4_goalOf_15 : decode cX4_goalOf 15 = .ok (.goto 4, 3) := by decide +kernel
theorem dX4_goalOf_18 : decode cX4_goalOf 18 = .ok (.iconst 0, 1) := by decide +kernel
theorem dX4_goalOf_19 : decode cX4_goalOf 19 = .ok (.ireturn, 1) := by decide +kernel
theorem dX4_goalOf_20 : decode cX4_goalOf 20 = .ok (.aload_n 0, 1) := by decide +kernel
theorem dX4_goalOf_21 : decode cX4_goalOf 21 = .ok (.getfield 22, 3) := by decide +kernel
theorem dX4_goalOf_24 : decode cX4_goalOf 24 = .ok (.ifCond .ne 7, 3) := by decide +kernel
theorem dX4_goalOf_27 : decode cX4_goalOf 27 = .ok (.iload_n 2, 1) := by decide +kernel
theorem dX4_goalOf_28 : decode cX4_goalOf 28 = .ok (.goto 4, 3) := by decide +kernel
theorem dX4_goalOf_31 : decode cX4_goalOf 31 = .ok (.iconst 0, 1) := by decide +kernel
theorem dX4_goalOf_32 : decode cX4_goalOf 32 = .ok (.istore_n 3, 1) := by decide +kernel
theorem dX4_goalOf_33 : decode cX4_goalOf 33 = .ok (.aload_n 0, 1) := by decide +kernel
theorem dX4_goalOf_34 : decode cX4_goalOf 34 = .ok (.getfield 22, 3) := by decide +kernel
theorem dX4_goalOf_37 : decode cX4_goalOf 37 = .ok (.iconst 3, 1) := by decide +kernel
theorem dX4_goalOf_38 : decode cX4_goalOf 38 = .ok (.if_icmp .ne 34, 3) := by decide +kernel
theorem dX4_goalOf_41 : decode cX4_goalOf 41 = .ok (.iload_n 3, 1) := by decide +kernel
theorem dX4_goalOf_42 : decode cX4_goalOf 42 = .ok (.iload_n 2, 1) := by decide +kernel
theorem dX4_goalOf_43 : decode cX4_goalOf 43 = .ok (.if_icmp .ge 29, 3) := by decide +kernel
theorem dX4_goalOf_46 : decode cX4_goalOf 46 = .ok (.aload_n 0, 1) := by decide +kernel
theorem dX4_goalOf_47 : decode cX4_goalOf 47 = .ok (.getfield 15, 3) := by decide +kernel
theorem dX4_goalOf_50 : decode cX4_goalOf 50 = .ok (.aload_n 0, 1) := by decide +kernel
theorem dX4_goalOf_51 : decode cX4_goalOf 51 = .ok (.getfield 9, 3) := by decide +kernel
theorem dX4_goalOf_54 : decode cX4_goalOf 54 = .ok (.iload_n 3, 1) := by decide +kernel
theorem dX4_goalOf_55 : decode cX4_goalOf 55 = .ok (.iaload, 1) := by decide +kernel
theorem dX4_goalOf_56 : decode cX4_goalOf 56 = .ok (.iaload, 1) := by decide +kernel
theorem dX4_goalOf_57 : decode cX4_goalOf 57 = .ok (.aload_n 0, 1) := by decide +kernel
theorem dX4_goalOf_58 : decode cX4_goalOf 58 = .ok (.getfield 15, 3) := by decide +kernel
theorem dX4_goalOf_61 : decode cX4_goalOf 61 = .ok (.iload_n 1, 1) := by decide +kernel
theorem dX4_goalOf_62 : decode cX4_goalOf 62 = .ok (.iaload, 1) := by decide +kernel
theorem dX4_goalOf_63 : decode cX4_goalOf 63 = .ok (.if_icmp .lt 9, 3) := by decide +kernel
theorem dX4_goalOf_66 : decode cX4_goalOf 66 = .ok (.iinc 3 1, 3) := by decide +kernel
theorem dX4_goalOf_69 : decode cX4_goalOf 69 = .ok (.goto (-36), 3) := by decide +kernel
theorem dX4_goalOf_72 : decode cX4_goalOf 72 = .ok (.iload_n 3, 1) := by decide +kernel
theorem dX4_goalOf_73 : decode cX4_goalOf 73 = .ok (.ireturn, 1) := by decide +kernel
theorem dX4_shift_0 : decode cX4_shift 0 = .ok (.aload_n 0, 1) := by decide +kernel
theorem dX4_shift_1 : decode cX4_shift 1 = .ok (.getfield 9, 3) := by decide +kernel
theorem dX4_shift_4 : decode cX4_shift 4 = .ok (.iload_n 1, 1) := by decide +kernel
theorem dX4_shift_5 : decode cX4_shift 5 = .ok (.iaload, 1) := by decide +kernel
theorem dX4_shift_6 : decode cX4_shift 6 = .ok (.istore_n 3, 1) := by decide +kernel
theorem dX4_shift_7 : decode cX4_shift 7 = .ok (.iload_n 1, 1) := by decide +kernel
theorem dX4_shift_8 : decode cX4_shift 8 = .ok (.istore 4, 2) := by decide +kernel
theorem dX4_shift_10 : decode cX4_shift 10 = .ok (.iload 4, 2) := by decide +kernel
theorem dX4_shift_12 : decode cX4_shift 12 = .ok (.iload_n 2, 1) := by decide +kernel
theorem dX4_shift_13 : decode cX4_shift 13 = .ok (.if_icmp .le 25, 3) := by decide +kernel
theorem dX4_shift_16 : decode cX4_shift 16 = .ok (.aload_n 0, 1) := by decide +kernel
theorem dX4_shift_17 : decode cX4_shift 17 = .ok (.getfield 9, 3) := by decide +kernel
theorem dX4_shift_20 : decode cX4_shift 20 = .ok (.iload 4, 2) := by decide +kernel
theorem dX4_shift_22 : decode cX4_shift 22 = .ok (.aload_n 0, 1) := by decide +kernel
theorem dX4_shift_23 : decode cX4_shift 23 = .ok (.getfield 9, 3) := by decide +kernel
theorem dX4_shift_26 : decode cX4_shift 26 = .ok (.iload 4, 2) := by decide +kernel
theorem dX4_shift_28 : decode cX4_shift 28 = .ok (.iconst 1, 1) := by decide +kernel
theorem dX4_shift_29 : decode cX4_shift 29 = .ok (.isub, 1) := by decide +kernel
theorem dX4_shift_30 : decode cX4_shift 30 = .ok (.iaload, 1) := by decide +kernel
theorem dX4_shift_31 : decode cX4_shift 31 = .ok (.iastore, 1) := by decide +kernel
theorem dX4_shift_32 : decode cX4_shift 32 = .ok (.iinc 4 (-1), 3) := by decide +kernel
theorem dX4_shift_35 : decode cX4_shift 35 = .ok (.goto (-25), 3) := by decide +kernel
theorem dX4_shift_38 : decode cX4_shift 38 = .ok (.iload_n 1, 1) := by decide +kernel
theorem dX4_shift_39 : decode cX4_shift 39 = .ok (.istore 4, 2) := by decide +kernel
theorem dX4_shift_41 : decode cX4_shift 41 = .ok (.iload 4, 2) := by decide +kernel
theorem dX4_shift_43 : decode cX4_shift 43 = .ok (.iload_n 2, 1) := by decide +kernel
theorem dX4_shift_44 : decode cX4_shift 44 = .ok (.if_icmp .ge 25, 3) := by decide +kernel
theorem dX4_shift_47 : decode cX4_shift 47 = .ok (.aload_n 0, 1) := by decide +kernel
theorem dX4_shift_48 : decode cX4_shift 48 = .ok (.getfield 9, 3) := by decide +kernel
theorem dX4_shift_51 : decode cX4_shift 51 = .ok (.iload 4, 2) := by decide +kernel
theorem dX4_shift_53 : decode cX4_shift 53 = .ok (.aload_n 0, 1) := by decide +kernel
theorem dX4_shift_54 : decode cX4_shift 54 = .ok (.getfield 9, 3) := by decide +kernel
theorem dX4_shift_57 : decode cX4_shift 57 = .ok (.iload 4, 2) := by decide +kernel
theorem dX4_shift_59 : decode cX4_shift 59 = .ok (.iconst 1, 1) := by decide +kernel
theorem dX4_shift_60 : decode cX4_shift 60 = .ok (.iadd, 1) := by decide +kernel
theorem dX4_shift_61 : decode cX4_shift 61 = .ok (.iaload, 1) := by decide +kernel
theorem dX4_shift_62 : decode cX4_shift 62 = .ok (.iastore, 1) := by decide +kernel
theorem dX4_shift_63 : decode cX4_shift 63 = .ok (.iinc 4 1, 3) := by decide +kernel
theorem dX4_shift_66 : decode cX4_shift 66 = .ok (.goto (-25), 3) := by decide +kernel
theorem dX4_shift_69 : decode cX4_shift 69 = .ok (.aload_n 0, 1) := by decide +kernel
theorem dX4_shift_70 : decode cX4_shift 70 = .ok (.getfield 9, 3) := by decide +kernel
theorem dX4_shift_73 : decode cX4_shift 73 = .ok (.iload_n 2, 1) := by decide +kernel
theorem dX4_shift_74 : decode cX4_shift 74 = .ok (.iload_n 3, 1) := by decide +kernel
theorem dX4_shift_75 : decode cX4_shift 75 = .ok (.iastore, 1) := by decide +kernel
theorem dX4_shift_76 : decode cX4_shift 76 = .ok (.return_, 1) := by decide +kernel
theorem dX4_standsAs_0 : decode cX4_standsAs 0 = .ok (.iconst 0, 1) := by decide +kernel
theorem dX4_standsAs_1 : decode cX4_standsAs 1 = .ok (.istore_n 2, 1) := by decide +kernel
theorem dX4_standsAs_2 : decode cX4_standsAs 2 = .ok (.iload_n 2, 1) := by decide +kernel
theorem dX4_standsAs_3 : decode cX4_standsAs 3 = .ok (.bipush 6, 2) := by decide +kernel
theorem dX4_standsAs_5 : decode cX4_standsAs 5 = .ok (.if_icmp .ge 26, 3) := by decide +kernel
theorem dX4_standsAs_8 : decode cX4_standsAs 8 = .ok (.aload_n 0, 1) := by decide +kernel
theorem dX4_standsAs_9 : decode cX4_standsAs 9 = .ok (.getfield 9, 3) := by decide +kernel
theorem dX4_standsAs_12 : decode cX4_standsAs 12 = .ok (.iload_n 2, 1) := by decide +kernel
theorem dX4_standsAs_13 : decode cX4_standsAs 13 = .ok (.iaload, 1) := by decide +kernel
theorem dX4_standsAs_14 : decode cX4_standsAs 14 = .ok (.aload_n 1, 1) := by decide +kernel
theorem dX4_standsAs_15 : decode cX4_standsAs 15 = .ok (.getfield 9, 3) := by decide +kernel
theorem dX4_standsAs_18 : decode cX4_standsAs 18 = .ok (.iload_n 2, 1) := by decide +kernel
theorem dX4_standsAs_19 : decode cX4_standsAs 19 = .ok (.iaload, 1) := by decide +kernel
theorem dX4_standsAs_20 : decode cX4_standsAs 20 = .ok (.if_icmp .eq 5, 3) := by decide +kernel
theorem dX4_standsAs_23 : decode cX4_standsAs 23 = .ok (.iconst 0, 1) := by decide +kernel
theorem dX4_standsAs_24 : decode cX4_standsAs 24 = .ok (.ireturn, 1) := by decide +kernel
theorem dX4_standsAs_25 : decode cX4_standsAs 25 = .ok (.iinc 2 1, 3) := by decide +kernel
theorem dX4_standsAs_28 : decode cX4_standsAs 28 = .ok (.goto (-26), 3) := by decide +kernel
theorem dX4_standsAs_31 : decode cX4_standsAs 31 = .ok (.iconst 1, 1) := by decide +kernel
theorem dX4_standsAs_32 : decode cX4_standsAs 32 = .ok (.ireturn, 1) := by decide +kernel
theorem dX5_init_0 : decode cX5_init 0 = .ok (.aload_n 0, 1) := by decide +kernel
theorem dX5_init_1 : decode cX5_init 1 = .ok (.invokespecial 3, 3) := by decide +kernel
theorem dX5_init_4 : decode cX5_init 4 = .ok (.aload_n 0, 1) := by decide +kernel
theorem dX5_init_5 : decode cX5_init 5 = .ok (.sipush 160, 3) := by decide +kernel
theorem dX5_init_8 : decode cX5_init 8 = .ok (.newarray .byte, 2) := by decide +kernel
theorem dX5_init_10 : decode cX5_init 10 = .ok (.putfield 9, 3) := by decide +kernel
theorem dX5_init_13 : decode cX5_init 13 = .ok (.return_, 1) := by decide +kernel
theorem dX5_tellTo_0 : decode cX5_tellTo 0 = .ok (.aload_n 1, 1) := by decide +kernel
theorem dX5_tellTo_1 : decode cX5_tellTo 1 = .ok (.invokevirtual 15, 3) := by decide +kernel
theorem dX5_tellTo_4 : decode cX5_tellTo 4 = .ok (.aload_n 0, 1) := by decide +kernel
theorem dX5_tellTo_5 : decode cX5_tellTo 5 = .ok (.iconst 0, 1) := by decide +kernel
theorem dX5_tellTo_6 : decode cX5_tellTo 6 = .ok (.putfield 20, 3) := by decide +kernel
theorem dX5_tellTo_9 : decode cX5_tellTo 9 = .ok (.aload_n 0, 1) := by decide +kernel
theorem dX5_tellTo_10 : decode cX5_tellTo 10 = .ok (.iconst 0, 1) := by decide +kernel
theorem dX5_tellTo_11 : decode cX5_tellTo 11 = .ok (.putfield 24, 3) := by decide +kernel
theorem dX5_tellTo_14 : decode cX5_tellTo 14 = .ok (.aload_n 0, 1) := by decide +kernel
theorem dX5_tellTo_15 : decode cX5_tellTo 15 = .ok (.iconst 0, 1) := by decide +kernel
theorem dX5_tellTo_16 : decode cX5_tellTo 16 = .ok (.putfield 27, 3) := by decide +kernel
theorem dX5_tellTo_19 : decode cX5_tellTo 19 = .ok (.aload_n 0, 1) := by decide +kernel
theorem dX5_tellTo_20 : decode cX5_tellTo 20 = .ok (.iconst 0, 1) := by decide +kernel
theorem dX5_tellTo_21 : decode cX5_tellTo 21 = .ok (.putfield 30, 3) := by decide +kernel
theorem dX5_tellTo_24 : decode cX5_tellTo 24 = .ok (.iconst 0, 1) := by decide +kernel
theorem dX5_tellTo_25 : decode cX5_tellTo 25 = .ok (.istore_n 2, 1) := by decide +kernel
theorem dX5_tellTo_26 : decode cX5_tellTo 26 = .ok (.iload_n 2, 1) := by decide +kernel
theorem dX5_tellTo_27 : decode cX5_tellTo 27 = .ok (.aload_n 0, 1) := by decide +kernel
theorem dX5_tellTo_28 : decode cX5_tellTo 28 = .ok (.getfield 34, 3) := by decide +kernel
theorem dX5_tellTo_31 : decode cX5_tellTo 31 = .ok (.if_icmp .gt 17, 3) := by decide +kernel
theorem dX5_tellTo_34 : decode cX5_tellTo 34 = .ok (.aload_n 0, 1) := by decide +kernel
theorem dX5_tellTo_35 : decode cX5_tellTo 35 = .ok (.aload_n 1, 1) := by decide +kernel
theorem dX5_tellTo_36 : decode cX5_tellTo 36 = .ok (.invokevirtual 37, 3) := by decide +kernel
theorem dX5_tellTo_39 : decode cX5_tellTo 39 = .ok (.ifCond .eq 9, 3) := by decide +kernel
theorem dX5_tellTo_42 : decode cX5_tellTo 42 = .ok (.iinc 2 1, 3) := by decide +kernel
theorem dX5_tellTo_45 : decode cX5_tellTo 45 = .ok (.goto (-19), 3) := by decide +kernel
theorem dX5_tellTo_48 : decode cX5_tellTo 48 = .ok (.aload_n 1, 1) := by decide +kernel
theorem dX5_tellTo_49 : decode cX5_tellTo 49 = .ok (.invokevirtual 41, 3) := by decide +kernel
theorem dX5_tellTo_52 : decode cX5_tellTo 52 = .ok (.ifCond .eq 10, 3) := by decide +kernel
theorem dX5_tellTo_55 : decode cX5_tellTo 55 = .ok (.aload_n 0, 1) := by decide +kernel
theorem dX5_tellTo_56 : decode cX5_tellTo 56 = .ok (.bipush 6, 2) := by decide +kernel
theorem dX5_tellTo_58 : decode cX5_tellTo 58 = .ok (.invokevirtual 45, 3) := by decide +kernel
theorem dX5_tellTo_61 : decode cX5_tellTo 61 = .ok (.pop, 1) := by decide +kernel
theorem dX5_tellTo_62 : decode cX5_tellTo 62 = .ok (.iload_n 2, 1) := by decide +kernel
theorem dX5_tellTo_63 : decode cX5_tellTo 63 = .ok (.ireturn, 1) := by decide +kernel
theorem dX5_takeLine_0 : decode cX5_takeLine 0 = .ok (.aload_n 0, 1) := by decide +kernel
theorem dX5_takeLine_1 : decode cX5_takeLine 1 = .ok (.invokevirtual 49, 3) := by decide +kernel
theorem dX5_takeLine_4 : decode cX5_takeLine 4 = .ok (.aload_n 0, 1) := by decide +kernel
theorem dX5_takeLine_5 : decode cX5_takeLine 5 = .ok (.getfield 52, 3) := by decide +kernel
theorem dX5_takeLine_8 : decode cX5_takeLine 8 = .ok (.iconst 3, 1) := by decide +kernel
theorem dX5_takeLine_9 : decode cX5_takeLine 9 = .ok (.if_icmp .ne 5, 3) := by decide +kernel
theorem dX5_takeLine_12 : decode cX5_takeLine 12 = .ok (.iconst 0, 1) := by decide +kernel
theorem dX5_takeLine_13 : decode cX5_takeLine 13 = .ok (.ireturn, 1) := by decide +kernel
theorem dX5_takeLine_14 : decode cX5_takeLine 14 = .ok (.aload_n 0, 1) := by decide +kernel
theorem dX5_takeLine_15 : decode cX5_takeLine 15 = .ok (.getfield 52, 3) := by decide +kernel
theorem dX5_takeLine_18 : decode cX5_takeLine 18 = .ok (.ifCond .eq 9, 3) := by decide +kernel
theorem dX5_takeLine_21 : decode cX5_takeLine 21 = .ok (.aload_n 0, 1) := by decide +kernel
theorem dX5_takeLine_22 : decode cX5_takeLine 22 = .ok (.iconst 2, 1) := by decide +kernel
theorem dX5_takeLine_23 : decode cX5_takeLine 23 = .ok (.invokevirtual 45, 3) := by decide +kernel
theorem dX5_takeLine_26 : decode cX5_takeLine 26 = .ok (.ireturn, 1) := by decide +kernel
theorem dX5_takeLine_27 : decode cX5_takeLine 27 = .ok (.aload_n 0, 1) := by decide +kernel
theorem dX5_takeLine_28 : decode cX5_takeLine 28 = .ok (.ldc 55, 2) := by decide +kernel
theorem dX5_takeLine_30 : decode cX5_takeLine 30 = .ok (.invokevirtual 57, 3) := by decide +kernel
theorem dX5_takeLine_33 : decode cX5_takeLine 33 = .ok (.ifCond .eq 9, 3) := by decide +kernel
theorem dX5_takeLine_36 : decode cX5_takeLine 36 = .ok (.aload_n 0, 1) := by decide +kernel
theorem dX5_takeLine_37 : decode cX5_takeLine 37 = .ok (.aload_n 1, 1) := by decide +kernel
theorem dX5_takeLine_38 : decode cX5_takeLine 38 = .ok (.invokevirtual 61, 3) := by decide +kernel
theorem dX5_takeLine_41 : decode cX5_takeLine 41 = .ok (.ireturn, 1) := by decide +kernel
theorem dX5_takeLine_42 : decode cX5_takeLine 42 = .ok (.aload_n 0, 1) := by decide +kernel
theorem dX5_takeLine_43 : decode cX5_takeLine 43 = .ok (.ldc 64, 2) := by decide +kernel
theorem dX5_takeLine_45 : decode cX5_takeLine 45 = .ok (.invokevirtual 57, 3) := by decide +kernel
theorem dX5_takeLine_48 : decode cX5_takeLine 48 = .ok (.ifCond .eq 9, 3) := by decide +kernel
theorem dX5_takeLine_51 : decode cX5_takeLine 51 = .ok (.aload_n 0, 1) := by decide +kernel
theorem dX5_takeLine_52 : decode cX5_takeLine 52 = .ok (.aload_n 1, 1) := by decide +kernel
theorem dX5_takeLine_53 : decode cX5_takeLine 53 = .ok (.invokevirtual 66, 3) := by decide +kernel
theorem dX5_takeLine_56 : decode cX5_takeLine 56 = .ok (.ireturn, 1) := by decide +kernel
theorem dX5_takeLine_57 : decode cX5_takeLine 57 = .ok (.aload_n 0, 1) := by decide +kernel
theorem dX5_takeLine_58 : decode cX5_takeLine 58 = .ok (.invokevirtual 69, 3) := by decide +kernel
theorem dX5_takeLine_61 : decode cX5_takeLine 61 = .ok (.istore_n 2, 1) := by decide +kernel
theorem dX5_takeLine_62 : decode cX5_takeLine 62 = .ok (.iload_n 2, 1) := by decide +kernel
theorem dX5_takeLine_63 : decode cX5_takeLine 63 = .ok (.iconst (-1), 1) := by decide +kernel
theorem dX5_takeLine_64 : decode cX5_takeLine 64 = .ok (.if_icmp .ne 11, 3) := by decide +kernel
theorem dX5_takeLine_67 : decode cX5_takeLine 67 = .ok (.aload_n 0, 1) := by decide +kernel
theorem dX5_takeLine_68 : decode cX5_takeLine 68 = .ok (.iconst 2, 1) := by decide +kernel
theorem dX5_takeLine_69 : decode cX5_takeLine 69 = .ok (.invokevirtual 45, 3) := by decide +kernel
theorem dX5_takeLine_72 : decode cX5_takeLine 72 = .ok (.goto 9, 3) := by decide +kernel
theorem dX5_takeLine_75 : decode cX5_takeLine 75 = .ok (.aload_n 0, 1) := by decide +kernel
theorem dX5_takeLine_76 : decode cX5_takeLine 76 = .ok (.aload_n 1, 1) := by decide +kernel
theorem dX5_takeLine_77 : decode cX5_takeLine 77 = .ok (.iload_n 2, 1) := by decide +kernel
theorem dX5_takeLine_78 : decode cX5_takeLine 78 = .ok (.invokevirtual 73, 3) := by decide +kernel
theorem dX5_takeLine_81 : decode cX5_takeLine 81 = .ok (.ireturn, 1) := by decide +kernel
theorem dX5_takeShelf_0 : decode cX5_takeShelf 0 = .ok (.aload_n 1, 1) := by decide +kernel
theorem dX5_takeShelf_1 : decode cX5_takeShelf 1 = .ok (.iload_n 2, 1) := by decide +kernel
theorem dX5_takeShelf_2 : decode cX5_takeShelf 2 = .ok (.invokevirtual 77, 3) := by decide +kernel
theorem dX5_takeShelf_5 : decode cX5_takeShelf 5 = .ok (.ifCond .ne 9, 3) := by decide +kernel
theorem dX5_takeShelf_8 : decode cX5_takeShelf 8 = .ok (.aload_n 0, 1) := by decide +kernel
theorem dX5_takeShelf_9 : decode cX5_takeShelf 9 = .ok (.iconst 5, 1) := by decide +kernel
theorem dX5_takeShelf_10 : decode cX5_takeShelf 10 = .ok (.invokevirtual 45, 3) := by decide +kernel
theorem dX5_takeShelf_13 : decode cX5_takeShelf 13 = .ok (.ireturn, 1) := by decide +kernel
theorem dX5_takeShelf_14 : decode cX5_takeShelf 14 = .ok (.aload_n 0, 1) := by decide +kernel
theorem dX5_takeShelf_15 : decode cX5_takeShelf 15 = .ok (.invokevirtual 80, 3) := by decide +kernel
theorem dX5_takeShelf_18 : decode cX5_takeShelf 18 = .ok (.ireturn, 1) := by decide +kernel
theorem dX5_takeBooks_0 : decode cX5_takeBooks 0 = .ok (.aload_n 0, 1) := by decide +kernel
theorem dX5_takeBooks_1 : decode cX5_takeBooks 1 = .ok (.getfield 30, 3) := by decide +kernel
theorem dX5_takeBooks_4 : decode cX5_takeBooks 4 = .ok (.ifCond .eq 9, 3) := by decide +kernel
theorem dX5_takeBooks_7 : decode cX5_takeBooks 7 = .ok (.aload_n 0, 1) := by decide +kernel
theorem dX5_takeBooks_8 : decode cX5_takeBooks 8 = .ok (.iconst 4, 1) := by decide +kernel
theorem dX5_takeBooks_9 : decode cX5_takeBooks 9 = .ok (.invokevirtual 45, 3) := by decide +kernel
theorem dX5_takeBooks_12 : decode cX5_takeBooks 12 = .ok (.ireturn, 1) := by decide +kernel
theorem dX5_takeBooks_13 : decode cX5_takeBooks 13 = .ok (.aload_n 0, 1) := by decide +kernel
theorem dX5_takeBooks_14 : decode cX5_takeBooks 14 = .ok (.iconst 1, 1) := by decide +kernel
theorem dX5_takeBooks_15 : decode cX5_takeBooks 15 = .ok (.putfield 30, 3) := by decide +kernel
theorem dX5_takeBooks_18 : decode cX5_takeBooks 18 = .ok (.aload_n 0, 1) := by decide +kernel
theorem dX5_takeBooks_19 : decode cX5_takeBooks 19 = .ok (.invokevirtual 49, 3) := by decide +kernel
theorem dX5_takeBooks_22 : decode cX5_takeBooks 22 = .ok (.aload_n 0, 1) := by decide +kernel
theorem dX5_takeBooks_23 : decode cX5_takeBooks 23 = .ok (.getfield 52, 3) := by decide +kernel
theorem dX5_takeBooks_26 : decode cX5_takeBooks 26 = .ok (.iconst 1, 1) := by decide +kernel
theorem dX5_takeBooks_27 : decode cX5_takeBooks 27 = .ok (.if_icmp .eq 9, 3) := by decide +kernel
theorem dX5_takeBooks_30 : decode cX5_takeBooks 30 = .ok (.aload_n 0, 1) := by decide +kernel
theorem dX5_takeBooks_31 : decode cX5_takeBooks 31 = .ok (.iconst 2, 1) := by decide +kernel
theorem dX5_takeBooks_32 : decode cX5_takeBooks 32 = .ok (.invokevirtual 45, 3) := by decide +kernel
theorem dX5_takeBooks_35 : decode cX5_takeBooks 35 = .ok (.ireturn, 1) := by decide +kernel
theorem dX5_takeBooks_36 : decode cX5_takeBooks 36 = .ok (.aload_n 0, 1) := by decide +kernel
theorem dX5_takeBooks_37 : decode cX5_takeBooks 37 = .ok (.getfield 83, 3) := by decide +kernel
theorem dX5_takeBooks_40 : decode cX5_takeBooks 40 = .ok (.iconst 1, 1) := by decide +kernel
theorem dX5_takeBooks_41 : decode cX5_takeBooks 41 = .ok (.if_icmp .lt 12, 3) := by decide +kernel
theorem dX5_takeBooks_44 : decode cX5_takeBooks 44 = .ok (.aload_n 0, 1) := by decide +kernel
theorem dX5_takeBooks_45 : decode cX5_takeBooks 45 = .ok (.getfield 83, 3) := by decide +kernel
theorem dX5_takeBooks_48 : decode cX5_takeBooks 48 = .ok (.bipush 6, 2) := by decide +kernel
theorem dX5_takeBooks_50 : decode cX5_takeBooks 50 = .ok (.if_icmp .le 9, 3) := by decide +kernel
theorem dX5_takeBooks_53 : decode cX5_takeBooks 53 = .ok (.aload_n 0, 1) := by decide +kernel
theorem dX5_takeBooks_54 : decode cX5_takeBooks 54 = .ok (.iconst 3, 1) := by decide +kernel
theorem dX5_takeBooks_55 : decode cX5_takeBooks 55 = .ok (.invokevirtual 45, 3) := by decide +kernel
theorem dX5_takeBooks_58 : decode cX5_takeBooks 58 = .ok (.ireturn, 1) := by decide +kernel
theorem dX5_takeBooks_59 : decode cX5_takeBooks 59 = .ok (.aload_n 1, 1) := by decide +kernel
theorem dX5_takeBooks_60 : decode cX5_takeBooks 60 = .ok (.aload_n 0, 1) := by decide +kernel
theorem dX5_takeBooks_61 : decode cX5_takeBooks 61 = .ok (.getfield 83, 3) := by decide +kernel
theorem dX5_takeBooks_64 : decode cX5_takeBooks 64 = .ok (.putfield 86, 3) := by decide +kernel
theorem dX5_takeBooks_67 : decode cX5_takeBooks 67 = .ok (.aload_n 0, 1) := by decide +kernel
theorem dX5_takeBooks_68 : decode cX5_takeBooks 68 = .ok (.invokevirtual 80, 3) := by decide +kernel
theorem dX5_takeBooks_71 : decode cX5_takeBooks 71 = .ok (.ireturn, 1) := by decide +kernel
theorem dX5_takeWants_0 : decode cX5_takeWants 0 = .ok (.iconst 0, 1) := by decide +kernel
theorem dX5_takeWants_1 : decode cX5_takeWants 1 = .ok (.istore_n 2, 1) := by decide +kernel
theorem dX5_takeWants_2 : decode cX5_takeWants 2 = .ok (.iload_n 2, 1) := by decide +kernel
theorem dX5_takeWants_3 : decode cX5_takeWants 3 = .ok (.bipush 16, 2) := by decide +kernel
theorem dX5_takeWants_5 : decode cX5_takeWants 5 = .ok (.if_icmp .gt 76, 3) := by decide +kernel
theorem dX5_takeWants_8 : decode cX5_takeWants 8 = .ok (.aload_n 0, 1) := by decide +kernel
theorem dX5_takeWants_9 : decode cX5_takeWants 9 = .ok (.invokevirtual 49, 3) := by decide +kernel
theorem dX5_takeWants_12 : decode cX5_takeWants 12 = .ok (.aload_n 0, 1) := by decide +kernel
theorem dX5_takeWants_13 : decode cX5_takeWants 13 = .ok (.getfield 52, 3) := by decide +kernel
theorem dX5_takeWants_16 : decode cX5_takeWants 16 = .ok (.iconst 2, 1) := by decide +kernel
theorem dX5_takeWants_17 : decode cX5_takeWants 17 = .ok (.if_icmp .ne 5, 3) := by decide +kernel
theorem dX5_takeWants_20 : decode cX5_takeWants 20 = .ok (.iconst 1, 1) := by decide +kernel
theorem dX5_takeWants_21 : decode cX5_takeWants 21 = .ok (.ireturn, 1) := by decide +kernel
theorem dX5_takeWants_22 : decode cX5_takeWants 22 = .ok (.aload_n 0, 1) := by decide +kernel
theorem dX5_takeWants_23 : decode cX5_takeWants 23 = .ok (.getfield 52, 3) := by decide +kernel
theorem dX5_takeWants_26 : decode cX5_takeWants 26 = .ok (.iconst 1, 1) := by decide +kernel
theorem dX5_takeWants_27 : decode cX5_takeWants 27 = .ok (.if_icmp .eq 9, 3) := by decide +kernel
theorem dX5_takeWants_30 : decode cX5_takeWants 30 = .ok (.aload_n 0, 1) := by decide +kernel
theorem dX5_takeWants_31 : decode cX5_takeWants 31 = .ok (.iconst 2, 1) := by decide +kernel
theorem dX5_takeWants_32 : decode cX5_takeWants 32 = .ok (.invokevirtual 45, 3) := by decide +kernel
theorem dX5_takeWants_35 : decode cX5_takeWants 35 = .ok (.ireturn, 1) := by decide +kernel
theorem dX5_takeWants_36 : decode cX5_takeWants 36 = .ok (.aload_n 1, 1) := by decide +kernel
theorem dX5_takeWants_37 : decode cX5_takeWants 37 = .ok (.getfield 89, 3) := by decide +kernel
theorem dX5_takeWants_40 : decode cX5_takeWants 40 = .ok (.bipush 16, 2) := by decide +kernel
theorem dX5_takeWants_42 : decode cX5_takeWants 42 = .ok (.if_icmp .lt 9, 3) := by decide +kernel
theorem dX5_takeWants_45 : decode cX5_takeWants 45 = .ok (.aload_n 0, 1) := by decide +kernel
theorem dX5_takeWants_46 : decode cX5_takeWants 46 = .ok (.iconst 5, 1) := by decide +kernel
theorem dX5_takeWants_47 : decode cX5_takeWants 47 = .ok (.invokevirtual 45, 3) := by decide +kernel
theorem dX5_takeWants_50 : decode cX5_takeWants 50 = .ok (.ireturn, 1) := by decide +kernel
theorem dX5_takeWants_51 : decode cX5_takeWants 51 = .ok (.aload_n 0, 1) := by decide +kernel
theorem dX5_takeWants_52 : decode cX5_takeWants 52 = .ok (.getfield 83, 3) := by decide +kernel
theorem dX5_takeWants_55 : decode cX5_takeWants 55 = .ok (.bipush 6, 2) := by decide +kernel
theorem dX5_takeWants_57 : decode cX5_takeWants 57 = .ok (.if_icmp .lt 9, 3) := by decide +kernel
theorem dX5_takeWants_60 : decode cX5_takeWants 60 = .ok (.aload_n 0, 1) := by decide +kernel
theorem dX5_takeWants_61 : decode cX5_takeWants 61 = .ok (.iconst 3, 1) := by decide +kernel
theorem dX5_takeWants_62 : decode cX5_takeWants 62 = .ok (.invokevirtual 45, 3) := by decide +kernel
theorem dX5_takeWants_65 : decode cX5_takeWants 65 = .ok (.ireturn, 1) := by decide +kernel
theorem dX5_takeWants_66 : decode cX5_takeWants 66 = .ok (.aload_n 1, 1) := by decide +kernel
theorem dX5_takeWants_67 : decode cX5_takeWants 67 = .ok (.aload_n 0, 1) := by decide +kernel
theorem dX5_takeWants_68 : decode cX5_takeWants 68 = .ok (.getfield 83, 3) := by decide +kernel
theorem dX5_takeWants_71 : decode cX5_takeWants 71 = .ok (.invokevirtual 92, 3) := by decide +kernel
theorem dX5_takeWants_74 : decode cX5_takeWants 74 = .ok (.pop, 1) := by decide +kernel
theorem dX5_takeWants_75 : decode cX5_takeWants 75 = .ok (.iinc 2 1, 3) := by decide +kernel
theorem dX5_takeWants_78 : decode cX5_takeWants 78 = .ok (.goto (-76), 3) := by decide +kernel
theorem dX5_takeWants_81 : decode cX5_takeWants 81 = .ok (.iconst 0, 1) := by decide +kernel
theorem dX5_takeWants_82 : decode cX5_takeWants 82 = .ok (.ireturn, 1) := by decide +kernel
theorem dX5_takeSemicolon_0 : decode cX5_takeSemicolon 0 = .ok (.aload_n 0, 1) := by decide +kernel
theorem dX5_takeSemicolon_1 : decode cX5_takeSemicolon 1 = .ok (.invokevirtual 49, 3) := by decide +kernel
theorem dX5_takeSemicolon_4 : decode cX5_takeSemicolon 4 = .ok (.aload_n 0, 1) := by decide +kernel
theorem dX5_takeSemicolon_5 : decode cX5_takeSemicolon 5 = .ok (.getfield 52, 3) := by decide +kernel
theorem dX5_takeSemicolon_8 : decode cX5_takeSemicolon 8 = .ok (.iconst 2, 1) := by decide +kernel
theorem dX5_takeSemicolon_9 : decode cX5_takeSemicolon 9 = .ok (.if_icmp .eq 11, 3) := by decide +kernel
theorem dX5_takeSemicolon_12 : decode cX5_takeSemicolon 12 = .ok (.aload_n 0, 1) := by decide +kernel
theorem dX5_takeSemicolon_13 : decode cX5_takeSemicolon 13 = .ok (.iconst 2, 1) := by decide +kernel
theorem dX5_takeSemicolon_14 : decode cX5_takeSemicolon 14 = .ok (.invokevirtual 45, 3) := by decide +kernel
theorem dX5_takeSemicolon_17 : decode cX5_takeSemicolon 17 = .ok (.ifCond .eq 7, 3) := by decide +kernel
theorem dX5_takeSemicolon_20 : decode cX5_takeSemicolon 20 = .ok (.iconst 1, 1) := by decide +kernel
theorem dX5_takeSemicolon_21 : decode cX5_takeSemicolon 21 = .ok (.goto 4, 3) := by decide +kernel
theorem dX5_takeSemicolon_24 : decode cX5_takeSemicolon 24 = .ok (.iconst 0, 1) := by decide +kernel
theorem dX5_takeSemicolon_25 : decode cX5_takeSemicolon 25 = .ok (.ireturn, 1) := by decide +kernel
theorem dX5_refuse_0 : decode cX5_refuse 0 = .ok (.aload_n 0, 1) := by decide +kernel
theorem dX5_refuse_1 : decode cX5_refuse 1 = .ok (.getfield 24, 3) := by decide +kernel
theorem dX5_refuse_4 : decode cX5_refuse 4 = .ok (.ifCond .ne 16, 3) := by decide +kernel
theorem dX5_refuse_7 : decode cX5_refuse 7 = .ok (.aload_n 0, 1) := by decide +kernel
theorem dX5_refuse_8 : decode cX5_refuse 8 = .ok (.iload_n 1, 1) := by decide +kernel
theorem dX5_refuse_9 : decode cX5_refuse 9 = .ok (.putfield 24, 3) := by decide +kernel
theorem dX5_refuse_12 : decode cX5_refuse 12 = .ok (.aload_n 0, 1) := by decide +kernel
theorem dX5_refuse_13 : decode cX5_refuse 13 = .ok (.aload_n 0, 1) := by decide +kernel
theorem dX5_refuse_14 : decode cX5_refuse 14 = .ok (.getfield 95, 3) := by decide +kernel
theorem dX5_refuse_17 : decode cX5_refuse 17 = .ok (.putfield 27, 3) := by decide +kernel
theorem dX5_refuse_20 : decode cX5_refuse 20 = .ok (.iconst 0, 1) := by decide +kernel
theorem dX5_refuse_21 : decode cX5_refuse 21 = .ok (.ireturn, 1) := by decide +kernel
theorem dX5_kindNamed_0 : decode cX5_kindNamed 0 = .ok (.aload_n 0, 1) := by decide +kernel
theorem dX5_kindNamed_1 : decode cX5_kindNamed 1 = .ok (.ldc 98, 2) := by decide +kernel
theorem dX5_kindNamed_3 : decode cX5_kindNamed 3 = .ok (.invokevirtual 57, 3) := by decide +kernel
theorem dX5_kindNamed_6 : decode cX5_kindNamed 6 = .ok (.ifCond .eq 5, 3) := by decide +kernel
theorem dX5_kindNamed_9 : decode cX5_kindNamed 9 = .ok (.iconst 0, 1) := by decide +kernel
theorem dX5_kindNamed_10 : decode cX5_kindNamed 10 = .ok (.ireturn, 1) := by decide +kernel
theorem dX5_kindNamed_11 : decode cX5_kindNamed 11 = .ok (.aload_n 0, 1) := by decide +kernel
theorem dX5_kindNamed_12 : decode cX5_kindNamed 12 = .ok (.ldc 100, 2) := by decide +kernel
theorem dX5_kindNamed_14 : decode cX5_kindNamed 14 = .ok (.invokevirtual 57, 3) := by decide +kernel
theorem dX5_kindNamed_17 : decode cX5_kindNamed 17 = .ok (.ifCond .eq 5, 3) := by decide +kernel
theorem dX5_kindNamed_20 : decode cX5_kindNamed 20 = .ok (.iconst 1, 1) := by decide +kernel
theorem dX5_kindNamed_21 : decode cX5_kindNamed 21 = .ok (.ireturn, 1) := by decide +kernel
theorem dX5_kindNamed_22 : decode cX5_kindNamed 22 = .ok (.aload_n 0, 1) := by decide +kernel
theorem dX5_kindNamed_23 : decode cX5_kindNamed 23 = .ok (.ldc 102, 2) := by decide +kernel
theorem dX5_kindNamed_25 : decode cX5_kindNamed 25 = .ok (.invokevirtual 57, 3) := by decide +kernel
theorem dX5_kindNamed_28 : decode cX5_kindNamed 28 = .ok (.ifCond .eq 5, 3) := by decide +kernel
theorem dX5_kindNamed_31 : decode cX5_kindNamed 31 = .ok (.iconst 2, 1) := by decide +kernel
theorem dX5_kindNamed_32 : decode cX5_kindNamed 32 = .ok (.ireturn, 1) := by decide +kernel
theorem dX5_kindNamed_33 : decode cX5_kindNamed 33 = .ok (.aload_n 0, 1) := by decide +kernel
theorem dX5_kindNamed_34 : decode cX5_kindNamed 34 = .ok (.ldc 104, 2) := by decide +kernel
theorem dX5_kindNamed_36 : decode cX5_kindNamed 36 = .ok (.invokevirtual 57, 3) := by decide +kernel
theorem dX5_kindNamed_39 : decode cX5_kindNamed 39 = .ok (.ifCond .eq 7, 3) := by decide +kernel
theorem dX5_kindNamed_42 : decode cX5_kindNamed 42 = .ok (.iconst 3, 1) := by decide +kernel
theorem dX5_kindNamed_43 : decode cX5_kindNamed 43 = .ok (.goto 4, 3) := by decide +kernel
theorem dX5_kindNamed_46 : decode cX5_kindNamed 46 = .ok (.iconst (-1), 1) := by decide +kernel
theorem dX5_kindNamed_47 : decode cX5_kindNamed 47 = .ok (.ireturn, 1) := by decide +kernel
theorem dX5_isNamed_0 : decode cX5_isNamed 0 = .ok (.aload_n 0, 1) := by decide +kernel
theorem dX5_isNamed_1 : decode cX5_isNamed 1 = .ok (.getfield 20, 3) := by decide +kernel
theorem dX5_isNamed_4 : decode cX5_isNamed 4 = .ok (.aload_n 0, 1) := by decide +kernel
theorem dX5_isNamed_5 : decode cX5_isNamed 5 = .ok (.getfield 95, 3) := by decide +kernel
theorem dX5_isNamed_8 : decode cX5_isNamed 8 = .ok (.isub, 1) := by decide +kernel
theorem dX5_isNamed_9 : decode cX5_isNamed 9 = .ok (.aload_n 1, 1) := by decide +kernel
theorem dX5_isNamed_10 : decode cX5_isNamed 10 = .ok (.invokevirtual 106, 3) := by decide +kernel
theorem dX5_isNamed_13 : decode cX5_isNamed 13 = .ok (.if_icmp .eq 5, 3) := by decide +kernel
theorem dX5_isNamed_16 : decode cX5_isNamed 16 = .ok (.iconst 0, 1) := by decide +kernel
theorem dX5_isNamed_17 : decode cX5_isNamed 17 = .ok (.ireturn, 1) := by decide +kernel
theorem dX5_isNamed_18 : decode cX5_isNamed 18 = .ok (.iconst 0, 1) := by decide +kernel
theorem dX5_isNamed_19 : decode cX5_isNamed 19 = .ok (.istore_n 2, 1) := by decide +kernel
theorem dX5_isNamed_20 : decode cX5_isNamed 20 = .ok (.iload_n 2, 1) := by decide +kernel
theorem dX5_isNamed_21 : decode cX5_isNamed 21 = .ok (.aload_n 1, 1) := by decide +kernel
theorem dX5_isNamed_22 : decode cX5_isNamed 22 = .ok (.invokevirtual 106, 3) := by decide +kernel
theorem dX5_isNamed_25 : decode cX5_isNamed 25 = .ok (.if_icmp .ge 30, 3) := by decide +kernel
theorem dX5_isNamed_28 : decode cX5_isNamed 28 = .ok (.aload_n 0, 1) := by decide +kernel
theorem dX5_isNamed_29 : decode cX5_isNamed 29 = .ok (.getfield 9, 3) := by decide +kernel
theorem dX5_isNamed_32 : decode cX5_isNamed 32 = .ok (.aload_n 0, 1) := by decide +kernel
theorem dX5_isNamed_33 : decode cX5_isNamed 33 = .ok (.getfield 95, 3) := by decide +kernel
theorem dX5_isNamed_36 : decode cX5_isNamed 36 = .ok (.iload_n 2, 1) := by decide +kernel
theorem dX5_isNamed_37 : decode cX5_isNamed 37 = .ok (.iadd, 1) := by decide +kernel
theorem dX5_isNamed_38 : decode cX5_isNamed 38 = .ok (.baload, 1) := by decide +kernel
theorem dX5_isNamed_39 : decode cX5_isNamed 39 = .ok (.aload_n 1, 1) := by decide +kernel
theorem dX5_isNamed_40 : decode cX5_isNamed 40 = .ok (.iload_n 2, 1) := by decide +kernel
theorem dX5_isNamed_41 : decode cX5_isNamed 41 = .ok (.invokevirtual 110, 3) := by decide +kernel
theorem dX5_isNamed_44 : decode cX5_isNamed 44 = .ok (.if_icmp .eq 5, 3) := by decide +kernel
theorem dX5_isNamed_47 : decode cX5_isNamed 47 = .ok (.iconst 0, 1) := by decide +kernel
theorem dX5_isNamed_48 : decode cX5_isNamed 48 = .ok (.ireturn, 1) := by decide +kernel
theorem dX5_isNamed_49 : decode cX5_isNamed 49 = .ok (.iinc 2 1, 3) := by decide +kernel
theorem dX5_isNamed_52 : decode cX5_isNamed 52 = .ok (.goto (-32), 3) := by decide +kernel
theorem dX5_isNamed_55 : decode cX5_isNamed 55 = .ok (.iconst 1, 1) := by decide +kernel
theorem dX5_isNamed_56 : decode cX5_isNamed 56 = .ok (.ireturn, 1) := by decide +kernel
theorem dX5_scan_0 : decode cX5_scan 0 = .ok (.aload_n 0, 1) := by decide +kernel
theorem dX5_scan_1 : decode cX5_scan 1 = .ok (.getfield 20, 3) := by decide +kernel
theorem dX5_scan_4 : decode cX5_scan 4 = .ok (.aload_n 0, 1) := by decide +kernel
theorem dX5_scan_5 : decode cX5_scan 5 = .ok (.getfield 34, 3) := by decide +kernel
theorem dX5_scan_8 : decode cX5_scan 8 = .ok (.if_icmp .ge 30, 3) := by decide +kernel
theorem dX5_scan_11 : decode cX5_scan 11 = .ok (.aload_n 0, 1) := by decide +kernel
theorem dX5_scan_12 : decode cX5_scan 12 = .ok (.getfield 9, 3) := by decide +kernel
theorem dX5_scan_15 : decode cX5_scan 15 = .ok (.aload_n 0, 1) := by decide +kernel
theorem dX5_scan_16 : decode cX5_scan 16 = .ok (.getfield 20, 3) := by decide +kernel
theorem dX5_scan_19 : decode cX5_scan 19 = .ok (.baload, 1) := by decide +kernel
theorem dX5_scan_20 : decode cX5_scan 20 = .ok (.bipush 32, 2) := by decide +kernel
theorem dX5_scan_22 : decode cX5_scan 22 = .ok (.if_icmp .ne 16, 3) := by decide +kernel
theorem dX5_scan_25 : decode cX5_scan 25 = .ok (.aload_n 0, 1) := by decide +kernel
theorem dX5_scan_26 : decode cX5_scan 26 = .ok (.dup, 1) := by decide +kernel
theorem dX5_scan_27 : decode cX5_scan 27 = .ok (.getfield 20, 3) := by decide +kernel
theorem dX5_scan_30 : decode cX5_scan 30 = .ok (.iconst 1, 1) := by decide +kernel
theorem dX5_scan_31 : decode cX5_scan 31 = .ok (.iadd, 1) := by decide +kernel
theorem dX5_scan_32 : decode cX5_scan 32 = .ok (.putfield 20, 3) := by decide +kernel
theorem dX5_scan_35 : decode cX5_scan 35 = .ok (.goto (-35), 3) := by decide +kernel
theorem dX5_scan_38 : decode cX5_scan 38 = .ok (.aload_n 0, 1) := by decide +kernel
theorem dX5_scan_39 : decode cX5_scan 39 = .ok (.aload_n 0, 1) := by decide +kernel
theorem dX5_scan_40 : decode cX5_scan 40 = .ok (.getfield 20, 3) := by decide +kernel
theorem dX5_scan_43 : decode cX5_scan 43 = .ok (.putfield 95, 3) := by decide +kernel
theorem dX5_scan_46 : decode cX5_scan 46 = .ok (.aload_n 0, 1) := by decide +kernel
theorem dX5_scan_47 : decode cX5_scan 47 = .ok (.getfield 20, 3) := by decide +kernel
theorem dX5_scan_50 : decode cX5_scan 50 = .ok (.aload_n 0, 1) := by decide +kernel
theorem dX5_scan_51 : decode cX5_scan 51 = .ok (.getfield 34, 3) := by decide +kernel
theorem dX5_scan_54 : decode cX5_scan 54 = .ok (.if_icmp .lt 11, 3) := by decide +kernel
theorem dX5_scan_57 : decode cX5_scan 57 = .ok (.aload_n 0, 1) := by decide +kernel
theorem dX5_scan_58 : decode cX5_scan 58 = .ok (.iconst 3, 1) := by decide +kernel
theorem dX5_scan_59 : decode cX5_scan 59 = .ok (.putfield 52, 3) := by decide +kernel
theorem dX5_scan_62 : decode cX5_scan 62 = .ok (.goto 90, 3) := by decide +kernel
theorem dX5_scan_65 : decode cX5_scan 65 = .ok (.aload_n 0, 1) := by decide +kernel
theorem dX5_scan_66 : decode cX5_scan 66 = .ok (.getfield 9, 3) := by decide +kernel
theorem dX5_scan_69 : decode cX5_scan 69 = .ok (.aload_n 0, 1) := by decide +kernel
theorem dX5_scan_70 : decode cX5_scan 70 = .ok (.getfield 20, 3) := by decide +kernel
theorem dX5_scan_73 : decode cX5_scan 73 = .ok (.baload, 1) := by decide +kernel
theorem dX5_scan_74 : decode cX5_scan 74 = .ok (.bipush 59, 2) := by decide +kernel
theorem dX5_scan_76 : decode cX5_scan 76 = .ok (.if_icmp .ne 21, 3) := by decide +kernel
theorem dX5_scan_79 : decode cX5_scan 79 = .ok (.aload_n 0, 1) := by decide +kernel
theorem dX5_scan_80 : decode cX5_scan 80 = .ok (.dup, 1) := by decide +kernel
theorem dX5_scan_81 : decode cX5_scan 81 = .ok (.getfield 20, 3) := by decide +kernel
theorem dX5_scan_84 : decode cX5_scan 84 = .ok (.iconst 1, 1) := by decide +kernel
theorem dX5_scan_85 : decode cX5_scan 85 = .ok (.iadd, 1) := by decide +kernel
theorem dX5_scan_86 : decode cX5_scan 86 = .ok (.putfield 20, 3) := by decide +kernel
theorem dX5_scan_89 : decode cX5_scan 89 = .ok (.aload_n 0, 1) := by decide +kernel
theorem dX5_scan_90 : decode cX5_scan 90 = .ok (.iconst 2, 1) := by decide +kernel
theorem dX5_scan_91 : decode cX5_scan 91 = .ok (.putfield 52, 3) := by decide +kernel
theorem dX5_scan_94 : decode cX5_scan 94 = .ok (.goto 58, 3) := by decide +kernel
theorem dX5_scan_97 : decode cX5_scan 97 = .ok (.aload_n 0, 1) := by decide +kernel
theorem dX5_scan_98 : decode cX5_scan 98 = .ok (.getfield 9, 3) := by decide +kernel
theorem dX5_scan_101 : decode cX5_scan 101 = .ok (.aload_n 0, 1) := by decide +kernel
theorem dX5_scan_102 : decode cX5_scan 102 = .ok (.getfield 20, 3) := by decide +kernel
theorem dX5_scan_105 : decode cX5_scan 105 = .ok (.baload, 1) := by decide +kernel
theorem dX5_scan_106 : decode cX5_scan 106 = .ok (.invokestatic 114, 3) := by decide +kernel
theorem dX5_scan_109 : decode cX5_scan 109 = .ok (.ifCond .eq 10, 3) := by decide +kernel
theorem dX5_scan_112 : decode cX5_scan 112 = .ok (.aload_n 0, 1) := by decide +kernel
theorem dX5_scan_113 : decode cX5_scan 113 = .ok (.invokevirtual 117, 3) := by decide +kernel
theorem dX5_scan_116 : decode cX5_scan 116 = .ok (.goto 36, 3) := by decide +kernel
theorem dX5_scan_119 : decode cX5_scan 119 = .ok (.aload_n 0, 1) := by decide +kernel
theorem dX5_scan_120 : decode cX5_scan 120 = .ok (.getfield 9, 3) := by decide +kernel
theorem dX5_scan_123 : decode cX5_scan 123 = .ok (.aload_n 0, 1) := by decide +kernel
theorem dX5_scan_124 : decode cX5_scan 124 = .ok (.getfield 20, 3) := by decide +kernel
theorem dX5_scan_127 : decode cX5_scan 127 = .ok (.baload, 1) := by decide +kernel
theorem dX5_scan_128 : decode cX5_scan 128 = .ok (.invokestatic 120, 3) := by decide +kernel
theorem dX5_scan_131 : decode cX5_scan 131 = .ok (.ifCond .eq 10, 3) := by decide +kernel
theorem dX5_scan_134 : decode cX5_scan 134 = .ok (.aload_n 0, 1) := by decide +kernel
theorem dX5_scan_135 : decode cX5_scan 135 = .ok (.invokevirtual 123, 3) := by decide +kernel
theorem dX5_scan_138 : decode cX5_scan 138 = .ok (.goto 14, 3) := by decide +kernel
theorem dX5_scan_141 : decode cX5_scan 141 = .ok (.aload_n 0, 1) := by decide +kernel
theorem dX5_scan_142 : decode cX5_scan 142 = .ok (.iconst 4, 1) := by decide +kernel
theorem dX5_scan_143 : decode cX5_scan 143 = .ok (.putfield 52, 3) := by decide +kernel
theorem dX5_scan_146 : decode cX5_scan 146 = .ok (.aload_n 0, 1) := by decide +kernel
theorem dX5_scan_147 : decode cX5_scan 147 = .ok (.iconst 1, 1) := by decide +kernel
theorem dX5_scan_148 : decode cX5_scan 148 = .ok (.invokevirtual 45, 3) := by decide +kernel
theorem dX5_scan_151 : decode cX5_scan 151 = .ok (.pop, 1) := by decide +kernel
theorem dX5_scan_152 : decode cX5_scan 152 = .ok (.return_, 1) := by decide +kernel
theorem dX5_scanName_0 : decode cX5_scanName 0 = .ok (.aload_n 0, 1) := by decide +kernel
theorem dX5_scanName_1 : decode cX5_scanName 1 = .ok (.iconst 0, 1) := by decide +kernel
theorem dX5_scanName_2 : decode cX5_scanName 2 = .ok (.putfield 52, 3) := by decide +kernel
theorem dX5_scanName_5 : decode cX5_scanName 5 = .ok (.aload_n 0, 1) := by decide +kernel
theorem dX5_scanName_6 : decode cX5_scanName 6 = .ok (.getfield 20, 3) := by decide +kernel
theorem dX5_scanName_9 : decode cX5_scanName 9 = .ok (.aload_n 0, 1) := by decide +kernel
theorem dX5_scanName_10 : decode cX5_scanName 10 = .ok (.getfield 34, 3) := by decide +kernel
theorem dX5_scanName_13 : decode cX5_scanName 13 = .ok (.if_icmp .ge 31, 3) := by decide +kernel
theorem dX5_scanName_16 : decode cX5_scanName 16 = .ok (.aload_n 0, 1) := by decide +kernel
theorem dX5_scanName_17 : decode cX5_scanName 17 = .ok (.getfield 9, 3) := by decide +kernel
theorem dX5_scanName_20 : decode cX5_scanName 20 = .ok (.aload_n 0, 1) := by decide +kernel
theorem dX5_scanName_21 : decode cX5_scanName 21 = .ok (.getfield 20, 3) := by decide +kernel
theorem dX5_scanName_24 : decode cX5_scanName 24 = .ok (.baload, 1) := by decide +kernel
theorem dX5_scanName_25 : decode cX5_scanName 25 = .ok (.invokestatic 114, 3) := by decide +kernel
theorem dX5_scanName_28 : decode cX5_scanName 28 = .ok (.ifCond .eq 16, 3) := by decide +kernel
theorem dX5_scanName_31 : decode cX5_scanName 31 = .ok (.aload_n 0, 1) := by decide +kernel
theorem dX5_scanName_32 : decode cX5_scanName 32 = .ok (.dup, 1) := by decide +kernel
theorem dX5_scanName_33 : decode cX5_scanName 33 = .ok (.getfield 20, 3) := by decide +kernel
theorem dX5_scanName_36 : decode cX5_scanName 36 = .ok (.iconst 1, 1) := by decide +kernel
theorem dX5_scanName_37 : decode cX5_scanName 37 = .ok (.iadd, 1) := by decide +kernel
theorem dX5_scanName_38 : decode cX5_scanName 38 = .ok (.putfield 20, 3) := by decide +kernel
theorem dX5_scanName_41 : decode cX5_scanName 41 = .ok (.goto (-36), 3) := by decide +kernel
theorem dX5_scanName_44 : decode cX5_scanName 44 = .ok (.return_, 1) := by decide +kernel
theorem dX5_scanNumber_0 : decode cX5_scanNumber 0 = .ok (.aload_n 0, 1) := by decide +kernel
theorem dX5_scanNumber_1 : decode cX5_scanNumber 1 = .ok (.iconst 1, 1) := by decide +kernel
theorem dX5_scanNumber_2 : decode cX5_scanNumber 2 = .ok (.putfield 52, 3) := by decide +kernel
theorem dX5_scanNumber_5 : decode cX5_scanNumber 5 = .ok (.aload_n 0, 1) := by decide +kernel
theorem dX5_scanNumber_6 : decode cX5_scanNumber 6 = .ok (.iconst 0, 1) := by decide +kernel
theorem dX5_scanNumber_7 : decode cX5_scanNumber 7 = .ok (.putfield 83, 3) := by decide +kernel
theorem dX5_scanNumber_10 : decode cX5_scanNumber 10 = .ok (.aload_n 0, 1) := by decide +kernel
theorem dX5_scanNumber_11 : decode cX5_scanNumber 11 = .ok (.getfield 20, 3) := by decide +kernel
theorem dX5_scanNumber_14 : decode cX5_scanNumber 14 = .ok (.aload_n 0, 1) := by decide +kernel
theorem dX5_scanNumber_15 : decode cX5_scanNumber 15 = .ok (.getfield 34, 3) := by decide +kernel
theorem dX5_scanNumber_18 : decode cX5_scanNumber 18 = .ok (.if_icmp .ge 55, 3) := by decide +kernel
theorem dX5_scanNumber_21 : decode cX5_scanNumber 21 = .ok (.aload_n 0, 1) := by decide +kernel
theorem dX5_scanNumber_22 : decode cX5_scanNumber 22 = .ok (.getfield 9, 3) := by decide +kernel
theorem dX5_scanNumber_25 : decode cX5_scanNumber 25 = .ok (.aload_n 0, 1) := by decide +kernel
theorem dX5_scanNumber_26 : decode cX5_scanNumber 26 = .ok (.getfield 20, 3) := by decide +kernel
theorem dX5_scanNumber_29 : decode cX5_scanNumber 29 = .ok (.baload, 1) := by decide +kernel
theorem dX5_scanNumber_30 : decode cX5_scanNumber 30 = .ok (.invokestatic 120, 3) := by decide +kernel
theorem dX5_scanNumber_33 : decode cX5_scanNumber 33 = .ok (.ifCond .eq 40, 3) := by decide +kernel
theorem dX5_scanNumber_36 : decode cX5_scanNumber 36 = .ok (.aload_n 0, 1) := by decide +kernel
theorem dX5_scanNumber_37 : decode cX5_scanNumber 37 = .ok (.aload_n 0, 1) := by decide +kernel
theorem dX5_scanNumber_38 : decode cX5_scanNumber 38 = .ok (.getfield 83, 3) := by decide +kernel
theorem dX5_scanNumber_41 : decode cX5_scanNumber 41 = .ok (.bipush 10, 2) := by decide +kernel
theorem dX5_scanNumber_43 : decode cX5_scanNumber 43 = .ok (.imul, 1) := by decide +kernel
theorem dX5_scanNumber_44 : decode cX5_scanNumber 44 = .ok (.aload_n 0, 1) := by decide +kernel
theorem dX5_scanNumber_45 : decode cX5_scanNumber 45 = .ok (.getfield 9, 3) := by decide +kernel
theorem dX5_scanNumber_48 : decode cX5_scanNumber 48 = .ok (.aload_n 0, 1) := by decide +kernel
theorem dX5_scanNumber_49 : decode cX5_scanNumber 49 = .ok (.getfield 20, 3) := by decide +kernel
theorem dX5_scanNumber_52 : decode cX5_scanNumber 52 = .ok (.baload, 1) := by decide +kernel
theorem dX5_scanNumber_53 : decode cX5_scanNumber 53 = .ok (.iadd, 1) := by decide +kernel
theorem dX5_scanNumber_54 : decode cX5_scanNumber 54 = .ok (.bipush 48, 2) := by decide +kernel
theorem dX5_scanNumber_56 : decode cX5_scanNumber 56 = .ok (.isub, 1) := by decide +kernel
theorem dX5_scanNumber_57 : decode cX5_scanNumber 57 = .ok (.putfield 83, 3) := by decide +kernel
theorem dX5_scanNumber_60 : decode cX5_scanNumber 60 = .ok (.aload_n 0, 1) := by decide +kernel
theorem dX5_scanNumber_61 : decode cX5_scanNumber 61 = .ok (.dup, 1) := by decide +kernel
theorem dX5_scanNumber_62 : decode cX5_scanNumber 62 = .ok (.getfield 20, 3) := by decide +kernel
theorem dX5_scanNumber_65 : decode cX5_scanNumber 65 = .ok (.iconst 1, 1) := by decide +kernel
theorem dX5_scanNumber_66 : decode cX5_scanNumber 66 = .ok (.iadd, 1) := by decide +kernel
theorem dX5_scanNumber_67 : decode cX5_scanNumber 67 = .ok (.putfield 20, 3) := by decide +kernel
theorem dX5_scanNumber_70 : decode cX5_scanNumber 70 = .ok (.goto (-60), 3) := by decide +kernel
theorem dX5_scanNumber_73 : decode cX5_scanNumber 73 = .ok (.aload_n 0, 1) := by decide +kernel
theorem dX5_scanNumber_74 : decode cX5_scanNumber 74 = .ok (.getfield 20, 3) := by decide +kernel
theorem dX5_scanNumber_77 : decode cX5_scanNumber 77 = .ok (.aload_n 0, 1) := by decide +kernel
theorem dX5_scanNumber_78 : decode cX5_scanNumber 78 = .ok (.getfield 95, 3) := by decide +kernel
theorem dX5_scanNumber_81 : decode cX5_scanNumber 81 = .ok (.isub, 1) := by decide +kernel
theorem dX5_scanNumber_82 : decode cX5_scanNumber 82 = .ok (.iconst 2, 1) := by decide +kernel
theorem dX5_scanNumber_83 : decode cX5_scanNumber 83 = .ok (.if_icmp .le 14, 3) := by decide +kernel
theorem dX5_scanNumber_86 : decode cX5_scanNumber 86 = .ok (.aload_n 0, 1) := by decide +kernel
theorem dX5_scanNumber_87 : decode cX5_scanNumber 87 = .ok (.iconst 4, 1) := by decide +kernel
theorem dX5_scanNumber_88 : decode cX5_scanNumber 88 = .ok (.putfield 52, 3) := by decide +kernel
theorem dX5_scanNumber_91 : decode cX5_scanNumber 91 = .ok (.aload_n 0, 1) := by decide +kernel
theorem dX5_scanNumber_92 : decode cX5_scanNumber 92 = .ok (.iconst 1, 1) := by decide +kernel
theorem dX5_scanNumber_93 : decode cX5_scanNumber 93 = .ok (.invokevirtual 45, 3) := by decide +kernel
theorem dX5_scanNumber_96 : decode cX5_scanNumber 96 = .ok (.pop, 1) := by decide +kernel
theorem dX5_scanNumber_97 : decode cX5_scanNumber 97 = .ok (.return_, 1) := by decide +kernel
theorem dX5_isLetter_0 : decode cX5_isLetter 0 = .ok (.iload_n 0, 1) := by decide +kernel
theorem dX5_isLetter_1 : decode cX5_isLetter 1 = .ok (.bipush 97, 2) := by decide +kernel
theorem dX5_isLetter_3 : decode cX5_isLetter 3 = .ok (.if_icmp .lt 13, 3) := by decide +kernel
theorem dX5_isLetter_6 : decode cX5_isLetter 6 = .ok (.iload_n 0, 1) := by decide +kernel
theorem dX5_isLetter_7 : decode cX5_isLetter 7 = .ok (.bipush 122, 2) := by decide +kernel
theorem dX5_isLetter_9 : decode cX5_isLetter 9 = .ok (.if_icmp .gt 7, 3) := by decide +kernel
theorem dX5_isLetter_12 : decode cX5_isLetter 12 = .ok (.iconst 1, 1) := by decide +kernel
theorem dX5_isLetter_13 : decode cX5_isLetter 13 = .ok (.goto 4, 3) := by decide +kernel
theorem dX5_isLetter_16 : decode cX5_isLetter 16 = .ok (.iconst 0, 1) := by decide +kernel
theorem dX5_isLetter_17 : decode cX5_isLetter 17 = .ok (.ireturn, 1) := by decide +kernel
theorem dX5_isFigure_0 : decode cX5_isFigure 0 = .ok (.iload_n 0, 1) := by decide +kernel
theorem dX5_isFigure_1 : decode cX5_isFigure 1 = .ok (.bipush 48, 2) := by decide +kernel
theorem dX5_isFigure_3 : decode cX5_isFigure 3 = .ok (.if_icmp .lt 13, 3) := by decide +kernel
theorem dX5_isFigure_6 : decode cX5_isFigure 6 = .ok (.iload_n 0, 1) := by decide +kernel
theorem dX5_isFigure_7 : decode cX5_isFigure 7 = .ok (.bipush 57, 2) := by decide +kernel
theorem dX5_isFigure_9 : decode cX5_isFigure 9 = .ok (.if_icmp .gt 7, 3) := by decide +kernel
theorem dX5_isFigure_12 : decode cX5_isFigure 12 = .ok (.iconst 1, 1) := by decide +kernel
theorem dX5_isFigure_13 : decode cX5_isFigure 13 = .ok (.goto 4, 3) := by decide +kernel
theorem dX5_isFigure_16 : decode cX5_isFigure 16 = .ok (.iconst 0, 1) := by decide +kernel
theorem dX5_isFigure_17 : decode cX5_isFigure 17 = .ok (.ireturn, 1) := by decide +kernel
theorem dX6_init_0 : decode cX6_init 0 = .ok (.aload_n 0, 1) := by decide +kernel
theorem dX6_init_1 : decode cX6_init 1 = .ok (.invokespecial 1, 3) := by decide +kernel
theorem dX6_init_4 : decode cX6_init 4 = .ok (.aload_n 0, 1) := by decide +kernel
theorem dX6_init_5 : decode cX6_init 5 = .ok (.new 7, 3) := by decide +kernel
theorem dX6_init_8 : decode cX6_init 8 = .ok (.dup, 1) := by decide +kernel
theorem dX6_init_9 : decode cX6_init 9 = .ok (.invokespecial 9, 3) := by decide +kernel
theorem dX6_init_12 : decode cX6_init 12 = .ok (.putfield 10, 3) := by decide +kernel
theorem dX6_init_15 : decode cX6_init 15 = .ok (.aload_n 0, 1) := by decide +kernel
theorem dX6_init_16 : decode cX6_init 16 = .ok (.new 7, 3) := by decide +kernel
theorem dX6_init_19 : decode cX6_init 19 = .ok (.dup, 1) := by decide +kernel
theorem dX6_init_20 : decode cX6_init 20 = .ok (.invokespecial 9, 3) := by decide +kernel
theorem dX6_init_23 : decode cX6_init 23 = .ok (.putfield 16, 3) := by decide +kernel
theorem dX6_init_26 : decode cX6_init 26 = .ok (.aload_n 0, 1) := by decide +kernel
theorem dX6_init_27 : decode cX6_init 27 = .ok (.iconst 2, 1) := by decide +kernel
theorem dX6_init_28 : decode cX6_init 28 = .ok (.anewarray 7, 3) := by decide +kernel
theorem dX6_init_31 : decode cX6_init 31 = .ok (.putfield 19, 3) := by decide +kernel
theorem dX6_init_34 : decode cX6_init 34 = .ok (.aload_n 0, 1) := by decide +kernel
theorem dX6_init_35 : decode cX6_init 35 = .ok (.iconst 2, 1) := by decide +kernel
end
section
theorem dX6_init_36 : decode cX6_init 36 = .ok (.newarray .boolean, 2) := by decide +kernel
theorem dX6_init_38 : decode cX6_init 38 = .ok (.putfield 23, 3) := by decide +kernel
theorem dX6_init_41 : decode cX6_init 41 = .ok (.aload_n 0, 1) := by decide +kernel
theorem dX6_init_42 : decode cX6_init 42 = .ok (.new 27, 3) := by decide +kernel
theorem dX6_init_45 : decode cX6_init 45 = .ok (.dup, 1) := by decide +kernel
theorem dX6_init_46 : decode cX6_init 46 = .ok (.invokespecial 29, 3) := by decide +kernel
theorem dX6_init_49 : decode cX6_init 49 = .ok (.putfield 30, 3) := by decide +kernel
theorem dX6_init_52 : decode cX6_init 52 = .ok (.aload_n 0, 1) := by decide +kernel
theorem dX6_init_53 : decode cX6_init 53 = .ok (.new 34, 3) := by decide +kernel
theorem dX6_init_56 : decode cX6_init 56 = .ok (.dup, 1) := by decide +kernel
theorem dX6_init_57 : decode cX6_init 57 = .ok (.invokespecial 36, 3) := by decide +kernel
theorem dX6_init_60 : decode cX6_init 60 = .ok (.putfield 37, 3) := by decide +kernel
theorem dX6_init_63 : decode cX6_init 63 = .ok (.aload_n 0, 1) := by decide +kernel
theorem dX6_init_64 : decode cX6_init 64 = .ok (.iconst 4, 1) := by decide +kernel
theorem dX6_init_65 : decode cX6_init 65 = .ok (.anewarray 41, 3) := by decide +kernel
theorem dX6_init_68 : decode cX6_init 68 = .ok (.putfield 43, 3) := by decide +kernel
theorem dX6_init_71 : decode cX6_init 71 = .ok (.aload_n 0, 1) := by decide +kernel
theorem dX6_init_72 : decode cX6_init 72 = .ok (.new 47, 3) := by decide +kernel
theorem dX6_init_75 : decode cX6_init 75 = .ok (.dup, 1) := by decide +kernel
theorem dX6_init_76 : decode cX6_init 76 = .ok (.invokespecial 49, 3) := by decide +kernel
theorem dX6_init_79 : decode cX6_init 79 = .ok (.putfield 50, 3) := by decide +kernel
theorem dX6_init_82 : decode cX6_init 82 = .ok (.aload_n 0, 1) := by decide +kernel
theorem dX6_init_83 : decode cX6_init 83 = .ok (.bipush 6, 2) := by decide +kernel
theorem dX6_init_85 : decode cX6_init 85 = .ok (.newarray .int, 2) := by decide +kernel
theorem dX6_init_87 : decode cX6_init 87 = .ok (.putfield 54, 3) := by decide +kernel
theorem dX6_init_90 : decode cX6_init 90 = .ok (.aload_n 0, 1) := by decide +kernel
theorem dX6_init_91 : decode cX6_init 91 = .ok (.bipush 6, 2) := by decide +kernel
theorem dX6_init_93 : decode cX6_init 93 = .ok (.newarray .int, 2) := by decide +kernel
theorem dX6_init_95 : decode cX6_init 95 = .ok (.putfield 58, 3) := by decide +kernel
theorem dX6_init_98 : decode cX6_init 98 = .ok (.aload_n 0, 1) := by decide +kernel
theorem dX6_init_99 : decode cX6_init 99 = .ok (.sipush 164, 3) := by decide +kernel
theorem dX6_init_102 : decode cX6_init 102 = .ok (.newarray .int, 2) := by decide +kernel
theorem dX6_init_104 : decode cX6_init 104 = .ok (.putfield 61, 3) := by decide +kernel
theorem dX6_init_107 : decode cX6_init 107 = .ok (.aload_n 0, 1) := by decide +kernel
theorem dX6_init_108 : decode cX6_init 108 = .ok (.iconst 0, 1) := by decide +kernel
theorem dX6_init_109 : decode cX6_init 109 = .ok (.putfield 64, 3) := by decide +kernel
theorem dX6_init_112 : decode cX6_init 112 = .ok (.iconst 0, 1) := by decide +kernel
theorem dX6_init_113 : decode cX6_init 113 = .ok (.istore_n 1, 1) := by decide +kernel
theorem dX6_init_114 : decode cX6_init 114 = .ok (.iload_n 1, 1) := by decide +kernel
theorem dX6_init_115 : decode cX6_init 115 = .ok (.iconst 2, 1) := by decide +kernel
theorem dX6_init_116 : decode cX6_init 116 = .ok (.if_icmp .ge 22, 3) := by decide +kernel
theorem dX6_init_119 : decode cX6_init 119 = .ok (.aload_n 0, 1) := by decide +kernel
theorem dX6_init_120 : decode cX6_init 120 = .ok (.getfield 19, 3) := by decide +kernel
theorem dX6_init_123 : decode cX6_init 123 = .ok (.iload_n 1, 1) := by decide +kernel
theorem dX6_init_124 : decode cX6_init 124 = .ok (.new 7, 3) := by decide +kernel
theorem dX6_init_127 : decode cX6_init 127 = .ok (.dup, 1) := by decide +kernel
theorem dX6_init_128 : decode cX6_init 128 = .ok (.invokespecial 9, 3) := by decide +kernel
theorem dX6_init_131 : decode cX6_init 131 = .ok (.aastore, 1) := by decide +kernel
theorem dX6_init_132 : decode cX6_init 132 = .ok (.iinc 1 1, 3) := by decide +kernel
theorem dX6_init_135 : decode cX6_init 135 = .ok (.goto (-21), 3) := by decide +kernel
theorem dX6_init_138 : decode cX6_init 138 = .ok (.iconst 0, 1) := by decide +kernel
theorem dX6_init_139 : decode cX6_init 139 = .ok (.istore_n 1, 1) := by decide +kernel
theorem dX6_init_140 : decode cX6_init 140 = .ok (.iload_n 1, 1) := by decide +kernel
theorem dX6_init_141 : decode cX6_init 141 = .ok (.iconst 4, 1) := by decide +kernel
theorem dX6_init_142 : decode cX6_init 142 = .ok (.if_icmp .ge 22, 3) := by decide +kernel
theorem dX6_init_145 : decode cX6_init 145 = .ok (.aload_n 0, 1) := by decide +kernel
theorem dX6_init_146 : decode cX6_init 146 = .ok (.getfield 43, 3) := by decide +kernel
theorem dX6_init_149 : decode cX6_init 149 = .ok (.iload_n 1, 1) := by decide +kernel
theorem dX6_init_150 : decode cX6_init 150 = .ok (.new 41, 3) := by decide +kernel
theorem dX6_init_153 : decode cX6_init 153 = .ok (.dup, 1) := by decide +kernel
theorem dX6_init_154 : decode cX6_init 154 = .ok (.invokespecial 68, 3) := by decide +kernel
theorem dX6_init_157 : decode cX6_init 157 = .ok (.aastore, 1) := by decide +kernel
theorem dX6_init_158 : decode cX6_init 158 = .ok (.iinc 1 1, 3) := by decide +kernel
theorem dX6_init_161 : decode cX6_init 161 = .ok (.goto (-21), 3) := by decide +kernel
theorem dX6_init_164 : decode cX6_init 164 = .ok (.return_, 1) := by decide +kernel
theorem dX6_feed_0 : decode cX6_feed 0 = .ok (.iload_n 1, 1) := by decide +kernel
theorem dX6_feed_1 : decode cX6_feed 1 = .ok (.iconst 0, 1) := by decide +kernel
theorem dX6_feed_2 : decode cX6_feed 2 = .ok (.bipush 127, 2) := by decide +kernel
theorem dX6_feed_4 : decode cX6_feed 4 = .ok (.invokestatic 69, 3) := by decide +kernel
theorem dX6_feed_7 : decode cX6_feed 7 = .ok (.ifCond .ne 5, 3) := by decide +kernel
theorem dX6_feed_10 : decode cX6_feed 10 = .ok (.iconst (-1), 1) := by decide +kernel
theorem dX6_feed_11 : decode cX6_feed 11 = .ok (.ireturn, 1) := by decide +kernel
theorem dX6_feed_12 : decode cX6_feed 12 = .ok (.aload_n 0, 1) := by decide +kernel
theorem dX6_feed_13 : decode cX6_feed 13 = .ok (.getfield 30, 3) := by decide +kernel
theorem dX6_feed_16 : decode cX6_feed 16 = .ok (.getfield 73, 3) := by decide +kernel
theorem dX6_feed_19 : decode cX6_feed 19 = .ok (.sipush 160, 3) := by decide +kernel
theorem dX6_feed_22 : decode cX6_feed 22 = .ok (.if_icmp .lt 6, 3) := by decide +kernel
theorem dX6_feed_25 : decode cX6_feed 25 = .ok (.bipush (-3), 2) := by decide +kernel
theorem dX6_feed_27 : decode cX6_feed 27 = .ok (.ireturn, 1) := by decide +kernel
theorem dX6_feed_28 : decode cX6_feed 28 = .ok (.aload_n 0, 1) := by decide +kernel
theorem dX6_feed_29 : decode cX6_feed 29 = .ok (.getfield 30, 3) := by decide +kernel
theorem dX6_feed_32 : decode cX6_feed 32 = .ok (.getfield 76, 3) := by decide +kernel
theorem dX6_feed_35 : decode cX6_feed 35 = .ok (.aload_n 0, 1) := by decide +kernel
theorem dX6_feed_36 : decode cX6_feed 36 = .ok (.getfield 30, 3) := by decide +kernel
theorem dX6_feed_39 : decode cX6_feed 39 = .ok (.getfield 73, 3) := by decide +kernel
theorem dX6_feed_42 : decode cX6_feed 42 = .ok (.iload_n 1, 1) := by decide +kernel
theorem dX6_feed_43 : decode cX6_feed 43 = .ok (.i2b, 1) := by decide +kernel
theorem dX6_feed_44 : decode cX6_feed 44 = .ok (.bastore, 1) := by decide +kernel
theorem dX6_feed_45 : decode cX6_feed 45 = .ok (.aload_n 0, 1) := by decide +kernel
theorem dX6_feed_46 : decode cX6_feed 46 = .ok (.getfield 30, 3) := by decide +kernel
theorem dX6_feed_49 : decode cX6_feed 49 = .ok (.dup, 1) := by decide +kernel
theorem dX6_feed_50 : decode cX6_feed 50 = .ok (.getfield 73, 3) := by decide +kernel
theorem dX6_feed_53 : decode cX6_feed 53 = .ok (.iconst 1, 1) := by decide +kernel
theorem dX6_feed_54 : decode cX6_feed 54 = .ok (.iadd, 1) := by decide +kernel
theorem dX6_feed_55 : decode cX6_feed 55 = .ok (.putfield 73, 3) := by decide +kernel
theorem dX6_feed_58 : decode cX6_feed 58 = .ok (.aload_n 0, 1) := by decide +kernel
theorem dX6_feed_59 : decode cX6_feed 59 = .ok (.getfield 30, 3) := by decide +kernel
theorem dX6_feed_62 : decode cX6_feed 62 = .ok (.getfield 73, 3) := by decide +kernel
theorem dX6_feed_65 : decode cX6_feed 65 = .ok (.ireturn, 1) := by decide +kernel
theorem dX6_end_0 : decode cX6_end 0 = .ok (.iload_n 1, 1) := by decide +kernel
theorem dX6_end_1 : decode cX6_end 1 = .ok (.iconst 0, 1) := by decide +kernel
theorem dX6_end_2 : decode cX6_end 2 = .ok (.aload_n 0, 1) := by decide +kernel
theorem dX6_end_3 : decode cX6_end 3 = .ok (.getfield 30, 3) := by decide +kernel
theorem dX6_end_6 : decode cX6_end 6 = .ok (.getfield 73, 3) := by decide +kernel
theorem dX6_end_9 : decode cX6_end 9 = .ok (.invokestatic 69, 3) := by decide +kernel
theorem dX6_end_12 : decode cX6_end 12 = .ok (.ifCond .ne 5, 3) := by decide +kernel
theorem dX6_end_15 : decode cX6_end 15 = .ok (.iconst (-1), 1) := by decide +kernel
theorem dX6_end_16 : decode cX6_end 16 = .ok (.ireturn, 1) := by decide +kernel
theorem dX6_end_17 : decode cX6_end 17 = .ok (.aload_n 0, 1) := by decide +kernel
theorem dX6_end_18 : decode cX6_end 18 = .ok (.getfield 30, 3) := by decide +kernel
theorem dX6_end_21 : decode cX6_end 21 = .ok (.getfield 73, 3) := by decide +kernel
theorem dX6_end_24 : decode cX6_end 24 = .ok (.istore_n 2, 1) := by decide +kernel
theorem dX6_end_25 : decode cX6_end 25 = .ok (.aload_n 0, 1) := by decide +kernel
theorem dX6_end_26 : decode cX6_end 26 = .ok (.getfield 30, 3) := by decide +kernel
theorem dX6_end_29 : decode cX6_end 29 = .ok (.iload_n 1, 1) := by decide +kernel
theorem dX6_end_30 : decode cX6_end 30 = .ok (.putfield 73, 3) := by decide +kernel
theorem dX6_end_33 : decode cX6_end 33 = .ok (.iload_n 2, 1) := by decide +kernel
theorem dX6_end_34 : decode cX6_end 34 = .ok (.ireturn, 1) := by decide +kernel
theorem dX6_text_0 : decode cX6_text 0 = .ok (.aload_n 0, 1) := by decide +kernel
theorem dX6_text_1 : decode cX6_text 1 = .ok (.getfield 30, 3) := by decide +kernel
theorem dX6_text_4 : decode cX6_text 4 = .ok (.aload_n 0, 1) := by decide +kernel
theorem dX6_text_5 : decode cX6_text 5 = .ok (.getfield 16, 3) := by decide +kernel
theorem dX6_text_8 : decode cX6_text 8 = .ok (.invokevirtual 80, 3) := by decide +kernel
theorem dX6_text_11 : decode cX6_text 11 = .ok (.istore_n 1, 1) := by decide +kernel
theorem dX6_text_12 : decode cX6_text 12 = .ok (.aload_n 0, 1) := by decide +kernel
theorem dX6_text_13 : decode cX6_text 13 = .ok (.getfield 30, 3) := by decide +kernel
theorem dX6_text_16 : decode cX6_text 16 = .ok (.iconst 0, 1) := by decide +kernel
theorem dX6_text_17 : decode cX6_text 17 = .ok (.putfield 73, 3) := by decide +kernel
theorem dX6_text_20 : decode cX6_text 20 = .ok (.aload_n 0, 1) := by decide +kernel
theorem dX6_text_21 : decode cX6_text 21 = .ok (.getfield 30, 3) := by decide +kernel
theorem dX6_text_24 : decode cX6_text 24 = .ok (.getfield 84, 3) := by decide +kernel
theorem dX6_text_27 : decode cX6_text 27 = .ok (.ifCond .eq 14, 3) := by decide +kernel
theorem dX6_text_30 : decode cX6_text 30 = .ok (.bipush (-10), 2) := by decide +kernel
theorem dX6_text_32 : decode cX6_text 32 = .ok (.aload_n 0, 1) := by decide +kernel
theorem dX6_text_33 : decode cX6_text 33 = .ok (.getfield 30, 3) := by decide +kernel
theorem dX6_text_36 : decode cX6_text 36 = .ok (.getfield 87, 3) := by decide +kernel
theorem dX6_text_39 : decode cX6_text 39 = .ok (.isub, 1) := by decide +kernel
theorem dX6_text_40 : decode cX6_text 40 = .ok (.ireturn, 1) := by decide +kernel
theorem dX6_text_41 : decode cX6_text 41 = .ok (.aload_n 0, 1) := by decide +kernel
theorem dX6_text_42 : decode cX6_text 42 = .ok (.getfield 10, 3) := by decide +kernel
theorem dX6_text_45 : decode cX6_text 45 = .ok (.aload_n 0, 1) := by decide +kernel
theorem dX6_text_46 : decode cX6_text 46 = .ok (.getfield 16, 3) := by decide +kernel
theorem dX6_text_49 : decode cX6_text 49 = .ok (.invokevirtual 90, 3) := by decide +kernel
theorem dX6_text_52 : decode cX6_text 52 = .ok (.aload_n 0, 1) := by decide +kernel
theorem dX6_text_53 : decode cX6_text 53 = .ok (.getfield 37, 3) := by decide +kernel
theorem dX6_text_56 : decode cX6_text 56 = .ok (.iconst 0, 1) := by decide +kernel
theorem dX6_text_57 : decode cX6_text 57 = .ok (.putfield 94, 3) := by decide +kernel
theorem dX6_text_60 : decode cX6_text 60 = .ok (.iconst 0, 1) := by decide +kernel
theorem dX6_text_61 : decode cX6_text 61 = .ok (.istore_n 2, 1) := by decide +kernel
theorem dX6_text_62 : decode cX6_text 62 = .ok (.iload_n 2, 1) := by decide +kernel
theorem dX6_text_63 : decode cX6_text 63 = .ok (.iconst 2, 1) := by decide +kernel
theorem dX6_text_64 : decode cX6_text 64 = .ok (.if_icmp .ge 16, 3) := by decide +kernel
theorem dX6_text_67 : decode cX6_text 67 = .ok (.aload_n 0, 1) := by decide +kernel
theorem dX6_text_68 : decode cX6_text 68 = .ok (.getfield 23, 3) := by decide +kernel
theorem dX6_text_71 : decode cX6_text 71 = .ok (.iload_n 2, 1) := by decide +kernel
theorem dX6_text_72 : decode cX6_text 72 = .ok (.iconst 0, 1) := by decide +kernel
theorem dX6_text_73 : decode cX6_text 73 = .ok (.bastore, 1) := by decide +kernel
theorem dX6_text_74 : decode cX6_text 74 = .ok (.iinc 2 1, 3) := by decide +kernel
theorem dX6_text_77 : decode cX6_text 77 = .ok (.goto (-15), 3) := by decide +kernel
theorem dX6_text_80 : decode cX6_text 80 = .ok (.iload_n 1, 1) := by decide +kernel
theorem dX6_text_81 : decode cX6_text 81 = .ok (.ireturn, 1) := by decide +kernel
theorem dX6_fault_0 : decode cX6_fault 0 = .ok (.aload_n 0, 1) := by decide +kernel
theorem dX6_fault_1 : decode cX6_fault 1 = .ok (.getfield 30, 3) := by decide +kernel
theorem dX6_fault_4 : decode cX6_fault 4 = .ok (.getfield 84, 3) := by decide +kernel
theorem dX6_fault_7 : decode cX6_fault 7 = .ok (.ireturn, 1) := by decide +kernel
theorem dX6_rule_0 : decode cX6_rule 0 = .ok (.iload_n 1, 1) := by decide +kernel
theorem dX6_rule_1 : decode cX6_rule 1 = .ok (.tableswitch 85 0 5 #[39, 47, 55, 63, 71, 80], 39) := by decide +kernel
theorem dX6_rule_40 : decode cX6_rule 40 = .ok (.aload_n 0, 1) := by decide +kernel
theorem dX6_rule_41 : decode cX6_rule 41 = .ok (.getfield 10, 3) := by decide +kernel
theorem dX6_rule_44 : decode cX6_rule 44 = .ok (.getfield 97, 3) := by decide +kernel
theorem dX6_rule_47 : decode cX6_rule 47 = .ok (.ireturn, 1) := by decide +kernel
theorem dX6_rule_48 : decode cX6_rule 48 = .ok (.aload_n 0, 1) := by decide +kernel
theorem dX6_rule_49 : decode cX6_rule 49 = .ok (.getfield 10, 3) := by decide +kernel
theorem dX6_rule_52 : decode cX6_rule 52 = .ok (.getfield 100, 3) := by decide +kernel
theorem dX6_rule_55 : decode cX6_rule 55 = .ok (.ireturn, 1) := by decide +kernel
theorem dX6_rule_56 : decode cX6_rule 56 = .ok (.aload_n 0, 1) := by decide +kernel
theorem dX6_rule_57 : decode cX6_rule 57 = .ok (.getfield 10, 3) := by decide +kernel
theorem dX6_rule_60 : decode cX6_rule 60 = .ok (.getfield 103, 3) := by decide +kernel
theorem dX6_rule_63 : decode cX6_rule 63 = .ok (.ireturn, 1) := by decide +kernel
theorem dX6_rule_64 : decode cX6_rule 64 = .ok (.aload_n 0, 1) := by decide +kernel
theorem dX6_rule_65 : decode cX6_rule 65 = .ok (.getfield 10, 3) := by decide +kernel
theorem dX6_rule_68 : decode cX6_rule 68 = .ok (.getfield 106, 3) := by decide +kernel
theorem dX6_rule_71 : decode cX6_rule 71 = .ok (.ireturn, 1) := by decide +kernel
theorem dX6_rule_72 : decode cX6_rule 72 = .ok (.aload_n 0, 1) := by decide +kernel
theorem dX6_rule_73 : decode cX6_rule 73 = .ok (.getfield 10, 3) := by decide +kernel
theorem dX6_rule_76 : decode cX6_rule 76 = .ok (.iconst 0, 1) := by decide +kernel
theorem dX6_rule_77 : decode cX6_rule 77 = .ok (.invokevirtual 109, 3) := by decide +kernel
theorem dX6_rule_80 : decode cX6_rule 80 = .ok (.ireturn, 1) := by decide +kernel
theorem dX6_rule_81 : decode cX6_rule 81 = .ok (.aload_n 0, 1) := by decide +kernel
theorem dX6_rule_82 : decode cX6_rule 82 = .ok (.invokevirtual 113, 3) := by decide +kernel
theorem dX6_rule_85 : decode cX6_rule 85 = .ok (.ireturn, 1) := by decide +kernel
theorem dX6_rule_86 : decode cX6_rule 86 = .ok (.iconst (-1), 1) := by decide +kernel
theorem dX6_rule_87 : decode cX6_rule 87 = .ok (.ireturn, 1) := by decide +kernel
theorem dX6_leastCost_0 : decode cX6_leastCost 0 = .ok (.aload_n 0, 1) := by decide +kernel
theorem dX6_leastCost_1 : decode cX6_leastCost 1 = .ok (.getfield 50, 3) := by decide +kernel
theorem dX6_leastCost_4 : decode cX6_leastCost 4 = .ok (.ldc 117, 2) := by decide +kernel
theorem dX6_leastCost_6 : decode cX6_leastCost 6 = .ok (.invokevirtual 118, 3) := by decide +kernel
theorem dX6_leastCost_9 : decode cX6_leastCost 9 = .ok (.iconst 0, 1) := by decide +kernel
theorem dX6_leastCost_10 : decode cX6_leastCost 10 = .ok (.istore_n 1, 1) := by decide +kernel
theorem dX6_leastCost_11 : decode cX6_leastCost 11 = .ok (.iload_n 1, 1) := by decide +kernel
theorem dX6_leastCost_12 : decode cX6_leastCost 12 = .ok (.aload_n 0, 1) := by decide +kernel
theorem dX6_leastCost_13 : decode cX6_leastCost 13 = .ok (.getfield 10, 3) := by decide +kernel
theorem dX6_leastCost_16 : decode cX6_leastCost 16 = .ok (.getfield 100, 3) := by decide +kernel
theorem dX6_leastCost_19 : decode cX6_leastCost 19 = .ok (.if_icmp .ge 29, 3) := by decide +kernel
theorem dX6_leastCost_22 : decode cX6_leastCost 22 = .ok (.aload_n 0, 1) := by decide +kernel
theorem dX6_leastCost_23 : decode cX6_leastCost 23 = .ok (.getfield 50, 3) := by decide +kernel
theorem dX6_leastCost_26 : decode cX6_leastCost 26 = .ok (.iload_n 1, 1) := by decide +kernel
theorem dX6_leastCost_27 : decode cX6_leastCost 27 = .ok (.aload_n 0, 1) := by decide +kernel
theorem dX6_leastCost_28 : decode cX6_leastCost 28 = .ok (.getfield 10, 3) := by decide +kernel
theorem dX6_leastCost_31 : decode cX6_leastCost 31 = .ok (.getfield 122, 3) := by decide +kernel
theorem dX6_leastCost_34 : decode cX6_leastCost 34 = .ok (.iload_n 1, 1) := by decide +kernel
theorem dX6_leastCost_35 : decode cX6_leastCost 35 = .ok (.aaload, 1) := by decide +kernel
theorem dX6_leastCost_36 : decode cX6_leastCost 36 = .ok (.getfield 126, 3) := by decide +kernel
theorem dX6_leastCost_39 : decode cX6_leastCost 39 = .ok (.invokevirtual 131, 3) := by decide +kernel
theorem dX6_leastCost_42 : decode cX6_leastCost 42 = .ok (.iinc 1 1, 3) := by decide +kernel
theorem dX6_leastCost_45 : decode cX6_leastCost 45 = .ok (.goto (-34), 3) := by decide +kernel
theorem dX6_leastCost_48 : decode cX6_leastCost 48 = .ok (.aload_n 0, 1) := by decide +kernel
theorem dX6_leastCost_49 : decode cX6_leastCost 49 = .ok (.getfield 50, 3) := by decide +kernel
theorem dX6_leastCost_52 : decode cX6_leastCost 52 = .ok (.getfield 135, 3) := by decide +kernel
theorem dX6_leastCost_55 : decode cX6_leastCost 55 = .ok (.ireturn, 1) := by decide +kernel
theorem dX6_shelf_0 : decode cX6_shelf 0 = .ok (.aload_n 0, 1) := by decide +kernel
theorem dX6_shelf_1 : decode cX6_shelf 1 = .ok (.getfield 10, 3) := by decide +kernel
theorem dX6_shelf_4 : decode cX6_shelf 4 = .ok (.iload_n 1, 1) := by decide +kernel
theorem dX6_shelf_5 : decode cX6_shelf 5 = .ok (.invokevirtual 138, 3) := by decide +kernel
theorem dX6_shelf_8 : decode cX6_shelf 8 = .ok (.ifCond .ne 5, 3) := by decide +kernel
theorem dX6_shelf_11 : decode cX6_shelf 11 = .ok (.iconst (-1), 1) := by decide +kernel
theorem dX6_shelf_12 : decode cX6_shelf 12 = .ok (.ireturn, 1) := by decide +kernel
theorem dX6_shelf_13 : decode cX6_shelf 13 = .ok (.aload_n 0, 1) := by decide +kernel
theorem dX6_shelf_14 : decode cX6_shelf 14 = .ok (.getfield 10, 3) := by decide +kernel
theorem dX6_shelf_17 : decode cX6_shelf 17 = .ok (.getfield 122, 3) := by decide +kernel
theorem dX6_shelf_20 : decode cX6_shelf 20 = .ok (.iload_n 1, 1) := by decide +kernel
theorem dX6_shelf_21 : decode cX6_shelf 21 = .ok (.aaload, 1) := by decide +kernel
theorem dX6_shelf_22 : decode cX6_shelf 22 = .ok (.astore_n 3, 1) := by decide +kernel
theorem dX6_shelf_23 : decode cX6_shelf 23 = .ok (.iload_n 2, 1) := by decide +kernel
theorem dX6_shelf_24 : decode cX6_shelf 24 = .ok (.ifCond .ne 8, 3) := by decide +kernel
theorem dX6_shelf_27 : decode cX6_shelf 27 = .ok (.aload_n 3, 1) := by decide +kernel
theorem dX6_shelf_28 : decode cX6_shelf 28 = .ok (.getfield 142, 3) := by decide +kernel
theorem dX6_shelf_31 : decode cX6_shelf 31 = .ok (.ireturn, 1) := by decide +kernel
theorem dX6_shelf_32 : decode cX6_shelf 32 = .ok (.iload_n 2, 1) := by decide +kernel
theorem dX6_shelf_33 : decode cX6_shelf 33 = .ok (.iconst 1, 1) := by decide +kernel
theorem dX6_shelf_34 : decode cX6_shelf 34 = .ok (.if_icmp .ne 8, 3) := by decide +kernel
theorem dX6_shelf_37 : decode cX6_shelf 37 = .ok (.aload_n 3, 1) := by decide +kernel
theorem dX6_shelf_38 : decode cX6_shelf 38 = .ok (.getfield 126, 3) := by decide +kernel
theorem dX6_shelf_41 : decode cX6_shelf 41 = .ok (.ireturn, 1) := by decide +kernel
theorem dX6_shelf_42 : decode cX6_shelf 42 = .ok (.iload_n 2, 1) := by decide +kernel
theorem dX6_shelf_43 : decode cX6_shelf 43 = .ok (.bipush 10, 2) := by decide +kernel
theorem dX6_shelf_45 : decode cX6_shelf 45 = .ok (.bipush 10, 2) := by decide +kernel
theorem dX6_shelf_47 : decode cX6_shelf 47 = .ok (.aload_n 0, 1) := by decide +kernel
theorem dX6_shelf_48 : decode cX6_shelf 48 = .ok (.getfield 10, 3) := by decide +kernel
theorem dX6_shelf_51 : decode cX6_shelf 51 = .ok (.getfield 97, 3) := by decide +kernel
theorem dX6_shelf_54 : decode cX6_shelf 54 = .ok (.iadd, 1) := by decide +kernel
theorem dX6_shelf_55 : decode cX6_shelf 55 = .ok (.iconst 1, 1) := by decide +kernel
theorem dX6_shelf_56 : decode cX6_shelf 56 = .ok (.isub, 1) := by decide +kernel
theorem dX6_shelf_57 : decode cX6_shelf 57 = .ok (.invokestatic 69, 3) := by decide +kernel
theorem dX6_shelf_60 : decode cX6_shelf 60 = .ok (.ifCond .eq 13, 3) := by decide +kernel
theorem dX6_shelf_63 : decode cX6_shelf 63 = .ok (.aload_n 3, 1) := by decide +kernel
theorem dX6_shelf_64 : decode cX6_shelf 64 = .ok (.getfield 145, 3) := by decide +kernel
theorem dX6_shelf_67 : decode cX6_shelf 67 = .ok (.iload_n 2, 1) := by decide +kernel
theorem dX6_shelf_68 : decode cX6_shelf 68 = .ok (.bipush 10, 2) := by decide +kernel
theorem dX6_shelf_70 : decode cX6_shelf 70 = .ok (.isub, 1) := by decide +kernel
theorem dX6_shelf_71 : decode cX6_shelf 71 = .ok (.iaload, 1) := by decide +kernel
theorem dX6_shelf_72 : decode cX6_shelf 72 = .ok (.ireturn, 1) := by decide +kernel
theorem dX6_shelf_73 : decode cX6_shelf 73 = .ok (.iload_n 2, 1) := by decide +kernel
theorem dX6_shelf_74 : decode cX6_shelf 74 = .ok (.bipush 20, 2) := by decide +kernel
theorem dX6_shelf_76 : decode cX6_shelf 76 = .ok (.bipush 20, 2) := by decide +kernel
theorem dX6_shelf_78 : decode cX6_shelf 78 = .ok (.aload_n 0, 1) := by decide +kernel
theorem dX6_shelf_79 : decode cX6_shelf 79 = .ok (.getfield 10, 3) := by decide +kernel
theorem dX6_shelf_82 : decode cX6_shelf 82 = .ok (.getfield 97, 3) := by decide +kernel
theorem dX6_shelf_85 : decode cX6_shelf 85 = .ok (.iadd, 1) := by decide +kernel
theorem dX6_shelf_86 : decode cX6_shelf 86 = .ok (.iconst 1, 1) := by decide +kernel
theorem dX6_shelf_87 : decode cX6_shelf 87 = .ok (.isub, 1) := by decide +kernel
theorem dX6_shelf_88 : decode cX6_shelf 88 = .ok (.invokestatic 69, 3) := by decide +kernel
theorem dX6_shelf_91 : decode cX6_shelf 91 = .ok (.ifCond .eq 13, 3) := by decide +kernel
theorem dX6_shelf_94 : decode cX6_shelf 94 = .ok (.aload_n 3, 1) := by decide +kernel
theorem dX6_shelf_95 : decode cX6_shelf 95 = .ok (.getfield 148, 3) := by decide +kernel
theorem dX6_shelf_98 : decode cX6_shelf 98 = .ok (.iload_n 2, 1) := by decide +kernel
theorem dX6_shelf_99 : decode cX6_shelf 99 = .ok (.bipush 20, 2) := by decide +kernel
theorem dX6_shelf_101 : decode cX6_shelf 101 = .ok (.isub, 1) := by decide +kernel
theorem dX6_shelf_102 : decode cX6_shelf 102 = .ok (.iaload, 1) := by decide +kernel
theorem dX6_shelf_103 : decode cX6_shelf 103 = .ok (.ireturn, 1) := by decide +kernel
theorem dX6_shelf_104 : decode cX6_shelf 104 = .ok (.iconst (-1), 1) := by decide +kernel
theorem dX6_shelf_105 : decode cX6_shelf 105 = .ok (.ireturn, 1) := by decide +kernel
theorem dX6_place_0 : decode cX6_place 0 = .ok (.aload_n 0, 1) := by decide +kernel
theorem dX6_place_1 : decode cX6_place 1 = .ok (.getfield 10, 3) := by decide +kernel
theorem dX6_place_4 : decode cX6_place 4 = .ok (.iload_n 1, 1) := by decide +kernel
theorem dX6_place_5 : decode cX6_place 5 = .ok (.invokevirtual 138, 3) := by decide +kernel
theorem dX6_place_8 : decode cX6_place 8 = .ok (.ifCond .eq 30, 3) := by decide +kernel
theorem dX6_place_11 : decode cX6_place 11 = .ok (.aload_n 0, 1) := by decide +kernel
theorem dX6_place_12 : decode cX6_place 12 = .ok (.getfield 10, 3) := by decide +kernel
theorem dX6_place_15 : decode cX6_place 15 = .ok (.iload_n 2, 1) := by decide +kernel
theorem dX6_place_16 : decode cX6_place 16 = .ok (.invokevirtual 151, 3) := by decide +kernel
theorem dX6_place_19 : decode cX6_place 19 = .ok (.ifCond .eq 19, 3) := by decide +kernel
theorem dX6_place_22 : decode cX6_place 22 = .ok (.aload_n 0, 1) := by decide +kernel
theorem dX6_place_23 : decode cX6_place 23 = .ok (.getfield 10, 3) := by decide +kernel
theorem dX6_place_26 : decode cX6_place 26 = .ok (.getfield 122, 3) := by decide +kernel
theorem dX6_place_29 : decode cX6_place 29 = .ok (.iload_n 1, 1) := by decide +kernel
theorem dX6_place_30 : decode cX6_place 30 = .ok (.aaload, 1) := by decide +kernel
theorem dX6_place_31 : decode cX6_place 31 = .ok (.iload_n 2, 1) := by decide +kernel
theorem dX6_place_32 : decode cX6_place 32 = .ok (.invokevirtual 154, 3) := by decide +kernel
theorem dX6_place_35 : decode cX6_place 35 = .ok (.goto 4, 3) := by decide +kernel
theorem dX6_place_38 : decode cX6_place 38 = .ok (.iconst (-1), 1) := by decide +kernel
theorem dX6_place_39 : decode cX6_place 39 = .ok (.ireturn, 1) := by decide +kernel
theorem dX6_want_0 : decode cX6_want 0 = .ok (.aload_n 0, 1) := by decide +kernel
theorem dX6_want_1 : decode cX6_want 1 = .ok (.getfield 10, 3) := by decide +kernel
theorem dX6_want_4 : decode cX6_want 4 = .ok (.iload_n 1, 1) := by decide +kernel
theorem dX6_want_5 : decode cX6_want 5 = .ok (.invokevirtual 157, 3) := by decide +kernel
theorem dX6_want_8 : decode cX6_want 8 = .ok (.ifCond .eq 15, 3) := by decide +kernel
theorem dX6_want_11 : decode cX6_want 11 = .ok (.aload_n 0, 1) := by decide +kernel
theorem dX6_want_12 : decode cX6_want 12 = .ok (.getfield 10, 3) := by decide +kernel
theorem dX6_want_15 : decode cX6_want 15 = .ok (.getfield 160, 3) := by decide +kernel
theorem dX6_want_18 : decode cX6_want 18 = .ok (.iload_n 1, 1) := by decide +kernel
theorem dX6_want_19 : decode cX6_want 19 = .ok (.iaload, 1) := by decide +kernel
theorem dX6_want_20 : decode cX6_want 20 = .ok (.goto 4, 3) := by decide +kernel
theorem dX6_want_23 : decode cX6_want 23 = .ok (.iconst (-1), 1) := by decide +kernel
theorem dX6_want_24 : decode cX6_want 24 = .ok (.ireturn, 1) := by decide +kernel
theorem dX6_alter_0 : decode cX6_alter 0 = .ok (.aload_n 0, 1) := by decide +kernel
theorem dX6_alter_1 : decode cX6_alter 1 = .ok (.getfield 10, 3) := by decide +kernel
theorem dX6_alter_4 : decode cX6_alter 4 = .ok (.iload_n 1, 1) := by decide +kernel
theorem dX6_alter_5 : decode cX6_alter 5 = .ok (.invokevirtual 138, 3) := by decide +kernel
theorem dX6_alter_8 : decode cX6_alter 8 = .ok (.ifCond .eq 12, 3) := by decide +kernel
theorem dX6_alter_11 : decode cX6_alter 11 = .ok (.iload_n 2, 1) := by decide +kernel
theorem dX6_alter_12 : decode cX6_alter 12 = .ok (.iconst 0, 1) := by decide +kernel
theorem dX6_alter_13 : decode cX6_alter 13 = .ok (.iconst 3, 1) := by decide +kernel
theorem dX6_alter_14 : decode cX6_alter 14 = .ok (.invokestatic 69, 3) := by decide +kernel
theorem dX6_alter_17 : decode cX6_alter 17 = .ok (.ifCond .ne 5, 3) := by decide +kernel
theorem dX6_alter_20 : decode cX6_alter 20 = .ok (.iconst (-1), 1) := by decide +kernel
theorem dX6_alter_21 : decode cX6_alter 21 = .ok (.ireturn, 1) := by decide +kernel
theorem dX6_alter_22 : decode cX6_alter 22 = .ok (.aload_n 0, 1) := by decide +kernel
theorem dX6_alter_23 : decode cX6_alter 23 = .ok (.getfield 10, 3) := by decide +kernel
theorem dX6_alter_26 : decode cX6_alter 26 = .ok (.getfield 122, 3) := by decide +kernel
theorem dX6_alter_29 : decode cX6_alter 29 = .ok (.iload_n 1, 1) := by decide +kernel
theorem dX6_alter_30 : decode cX6_alter 30 = .ok (.aaload, 1) := by decide +kernel
theorem dX6_alter_31 : decode cX6_alter 31 = .ok (.getfield 142, 3) := by decide +kernel
theorem dX6_alter_34 : decode cX6_alter 34 = .ok (.istore_n 3, 1) := by decide +kernel
theorem dX6_alter_35 : decode cX6_alter 35 = .ok (.aload_n 0, 1) := by decide +kernel
theorem dX6_alter_36 : decode cX6_alter 36 = .ok (.getfield 10, 3) := by decide +kernel
theorem dX6_alter_39 : decode cX6_alter 39 = .ok (.getfield 122, 3) := by decide +kernel
theorem dX6_alter_42 : decode cX6_alter 42 = .ok (.iload_n 1, 1) := by decide +kernel
theorem dX6_alter_43 : decode cX6_alter 43 = .ok (.aaload, 1) := by decide +kernel
theorem dX6_alter_44 : decode cX6_alter 44 = .ok (.iload_n 2, 1) := by decide +kernel
theorem dX6_alter_45 : decode cX6_alter 45 = .ok (.putfield 142, 3) := by decide +kernel
theorem dX6_alter_48 : decode cX6_alter 48 = .ok (.iload_n 3, 1) := by decide +kernel
theorem dX6_alter_49 : decode cX6_alter 49 = .ok (.ireturn, 1) := by decide +kernel
theorem dX6_put_0 : decode cX6_put 0 = .ok (.iload_n 1, 1) := by decide +kernel
theorem dX6_put_1 : decode cX6_put 1 = .ok (.iconst 0, 1) := by decide +kernel
theorem dX6_put_2 : decode cX6_put 2 = .ok (.iconst 3, 1) := by decide +kernel
theorem dX6_put_3 : decode cX6_put 3 = .ok (.invokestatic 69, 3) := by decide +kernel
theorem dX6_put_6 : decode cX6_put 6 = .ok (.ifCond .ne 5, 3) := by decide +kernel
theorem dX6_put_9 : decode cX6_put 9 = .ok (.iconst (-1), 1) := by decide +kernel
theorem dX6_put_10 : decode cX6_put 10 = .ok (.ireturn, 1) := by decide +kernel
theorem dX6_put_11 : decode cX6_put 11 = .ok (.aload_n 0, 1) := by decide +kernel
theorem dX6_put_12 : decode cX6_put 12 = .ok (.getfield 10, 3) := by decide +kernel
theorem dX6_put_15 : decode cX6_put 15 = .ok (.iload_n 1, 1) := by decide +kernel
theorem dX6_put_16 : decode cX6_put 16 = .ok (.invokevirtual 163, 3) := by decide +kernel
theorem dX6_put_19 : decode cX6_put 19 = .ok (.ifCond .eq 13, 3) := by decide +kernel
theorem dX6_put_22 : decode cX6_put 22 = .ok (.aload_n 0, 1) := by decide +kernel
theorem dX6_put_23 : decode cX6_put 23 = .ok (.getfield 10, 3) := by decide +kernel
theorem dX6_put_26 : decode cX6_put 26 = .ok (.getfield 100, 3) := by decide +kernel
theorem dX6_put_29 : decode cX6_put 29 = .ok (.goto 5, 3) := by decide +kernel
theorem dX6_put_32 : decode cX6_put 32 = .ok (.bipush (-3), 2) := by decide +kernel
theorem dX6_put_34 : decode cX6_put 34 = .ok (.ireturn, 1) := by decide +kernel
theorem dX6_cut_0 : decode cX6_cut 0 = .ok (.iload_n 1, 1) := by decide +kernel
theorem dX6_cut_1 : decode cX6_cut 1 = .ok (.iconst 0, 1) := by decide +kernel
theorem dX6_cut_2 : decode cX6_cut 2 = .ok (.aload_n 0, 1) := by decide +kernel
theorem dX6_cut_3 : decode cX6_cut 3 = .ok (.getfield 10, 3) := by decide +kernel
theorem dX6_cut_6 : decode cX6_cut 6 = .ok (.getfield 100, 3) := by decide +kernel
theorem dX6_cut_9 : decode cX6_cut 9 = .ok (.invokestatic 69, 3) := by decide +kernel
theorem dX6_cut_12 : decode cX6_cut 12 = .ok (.ifCond .ne 5, 3) := by decide +kernel
theorem dX6_cut_15 : decode cX6_cut 15 = .ok (.iconst (-1), 1) := by decide +kernel
theorem dX6_cut_16 : decode cX6_cut 16 = .ok (.ireturn, 1) := by decide +kernel
theorem dX6_cut_17 : decode cX6_cut 17 = .ok (.aload_n 0, 1) := by decide +kernel
theorem dX6_cut_18 : decode cX6_cut 18 = .ok (.getfield 10, 3) := by decide +kernel
theorem dX6_cut_21 : decode cX6_cut 21 = .ok (.getfield 100, 3) := by decide +kernel
theorem dX6_cut_24 : decode cX6_cut 24 = .ok (.istore_n 2, 1) := by decide +kernel
theorem dX6_cut_25 : decode cX6_cut 25 = .ok (.aload_n 0, 1) := by decide +kernel
theorem dX6_cut_26 : decode cX6_cut 26 = .ok (.getfield 10, 3) := by decide +kernel
theorem dX6_cut_29 : decode cX6_cut 29 = .ok (.iload_n 1, 1) := by decide +kernel
theorem dX6_cut_30 : decode cX6_cut 30 = .ok (.putfield 100, 3) := by decide +kernel
theorem dX6_cut_33 : decode cX6_cut 33 = .ok (.iload_n 2, 1) := by decide +kernel
theorem dX6_cut_34 : decode cX6_cut 34 = .ok (.ireturn, 1) := by decide +kernel
theorem dX6_stand_0 : decode cX6_stand 0 = .ok (.aload_n 0, 1) := by decide +kernel
theorem dX6_stand_1 : decode cX6_stand 1 = .ok (.getfield 10, 3) := by decide +kernel
theorem dX6_stand_4 : decode cX6_stand 4 = .ok (.iload_n 1, 1) := by decide +kernel
theorem dX6_stand_5 : decode cX6_stand 5 = .ok (.invokevirtual 138, 3) := by decide +kernel
theorem dX6_stand_8 : decode cX6_stand 8 = .ok (.ifCond .eq 25, 3) := by decide +kernel
theorem dX6_stand_11 : decode cX6_stand 11 = .ok (.aload_n 0, 1) := by decide +kernel
theorem dX6_stand_12 : decode cX6_stand 12 = .ok (.getfield 10, 3) := by decide +kernel
theorem dX6_stand_15 : decode cX6_stand 15 = .ok (.iload_n 2, 1) := by decide +kernel
theorem dX6_stand_16 : decode cX6_stand 16 = .ok (.invokevirtual 151, 3) := by decide +kernel
theorem dX6_stand_19 : decode cX6_stand 19 = .ok (.ifCond .eq 14, 3) := by decide +kernel
theorem dX6_stand_22 : decode cX6_stand 22 = .ok (.aload_n 0, 1) := by decide +kernel
theorem dX6_stand_23 : decode cX6_stand 23 = .ok (.getfield 10, 3) := by decide +kernel
theorem dX6_stand_26 : decode cX6_stand 26 = .ok (.iload_n 3, 1) := by decide +kernel
theorem dX6_stand_27 : decode cX6_stand 27 = .ok (.invokevirtual 151, 3) := by decide +kernel
theorem dX6_stand_30 : decode cX6_stand 30 = .ok (.ifCond .ne 5, 3) := by decide +kernel
theorem dX6_stand_33 : decode cX6_stand 33 = .ok (.iconst (-1), 1) := by decide +kernel
theorem dX6_stand_34 : decode cX6_stand 34 = .ok (.ireturn, 1) := by decide +kernel
theorem dX6_stand_35 : decode cX6_stand 35 = .ok (.aload_n 0, 1) := by decide +kernel
theorem dX6_stand_36 : decode cX6_stand 36 = .ok (.getfield 10, 3) := by decide +kernel
theorem dX6_stand_39 : decode cX6_stand 39 = .ok (.getfield 122, 3) := by decide +kernel
theorem dX6_stand_42 : decode cX6_stand 42 = .ok (.iload_n 1, 1) := by decide +kernel
theorem dX6_stand_43 : decode cX6_stand 43 = .ok (.aaload, 1) := by decide +kernel
theorem dX6_stand_44 : decode cX6_stand 44 = .ok (.iload_n 2, 1) := by decide +kernel
theorem dX6_stand_45 : decode cX6_stand 45 = .ok (.invokevirtual 154, 3) := by decide +kernel
theorem dX6_stand_48 : decode cX6_stand 48 = .ok (.istore 4, 2) := by decide +kernel
theorem dX6_stand_50 : decode cX6_stand 50 = .ok (.aload_n 0, 1) := by decide +kernel
theorem dX6_stand_51 : decode cX6_stand 51 = .ok (.getfield 10, 3) := by decide +kernel
theorem dX6_stand_54 : decode cX6_stand 54 = .ok (.getfield 122, 3) := by decide +kernel
theorem dX6_stand_57 : decode cX6_stand 57 = .ok (.iload_n 1, 1) := by decide +kernel
theorem dX6_stand_58 : decode cX6_stand 58 = .ok (.aaload, 1) := by decide +kernel
theorem dX6_stand_59 : decode cX6_stand 59 = .ok (.iload 4, 2) := by decide +kernel
theorem dX6_stand_61 : decode cX6_stand 61 = .ok (.iload_n 3, 1) := by decide +kernel
theorem dX6_stand_62 : decode cX6_stand 62 = .ok (.invokevirtual 166, 3) := by decide +kernel
theorem dX6_stand_65 : decode cX6_stand 65 = .ok (.iload 4, 2) := by decide +kernel
theorem dX6_stand_67 : decode cX6_stand 67 = .ok (.ireturn, 1) := by decide +kernel
theorem dX6_set_0 : decode cX6_set 0 = .ok (.aload_n 0, 1) := by decide +kernel
theorem dX6_set_1 : decode cX6_set 1 = .ok (.getfield 10, 3) := by decide +kernel
theorem dX6_set_4 : decode cX6_set 4 = .ok (.iload_n 1, 1) := by decide +kernel
theorem dX6_set_5 : decode cX6_set 5 = .ok (.invokevirtual 157, 3) := by decide +kernel
theorem dX6_set_8 : decode cX6_set 8 = .ok (.ifCond .eq 14, 3) := by decide +kernel
theorem dX6_set_11 : decode cX6_set 11 = .ok (.aload_n 0, 1) := by decide +kernel
theorem dX6_set_12 : decode cX6_set 12 = .ok (.getfield 10, 3) := by decide +kernel
theorem dX6_set_15 : decode cX6_set 15 = .ok (.iload_n 2, 1) := by decide +kernel
theorem dX6_set_16 : decode cX6_set 16 = .ok (.invokevirtual 151, 3) := by decide +kernel
theorem dX6_set_19 : decode cX6_set 19 = .ok (.ifCond .ne 5, 3) := by decide +kernel
theorem dX6_set_22 : decode cX6_set 22 = .ok (.iconst (-1), 1) := by decide +kernel
theorem dX6_set_23 : decode cX6_set 23 = .ok (.ireturn, 1) := by decide +kernel
theorem dX6_set_24 : decode cX6_set 24 = .ok (.aload_n 0, 1) := by decide +kernel
theorem dX6_set_25 : decode cX6_set 25 = .ok (.getfield 10, 3) := by decide +kernel
theorem dX6_set_28 : decode cX6_set 28 = .ok (.getfield 160, 3) := by decide +kernel
theorem dX6_set_31 : decode cX6_set 31 = .ok (.iload_n 1, 1) := by decide +kernel
theorem dX6_set_32 : decode cX6_set 32 = .ok (.iaload, 1) := by decide +kernel
theorem dX6_set_33 : decode cX6_set 33 = .ok (.istore_n 3, 1) := by decide +kernel
theorem dX6_set_34 : decode cX6_set 34 = .ok (.aload_n 0, 1) := by decide +kernel
theorem dX6_set_35 : decode cX6_set 35 = .ok (.getfield 10, 3) := by decide +kernel
theorem dX6_set_38 : decode cX6_set 38 = .ok (.getfield 160, 3) := by decide +kernel
theorem dX6_set_41 : decode cX6_set 41 = .ok (.iload_n 1, 1) := by decide +kernel
theorem dX6_set_42 : decode cX6_set 42 = .ok (.iload_n 2, 1) := by decide +kernel
theorem dX6_set_43 : decode cX6_set 43 = .ok (.iastore, 1) := by decide +kernel
theorem dX6_set_44 : decode cX6_set 44 = .ok (.iload_n 3, 1) := by decide +kernel
theorem dX6_set_45 : decode cX6_set 45 = .ok (.ireturn, 1) := by decide +kernel
theorem dX6_add_0 : decode cX6_add 0 = .ok (.aload_n 0, 1) := by decide +kernel
theorem dX6_add_1 : decode cX6_add 1 = .ok (.getfield 10, 3) := by decide +kernel
theorem dX6_add_4 : decode cX6_add 4 = .ok (.iload_n 1, 1) := by decide +kernel
theorem dX6_add_5 : decode cX6_add 5 = .ok (.invokevirtual 151, 3) := by decide +kernel
theorem dX6_add_8 : decode cX6_add 8 = .ok (.ifCond .ne 5, 3) := by decide +kernel
theorem dX6_add_11 : decode cX6_add 11 = .ok (.iconst (-1), 1) := by decide +kernel
theorem dX6_add_12 : decode cX6_add 12 = .ok (.ireturn, 1) := by decide +kernel
theorem dX6_add_13 : decode cX6_add 13 = .ok (.aload_n 0, 1) := by decide +kernel
theorem dX6_add_14 : decode cX6_add 14 = .ok (.getfield 10, 3) := by decide +kernel
theorem dX6_add_17 : decode cX6_add 17 = .ok (.iload_n 1, 1) := by decide +kernel
theorem dX6_add_18 : decode cX6_add 18 = .ok (.invokevirtual 169, 3) := by decide +kernel
theorem dX6_add_21 : decode cX6_add 21 = .ok (.ifCond .eq 13, 3) := by decide +kernel
theorem dX6_add_24 : decode cX6_add 24 = .ok (.aload_n 0, 1) := by decide +kernel
theorem dX6_add_25 : decode cX6_add 25 = .ok (.getfield 10, 3) := by decide +kernel
theorem dX6_add_28 : decode cX6_add 28 = .ok (.getfield 103, 3) := by decide +kernel
theorem dX6_add_31 : decode cX6_add 31 = .ok (.goto 5, 3) := by decide +kernel
theorem dX6_add_34 : decode cX6_add 34 = .ok (.bipush (-3), 2) := by decide +kernel
theorem dX6_add_36 : decode cX6_add 36 = .ok (.ireturn, 1) := by decide +kernel
theorem dX6_drop_0 : decode cX6_drop 0 = .ok (.iload_n 1, 1) := by decide +kernel
theorem dX6_drop_1 : decode cX6_drop 1 = .ok (.iconst 0, 1) := by decide +kernel
theorem dX6_drop_2 : decode cX6_drop 2 = .ok (.aload_n 0, 1) := by decide +kernel
theorem dX6_drop_3 : decode cX6_drop 3 = .ok (.getfield 10, 3) := by decide +kernel
theorem dX6_drop_6 : decode cX6_drop 6 = .ok (.getfield 103, 3) := by decide +kernel
theorem dX6_drop_9 : decode cX6_drop 9 = .ok (.invokestatic 69, 3) := by decide +kernel
theorem dX6_drop_12 : decode cX6_drop 12 = .ok (.ifCond .ne 5, 3) := by decide +kernel
theorem dX6_drop_15 : decode cX6_drop 15 = .ok (.iconst (-1), 1) := by decide +kernel
theorem dX6_drop_16 : decode cX6_drop 16 = .ok (.ireturn, 1) := by decide +kernel
theorem dX6_drop_17 : decode cX6_drop 17 = .ok (.aload_n 0, 1) := by decide +kernel
theorem dX6_drop_18 : decode cX6_drop 18 = .ok (.getfield 10, 3) := by decide +kernel
theorem dX6_drop_21 : decode cX6_drop 21 = .ok (.getfield 103, 3) := by decide +kernel
theorem dX6_drop_24 : decode cX6_drop 24 = .ok (.istore_n 2, 1) := by decide +kernel
theorem dX6_drop_25 : decode cX6_drop 25 = .ok (.aload_n 0, 1) := by decide +kernel
theorem dX6_drop_26 : decode cX6_drop 26 = .ok (.getfield 10, 3) := by decide +kernel
theorem dX6_drop_29 : decode cX6_drop 29 = .ok (.iload_n 1, 1) := by decide +kernel
theorem dX6_drop_30 : decode cX6_drop 30 = .ok (.putfield 103, 3) := by decide +kernel
theorem dX6_drop_33 : decode cX6_drop 33 = .ok (.iload_n 2, 1) := by decide +kernel
theorem dX6_drop_34 : decode cX6_drop 34 = .ok (.ireturn, 1) := by decide +kernel
theorem dX6_take_0 : decode cX6_take 0 = .ok (.aload_n 0, 1) := by decide +kernel
theorem dX6_take_1 : decode cX6_take 1 = .ok (.getfield 10, 3) := by decide +kernel
theorem dX6_take_4 : decode cX6_take 4 = .ok (.iload_n 1, 1) := by decide +kernel
theorem dX6_take_5 : decode cX6_take 5 = .ok (.invokevirtual 151, 3) := by decide +kernel
theorem dX6_take_8 : decode cX6_take 8 = .ok (.ifCond .eq 14, 3) := by decide +kernel
theorem dX6_take_11 : decode cX6_take 11 = .ok (.aload_n 0, 1) := by decide +kernel
theorem dX6_take_12 : decode cX6_take 12 = .ok (.getfield 10, 3) := by decide +kernel
theorem dX6_take_15 : decode cX6_take 15 = .ok (.iload_n 1, 1) := by decide +kernel
theorem dX6_take_16 : decode cX6_take 16 = .ok (.invokevirtual 172, 3) := by decide +kernel
theorem dX6_take_19 : decode cX6_take 19 = .ok (.goto 4, 3) := by decide +kernel
theorem dX6_take_22 : decode cX6_take 22 = .ok (.iconst (-1), 1) := by decide +kernel
theorem dX6_take_23 : decode cX6_take 23 = .ok (.ireturn, 1) := by decide +kernel
theorem dX6_steps_0 : decode cX6_steps 0 = .ok (.iload_n 1, 1) := by decide +kernel
theorem dX6_steps_1 : decode cX6_steps 1 = .ok (.iconst 0, 1) := by decide +kernel
theorem dX6_steps_2 : decode cX6_steps 2 = .ok (.bipush 100, 2) := by decide +kernel
theorem dX6_steps_4 : decode cX6_steps 4 = .ok (.invokestatic 69, 3) := by decide +kernel
theorem dX6_steps_7 : decode cX6_steps 7 = .ok (.ifCond .ne 5, 3) := by decide +kernel
theorem dX6_steps_10 : decode cX6_steps 10 = .ok (.iconst (-1), 1) := by decide +kernel
theorem dX6_steps_11 : decode cX6_steps 11 = .ok (.ireturn, 1) := by decide +kernel
theorem dX6_steps_12 : decode cX6_steps 12 = .ok (.aload_n 0, 1) := by decide +kernel
theorem dX6_steps_13 : decode cX6_steps 13 = .ok (.getfield 10, 3) := by decide +kernel
theorem dX6_steps_16 : decode cX6_steps 16 = .ok (.getfield 106, 3) := by decide +kernel
theorem dX6_steps_19 : decode cX6_steps 19 = .ok (.iload_n 1, 1) := by decide +kernel
theorem dX6_steps_20 : decode cX6_steps 20 = .ok (.iadd, 1) := by decide +kernel
theorem dX6_steps_21 : decode cX6_steps 21 = .ok (.sipush 10000, 3) := by decide +kernel
theorem dX6_steps_24 : decode cX6_steps 24 = .ok (.if_icmp .lt 6, 3) := by decide +kernel
theorem dX6_steps_27 : decode cX6_steps 27 = .ok (.bipush (-3), 2) := by decide +kernel
theorem dX6_steps_29 : decode cX6_steps 29 = .ok (.ireturn, 1) := by decide +kernel
theorem dX6_steps_30 : decode cX6_steps 30 = .ok (.iconst 0, 1) := by decide +kernel
theorem dX6_steps_31 : decode cX6_steps 31 = .ok (.istore_n 2, 1) := by decide +kernel
theorem dX6_steps_32 : decode cX6_steps 32 = .ok (.iconst 0, 1) := by decide +kernel
theorem dX6_steps_33 : decode cX6_steps 33 = .ok (.istore_n 3, 1) := by decide +kernel
theorem dX6_steps_34 : decode cX6_steps 34 = .ok (.iload_n 3, 1) := by decide +kernel
theorem dX6_steps_35 : decode cX6_steps 35 = .ok (.iload_n 1, 1) := by decide +kernel
theorem dX6_steps_36 : decode cX6_steps 36 = .ok (.if_icmp .ge 19, 3) := by decide +kernel
theorem dX6_steps_39 : decode cX6_steps 39 = .ok (.iload_n 2, 1) := by decide +kernel
theorem dX6_steps_40 : decode cX6_steps 40 = .ok (.aload_n 0, 1) := by decide +kernel
theorem dX6_steps_41 : decode cX6_steps 41 = .ok (.getfield 10, 3) := by decide +kernel
theorem dX6_steps_44 : decode cX6_steps 44 = .ok (.invokevirtual 175, 3) := by decide +kernel
theorem dX6_steps_47 : decode cX6_steps 47 = .ok (.iadd, 1) := by decide +kernel
theorem dX6_steps_48 : decode cX6_steps 48 = .ok (.istore_n 2, 1) := by decide +kernel
theorem dX6_steps_49 : decode cX6_steps 49 = .ok (.iinc 3 1, 3) := by decide +kernel
theorem dX6_steps_52 : decode cX6_steps 52 = .ok (.goto (-18), 3) := by decide +kernel
theorem dX6_steps_55 : decode cX6_steps 55 = .ok (.iload_n 2, 1) := by decide +kernel
theorem dX6_steps_56 : decode cX6_steps 56 = .ok (.ireturn, 1) := by decide +kernel
theorem dX6_runs_0 : decode cX6_runs 0 = .ok (.iload_n 1, 1) := by decide +kernel
theorem dX6_runs_1 : decode cX6_runs 1 = .ok (.iconst 0, 1) := by decide +kernel
theorem dX6_runs_2 : decode cX6_runs 2 = .ok (.sipush 200, 3) := by decide +kernel
theorem dX6_runs_5 : decode cX6_runs 5 = .ok (.invokestatic 69, 3) := by decide +kernel
theorem dX6_runs_8 : decode cX6_runs 8 = .ok (.ifCond .ne 5, 3) := by decide +kernel
theorem dX6_runs_11 : decode cX6_runs 11 = .ok (.iconst (-1), 1) := by decide +kernel
theorem dX6_runs_12 : decode cX6_runs 12 = .ok (.ireturn, 1) := by decide +kernel
theorem dX6_runs_13 : decode cX6_runs 13 = .ok (.aload_n 0, 1) := by decide +kernel
theorem dX6_runs_14 : decode cX6_runs 14 = .ok (.getfield 16, 3) := by decide +kernel
theorem dX6_runs_17 : decode cX6_runs 17 = .ok (.aload_n 0, 1) := by decide +kernel
theorem dX6_runs_18 : decode cX6_runs 18 = .ok (.getfield 10, 3) := by decide +kernel
theorem dX6_runs_21 : decode cX6_runs 21 = .ok (.invokevirtual 90, 3) := by decide +kernel
theorem dX6_runs_24 : decode cX6_runs 24 = .ok (.iload_n 2, 1) := by decide +kernel
theorem dX6_runs_25 : decode cX6_runs 25 = .ok (.tableswitch 66 0 3 #[31, 42, 48, 57], 31) := by decide +kernel
theorem dX6_runs_56 : decode cX6_runs 56 = .ok (.aload_n 0, 1) := by decide +kernel
theorem dX6_runs_57 : decode cX6_runs 57 = .ok (.getfield 16, 3) := by decide +kernel
theorem dX6_runs_60 : decode cX6_runs 60 = .ok (.iload_n 1, 1) := by decide +kernel
theorem dX6_runs_61 : decode cX6_runs 61 = .ok (.ldc 117, 2) := by decide +kernel
theorem dX6_runs_63 : decode cX6_runs 63 = .ok (.invokevirtual 178, 3) := by decide +kernel
theorem dX6_runs_66 : decode cX6_runs 66 = .ok (.ireturn, 1) := by decide +kernel
theorem dX6_runs_67 : decode cX6_runs 67 = .ok (.aload_n 0, 1) := by decide +kernel
theorem dX6_runs_68 : decode cX6_runs 68 = .ok (.iload_n 1, 1) := by decide +kernel
theorem dX6_runs_69 : decode cX6_runs 69 = .ok (.invokevirtual 182, 3) := by decide +kernel
theorem dX6_runs_72 : decode cX6_runs 72 = .ok (.ireturn, 1) := by decide +kernel
theorem dX6_runs_73 : decode cX6_runs 73 = .ok (.aload_n 0, 1) := by decide +kernel
theorem dX6_runs_74 : decode cX6_runs 74 = .ok (.getfield 16, 3) := by decide +kernel
theorem dX6_runs_77 : decode cX6_runs 77 = .ok (.iload_n 1, 1) := by decide +kernel
theorem dX6_runs_78 : decode cX6_runs 78 = .ok (.invokevirtual 185, 3) := by decide +kernel
theorem dX6_runs_81 : decode cX6_runs 81 = .ok (.ireturn, 1) := by decide +kernel
theorem dX6_runs_82 : decode cX6_runs 82 = .ok (.aload_n 0, 1) := by decide +kernel
theorem dX6_runs_83 : decode cX6_runs 83 = .ok (.getfield 16, 3) := by decide +kernel
theorem dX6_runs_86 : decode cX6_runs 86 = .ok (.iload_n 1, 1) := by decide +kernel
theorem dX6_runs_87 : decode cX6_runs 87 = .ok (.invokevirtual 188, 3) := by decide +kernel
theorem dX6_runs_90 : decode cX6_runs 90 = .ok (.ireturn, 1) := by decide +kernel
theorem dX6_runs_91 : decode cX6_runs 91 = .ok (.iconst (-1), 1) := by decide +kernel
theorem dX6_runs_92 : decode cX6_runs 92 = .ok (.ireturn, 1) := by decide +kernel
theorem dX6_cheapestIn_0 : decode cX6_cheapestIn 0 = .ok (.aload_n 0, 1) := by decide +kernel
theorem dX6_cheapestIn_1 : decode cX6_cheapestIn 1 = .ok (.getfield 50, 3) := by decide +kernel
theorem dX6_cheapestIn_4 : decode cX6_cheapestIn 4 = .ok (.ldc 117, 2) := by decide +kernel
theorem dX6_cheapestIn_6 : decode cX6_cheapestIn 6 = .ok (.invokevirtual 118, 3) := by decide +kernel
theorem dX6_cheapestIn_9 : decode cX6_cheapestIn 9 = .ok (.iconst 0, 1) := by decide +kernel
theorem dX6_cheapestIn_10 : decode cX6_cheapestIn 10 = .ok (.istore_n 2, 1) := by decide +kernel
theorem dX6_cheapestIn_11 : decode cX6_cheapestIn 11 = .ok (.iload_n 2, 1) := by decide +kernel
theorem dX6_cheapestIn_12 : decode cX6_cheapestIn 12 = .ok (.aload_n 0, 1) := by decide +kernel
theorem dX6_cheapestIn_13 : decode cX6_cheapestIn 13 = .ok (.getfield 16, 3) := by decide +kernel
theorem dX6_cheapestIn_16 : decode cX6_cheapestIn 16 = .ok (.getfield 100, 3) := by decide +kernel
theorem dX6_cheapestIn_19 : decode cX6_cheapestIn 19 = .ok (.if_icmp .ge 28, 3) := by decide +kernel
theorem dX6_cheapestIn_22 : decode cX6_cheapestIn 22 = .ok (.aload_n 0, 1) := by decide +kernel
theorem dX6_cheapestIn_23 : decode cX6_cheapestIn 23 = .ok (.getfield 50, 3) := by decide +kernel
theorem dX6_cheapestIn_26 : decode cX6_cheapestIn 26 = .ok (.iload_n 2, 1) := by decide +kernel
theorem dX6_cheapestIn_27 : decode cX6_cheapestIn 27 = .ok (.aload_n 0, 1) := by decide +kernel
theorem dX6_cheapestIn_28 : decode cX6_cheapestIn 28 = .ok (.getfield 16, 3) := by decide +kernel
theorem dX6_cheapestIn_31 : decode cX6_cheapestIn 31 = .ok (.iload_n 2, 1) := by decide +kernel
theorem dX6_cheapestIn_32 : decode cX6_cheapestIn 32 = .ok (.iload_n 1, 1) := by decide +kernel
theorem dX6_cheapestIn_33 : decode cX6_cheapestIn 33 = .ok (.ldc 117, 2) := by decide +kernel
theorem dX6_cheapestIn_35 : decode cX6_cheapestIn 35 = .ok (.invokevirtual 191, 3) := by decide +kernel
theorem dX6_cheapestIn_38 : decode cX6_cheapestIn 38 = .ok (.invokevirtual 131, 3) := by decide +kernel
theorem dX6_cheapestIn_41 : decode cX6_cheapestIn 41 = .ok (.iinc 2 1, 3) := by decide +kernel
theorem dX6_cheapestIn_44 : decode cX6_cheapestIn 44 = .ok (.goto (-33), 3) := by decide +kernel
theorem dX6_cheapestIn_47 : decode cX6_cheapestIn 47 = .ok (.aload_n 0, 1) := by decide +kernel
theorem dX6_cheapestIn_48 : decode cX6_cheapestIn 48 = .ok (.getfield 50, 3) := by decide +kernel
theorem dX6_cheapestIn_51 : decode cX6_cheapestIn 51 = .ok (.getfield 135, 3) := by decide +kernel
theorem dX6_cheapestIn_54 : decode cX6_cheapestIn 54 = .ok (.ireturn, 1) := by decide +kernel
theorem dX6_paid_0 : decode cX6_paid 0 = .ok (.aload_n 0, 1) := by decide +kernel
theorem dX6_paid_1 : decode cX6_paid 1 = .ok (.getfield 10, 3) := by decide +kernel
theorem dX6_paid_4 : decode cX6_paid 4 = .ok (.iload_n 1, 1) := by decide +kernel
theorem dX6_paid_5 : decode cX6_paid 5 = .ok (.invokevirtual 138, 3) := by decide +kernel
theorem dX6_paid_8 : decode cX6_paid 8 = .ok (.ifCond .eq 14, 3) := by decide +kernel
theorem dX6_paid_11 : decode cX6_paid 11 = .ok (.iload_n 2, 1) := by decide +kernel
theorem dX6_paid_12 : decode cX6_paid 12 = .ok (.iconst 0, 1) := by decide +kernel
theorem dX6_paid_13 : decode cX6_paid 13 = .ok (.sipush 200, 3) := by decide +kernel
theorem dX6_paid_16 : decode cX6_paid 16 = .ok (.invokestatic 69, 3) := by decide +kernel
theorem dX6_paid_19 : decode cX6_paid 19 = .ok (.ifCond .ne 5, 3) := by decide +kernel
theorem dX6_paid_22 : decode cX6_paid 22 = .ok (.iconst (-1), 1) := by decide +kernel
theorem dX6_paid_23 : decode cX6_paid 23 = .ok (.ireturn, 1) := by decide +kernel
theorem dX6_paid_24 : decode cX6_paid 24 = .ok (.aload_n 0, 1) := by decide +kernel
theorem dX6_paid_25 : decode cX6_paid 25 = .ok (.getfield 16, 3) := by decide +kernel
theorem dX6_paid_28 : decode cX6_paid 28 = .ok (.aload_n 0, 1) := by decide +kernel
theorem dX6_paid_29 : decode cX6_paid 29 = .ok (.getfield 10, 3) := by decide +kernel
theorem dX6_paid_32 : decode cX6_paid 32 = .ok (.invokevirtual 90, 3) := by decide +kernel
theorem dX6_paid_35 : decode cX6_paid 35 = .ok (.aload_n 0, 1) := by decide +kernel
theorem dX6_paid_36 : decode cX6_paid 36 = .ok (.getfield 16, 3) := by decide +kernel
theorem dX6_paid_39 : decode cX6_paid 39 = .ok (.iload_n 1, 1) := by decide +kernel
theorem dX6_paid_40 : decode cX6_paid 40 = .ok (.iload_n 2, 1) := by decide +kernel
theorem dX6_paid_41 : decode cX6_paid 41 = .ok (.ldc 117, 2) := by decide +kernel
theorem dX6_paid_43 : decode cX6_paid 43 = .ok (.invokevirtual 191, 3) := by decide +kernel
theorem dX6_paid_46 : decode cX6_paid 46 = .ok (.ireturn, 1) := by decide +kernel
theorem dX6_ahead_0 : decode cX6_ahead 0 = .ok (.aload_n 0, 1) := by decide +kernel
theorem dX6_ahead_1 : decode cX6_ahead 1 = .ok (.getfield 10, 3) := by decide +kernel
theorem dX6_ahead_4 : decode cX6_ahead 4 = .ok (.iload_n 1, 1) := by decide +kernel
theorem dX6_ahead_5 : decode cX6_ahead 5 = .ok (.invokevirtual 138, 3) := by decide +kernel
theorem dX6_ahead_8 : decode cX6_ahead 8 = .ok (.ifCond .eq 25, 3) := by decide +kernel
theorem dX6_ahead_11 : decode cX6_ahead 11 = .ok (.iload_n 2, 1) := by decide +kernel
theorem dX6_ahead_12 : decode cX6_ahead 12 = .ok (.iconst 0, 1) := by decide +kernel
theorem dX6_ahead_13 : decode cX6_ahead 13 = .ok (.sipush 200, 3) := by decide +kernel
theorem dX6_ahead_16 : decode cX6_ahead 16 = .ok (.invokestatic 69, 3) := by decide +kernel
theorem dX6_ahead_19 : decode cX6_ahead 19 = .ok (.ifCond .eq 14, 3) := by decide +kernel
theorem dX6_ahead_22 : decode cX6_ahead 22 = .ok (.aload_n 0, 1) := by decide +kernel
theorem dX6_ahead_23 : decode cX6_ahead 23 = .ok (.getfield 10, 3) := by decide +kernel
theorem dX6_ahead_26 : decode cX6_ahead 26 = .ok (.iload_n 3, 1) := by decide +kernel
theorem dX6_ahead_27 : decode cX6_ahead 27 = .ok (.invokevirtual 151, 3) := by decide +kernel
theorem dX6_ahead_30 : decode cX6_ahead 30 = .ok (.ifCond .ne 5, 3) := by decide +kernel
theorem dX6_ahead_33 : decode cX6_ahead 33 = .ok (.iconst (-1), 1) := by decide +kernel
theorem dX6_ahead_34 : decode cX6_ahead 34 = .ok (.ireturn, 1) := by decide +kernel
theorem dX6_ahead_35 : decode cX6_ahead 35 = .ok (.aload_n 0, 1) := by decide +kernel
theorem dX6_ahead_36 : decode cX6_ahead 36 = .ok (.getfield 16, 3) := by decide +kernel
theorem dX6_ahead_39 : decode cX6_ahead 39 = .ok (.aload_n 0, 1) := by decide +kernel
theorem dX6_ahead_40 : decode cX6_ahead 40 = .ok (.getfield 10, 3) := by decide +kernel
theorem dX6_ahead_43 : decode cX6_ahead 43 = .ok (.invokevirtual 90, 3) := by decide +kernel
theorem dX6_ahead_46 : decode cX6_ahead 46 = .ok (.aload_n 0, 1) := by decide +kernel
theorem dX6_ahead_47 : decode cX6_ahead 47 = .ok (.getfield 16, 3) := by decide +kernel
theorem dX6_ahead_50 : decode cX6_ahead 50 = .ok (.iload_n 1, 1) := by decide +kernel
theorem dX6_ahead_51 : decode cX6_ahead 51 = .ok (.iload_n 2, 1) := by decide +kernel
theorem dX6_ahead_52 : decode cX6_ahead 52 = .ok (.ldc 117, 2) := by decide +kernel
theorem dX6_ahead_54 : decode cX6_ahead 54 = .ok (.invokevirtual 191, 3) := by decide +kernel
theorem dX6_ahead_57 : decode cX6_ahead 57 = .ok (.pop, 1) := by decide +kernel
theorem dX6_ahead_58 : decode cX6_ahead 58 = .ok (.aload_n 0, 1) := by decide +kernel
theorem dX6_ahead_59 : decode cX6_ahead 59 = .ok (.getfield 16, 3) := by decide +kernel
theorem dX6_ahead_62 : decode cX6_ahead 62 = .ok (.getfield 122, 3) := by decide +kernel
theorem dX6_ahead_65 : decode cX6_ahead 65 = .ok (.iload_n 1, 1) := by decide +kernel
theorem dX6_ahead_66 : decode cX6_ahead 66 = .ok (.aaload, 1) := by decide +kernel
theorem dX6_ahead_67 : decode cX6_ahead 67 = .ok (.getfield 145, 3) := by decide +kernel
theorem dX6_ahead_70 : decode cX6_ahead 70 = .ok (.iload_n 3, 1) := by decide +kernel
theorem dX6_ahead_71 : decode cX6_ahead 71 = .ok (.iaload, 1) := by decide +kernel
theorem dX6_ahead_72 : decode cX6_ahead 72 = .ok (.ireturn, 1) := by decide +kernel
theorem dX6_when_0 : decode cX6_when 0 = .ok (.aload_n 0, 1) := by decide +kernel
theorem dX6_when_1 : decode cX6_when 1 = .ok (.getfield 10, 3) := by decide +kernel
theorem dX6_when_4 : decode cX6_when 4 = .ok (.iload_n 1, 1) := by decide +kernel
theorem dX6_when_5 : decode cX6_when 5 = .ok (.invokevirtual 138, 3) := by decide +kernel
theorem dX6_when_8 : decode cX6_when 8 = .ok (.ifCond .eq 14, 3) := by decide +kernel
theorem dX6_when_11 : decode cX6_when 11 = .ok (.aload_n 0, 1) := by decide +kernel
theorem dX6_when_12 : decode cX6_when 12 = .ok (.getfield 10, 3) := by decide +kernel
theorem dX6_when_15 : decode cX6_when 15 = .ok (.iload_n 2, 1) := by decide +kernel
theorem dX6_when_16 : decode cX6_when 16 = .ok (.invokevirtual 151, 3) := by decide +kernel
theorem dX6_when_19 : decode cX6_when 19 = .ok (.ifCond .ne 5, 3) := by decide +kernel
theorem dX6_when_22 : decode cX6_when 22 = .ok (.iconst (-1), 1) := by decide +kernel
theorem dX6_when_23 : decode cX6_when 23 = .ok (.ireturn, 1) := by decide +kernel
theorem dX6_when_24 : decode cX6_when 24 = .ok (.aload_n 0, 1) := by decide +kernel
theorem dX6_when_25 : decode cX6_when 25 = .ok (.getfield 16, 3) := by decide +kernel
theorem dX6_when_28 : decode cX6_when 28 = .ok (.aload_n 0, 1) := by decide +kernel
theorem dX6_when_29 : decode cX6_when 29 = .ok (.getfield 10, 3) := by decide +kernel
theorem dX6_when_32 : decode cX6_when 32 = .ok (.invokevirtual 90, 3) := by decide +kernel
theorem dX6_when_35 : decode cX6_when 35 = .ok (.iconst 0, 1) := by decide +kernel
theorem dX6_when_36 : decode cX6_when 36 = .ok (.istore_n 3, 1) := by decide +kernel
theorem dX6_when_37 : decode cX6_when 37 = .ok (.iload_n 3, 1) := by decide +kernel
theorem dX6_when_38 : decode cX6_when 38 = .ok (.sipush 200, 3) := by decide +kernel
theorem dX6_when_41 : decode cX6_when 41 = .ok (.if_icmp .gt 39, 3) := by decide +kernel
theorem dX6_when_44 : decode cX6_when 44 = .ok (.aload_n 0, 1) := by decide +kernel
theorem dX6_when_45 : decode cX6_when 45 = .ok (.getfield 16, 3) := by decide +kernel
theorem dX6_when_48 : decode cX6_when 48 = .ok (.getfield 122, 3) := by decide +kernel
theorem dX6_when_51 : decode cX6_when 51 = .ok (.iload_n 1, 1) := by decide +kernel
theorem dX6_when_52 : decode cX6_when 52 = .ok (.aaload, 1) := by decide +kernel
theorem dX6_when_53 : decode cX6_when 53 = .ok (.getfield 145, 3) := by decide +kernel
theorem dX6_when_56 : decode cX6_when 56 = .ok (.iconst 0, 1) := by decide +kernel
theorem dX6_when_57 : decode cX6_when 57 = .ok (.iaload, 1) := by decide +kernel
theorem dX6_when_58 : decode cX6_when 58 = .ok (.iload_n 2, 1) := by decide +kernel
theorem dX6_when_59 : decode cX6_when 59 = .ok (.if_icmp .ne 5, 3) := by decide +kernel
theorem dX6_when_62 : decode cX6_when 62 = .ok (.iload_n 3, 1) := by decide +kernel
theorem dX6_when_63 : decode cX6_when 63 = .ok (.ireturn, 1) := by decide +kernel
theorem dX6_when_64 : decode cX6_when 64 = .ok (.aload_n 0, 1) := by decide +kernel
theorem dX6_when_65 : decode cX6_when 65 = .ok (.getfield 16, 3) := by decide +kernel
theorem dX6_when_68 : decode cX6_when 68 = .ok (.iload_n 1, 1) := by decide +kernel
theorem dX6_when_69 : decode cX6_when 69 = .ok (.iload_n 3, 1) := by decide +kernel
theorem dX6_when_70 : decode cX6_when 70 = .ok (.invokevirtual 195, 3) := by decide +kernel
theorem dX6_when_73 : decode cX6_when 73 = .ok (.pop, 1) := by decide +kernel
theorem dX6_when_74 : decode cX6_when 74 = .ok (.iinc 3 1, 3) := by decide +kernel
theorem dX6_when_77 : decode cX6_when 77 = .ok (.goto (-40), 3) := by decide +kernel
theorem dX6_when_80 : decode cX6_when 80 = .ok (.bipush (-4), 2) := by decide +kernel
theorem dX6_when_82 : decode cX6_when 82 = .ok (.ireturn, 1) := by decide +kernel
theorem dX6_again_0 : decode cX6_again 0 = .ok (.aload_n 0, 1) := by decide +kernel
theorem dX6_again_1 : decode cX6_again 1 = .ok (.getfield 16, 3) := by decide +kernel
theorem dX6_again_4 : decode cX6_again 4 = .ok (.aload_n 0, 1) := by decide +kernel
theorem dX6_again_5 : decode cX6_again 5 = .ok (.getfield 10, 3) := by decide +kernel
theorem dX6_again_8 : decode cX6_again 8 = .ok (.invokevirtual 90, 3) := by decide +kernel
theorem dX6_again_11 : decode cX6_again 11 = .ok (.iconst 1, 1) := by decide +kernel
theorem dX6_again_12 : decode cX6_again 12 = .ok (.istore_n 1, 1) := by decide +kernel
theorem dX6_again_13 : decode cX6_again 13 = .ok (.iload_n 1, 1) := by decide +kernel
theorem dX6_again_14 : decode cX6_again 14 = .ok (.sipush 200, 3) := by decide +kernel
theorem dX6_again_17 : decode cX6_again 17 = .ok (.if_icmp .gt 52, 3) := by decide +kernel
theorem dX6_again_20 : decode cX6_again 20 = .ok (.aload_n 0, 1) := by decide +kernel
theorem dX6_again_21 : decode cX6_again 21 = .ok (.getfield 16, 3) := by decide +kernel
theorem dX6_again_24 : decode cX6_again 24 = .ok (.invokevirtual 175, 3) := by decide +kernel
theorem dX6_again_27 : decode cX6_again 27 = .ok (.pop, 1) := by decide +kernel
theorem dX6_again_28 : decode cX6_again 28 = .ok (.aload_n 0, 1) := by decide +kernel
theorem dX6_again_29 : decode cX6_again 29 = .ok (.getfield 16, 3) := by decide +kernel
theorem dX6_again_32 : decode cX6_again 32 = .ok (.iconst 0, 1) := by decide +kernel
theorem dX6_again_33 : decode cX6_again 33 = .ok (.invokevirtual 109, 3) := by decide +kernel
theorem dX6_again_36 : decode cX6_again 36 = .ok (.aload_n 0, 1) := by decide +kernel
theorem dX6_again_37 : decode cX6_again 37 = .ok (.getfield 10, 3) := by decide +kernel
theorem dX6_again_40 : decode cX6_again 40 = .ok (.iconst 0, 1) := by decide +kernel
theorem dX6_again_41 : decode cX6_again 41 = .ok (.invokevirtual 109, 3) := by decide +kernel
theorem dX6_again_44 : decode cX6_again 44 = .ok (.if_icmp .ne 19, 3) := by decide +kernel
theorem dX6_again_47 : decode cX6_again 47 = .ok (.aload_n 0, 1) := by decide +kernel
theorem dX6_again_48 : decode cX6_again 48 = .ok (.getfield 16, 3) := by decide +kernel
theorem dX6_again_51 : decode cX6_again 51 = .ok (.aload_n 0, 1) := by decide +kernel
theorem dX6_again_52 : decode cX6_again 52 = .ok (.getfield 10, 3) := by decide +kernel
theorem dX6_again_55 : decode cX6_again 55 = .ok (.invokevirtual 198, 3) := by decide +kernel
theorem dX6_again_58 : decode cX6_again 58 = .ok (.ifCond .eq 5, 3) := by decide +kernel
theorem dX6_again_61 : decode cX6_again 61 = .ok (.iload_n 1, 1) := by decide +kernel
theorem dX6_again_62 : decode cX6_again 62 = .ok (.ireturn, 1) := by decide +kernel
theorem dX6_again_63 : decode cX6_again 63 = .ok (.iinc 1 1, 3) := by decide +kernel
theorem dX6_again_66 : decode cX6_again 66 = .ok (.goto (-53), 3) := by decide +kernel
theorem dX6_again_69 : decode cX6_again 69 = .ok (.bipush (-4), 2) := by decide +kernel
theorem dX6_again_71 : decode cX6_again 71 = .ok (.ireturn, 1) := by decide +kernel
theorem dX6_order_0 : decode cX6_order 0 = .ok (.iload_n 2, 1) := by decide +kernel
theorem dX6_order_1 : decode cX6_order 1 = .ok (.bipush 10, 2) := by decide +kernel
theorem dX6_order_3 : decode cX6_order 3 = .ok (.bipush 10, 2) := by decide +kernel
theorem dX6_order_5 : decode cX6_order 5 = .ok (.aload_n 0, 1) := by decide +kernel
theorem dX6_order_6 : decode cX6_order 6 = .ok (.getfield 10, 3) := by decide +kernel
theorem dX6_order_9 : decode cX6_order 9 = .ok (.getfield 97, 3) := by decide +kernel
theorem dX6_order_12 : decode cX6_order 12 = .ok (.iadd, 1) := by decide +kernel
theorem dX6_order_13 : decode cX6_order 13 = .ok (.iconst 1, 1) := by decide +kernel
theorem dX6_order_14 : decode cX6_order 14 = .ok (.isub, 1) := by decide +kernel
theorem dX6_order_15 : decode cX6_order 15 = .ok (.invokestatic 69, 3) := by decide +kernel
theorem dX6_order_18 : decode cX6_order 18 = .ok (.istore_n 3, 1) := by decide +kernel
theorem dX6_order_19 : decode cX6_order 19 = .ok (.aload_n 0, 1) := by decide +kernel
theorem dX6_order_20 : decode cX6_order 20 = .ok (.getfield 10, 3) := by decide +kernel
theorem dX6_order_23 : decode cX6_order 23 = .ok (.iload_n 1, 1) := by decide +kernel
theorem dX6_order_24 : decode cX6_order 24 = .ok (.invokevirtual 138, 3) := by decide +kernel
theorem dX6_order_27 : decode cX6_order 27 = .ok (.ifCond .eq 11, 3) := by decide +kernel
theorem dX6_order_30 : decode cX6_order 30 = .ok (.iload_n 2, 1) := by decide +kernel
theorem dX6_order_31 : decode cX6_order 31 = .ok (.ifCond .eq 9, 3) := by decide +kernel
theorem dX6_order_34 : decode cX6_order 34 = .ok (.iload_n 3, 1) := by decide +kernel
theorem dX6_order_35 : decode cX6_order 35 = .ok (.ifCond .ne 5, 3) := by decide +kernel
theorem dX6_order_38 : decode cX6_order 38 = .ok (.iconst (-1), 1) := by decide +kernel
theorem dX6_order_39 : decode cX6_order 39 = .ok (.ireturn, 1) := by decide +kernel
theorem dX6_order_40 : decode cX6_order 40 = .ok (.aload_n 0, 1) := by decide +kernel
theorem dX6_order_41 : decode cX6_order 41 = .ok (.iload_n 1, 1) := by decide +kernel
theorem dX6_order_42 : decode cX6_order 42 = .ok (.invokevirtual 202, 3) := by decide +kernel
theorem dX6_order_45 : decode cX6_order 45 = .ok (.istore 4, 2) := by decide +kernel
theorem dX6_order_47 : decode cX6_order 47 = .ok (.iload_n 3, 1) := by decide +kernel
theorem dX6_order_48 : decode cX6_order 48 = .ok (.ifCond .eq 15, 3) := by decide +kernel
theorem dX6_order_51 : decode cX6_order 51 = .ok (.aload_n 0, 1) := by decide +kernel
theorem dX6_order_52 : decode cX6_order 52 = .ok (.getfield 58, 3) := by decide +kernel
theorem dX6_order_55 : decode cX6_order 55 = .ok (.iload_n 2, 1) := by decide +kernel
theorem dX6_order_56 : decode cX6_order 56 = .ok (.bipush 10, 2) := by decide +kernel
theorem dX6_order_58 : decode cX6_order 58 = .ok (.isub, 1) := by decide +kernel
theorem dX6_order_59 : decode cX6_order 59 = .ok (.iaload, 1) := by decide +kernel
theorem dX6_order_60 : decode cX6_order 60 = .ok (.goto 5, 3) := by decide +kernel
theorem dX6_order_63 : decode cX6_order 63 = .ok (.iload 4, 2) := by decide +kernel
theorem dX6_order_65 : decode cX6_order 65 = .ok (.ireturn, 1) := by decide +kernel
theorem dX6_findBestRow_0 : decode cX6_findBestRow 0 = .ok (.aload_n 0, 1) := by decide +kernel
theorem dX6_findBestRow_1 : decode cX6_findBestRow 1 = .ok (.getfield 16, 3) := by decide +kernel
theorem dX6_findBestRow_4 : decode cX6_findBestRow 4 = .ok (.aload_n 0, 1) := by decide +kernel
theorem dX6_findBestRow_5 : decode cX6_findBestRow 5 = .ok (.getfield 10, 3) := by decide +kernel
theorem dX6_findBestRow_8 : decode cX6_findBestRow 8 = .ok (.invokevirtual 90, 3) := by decide +kernel
theorem dX6_findBestRow_11 : decode cX6_findBestRow 11 = .ok (.aload_n 0, 1) := by decide +kernel
theorem dX6_findBestRow_12 : decode cX6_findBestRow 12 = .ok (.getfield 16, 3) := by decide +kernel
theorem dX6_findBestRow_15 : decode cX6_findBestRow 15 = .ok (.getfield 122, 3) := by decide +kernel
theorem dX6_findBestRow_18 : decode cX6_findBestRow 18 = .ok (.iload_n 1, 1) := by decide +kernel
theorem dX6_findBestRow_19 : decode cX6_findBestRow 19 = .ok (.aaload, 1) := by decide +kernel
theorem dX6_findBestRow_20 : decode cX6_findBestRow 20 = .ok (.astore_n 2, 1) := by decide +kernel
theorem dX6_findBestRow_21 : decode cX6_findBestRow 21 = .ok (.iconst 0, 1) := by decide +kernel
theorem dX6_findBestRow_22 : decode cX6_findBestRow 22 = .ok (.istore_n 3, 1) := by decide +kernel
theorem dX6_findBestRow_23 : decode cX6_findBestRow 23 = .ok (.iload_n 3, 1) := by decide +kernel
theorem dX6_findBestRow_24 : decode cX6_findBestRow 24 = .ok (.bipush 6, 2) := by decide +kernel
theorem dX6_findBestRow_26 : decode cX6_findBestRow 26 = .ok (.if_icmp .ge 16, 3) := by decide +kernel
theorem dX6_findBestRow_29 : decode cX6_findBestRow 29 = .ok (.aload_n 0, 1) := by decide +kernel
theorem dX6_findBestRow_30 : decode cX6_findBestRow 30 = .ok (.getfield 54, 3) := by decide +kernel
theorem dX6_findBestRow_33 : decode cX6_findBestRow 33 = .ok (.iload_n 3, 1) := by decide +kernel
theorem dX6_findBestRow_34 : decode cX6_findBestRow 34 = .ok (.iload_n 3, 1) := by decide +kernel
theorem dX6_findBestRow_35 : decode cX6_findBestRow 35 = .ok (.iastore, 1) := by decide +kernel
theorem dX6_findBestRow_36 : decode cX6_findBestRow 36 = .ok (.iinc 3 1, 3) := by decide +kernel
theorem dX6_findBestRow_39 : decode cX6_findBestRow 39 = .ok (.goto (-16), 3) := by decide +kernel
theorem dX6_findBestRow_42 : decode cX6_findBestRow 42 = .ok (.ldc 117, 2) := by decide +kernel
theorem dX6_findBestRow_44 : decode cX6_findBestRow 44 = .ok (.istore_n 3, 1) := by decide +kernel
theorem dX6_findBestRow_45 : decode cX6_findBestRow 45 = .ok (.iconst 1, 1) := by decide +kernel
theorem dX6_findBestRow_46 : decode cX6_findBestRow 46 = .ok (.istore 4, 2) := by decide +kernel
theorem dX6_findBestRow_48 : decode cX6_findBestRow 48 = .ok (.iconst 0, 1) := by decide +kernel
theorem dX6_findBestRow_49 : decode cX6_findBestRow 49 = .ok (.istore 5, 2) := by decide +kernel
theorem dX6_findBestRow_51 : decode cX6_findBestRow 51 = .ok (.iload 5, 2) := by decide +kernel
theorem dX6_findBestRow_53 : decode cX6_findBestRow 53 = .ok (.sipush 720, 3) := by decide +kernel
theorem dX6_findBestRow_56 : decode cX6_findBestRow 56 = .ok (.if_icmp .ge 100, 3) := by decide +kernel
theorem dX6_findBestRow_59 : decode cX6_findBestRow 59 = .ok (.iload 4, 2) := by decide +kernel
theorem dX6_findBestRow_61 : decode cX6_findBestRow 61 = .ok (.ifCond .eq 95, 3) := by decide +kernel
theorem dX6_findBestRow_64 : decode cX6_findBestRow 64 = .ok (.aload_n 2, 1) := by decide +kernel
theorem dX6_findBestRow_65 : decode cX6_findBestRow 65 = .ok (.aload_n 0, 1) := by decide +kernel
theorem dX6_findBestRow_66 : decode cX6_findBestRow 66 = .ok (.getfield 10, 3) := by decide +kernel
theorem dX6_findBestRow_69 : decode cX6_findBestRow 69 = .ok (.getfield 122, 3) := by decide +kernel
theorem dX6_findBestRow_72 : decode cX6_findBestRow 72 = .ok (.iload_n 1, 1) := by decide +kernel
theorem dX6_findBestRow_73 : decode cX6_findBestRow 73 = .ok (.aaload, 1) := by decide +kernel
theorem dX6_findBestRow_74 : decode cX6_findBestRow 74 = .ok (.invokevirtual 205, 3) := by decide +kernel
theorem dX6_findBestRow_77 : decode cX6_findBestRow 77 = .ok (.aload_n 0, 1) := by decide +kernel
theorem dX6_findBestRow_78 : decode cX6_findBestRow 78 = .ok (.getfield 54, 3) := by decide +kernel
theorem dX6_findBestRow_81 : decode cX6_findBestRow 81 = .ok (.iconst 0, 1) := by decide +kernel
theorem dX6_findBestRow_82 : decode cX6_findBestRow 82 = .ok (.aload_n 2, 1) := by decide +kernel
theorem dX6_findBestRow_83 : decode cX6_findBestRow 83 = .ok (.getfield 145, 3) := by decide +kernel
theorem dX6_findBestRow_86 : decode cX6_findBestRow 86 = .ok (.iconst 0, 1) := by decide +kernel
theorem dX6_findBestRow_87 : decode cX6_findBestRow 87 = .ok (.bipush 6, 2) := by decide +kernel
theorem dX6_findBestRow_89 : decode cX6_findBestRow 89 = .ok (.invokestatic 208, 3) := by decide +kernel
theorem dX6_findBestRow_92 : decode cX6_findBestRow 92 = .ok (.aload_n 0, 1) := by decide +kernel
theorem dX6_findBestRow_93 : decode cX6_findBestRow 93 = .ok (.getfield 16, 3) := by decide +kernel
theorem dX6_findBestRow_96 : decode cX6_findBestRow 96 = .ok (.iload_n 1, 1) := by decide +kernel
theorem dX6_findBestRow_97 : decode cX6_findBestRow 97 = .ok (.aload_n 0, 1) := by decide +kernel
theorem dX6_findBestRow_98 : decode cX6_findBestRow 98 = .ok (.getfield 10, 3) := by decide +kernel
theorem dX6_findBestRow_101 : decode cX6_findBestRow 101 = .ok (.getfield 103, 3) := by decide +kernel
theorem dX6_findBestRow_104 : decode cX6_findBestRow 104 = .ok (.iload_n 3, 1) := by decide +kernel
theorem dX6_findBestRow_105 : decode cX6_findBestRow 105 = .ok (.invokevirtual 191, 3) := by decide +kernel
theorem dX6_findBestRow_108 : decode cX6_findBestRow 108 = .ok (.istore 6, 2) := by decide +kernel
theorem dX6_findBestRow_110 : decode cX6_findBestRow 110 = .ok (.iload 6, 2) := by decide +kernel
theorem dX6_findBestRow_112 : decode cX6_findBestRow 112 = .ok (.iload_n 3, 1) := by decide +kernel
theorem dX6_findBestRow_113 : decode cX6_findBestRow 113 = .ok (.if_icmp .ge 21, 3) := by decide +kernel
theorem dX6_findBestRow_116 : decode cX6_findBestRow 116 = .ok (.iload 6, 2) := by decide +kernel
theorem dX6_findBestRow_118 : decode cX6_findBestRow 118 = .ok (.istore_n 3, 1) := by decide +kernel
theorem dX6_findBestRow_119 : decode cX6_findBestRow 119 = .ok (.aload_n 0, 1) := by decide +kernel
theorem dX6_findBestRow_120 : decode cX6_findBestRow 120 = .ok (.getfield 54, 3) := by decide +kernel
theorem dX6_findBestRow_123 : decode cX6_findBestRow 123 = .ok (.iconst 0, 1) := by decide +kernel
theorem dX6_findBestRow_124 : decode cX6_findBestRow 124 = .ok (.aload_n 0, 1) := by decide +kernel
theorem dX6_findBestRow_125 : decode cX6_findBestRow 125 = .ok (.getfield 58, 3) := by decide +kernel
theorem dX6_findBestRow_128 : decode cX6_findBestRow 128 = .ok (.iconst 0, 1) := by decide +kernel
theorem dX6_findBestRow_129 : decode cX6_findBestRow 129 = .ok (.bipush 6, 2) := by decide +kernel
theorem dX6_findBestRow_131 : decode cX6_findBestRow 131 = .ok (.invokestatic 208, 3) := by decide +kernel
theorem dX6_findBestRow_134 : decode cX6_findBestRow 134 = .ok (.aload_n 0, 1) := by decide +kernel
theorem dX6_findBestRow_135 : decode cX6_findBestRow 135 = .ok (.getfield 54, 3) := by decide +kernel
theorem dX6_findBestRow_138 : decode cX6_findBestRow 138 = .ok (.aload_n 0, 1) := by decide +kernel
theorem dX6_findBestRow_139 : decode cX6_findBestRow 139 = .ok (.getfield 10, 3) := by decide +kernel
theorem dX6_findBestRow_142 : decode cX6_findBestRow 142 = .ok (.getfield 97, 3) := by decide +kernel
theorem dX6_findBestRow_145 : decode cX6_findBestRow 145 = .ok (.invokestatic 214, 3) := by decide +kernel
theorem dX6_findBestRow_148 : decode cX6_findBestRow 148 = .ok (.istore 4, 2) := by decide +kernel
theorem dX6_findBestRow_150 : decode cX6_findBestRow 150 = .ok (.iinc 5 1, 3) := by decide +kernel
theorem dX6_findBestRow_153 : decode cX6_findBestRow 153 = .ok (.goto (-102), 3) := by decide +kernel
theorem dX6_findBestRow_156 : decode cX6_findBestRow 156 = .ok (.iload_n 3, 1) := by decide +kernel
theorem dX6_findBestRow_157 : decode cX6_findBestRow 157 = .ok (.ireturn, 1) := by decide +kernel
theorem dX6_nextRow_0 : decode cX6_nextRow 0 = .ok (.iload_n 1, 1) := by decide +kernel
theorem dX6_nextRow_1 : decode cX6_nextRow 1 = .ok (.iconst 2, 1) := by decide +kernel
theorem dX6_nextRow_2 : decode cX6_nextRow 2 = .ok (.isub, 1) := by decide +kernel
theorem dX6_nextRow_3 : decode cX6_nextRow 3 = .ok (.istore_n 2, 1) := by decide +kernel
theorem dX6_nextRow_4 : decode cX6_nextRow 4 = .ok (.iload_n 2, 1) := by decide +kernel
theorem dX6_nextRow_5 : decode cX6_nextRow 5 = .ok (.ifCond .lt 20, 3) := by decide +kernel
theorem dX6_nextRow_8 : decode cX6_nextRow 8 = .ok (.aload_n 0, 1) := by decide +kernel
theorem dX6_nextRow_9 : decode cX6_nextRow 9 = .ok (.iload_n 2, 1) := by decide +kernel
theorem dX6_nextRow_10 : decode cX6_nextRow 10 = .ok (.iaload, 1) := by decide +kernel
theorem dX6_nextRow_11 : decode cX6_nextRow 11 = .ok (.aload_n 0, 1) := by decide +kernel
theorem dX6_nextRow_12 : decode cX6_nextRow 12 = .ok (.iload_n 2, 1) := by decide +kernel
theorem dX6_nextRow_13 : decode cX6_nextRow 13 = .ok (.iconst 1, 1) := by decide +kernel
theorem dX6_nextRow_14 : decode cX6_nextRow 14 = .ok (.iadd, 1) := by decide +kernel
theorem dX6_nextRow_15 : decode cX6_nextRow 15 = .ok (.iaload, 1) := by decide +kernel
theorem dX6_nextRow_16 : decode cX6_nextRow 16 = .ok (.if_icmp .le 9, 3) := by decide +kernel
theorem dX6_nextRow_19 : decode cX6_nextRow 19 = .ok (.iinc 2 (-1), 3) := by decide +kernel
theorem dX6_nextRow_22 : decode cX6_nextRow 22 = .ok (.goto (-18), 3) := by decide +kernel
theorem dX6_nextRow_25 : decode cX6_nextRow 25 = .ok (.iload_n 2, 1) := by decide +kernel
theorem dX6_nextRow_26 : decode cX6_nextRow 26 = .ok (.ifCond .ge 5, 3) := by decide +kernel
theorem dX6_nextRow_29 : decode cX6_nextRow 29 = .ok (.iconst 0, 1) := by decide +kernel
theorem dX6_nextRow_30 : decode cX6_nextRow 30 = .ok (.ireturn, 1) := by decide +kernel
theorem dX6_nextRow_31 : decode cX6_nextRow 31 = .ok (.iload_n 1, 1) := by decide +kernel
theorem dX6_nextRow_32 : decode cX6_nextRow 32 = .ok (.iconst 1, 1) := by decide +kernel
theorem dX6_nextRow_33 : decode cX6_nextRow 33 = .ok (.isub, 1) := by decide +kernel
theorem dX6_nextRow_34 : decode cX6_nextRow 34 = .ok (.istore_n 3, 1) := by decide +kernel
theorem dX6_nextRow_35 : decode cX6_nextRow 35 = .ok (.iload_n 3, 1) := by decide +kernel
theorem dX6_nextRow_36 : decode cX6_nextRow 36 = .ok (.iload_n 2, 1) := by decide +kernel
theorem dX6_nextRow_37 : decode cX6_nextRow 37 = .ok (.iconst 1, 1) := by decide +kernel
theorem dX6_nextRow_38 : decode cX6_nextRow 38 = .ok (.iadd, 1) := by decide +kernel
theorem dX6_nextRow_39 : decode cX6_nextRow 39 = .ok (.if_icmp .le 18, 3) := by decide +kernel
theorem dX6_nextRow_42 : decode cX6_nextRow 42 = .ok (.aload_n 0, 1) := by decide +kernel
theorem dX6_nextRow_43 : decode cX6_nextRow 43 = .ok (.iload_n 3, 1) := by decide +kernel
theorem dX6_nextRow_44 : decode cX6_nextRow 44 = .ok (.iaload, 1) := by decide +kernel
theorem dX6_nextRow_45 : decode cX6_nextRow 45 = .ok (.aload_n 0, 1) := by decide +kernel
theorem dX6_nextRow_46 : decode cX6_nextRow 46 = .ok (.iload_n 2, 1) := by decide +kernel
theorem dX6_nextRow_47 : decode cX6_nextRow 47 = .ok (.iaload, 1) := by decide +kernel
theorem dX6_nextRow_48 : decode cX6_nextRow 48 = .ok (.if_icmp .ge 9, 3) := by decide +kernel
theorem dX6_nextRow_51 : decode cX6_nextRow 51 = .ok (.iinc 3 (-1), 3) := by decide +kernel
theorem dX6_nextRow_54 : decode cX6_nextRow 54 = .ok (.goto (-19), 3) := by decide +kernel
theorem dX6_nextRow_57 : decode cX6_nextRow 57 = .ok (.aload_n 0, 1) := by decide +kernel
theorem dX6_nextRow_58 : decode cX6_nextRow 58 = .ok (.iload_n 2, 1) := by decide +kernel
theorem dX6_nextRow_59 : decode cX6_nextRow 59 = .ok (.iload_n 3, 1) := by decide +kernel
theorem dX6_nextRow_60 : decode cX6_nextRow 60 = .ok (.invokestatic 218, 3) := by decide +kernel
theorem dX6_nextRow_63 : decode cX6_nextRow 63 = .ok (.iload_n 2, 1) := by decide +kernel
theorem dX6_nextRow_64 : decode cX6_nextRow 64 = .ok (.iconst 1, 1) := by decide +kernel
theorem dX6_nextRow_65 : decode cX6_nextRow 65 = .ok (.iadd, 1) := by decide +kernel
theorem dX6_nextRow_66 : decode cX6_nextRow 66 = .ok (.istore 4, 2) := by decide +kernel
theorem dX6_nextRow_68 : decode cX6_nextRow 68 = .ok (.iload_n 1, 1) := by decide +kernel
theorem dX6_nextRow_69 : decode cX6_nextRow 69 = .ok (.iconst 1, 1) := by decide +kernel
theorem dX6_nextRow_70 : decode cX6_nextRow 70 = .ok (.isub, 1) := by decide +kernel
theorem dX6_nextRow_71 : decode cX6_nextRow 71 = .ok (.istore 5, 2) := by decide +kernel
theorem dX6_nextRow_73 : decode cX6_nextRow 73 = .ok (.iload 4, 2) := by decide +kernel
theorem dX6_nextRow_75 : decode cX6_nextRow 75 = .ok (.iload 5, 2) := by decide +kernel
theorem dX6_nextRow_77 : decode cX6_nextRow 77 = .ok (.if_icmp .ge 20, 3) := by decide +kernel
theorem dX6_nextRow_80 : decode cX6_nextRow 80 = .ok (.aload_n 0, 1) := by decide +kernel
theorem dX6_nextRow_81 : decode cX6_nextRow 81 = .ok (.iload 4, 2) := by decide +kernel
theorem dX6_nextRow_83 : decode cX6_nextRow 83 = .ok (.iload 5, 2) := by decide +kernel
theorem dX6_nextRow_85 : decode cX6_nextRow 85 = .ok (.invokestatic 218, 3) := by decide +kernel
theorem dX6_nextRow_88 : decode cX6_nextRow 88 = .ok (.iinc 4 1, 3) := by decide +kernel
theorem dX6_nextRow_91 : decode cX6_nextRow 91 = .ok (.iinc 5 (-1), 3) := by decide +kernel
theorem dX6_nextRow_94 : decode cX6_nextRow 94 = .ok (.goto (-21), 3) := by decide +kernel
theorem dX6_nextRow_97 : decode cX6_nextRow 97 = .ok (.iconst 1, 1) := by decide +kernel
theorem dX6_nextRow_98 : decode cX6_nextRow 98 = .ok (.ireturn, 1) := by decide +kernel
theorem dX6_exchange_0 : decode cX6_exchange 0 = .ok (.aload_n 0, 1) := by decide +kernel
theorem dX6_exchange_1 : decode cX6_exchange 1 = .ok (.iload_n 1, 1) := by decide +kernel
theorem dX6_exchange_2 : decode cX6_exchange 2 = .ok (.iaload, 1) := by decide +kernel
theorem dX6_exchange_3 : decode cX6_exchange 3 = .ok (.istore_n 3, 1) := by decide +kernel
theorem dX6_exchange_4 : decode cX6_exchange 4 = .ok (.aload_n 0, 1) := by decide +kernel
theorem dX6_exchange_5 : decode cX6_exchange 5 = .ok (.iload_n 1, 1) := by decide +kernel
theorem dX6_exchange_6 : decode cX6_exchange 6 = .ok (.aload_n 0, 1) := by decide +kernel
theorem dX6_exchange_7 : decode cX6_exchange 7 = .ok (.iload_n 2, 1) := by decide +kernel
theorem dX6_exchange_8 : decode cX6_exchange 8 = .ok (.iaload, 1) := by decide +kernel
theorem dX6_exchange_9 : decode cX6_exchange 9 = .ok (.iastore, 1) := by decide +kernel
theorem dX6_exchange_10 : decode cX6_exchange 10 = .ok (.aload_n 0, 1) := by decide +kernel
theorem dX6_exchange_11 : decode cX6_exchange 11 = .ok (.iload_n 2, 1) := by decide +kernel
theorem dX6_exchange_12 : decode cX6_exchange 12 = .ok (.iload_n 3, 1) := by decide +kernel
theorem dX6_exchange_13 : decode cX6_exchange 13 = .ok (.iastore, 1) := by decide +kernel
theorem dX6_exchange_14 : decode cX6_exchange 14 = .ok (.return_, 1) := by decide +kernel
theorem dX6_kind_0 : decode cX6_kind 0 = .ok (.aload_n 0, 1) := by decide +kernel
theorem dX6_kind_1 : decode cX6_kind 1 = .ok (.getfield 10, 3) := by decide +kernel
theorem dX6_kind_4 : decode cX6_kind 4 = .ok (.iload_n 1, 1) := by decide +kernel
theorem dX6_kind_5 : decode cX6_kind 5 = .ok (.invokevirtual 138, 3) := by decide +kernel
theorem dX6_kind_8 : decode cX6_kind 8 = .ok (.ifCond .eq 23, 3) := by decide +kernel
theorem dX6_kind_11 : decode cX6_kind 11 = .ok (.iload_n 2, 1) := by decide +kernel
theorem dX6_kind_12 : decode cX6_kind 12 = .ok (.iconst 0, 1) := by decide +kernel
theorem dX6_kind_13 : decode cX6_kind 13 = .ok (.sipush 200, 3) := by decide +kernel
theorem dX6_kind_16 : decode cX6_kind 16 = .ok (.invokestatic 69, 3) := by decide +kernel
theorem dX6_kind_19 : decode cX6_kind 19 = .ok (.ifCond .eq 12, 3) := by decide +kernel
theorem dX6_kind_22 : decode cX6_kind 22 = .ok (.iload_n 3, 1) := by decide +kernel
theorem dX6_kind_23 : decode cX6_kind 23 = .ok (.iconst 0, 1) := by decide +kernel
theorem dX6_kind_24 : decode cX6_kind 24 = .ok (.iconst 1, 1) := by decide +kernel
theorem dX6_kind_25 : decode cX6_kind 25 = .ok (.invokestatic 69, 3) := by decide +kernel
theorem dX6_kind_28 : decode cX6_kind 28 = .ok (.ifCond .ne 5, 3) := by decide +kernel
theorem dX6_kind_31 : decode cX6_kind 31 = .ok (.iconst (-1), 1) := by decide +kernel
theorem dX6_kind_32 : decode cX6_kind 32 = .ok (.ireturn, 1) := by decide +kernel
theorem dX6_kind_33 : decode cX6_kind 33 = .ok (.aload_n 0, 1) := by decide +kernel
theorem dX6_kind_34 : decode cX6_kind 34 = .ok (.getfield 16, 3) := by decide +kernel
theorem dX6_kind_37 : decode cX6_kind 37 = .ok (.aload_n 0, 1) := by decide +kernel
theorem dX6_kind_38 : decode cX6_kind 38 = .ok (.getfield 10, 3) := by decide +kernel
theorem dX6_kind_41 : decode cX6_kind 41 = .ok (.invokevirtual 90, 3) := by decide +kernel
theorem dX6_kind_44 : decode cX6_kind 44 = .ok (.aload_n 0, 1) := by decide +kernel
theorem dX6_kind_45 : decode cX6_kind 45 = .ok (.getfield 50, 3) := by decide +kernel
theorem dX6_kind_48 : decode cX6_kind 48 = .ok (.ldc 117, 2) := by decide +kernel
theorem dX6_kind_50 : decode cX6_kind 50 = .ok (.invokevirtual 118, 3) := by decide +kernel
theorem dX6_kind_53 : decode cX6_kind 53 = .ok (.iconst 0, 1) := by decide +kernel
theorem dX6_kind_54 : decode cX6_kind 54 = .ok (.istore 4, 2) := by decide +kernel
theorem dX6_kind_56 : decode cX6_kind 56 = .ok (.iload 4, 2) := by decide +kernel
theorem dX6_kind_58 : decode cX6_kind 58 = .ok (.iconst 3, 1) := by decide +kernel
theorem dX6_kind_59 : decode cX6_kind 59 = .ok (.if_icmp .gt 69, 3) := by decide +kernel
theorem dX6_kind_62 : decode cX6_kind 62 = .ok (.aload_n 0, 1) := by decide +kernel
theorem dX6_kind_63 : decode cX6_kind 63 = .ok (.getfield 16, 3) := by decide +kernel
theorem dX6_kind_66 : decode cX6_kind 66 = .ok (.getfield 122, 3) := by decide +kernel
theorem dX6_kind_69 : decode cX6_kind 69 = .ok (.iload_n 1, 1) := by decide +kernel
theorem dX6_kind_70 : decode cX6_kind 70 = .ok (.aaload, 1) := by decide +kernel
theorem dX6_kind_71 : decode cX6_kind 71 = .ok (.aload_n 0, 1) := by decide +kernel
theorem dX6_kind_72 : decode cX6_kind 72 = .ok (.getfield 10, 3) := by decide +kernel
theorem dX6_kind_75 : decode cX6_kind 75 = .ok (.getfield 122, 3) := by decide +kernel
theorem dX6_kind_78 : decode cX6_kind 78 = .ok (.iload_n 1, 1) := by decide +kernel
theorem dX6_kind_79 : decode cX6_kind 79 = .ok (.aaload, 1) := by decide +kernel
theorem dX6_kind_80 : decode cX6_kind 80 = .ok (.invokevirtual 205, 3) := by decide +kernel
theorem dX6_kind_83 : decode cX6_kind 83 = .ok (.aload_n 0, 1) := by decide +kernel
theorem dX6_kind_84 : decode cX6_kind 84 = .ok (.getfield 16, 3) := by decide +kernel
theorem dX6_kind_87 : decode cX6_kind 87 = .ok (.getfield 122, 3) := by decide +kernel
theorem dX6_kind_90 : decode cX6_kind 90 = .ok (.iload_n 1, 1) := by decide +kernel
theorem dX6_kind_91 : decode cX6_kind 91 = .ok (.aaload, 1) := by decide +kernel
theorem dX6_kind_92 : decode cX6_kind 92 = .ok (.iload 4, 2) := by decide +kernel
theorem dX6_kind_94 : decode cX6_kind 94 = .ok (.putfield 142, 3) := by decide +kernel
theorem dX6_kind_97 : decode cX6_kind 97 = .ok (.aload_n 0, 1) := by decide +kernel
theorem dX6_kind_98 : decode cX6_kind 98 = .ok (.getfield 50, 3) := by decide +kernel
theorem dX6_kind_101 : decode cX6_kind 101 = .ok (.iload 4, 2) := by decide +kernel
theorem dX6_kind_103 : decode cX6_kind 103 = .ok (.aload_n 0, 1) := by decide +kernel
theorem dX6_kind_104 : decode cX6_kind 104 = .ok (.getfield 16, 3) := by decide +kernel
theorem dX6_kind_107 : decode cX6_kind 107 = .ok (.iload_n 1, 1) := by decide +kernel
theorem dX6_kind_108 : decode cX6_kind 108 = .ok (.iload_n 2, 1) := by decide +kernel
theorem dX6_kind_109 : decode cX6_kind 109 = .ok (.aload_n 0, 1) := by decide +kernel
theorem dX6_kind_110 : decode cX6_kind 110 = .ok (.getfield 50, 3) := by decide +kernel
theorem dX6_kind_113 : decode cX6_kind 113 = .ok (.getfield 222, 3) := by decide +kernel
theorem dX6_kind_116 : decode cX6_kind 116 = .ok (.invokevirtual 191, 3) := by decide +kernel
theorem dX6_kind_119 : decode cX6_kind 119 = .ok (.invokevirtual 131, 3) := by decide +kernel
theorem dX6_kind_122 : decode cX6_kind 122 = .ok (.iinc 4 1, 3) := by decide +kernel
theorem dX6_kind_125 : decode cX6_kind 125 = .ok (.goto (-69), 3) := by decide +kernel
theorem dX6_kind_128 : decode cX6_kind 128 = .ok (.aload_n 0, 1) := by decide +kernel
theorem dX6_kind_129 : decode cX6_kind 129 = .ok (.getfield 50, 3) := by decide +kernel
theorem dX6_kind_132 : decode cX6_kind 132 = .ok (.iload_n 3, 1) := by decide +kernel
theorem dX6_kind_133 : decode cX6_kind 133 = .ok (.invokevirtual 225, 3) := by decide +kernel
theorem dX6_kind_136 : decode cX6_kind 136 = .ok (.ireturn, 1) := by decide +kernel
theorem dX6_first_0 : decode cX6_first 0 = .ok (.aload_n 0, 1) := by decide +kernel
theorem dX6_first_1 : decode cX6_first 1 = .ok (.getfield 10, 3) := by decide +kernel
theorem dX6_first_4 : decode cX6_first 4 = .ok (.iload_n 1, 1) := by decide +kernel
theorem dX6_first_5 : decode cX6_first 5 = .ok (.invokevirtual 138, 3) := by decide +kernel
theorem dX6_first_8 : decode cX6_first 8 = .ok (.ifCond .eq 23, 3) := by decide +kernel
theorem dX6_first_11 : decode cX6_first 11 = .ok (.iload_n 2, 1) := by decide +kernel
theorem dX6_first_12 : decode cX6_first 12 = .ok (.iconst 0, 1) := by decide +kernel
theorem dX6_first_13 : decode cX6_first 13 = .ok (.sipush 200, 3) := by decide +kernel
theorem dX6_first_16 : decode cX6_first 16 = .ok (.invokestatic 69, 3) := by decide +kernel
theorem dX6_first_19 : decode cX6_first 19 = .ok (.ifCond .eq 12, 3) := by decide +kernel
theorem dX6_first_22 : decode cX6_first 22 = .ok (.iload_n 3, 1) := by decide +kernel
theorem dX6_first_23 : decode cX6_first 23 = .ok (.iconst 0, 1) := by decide +kernel
theorem dX6_first_24 : decode cX6_first 24 = .ok (.iconst 1, 1) := by decide +kernel
theorem dX6_first_25 : decode cX6_first 25 = .ok (.invokestatic 69, 3) := by decide +kernel
theorem dX6_first_28 : decode cX6_first 28 = .ok (.ifCond .ne 5, 3) := by decide +kernel
theorem dX6_first_31 : decode cX6_first 31 = .ok (.iconst (-1), 1) := by decide +kernel
theorem dX6_first_32 : decode cX6_first 32 = .ok (.ireturn, 1) := by decide +kernel
theorem dX6_first_33 : decode cX6_first 33 = .ok (.aload_n 0, 1) := by decide +kernel
theorem dX6_first_34 : decode cX6_first 34 = .ok (.getfield 16, 3) := by decide +kernel
theorem dX6_first_37 : decode cX6_first 37 = .ok (.aload_n 0, 1) := by decide +kernel
theorem dX6_first_38 : decode cX6_first 38 = .ok (.getfield 10, 3) := by decide +kernel
theorem dX6_first_41 : decode cX6_first 41 = .ok (.invokevirtual 90, 3) := by decide +kernel
theorem dX6_first_44 : decode cX6_first 44 = .ok (.aload_n 0, 1) := by decide +kernel
theorem dX6_first_45 : decode cX6_first 45 = .ok (.getfield 16, 3) := by decide +kernel
theorem dX6_first_48 : decode cX6_first 48 = .ok (.getfield 122, 3) := by decide +kernel
theorem dX6_first_51 : decode cX6_first 51 = .ok (.iload_n 1, 1) := by decide +kernel
theorem dX6_first_52 : decode cX6_first 52 = .ok (.aaload, 1) := by decide +kernel
theorem dX6_first_53 : decode cX6_first 53 = .ok (.astore 4, 2) := by decide +kernel
theorem dX6_first_55 : decode cX6_first 55 = .ok (.aload_n 0, 1) := by decide +kernel
theorem dX6_first_56 : decode cX6_first 56 = .ok (.getfield 50, 3) := by decide +kernel
theorem dX6_first_59 : decode cX6_first 59 = .ok (.ldc 117, 2) := by decide +kernel
theorem dX6_first_61 : decode cX6_first 61 = .ok (.invokevirtual 118, 3) := by decide +kernel
theorem dX6_first_64 : decode cX6_first 64 = .ok (.iconst 0, 1) := by decide +kernel
theorem dX6_first_65 : decode cX6_first 65 = .ok (.istore 5, 2) := by decide +kernel
theorem dX6_first_67 : decode cX6_first 67 = .ok (.iload 5, 2) := by decide +kernel
theorem dX6_first_69 : decode cX6_first 69 = .ok (.aload_n 0, 1) := by decide +kernel
theorem dX6_first_70 : decode cX6_first 70 = .ok (.getfield 10, 3) := by decide +kernel
theorem dX6_first_73 : decode cX6_first 73 = .ok (.getfield 97, 3) := by decide +kernel
theorem dX6_first_76 : decode cX6_first 76 = .ok (.if_icmp .ge 61, 3) := by decide +kernel
theorem dX6_first_79 : decode cX6_first 79 = .ok (.aload 4, 2) := by decide +kernel
theorem dX6_first_81 : decode cX6_first 81 = .ok (.aload_n 0, 1) := by decide +kernel
theorem dX6_first_82 : decode cX6_first 82 = .ok (.getfield 10, 3) := by decide +kernel
theorem dX6_first_85 : decode cX6_first 85 = .ok (.getfield 122, 3) := by decide +kernel
theorem dX6_first_88 : decode cX6_first 88 = .ok (.iload_n 1, 1) := by decide +kernel
theorem dX6_first_89 : decode cX6_first 89 = .ok (.aaload, 1) := by decide +kernel
theorem dX6_first_90 : decode cX6_first 90 = .ok (.invokevirtual 205, 3) := by decide +kernel
theorem dX6_first_93 : decode cX6_first 93 = .ok (.aload 4, 2) := by decide +kernel
theorem dX6_first_95 : decode cX6_first 95 = .ok (.aload 4, 2) := by decide +kernel
theorem dX6_first_97 : decode cX6_first 97 = .ok (.iload 5, 2) := by decide +kernel
theorem dX6_first_99 : decode cX6_first 99 = .ok (.invokevirtual 154, 3) := by decide +kernel
theorem dX6_first_102 : decode cX6_first 102 = .ok (.iconst 0, 1) := by decide +kernel
theorem dX6_first_103 : decode cX6_first 103 = .ok (.invokevirtual 166, 3) := by decide +kernel
theorem dX6_first_106 : decode cX6_first 106 = .ok (.aload_n 0, 1) := by decide +kernel
theorem dX6_first_107 : decode cX6_first 107 = .ok (.getfield 50, 3) := by decide +kernel
theorem dX6_first_110 : decode cX6_first 110 = .ok (.iload 5, 2) := by decide +kernel
theorem dX6_first_112 : decode cX6_first 112 = .ok (.aload_n 0, 1) := by decide +kernel
theorem dX6_first_113 : decode cX6_first 113 = .ok (.getfield 16, 3) := by decide +kernel
theorem dX6_first_116 : decode cX6_first 116 = .ok (.iload_n 1, 1) := by decide +kernel
theorem dX6_first_117 : decode cX6_first 117 = .ok (.iload_n 2, 1) := by decide +kernel
theorem dX6_first_118 : decode cX6_first 118 = .ok (.aload_n 0, 1) := by decide +kernel
theorem dX6_first_119 : decode cX6_first 119 = .ok (.getfield 50, 3) := by decide +kernel
theorem dX6_first_122 : decode cX6_first 122 = .ok (.getfield 222, 3) := by decide +kernel
theorem dX6_first_125 : decode cX6_first 125 = .ok (.invokevirtual 191, 3) := by decide +kernel
theorem dX6_first_128 : decode cX6_first 128 = .ok (.invokevirtual 131, 3) := by decide +kernel
theorem dX6_first_131 : decode cX6_first 131 = .ok (.iinc 5 1, 3) := by decide +kernel
theorem dX6_first_134 : decode cX6_first 134 = .ok (.goto (-67), 3) := by decide +kernel
theorem dX6_first_137 : decode cX6_first 137 = .ok (.aload_n 0, 1) := by decide +kernel
theorem dX6_first_138 : decode cX6_first 138 = .ok (.getfield 50, 3) := by decide +kernel
theorem dX6_first_141 : decode cX6_first 141 = .ok (.iload_n 3, 1) := by decide +kernel
theorem dX6_first_142 : decode cX6_first 142 = .ok (.invokevirtual 225, 3) := by decide +kernel
theorem dX6_first_145 : decode cX6_first 145 = .ok (.ireturn, 1) := by decide +kernel
theorem dX6_swap_0 : decode cX6_swap 0 = .ok (.iload_n 1, 1) := by decide +kernel
theorem dX6_swap_1 : decode cX6_swap 1 = .ok (.iconst 0, 1) := by decide +kernel
theorem dX6_swap_2 : decode cX6_swap 2 = .ok (.sipush 200, 3) := by decide +kernel
theorem dX6_swap_5 : decode cX6_swap 5 = .ok (.invokestatic 69, 3) := by decide +kernel
theorem dX6_swap_8 : decode cX6_swap 8 = .ok (.ifCond .eq 12, 3) := by decide +kernel
theorem dX6_swap_11 : decode cX6_swap 11 = .ok (.iload_n 2, 1) := by decide +kernel
theorem dX6_swap_12 : decode cX6_swap 12 = .ok (.iconst 0, 1) := by decide +kernel
theorem dX6_swap_13 : decode cX6_swap 13 = .ok (.iconst 1, 1) := by decide +kernel
theorem dX6_swap_14 : decode cX6_swap 14 = .ok (.invokestatic 69, 3) := by decide +kernel
theorem dX6_swap_17 : decode cX6_swap 17 = .ok (.ifCond .ne 5, 3) := by decide +kernel
theorem dX6_swap_20 : decode cX6_swap 20 = .ok (.iconst (-1), 1) := by decide +kernel
theorem dX6_swap_21 : decode cX6_swap 21 = .ok (.ireturn, 1) := by decide +kernel
theorem dX6_swap_22 : decode cX6_swap 22 = .ok (.aload_n 0, 1) := by decide +kernel
theorem dX6_swap_23 : decode cX6_swap 23 = .ok (.iload_n 1, 1) := by decide +kernel
theorem dX6_swap_24 : decode cX6_swap 24 = .ok (.invokevirtual 228, 3) := by decide +kernel
theorem dX6_swap_27 : decode cX6_swap 27 = .ok (.iconst 0, 1) := by decide +kernel
theorem dX6_swap_28 : decode cX6_swap 28 = .ok (.istore_n 3, 1) := by decide +kernel
theorem dX6_swap_29 : decode cX6_swap 29 = .ok (.iload_n 3, 1) := by decide +kernel
theorem dX6_swap_30 : decode cX6_swap 30 = .ok (.aload_n 0, 1) := by decide +kernel
theorem dX6_swap_31 : decode cX6_swap 31 = .ok (.getfield 10, 3) := by decide +kernel
theorem dX6_swap_34 : decode cX6_swap 34 = .ok (.getfield 103, 3) := by decide +kernel
theorem dX6_swap_37 : decode cX6_swap 37 = .ok (.if_icmp .ge 107, 3) := by decide +kernel
theorem dX6_swap_40 : decode cX6_swap 40 = .ok (.iload_n 3, 1) := by decide +kernel
theorem dX6_swap_41 : decode cX6_swap 41 = .ok (.iconst 1, 1) := by decide +kernel
theorem dX6_swap_42 : decode cX6_swap 42 = .ok (.iadd, 1) := by decide +kernel
theorem dX6_swap_43 : decode cX6_swap 43 = .ok (.istore 4, 2) := by decide +kernel
theorem dX6_swap_45 : decode cX6_swap 45 = .ok (.iload 4, 2) := by decide +kernel
theorem dX6_swap_47 : decode cX6_swap 47 = .ok (.aload_n 0, 1) := by decide +kernel
theorem dX6_swap_48 : decode cX6_swap 48 = .ok (.getfield 10, 3) := by decide +kernel
theorem dX6_swap_51 : decode cX6_swap 51 = .ok (.getfield 103, 3) := by decide +kernel
theorem dX6_swap_54 : decode cX6_swap 54 = .ok (.if_icmp .ge 84, 3) := by decide +kernel
theorem dX6_swap_57 : decode cX6_swap 57 = .ok (.aload_n 0, 1) := by decide +kernel
theorem dX6_swap_58 : decode cX6_swap 58 = .ok (.getfield 10, 3) := by decide +kernel
theorem dX6_swap_61 : decode cX6_swap 61 = .ok (.getfield 160, 3) := by decide +kernel
theorem dX6_swap_64 : decode cX6_swap 64 = .ok (.iload_n 3, 1) := by decide +kernel
theorem dX6_swap_65 : decode cX6_swap 65 = .ok (.iaload, 1) := by decide +kernel
theorem dX6_swap_66 : decode cX6_swap 66 = .ok (.aload_n 0, 1) := by decide +kernel
theorem dX6_swap_67 : decode cX6_swap 67 = .ok (.getfield 10, 3) := by decide +kernel
theorem dX6_swap_70 : decode cX6_swap 70 = .ok (.getfield 160, 3) := by decide +kernel
theorem dX6_swap_73 : decode cX6_swap 73 = .ok (.iload 4, 2) := by decide +kernel
theorem dX6_swap_75 : decode cX6_swap 75 = .ok (.iaload, 1) := by decide +kernel
theorem dX6_swap_76 : decode cX6_swap 76 = .ok (.if_icmp .eq 56, 3) := by decide +kernel
theorem dX6_swap_79 : decode cX6_swap 79 = .ok (.aload_n 0, 1) := by decide +kernel
theorem dX6_swap_80 : decode cX6_swap 80 = .ok (.getfield 16, 3) := by decide +kernel
theorem dX6_swap_83 : decode cX6_swap 83 = .ok (.aload_n 0, 1) := by decide +kernel
theorem dX6_swap_84 : decode cX6_swap 84 = .ok (.getfield 10, 3) := by decide +kernel
theorem dX6_swap_87 : decode cX6_swap 87 = .ok (.invokevirtual 90, 3) := by decide +kernel
theorem dX6_swap_90 : decode cX6_swap 90 = .ok (.aload_n 0, 1) := by decide +kernel
theorem dX6_swap_91 : decode cX6_swap 91 = .ok (.getfield 16, 3) := by decide +kernel
theorem dX6_swap_94 : decode cX6_swap 94 = .ok (.getfield 160, 3) := by decide +kernel
theorem dX6_swap_97 : decode cX6_swap 97 = .ok (.iload_n 3, 1) := by decide +kernel
theorem dX6_swap_98 : decode cX6_swap 98 = .ok (.iload 4, 2) := by decide +kernel
theorem dX6_swap_100 : decode cX6_swap 100 = .ok (.invokestatic 218, 3) := by decide +kernel
theorem dX6_swap_103 : decode cX6_swap 103 = .ok (.aload_n 0, 1) := by decide +kernel
theorem dX6_swap_104 : decode cX6_swap 104 = .ok (.getfield 50, 3) := by decide +kernel
theorem dX6_swap_107 : decode cX6_swap 107 = .ok (.bipush 100, 2) := by decide +kernel
theorem dX6_swap_109 : decode cX6_swap 109 = .ok (.iload_n 3, 1) := by decide +kernel
theorem dX6_swap_110 : decode cX6_swap 110 = .ok (.imul, 1) := by decide +kernel
theorem dX6_swap_111 : decode cX6_swap 111 = .ok (.iload 4, 2) := by decide +kernel
theorem dX6_swap_113 : decode cX6_swap 113 = .ok (.iadd, 1) := by decide +kernel
theorem dX6_swap_114 : decode cX6_swap 114 = .ok (.aload_n 0, 1) := by decide +kernel
theorem dX6_swap_115 : decode cX6_swap 115 = .ok (.getfield 16, 3) := by decide +kernel
theorem dX6_swap_118 : decode cX6_swap 118 = .ok (.iload_n 1, 1) := by decide +kernel
theorem dX6_swap_119 : decode cX6_swap 119 = .ok (.aload_n 0, 1) := by decide +kernel
theorem dX6_swap_120 : decode cX6_swap 120 = .ok (.getfield 50, 3) := by decide +kernel
theorem dX6_swap_123 : decode cX6_swap 123 = .ok (.getfield 222, 3) := by decide +kernel
theorem dX6_swap_126 : decode cX6_swap 126 = .ok (.invokevirtual 178, 3) := by decide +kernel
theorem dX6_swap_129 : decode cX6_swap 129 = .ok (.invokevirtual 131, 3) := by decide +kernel
theorem dX6_swap_132 : decode cX6_swap 132 = .ok (.iinc 4 1, 3) := by decide +kernel
theorem dX6_swap_135 : decode cX6_swap 135 = .ok (.goto (-90), 3) := by decide +kernel
theorem dX6_swap_138 : decode cX6_swap 138 = .ok (.iinc 3 1, 3) := by decide +kernel
theorem dX6_swap_141 : decode cX6_swap 141 = .ok (.goto (-112), 3) := by decide +kernel
theorem dX6_swap_144 : decode cX6_swap 144 = .ok (.aload_n 0, 1) := by decide +kernel
theorem dX6_swap_145 : decode cX6_swap 145 = .ok (.getfield 50, 3) := by decide +kernel
theorem dX6_swap_148 : decode cX6_swap 148 = .ok (.iload_n 2, 1) := by decide +kernel
theorem dX6_swap_149 : decode cX6_swap 149 = .ok (.invokevirtual 225, 3) := by decide +kernel
theorem dX6_swap_152 : decode cX6_swap 152 = .ok (.ireturn, 1) := by decide +kernel
theorem dX6_lose_0 : decode cX6_lose 0 = .ok (.iload_n 1, 1) := by decide +kernel
theorem dX6_lose_1 : decode cX6_lose 1 = .ok (.iconst 0, 1) := by decide +kernel
theorem dX6_lose_2 : decode cX6_lose 2 = .ok (.sipush 200, 3) := by decide +kernel
theorem dX6_lose_5 : decode cX6_lose 5 = .ok (.invokestatic 69, 3) := by decide +kernel
theorem dX6_lose_8 : decode cX6_lose 8 = .ok (.ifCond .eq 12, 3) := by decide +kernel
theorem dX6_lose_11 : decode cX6_lose 11 = .ok (.iload_n 2, 1) := by decide +kernel
theorem dX6_lose_12 : decode cX6_lose 12 = .ok (.iconst 0, 1) := by decide +kernel
theorem dX6_lose_13 : decode cX6_lose 13 = .ok (.iconst 1, 1) := by decide +kernel
theorem dX6_lose_14 : decode cX6_lose 14 = .ok (.invokestatic 69, 3) := by decide +kernel
theorem dX6_lose_17 : decode cX6_lose 17 = .ok (.ifCond .ne 5, 3) := by decide +kernel
theorem dX6_lose_20 : decode cX6_lose 20 = .ok (.iconst (-1), 1) := by decide +kernel
theorem dX6_lose_21 : decode cX6_lose 21 = .ok (.ireturn, 1) := by decide +kernel
theorem dX6_lose_22 : decode cX6_lose 22 = .ok (.aload_n 0, 1) := by decide +kernel
theorem dX6_lose_23 : decode cX6_lose 23 = .ok (.iload_n 1, 1) := by decide +kernel
theorem dX6_lose_24 : decode cX6_lose 24 = .ok (.invokevirtual 228, 3) := by decide +kernel
theorem dX6_lose_27 : decode cX6_lose 27 = .ok (.iconst 0, 1) := by decide +kernel
theorem dX6_lose_28 : decode cX6_lose 28 = .ok (.istore_n 3, 1) := by decide +kernel
theorem dX6_lose_29 : decode cX6_lose 29 = .ok (.iload_n 3, 1) := by decide +kernel
theorem dX6_lose_30 : decode cX6_lose 30 = .ok (.aload_n 0, 1) := by decide +kernel
theorem dX6_lose_31 : decode cX6_lose 31 = .ok (.getfield 10, 3) := by decide +kernel
theorem dX6_lose_34 : decode cX6_lose 34 = .ok (.getfield 103, 3) := by decide +kernel
theorem dX6_lose_37 : decode cX6_lose 37 = .ok (.if_icmp .ge 53, 3) := by decide +kernel
theorem dX6_lose_40 : decode cX6_lose 40 = .ok (.aload_n 0, 1) := by decide +kernel
theorem dX6_lose_41 : decode cX6_lose 41 = .ok (.getfield 16, 3) := by decide +kernel
theorem dX6_lose_44 : decode cX6_lose 44 = .ok (.aload_n 0, 1) := by decide +kernel
theorem dX6_lose_45 : decode cX6_lose 45 = .ok (.getfield 10, 3) := by decide +kernel
theorem dX6_lose_48 : decode cX6_lose 48 = .ok (.invokevirtual 90, 3) := by decide +kernel
theorem dX6_lose_51 : decode cX6_lose 51 = .ok (.aload_n 0, 1) := by decide +kernel
theorem dX6_lose_52 : decode cX6_lose 52 = .ok (.getfield 16, 3) := by decide +kernel
theorem dX6_lose_55 : decode cX6_lose 55 = .ok (.getfield 160, 3) := by decide +kernel
theorem dX6_lose_58 : decode cX6_lose 58 = .ok (.iload_n 3, 1) := by decide +kernel
theorem dX6_lose_59 : decode cX6_lose 59 = .ok (.iconst (-1), 1) := by decide +kernel
theorem dX6_lose_60 : decode cX6_lose 60 = .ok (.iastore, 1) := by decide +kernel
theorem dX6_lose_61 : decode cX6_lose 61 = .ok (.aload_n 0, 1) := by decide +kernel
theorem dX6_lose_62 : decode cX6_lose 62 = .ok (.getfield 50, 3) := by decide +kernel
theorem dX6_lose_65 : decode cX6_lose 65 = .ok (.iload_n 3, 1) := by decide +kernel
theorem dX6_lose_66 : decode cX6_lose 66 = .ok (.aload_n 0, 1) := by decide +kernel
theorem dX6_lose_67 : decode cX6_lose 67 = .ok (.getfield 16, 3) := by decide +kernel
theorem dX6_lose_70 : decode cX6_lose 70 = .ok (.iload_n 1, 1) := by decide +kernel
theorem dX6_lose_71 : decode cX6_lose 71 = .ok (.aload_n 0, 1) := by decide +kernel
theorem dX6_lose_72 : decode cX6_lose 72 = .ok (.getfield 50, 3) := by decide +kernel
theorem dX6_lose_75 : decode cX6_lose 75 = .ok (.getfield 222, 3) := by decide +kernel
theorem dX6_lose_78 : decode cX6_lose 78 = .ok (.invokevirtual 178, 3) := by decide +kernel
theorem dX6_lose_81 : decode cX6_lose 81 = .ok (.invokevirtual 131, 3) := by decide +kernel
theorem dX6_lose_84 : decode cX6_lose 84 = .ok (.iinc 3 1, 3) := by decide +kernel
theorem dX6_lose_87 : decode cX6_lose 87 = .ok (.goto (-58), 3) := by decide +kernel
theorem dX6_lose_90 : decode cX6_lose 90 = .ok (.aload_n 0, 1) := by decide +kernel
theorem dX6_lose_91 : decode cX6_lose 91 = .ok (.getfield 50, 3) := by decide +kernel
theorem dX6_lose_94 : decode cX6_lose 94 = .ok (.iload_n 2, 1) := by decide +kernel
theorem dX6_lose_95 : decode cX6_lose 95 = .ok (.invokevirtual 225, 3) := by decide +kernel
theorem dX6_lose_98 : decode cX6_lose 98 = .ok (.ireturn, 1) := by decide +kernel
theorem dX6_resetToPaidNow_0 : decode cX6_resetToPaidNow 0 = .ok (.aload_n 0, 1) := by decide +kernel
theorem dX6_resetToPaidNow_1 : decode cX6_resetToPaidNow 1 = .ok (.getfield 16, 3) := by decide +kernel
theorem dX6_resetToPaidNow_4 : decode cX6_resetToPaidNow 4 = .ok (.aload_n 0, 1) := by decide +kernel
theorem dX6_resetToPaidNow_5 : decode cX6_resetToPaidNow 5 = .ok (.getfield 10, 3) := by decide +kernel
theorem dX6_resetToPaidNow_8 : decode cX6_resetToPaidNow 8 = .ok (.invokevirtual 90, 3) := by decide +kernel
theorem dX6_resetToPaidNow_11 : decode cX6_resetToPaidNow 11 = .ok (.aload_n 0, 1) := by decide +kernel
theorem dX6_resetToPaidNow_12 : decode cX6_resetToPaidNow 12 = .ok (.getfield 50, 3) := by decide +kernel
theorem dX6_resetToPaidNow_15 : decode cX6_resetToPaidNow 15 = .ok (.aload_n 0, 1) := by decide +kernel
theorem dX6_resetToPaidNow_16 : decode cX6_resetToPaidNow 16 = .ok (.getfield 16, 3) := by decide +kernel
theorem dX6_resetToPaidNow_19 : decode cX6_resetToPaidNow 19 = .ok (.iload_n 1, 1) := by decide +kernel
theorem dX6_resetToPaidNow_20 : decode cX6_resetToPaidNow 20 = .ok (.ldc 117, 2) := by decide +kernel
theorem dX6_resetToPaidNow_22 : decode cX6_resetToPaidNow 22 = .ok (.invokevirtual 178, 3) := by decide +kernel
theorem dX6_resetToPaidNow_25 : decode cX6_resetToPaidNow 25 = .ok (.invokevirtual 118, 3) := by decide +kernel
theorem dX6_resetToPaidNow_28 : decode cX6_resetToPaidNow 28 = .ok (.return_, 1) := by decide +kernel
theorem dX6_luck_0 : decode cX6_luck 0 = .ok (.iload_n 1, 1) := by decide +kernel
theorem dX6_luck_1 : decode cX6_luck 1 = .ok (.iload 4, 2) := by decide +kernel
theorem dX6_luck_3 : decode cX6_luck 3 = .ok (.iload 5, 2) := by decide +kernel
theorem dX6_luck_5 : decode cX6_luck 5 = .ok (.invokestatic 231, 3) := by decide +kernel
theorem dX6_luck_8 : decode cX6_luck 8 = .ok (.ifCond .eq 25, 3) := by decide +kernel
theorem dX6_luck_11 : decode cX6_luck 11 = .ok (.aload_n 0, 1) := by decide +kernel
theorem dX6_luck_12 : decode cX6_luck 12 = .ok (.getfield 10, 3) := by decide +kernel
theorem dX6_luck_15 : decode cX6_luck 15 = .ok (.iload_n 2, 1) := by decide +kernel
theorem dX6_luck_16 : decode cX6_luck 16 = .ok (.invokevirtual 138, 3) := by decide +kernel
theorem dX6_luck_19 : decode cX6_luck 19 = .ok (.ifCond .eq 14, 3) := by decide +kernel
theorem dX6_luck_22 : decode cX6_luck 22 = .ok (.aload_n 0, 1) := by decide +kernel
theorem dX6_luck_23 : decode cX6_luck 23 = .ok (.getfield 10, 3) := by decide +kernel
theorem dX6_luck_26 : decode cX6_luck 26 = .ok (.iload_n 3, 1) := by decide +kernel
theorem dX6_luck_27 : decode cX6_luck 27 = .ok (.invokevirtual 151, 3) := by decide +kernel
theorem dX6_luck_30 : decode cX6_luck 30 = .ok (.ifCond .ne 7, 3) := by decide +kernel
theorem dX6_luck_33 : decode cX6_luck 33 = .ok (.ldc2_w 234, 3) := by decide +kernel
theorem dX6_luck_36 : decode cX6_luck 36 = .ok (.lreturn, 1) := by decide +kernel
theorem dX6_luck_37 : decode cX6_luck 37 = .ok (.aload_n 0, 1) := by decide +kernel
theorem dX6_luck_38 : decode cX6_luck 38 = .ok (.getfield 16, 3) := by decide +kernel
theorem dX6_luck_41 : decode cX6_luck 41 = .ok (.aload_n 0, 1) := by decide +kernel
theorem dX6_luck_42 : decode cX6_luck 42 = .ok (.getfield 10, 3) := by decide +kernel
theorem dX6_luck_45 : decode cX6_luck 45 = .ok (.invokevirtual 90, 3) := by decide +kernel
theorem dX6_luck_48 : decode cX6_luck 48 = .ok (.lconst 0, 1) := by decide +kernel
theorem dX6_luck_49 : decode cX6_luck 49 = .ok (.lstore 6, 2) := by decide +kernel
theorem dX6_luck_51 : decode cX6_luck 51 = .ok (.iconst 0, 1) := by decide +kernel
theorem dX6_luck_52 : decode cX6_luck 52 = .ok (.istore 8, 2) := by decide +kernel
theorem dX6_luck_54 : decode cX6_luck 54 = .ok (.iload 8, 2) := by decide +kernel
theorem dX6_luck_56 : decode cX6_luck 56 = .ok (.iconst 1, 1) := by decide +kernel
theorem dX6_luck_57 : decode cX6_luck 57 = .ok (.iload 4, 2) := by decide +kernel
theorem dX6_luck_59 : decode cX6_luck 59 = .ok (.ishl, 1) := by decide +kernel
theorem dX6_luck_60 : decode cX6_luck 60 = .ok (.if_icmp .ge 89, 3) := by decide +kernel
theorem dX6_luck_63 : decode cX6_luck 63 = .ok (.iload 8, 2) := by decide +kernel
theorem dX6_luck_65 : decode cX6_luck 65 = .ok (.iload_n 1, 1) := by decide +kernel
theorem dX6_luck_66 : decode cX6_luck 66 = .ok (.iload 4, 2) := by decide +kernel
theorem dX6_luck_68 : decode cX6_luck 68 = .ok (.invokestatic 236, 3) := by decide +kernel
theorem dX6_luck_71 : decode cX6_luck 71 = .ok (.lstore 9, 2) := by decide +kernel
theorem dX6_luck_73 : decode cX6_luck 73 = .ok (.lload 9, 2) := by decide +kernel
theorem dX6_luck_75 : decode cX6_luck 75 = .ok (.lconst 0, 1) := by decide +kernel
theorem dX6_luck_76 : decode cX6_luck 76 = .ok (.lcmp, 1) := by decide +kernel
theorem dX6_luck_77 : decode cX6_luck 77 = .ok (.ifCond .le 66, 3) := by decide +kernel
theorem dX6_luck_80 : decode cX6_luck 80 = .ok (.aload_n 0, 1) := by decide +kernel
theorem dX6_luck_81 : decode cX6_luck 81 = .ok (.getfield 16, 3) := by decide +kernel
theorem dX6_luck_84 : decode cX6_luck 84 = .ok (.getfield 122, 3) := by decide +kernel
theorem dX6_luck_87 : decode cX6_luck 87 = .ok (.iload_n 2, 1) := by decide +kernel
theorem dX6_luck_88 : decode cX6_luck 88 = .ok (.aaload, 1) := by decide +kernel
theorem dX6_luck_89 : decode cX6_luck 89 = .ok (.aload_n 0, 1) := by decide +kernel
theorem dX6_luck_90 : decode cX6_luck 90 = .ok (.getfield 10, 3) := by decide +kernel
theorem dX6_luck_93 : decode cX6_luck 93 = .ok (.getfield 122, 3) := by decide +kernel
theorem dX6_luck_96 : decode cX6_luck 96 = .ok (.iload_n 2, 1) := by decide +kernel
theorem dX6_luck_97 : decode cX6_luck 97 = .ok (.aaload, 1) := by decide +kernel
theorem dX6_luck_98 : decode cX6_luck 98 = .ok (.invokevirtual 205, 3) := by decide +kernel
theorem dX6_luck_101 : decode cX6_luck 101 = .ok (.aload_n 0, 1) := by decide +kernel
theorem dX6_luck_102 : decode cX6_luck 102 = .ok (.getfield 16, 3) := by decide +kernel
theorem dX6_luck_105 : decode cX6_luck 105 = .ok (.iload 8, 2) := by decide +kernel
theorem dX6_luck_107 : decode cX6_luck 107 = .ok (.iload_n 2, 1) := by decide +kernel
theorem dX6_luck_108 : decode cX6_luck 108 = .ok (.iload 4, 2) := by decide +kernel
theorem dX6_luck_110 : decode cX6_luck 110 = .ok (.invokevirtual 240, 3) := by decide +kernel
theorem dX6_luck_113 : decode cX6_luck 113 = .ok (.pop, 1) := by decide +kernel
theorem dX6_luck_114 : decode cX6_luck 114 = .ok (.lload 6, 2) := by decide +kernel
theorem dX6_luck_116 : decode cX6_luck 116 = .ok (.aload_n 0, 1) := by decide +kernel
theorem dX6_luck_117 : decode cX6_luck 117 = .ok (.getfield 16, 3) := by decide +kernel
theorem dX6_luck_120 : decode cX6_luck 120 = .ok (.getfield 122, 3) := by decide +kernel
theorem dX6_luck_123 : decode cX6_luck 123 = .ok (.iload_n 2, 1) := by decide +kernel
theorem dX6_luck_124 : decode cX6_luck 124 = .ok (.aaload, 1) := by decide +kernel
theorem dX6_luck_125 : decode cX6_luck 125 = .ok (.getfield 145, 3) := by decide +kernel
theorem dX6_luck_128 : decode cX6_luck 128 = .ok (.iconst 0, 1) := by decide +kernel
theorem dX6_luck_129 : decode cX6_luck 129 = .ok (.iaload, 1) := by decide +kernel
theorem dX6_luck_130 : decode cX6_luck 130 = .ok (.iload_n 3, 1) := by decide +kernel
theorem dX6_luck_131 : decode cX6_luck 131 = .ok (.if_icmp .ne 8, 3) := by decide +kernel
theorem dX6_luck_134 : decode cX6_luck 134 = .ok (.lload 9, 2) := by decide +kernel
theorem dX6_luck_136 : decode cX6_luck 136 = .ok (.goto 4, 3) := by decide +kernel
theorem dX6_luck_139 : decode cX6_luck 139 = .ok (.lconst 0, 1) := by decide +kernel
theorem dX6_luck_140 : decode cX6_luck 140 = .ok (.ladd, 1) := by decide +kernel
theorem dX6_luck_141 : decode cX6_luck 141 = .ok (.lstore 6, 2) := by decide +kernel
theorem dX6_luck_143 : decode cX6_luck 143 = .ok (.iinc 8 1, 3) := by decide +kernel
theorem dX6_luck_146 : decode cX6_luck 146 = .ok (.goto (-92), 3) := by decide +kernel
theorem dX6_luck_149 : decode cX6_luck 149 = .ok (.lload 6, 2) := by decide +kernel
theorem dX6_luck_151 : decode cX6_luck 151 = .ok (.bipush 10, 2) := by decide +kernel
theorem dX6_luck_153 : decode cX6_luck 153 = .ok (.iload 4, 2) := by decide +kernel
theorem dX6_luck_155 : decode cX6_luck 155 = .ok (.invokestatic 243, 3) := by decide +kernel
theorem dX6_luck_158 : decode cX6_luck 158 = .ok (.iload 5, 2) := by decide +kernel
theorem dX6_luck_160 : decode cX6_luck 160 = .ok (.invokestatic 247, 3) := by decide +kernel
theorem dX6_luck_163 : decode cX6_luck 163 = .ok (.lreturn, 1) := by decide +kernel
theorem dX6_mean_0 : decode cX6_mean 0 = .ok (.iload_n 1, 1) := by decide +kernel
theorem dX6_mean_1 : decode cX6_mean 1 = .ok (.iload_n 2, 1) := by decide +kernel
theorem dX6_mean_2 : decode cX6_mean 2 = .ok (.iload_n 3, 1) := by decide +kernel
theorem dX6_mean_3 : decode cX6_mean 3 = .ok (.invokestatic 231, 3) := by decide +kernel
theorem dX6_mean_6 : decode cX6_mean 6 = .ok (.ifCond .ne 7, 3) := by decide +kernel
theorem dX6_mean_9 : decode cX6_mean 9 = .ok (.ldc2_w 234, 3) := by decide +kernel
theorem dX6_mean_12 : decode cX6_mean 12 = .ok (.lreturn, 1) := by decide +kernel
theorem dX6_mean_13 : decode cX6_mean 13 = .ok (.aload_n 0, 1) := by decide +kernel
theorem dX6_mean_14 : decode cX6_mean 14 = .ok (.getfield 16, 3) := by decide +kernel
theorem dX6_mean_17 : decode cX6_mean 17 = .ok (.aload_n 0, 1) := by decide +kernel
theorem dX6_mean_18 : decode cX6_mean 18 = .ok (.getfield 10, 3) := by decide +kernel
theorem dX6_mean_21 : decode cX6_mean 21 = .ok (.invokevirtual 90, 3) := by decide +kernel
theorem dX6_mean_24 : decode cX6_mean 24 = .ok (.lconst 0, 1) := by decide +kernel
theorem dX6_mean_25 : decode cX6_mean 25 = .ok (.lstore 4, 2) := by decide +kernel
theorem dX6_mean_27 : decode cX6_mean 27 = .ok (.iconst 0, 1) := by decide +kernel
theorem dX6_mean_28 : decode cX6_mean 28 = .ok (.istore 6, 2) := by decide +kernel
theorem dX6_mean_30 : decode cX6_mean 30 = .ok (.iload 6, 2) := by decide +kernel
theorem dX6_mean_32 : decode cX6_mean 32 = .ok (.iconst 1, 1) := by decide +kernel
theorem dX6_mean_33 : decode cX6_mean 33 = .ok (.iload_n 2, 1) := by decide +kernel
theorem dX6_mean_34 : decode cX6_mean 34 = .ok (.ishl, 1) := by decide +kernel
theorem dX6_mean_35 : decode cX6_mean 35 = .ok (.if_icmp .ge 90, 3) := by decide +kernel
theorem dX6_mean_38 : decode cX6_mean 38 = .ok (.iload 6, 2) := by decide +kernel
theorem dX6_mean_40 : decode cX6_mean 40 = .ok (.iload_n 1, 1) := by decide +kernel
theorem dX6_mean_41 : decode cX6_mean 41 = .ok (.iload_n 2, 1) := by decide +kernel
theorem dX6_mean_42 : decode cX6_mean 42 = .ok (.invokestatic 236, 3) := by decide +kernel
theorem dX6_mean_45 : decode cX6_mean 45 = .ok (.lstore 7, 2) := by decide +kernel
theorem dX6_mean_47 : decode cX6_mean 47 = .ok (.iconst 0, 1) := by decide +kernel
theorem dX6_mean_48 : decode cX6_mean 48 = .ok (.istore 9, 2) := by decide +kernel
theorem dX6_mean_50 : decode cX6_mean 50 = .ok (.iload 9, 2) := by decide +kernel
theorem dX6_mean_52 : decode cX6_mean 52 = .ok (.aload_n 0, 1) := by decide +kernel
theorem dX6_mean_53 : decode cX6_mean 53 = .ok (.getfield 10, 3) := by decide +kernel
theorem dX6_mean_56 : decode cX6_mean 56 = .ok (.getfield 100, 3) := by decide +kernel
theorem dX6_mean_59 : decode cX6_mean 59 = .ok (.if_icmp .ge 60, 3) := by decide +kernel
theorem dX6_mean_62 : decode cX6_mean 62 = .ok (.lload 7, 2) := by decide +kernel
theorem dX6_mean_64 : decode cX6_mean 64 = .ok (.lconst 0, 1) := by decide +kernel
theorem dX6_mean_65 : decode cX6_mean 65 = .ok (.lcmp, 1) := by decide +kernel
theorem dX6_mean_66 : decode cX6_mean 66 = .ok (.ifCond .le 53, 3) := by decide +kernel
theorem dX6_mean_69 : decode cX6_mean 69 = .ok (.aload_n 0, 1) := by decide +kernel
theorem dX6_mean_70 : decode cX6_mean 70 = .ok (.getfield 16, 3) := by decide +kernel
theorem dX6_mean_73 : decode cX6_mean 73 = .ok (.getfield 122, 3) := by decide +kernel
theorem dX6_mean_76 : decode cX6_mean 76 = .ok (.iload 9, 2) := by decide +kernel
theorem dX6_mean_78 : decode cX6_mean 78 = .ok (.aaload, 1) := by decide +kernel
theorem dX6_mean_79 : decode cX6_mean 79 = .ok (.aload_n 0, 1) := by decide +kernel
theorem dX6_mean_80 : decode cX6_mean 80 = .ok (.getfield 10, 3) := by decide +kernel
theorem dX6_mean_83 : decode cX6_mean 83 = .ok (.getfield 122, 3) := by decide +kernel
theorem dX6_mean_86 : decode cX6_mean 86 = .ok (.iload 9, 2) := by decide +kernel
theorem dX6_mean_88 : decode cX6_mean 88 = .ok (.aaload, 1) := by decide +kernel
theorem dX6_mean_89 : decode cX6_mean 89 = .ok (.invokevirtual 205, 3) := by decide +kernel
theorem dX6_mean_92 : decode cX6_mean 92 = .ok (.lload 4, 2) := by decide +kernel
theorem dX6_mean_94 : decode cX6_mean 94 = .ok (.lload 7, 2) := by decide +kernel
theorem dX6_mean_96 : decode cX6_mean 96 = .ok (.aload_n 0, 1) := by decide +kernel
theorem dX6_mean_97 : decode cX6_mean 97 = .ok (.getfield 16, 3) := by decide +kernel
theorem dX6_mean_100 : decode cX6_mean 100 = .ok (.iload 6, 2) := by decide +kernel
theorem dX6_mean_102 : decode cX6_mean 102 = .ok (.iload 9, 2) := by decide +kernel
theorem dX6_mean_104 : decode cX6_mean 104 = .ok (.iload_n 2, 1) := by decide +kernel
theorem dX6_mean_105 : decode cX6_mean 105 = .ok (.invokevirtual 240, 3) := by decide +kernel
theorem dX6_mean_108 : decode cX6_mean 108 = .ok (.i2l, 1) := by decide +kernel
theorem dX6_mean_109 : decode cX6_mean 109 = .ok (.lmul, 1) := by decide +kernel
theorem dX6_mean_110 : decode cX6_mean 110 = .ok (.ladd, 1) := by decide +kernel
theorem dX6_mean_111 : decode cX6_mean 111 = .ok (.lstore 4, 2) := by decide +kernel
theorem dX6_mean_113 : decode cX6_mean 113 = .ok (.iinc 9 1, 3) := by decide +kernel
theorem dX6_mean_116 : decode cX6_mean 116 = .ok (.goto (-66), 3) := by decide +kernel
theorem dX6_mean_119 : decode cX6_mean 119 = .ok (.iinc 6 1, 3) := by decide +kernel
theorem dX6_mean_122 : decode cX6_mean 122 = .ok (.goto (-92), 3) := by decide +kernel
theorem dX6_mean_125 : decode cX6_mean 125 = .ok (.lload 4, 2) := by decide +kernel
theorem dX6_mean_127 : decode cX6_mean 127 = .ok (.bipush 10, 2) := by decide +kernel
theorem dX6_mean_129 : decode cX6_mean 129 = .ok (.iload_n 2, 1) := by decide +kernel
theorem dX6_mean_130 : decode cX6_mean 130 = .ok (.invokestatic 243, 3) := by decide +kernel
theorem dX6_mean_133 : decode cX6_mean 133 = .ok (.iload_n 3, 1) := by decide +kernel
theorem dX6_mean_134 : decode cX6_mean 134 = .ok (.invokestatic 247, 3) := by decide +kernel
theorem dX6_mean_137 : decode cX6_mean 137 = .ok (.lreturn, 1) := by decide +kernel
theorem dX6_areOdds_0 : decode cX6_areOdds 0 = .ok (.iload_n 0, 1) := by decide +kernel
theorem dX6_areOdds_1 : decode cX6_areOdds 1 = .ok (.iconst 0, 1) := by decide +kernel
theorem dX6_areOdds_2 : decode cX6_areOdds 2 = .ok (.bipush 10, 2) := by decide +kernel
theorem dX6_areOdds_4 : decode cX6_areOdds 4 = .ok (.invokestatic 69, 3) := by decide +kernel
theorem dX6_areOdds_7 : decode cX6_areOdds 7 = .ok (.ifCond .eq 26, 3) := by decide +kernel
theorem dX6_areOdds_10 : decode cX6_areOdds 10 = .ok (.iload_n 1, 1) := by decide +kernel
theorem dX6_areOdds_11 : decode cX6_areOdds 11 = .ok (.iconst 0, 1) := by decide +kernel
theorem dX6_areOdds_12 : decode cX6_areOdds 12 = .ok (.bipush 8, 2) := by decide +kernel
theorem dX6_areOdds_14 : decode cX6_areOdds 14 = .ok (.invokestatic 69, 3) := by decide +kernel
theorem dX6_areOdds_17 : decode cX6_areOdds 17 = .ok (.ifCond .eq 16, 3) := by decide +kernel
theorem dX6_areOdds_20 : decode cX6_areOdds 20 = .ok (.iload_n 2, 1) := by decide +kernel
theorem dX6_areOdds_21 : decode cX6_areOdds 21 = .ok (.iconst 0, 1) := by decide +kernel
theorem dX6_areOdds_22 : decode cX6_areOdds 22 = .ok (.iconst 1, 1) := by decide +kernel
theorem dX6_areOdds_23 : decode cX6_areOdds 23 = .ok (.invokestatic 69, 3) := by decide +kernel
theorem dX6_areOdds_26 : decode cX6_areOdds 26 = .ok (.ifCond .eq 7, 3) := by decide +kernel
theorem dX6_areOdds_29 : decode cX6_areOdds 29 = .ok (.iconst 1, 1) := by decide +kernel
theorem dX6_areOdds_30 : decode cX6_areOdds 30 = .ok (.goto 4, 3) := by decide +kernel
theorem dX6_areOdds_33 : decode cX6_areOdds 33 = .ok (.iconst 0, 1) := by decide +kernel
theorem dX6_areOdds_34 : decode cX6_areOdds 34 = .ok (.ireturn, 1) := by decide +kernel
theorem dX6_weightOf_0 : decode cX6_weightOf 0 = .ok (.iload_n 0, 1) := by decide +kernel
theorem dX6_weightOf_1 : decode cX6_weightOf 1 = .ok (.invokestatic 251, 3) := by decide +kernel
theorem dX6_weightOf_4 : decode cX6_weightOf 4 = .ok (.istore_n 3, 1) := by decide +kernel
theorem dX6_weightOf_5 : decode cX6_weightOf 5 = .ok (.iload_n 1, 1) := by decide +kernel
theorem dX6_weightOf_6 : decode cX6_weightOf 6 = .ok (.iload_n 3, 1) := by decide +kernel
theorem dX6_weightOf_7 : decode cX6_weightOf 7 = .ok (.invokestatic 243, 3) := by decide +kernel
theorem dX6_weightOf_10 : decode cX6_weightOf 10 = .ok (.bipush 10, 2) := by decide +kernel
theorem dX6_weightOf_12 : decode cX6_weightOf 12 = .ok (.iload_n 1, 1) := by decide +kernel
theorem dX6_weightOf_13 : decode cX6_weightOf 13 = .ok (.isub, 1) := by decide +kernel
theorem dX6_weightOf_14 : decode cX6_weightOf 14 = .ok (.iload_n 2, 1) := by decide +kernel
theorem dX6_weightOf_15 : decode cX6_weightOf 15 = .ok (.iload_n 3, 1) := by decide +kernel
theorem dX6_weightOf_16 : decode cX6_weightOf 16 = .ok (.isub, 1) := by decide +kernel
theorem dX6_weightOf_17 : decode cX6_weightOf 17 = .ok (.invokestatic 243, 3) := by decide +kernel
theorem dX6_weightOf_20 : decode cX6_weightOf 20 = .ok (.lmul, 1) := by decide +kernel
theorem dX6_weightOf_21 : decode cX6_weightOf 21 = .ok (.lreturn, 1) := by decide +kernel
theorem dX6_power_0 : decode cX6_power 0 = .ok (.lconst 1, 1) := by decide +kernel
theorem dX6_power_1 : decode cX6_power 1 = .ok (.lstore_n 2, 1) := by decide +kernel
theorem dX6_power_2 : decode cX6_power 2 = .ok (.iconst 0, 1) := by decide +kernel
theorem dX6_power_3 : decode cX6_power 3 = .ok (.istore 4, 2) := by decide +kernel
theorem dX6_power_5 : decode cX6_power 5 = .ok (.iload 4, 2) := by decide +kernel
theorem dX6_power_7 : decode cX6_power 7 = .ok (.iload_n 1, 1) := by decide +kernel
theorem dX6_power_8 : decode cX6_power 8 = .ok (.if_icmp .ge 14, 3) := by decide +kernel
end
section
theorem dX6_power_11 : decode cX6_power 11 = .ok (.lload_n 2, 1) := by decide +kernel
theorem dX6_power_12 : decode cX6_power 12 = .ok (.iload_n 0, 1) := by decide +kernel
theorem dX6_power_13 : decode cX6_power 13 = .ok (.i2l, 1) := by decide +kernel
theorem dX6_power_14 : decode cX6_power 14 = .ok (.lmul, 1) := by decide +kernel
theorem dX6_power_15 : decode cX6_power 15 = .ok (.lstore_n 2, 1) := by decide +kernel
theorem dX6_power_16 : decode cX6_power 16 = .ok (.iinc 4 1, 3) := by decide +kernel
theorem dX6_power_19 : decode cX6_power 19 = .ok (.goto (-14), 3) := by decide +kernel
theorem dX6_power_22 : decode cX6_power 22 = .ok (.lload_n 2, 1) := by decide +kernel
theorem dX6_power_23 : decode cX6_power 23 = .ok (.lreturn, 1) := by decide +kernel
theorem dX6_inLowestTerms_0 : decode cX6_inLowestTerms 0 = .ok (.lload_n 2, 1) := by decide +kernel
theorem dX6_inLowestTerms_1 : decode cX6_inLowestTerms 1 = .ok (.lstore 5, 2) := by decide +kernel
theorem dX6_inLowestTerms_3 : decode cX6_inLowestTerms 3 = .ok (.lload_n 0, 1) := by decide +kernel
theorem dX6_inLowestTerms_4 : decode cX6_inLowestTerms 4 = .ok (.lstore 7, 2) := by decide +kernel
theorem dX6_inLowestTerms_6 : decode cX6_inLowestTerms 6 = .ok (.iconst 0, 1) := by decide +kernel
theorem dX6_inLowestTerms_7 : decode cX6_inLowestTerms 7 = .ok (.istore 9, 2) := by decide +kernel
theorem dX6_inLowestTerms_9 : decode cX6_inLowestTerms 9 = .ok (.iload 9, 2) := by decide +kernel
theorem dX6_inLowestTerms_11 : decode cX6_inLowestTerms 11 = .ok (.bipush 100, 2) := by decide +kernel
theorem dX6_inLowestTerms_13 : decode cX6_inLowestTerms 13 = .ok (.if_icmp .ge 31, 3) := by decide +kernel
theorem dX6_inLowestTerms_16 : decode cX6_inLowestTerms 16 = .ok (.lload 7, 2) := by decide +kernel
theorem dX6_inLowestTerms_18 : decode cX6_inLowestTerms 18 = .ok (.lconst 0, 1) := by decide +kernel
theorem dX6_inLowestTerms_19 : decode cX6_inLowestTerms 19 = .ok (.lcmp, 1) := by decide +kernel
theorem dX6_inLowestTerms_20 : decode cX6_inLowestTerms 20 = .ok (.ifCond .eq 24, 3) := by decide +kernel
theorem dX6_inLowestTerms_23 : decode cX6_inLowestTerms 23 = .ok (.lload 5, 2) := by decide +kernel
theorem dX6_inLowestTerms_25 : decode cX6_inLowestTerms 25 = .ok (.lload 7, 2) := by decide +kernel
theorem dX6_inLowestTerms_27 : decode cX6_inLowestTerms 27 = .ok (.lrem, 1) := by decide +kernel
theorem dX6_inLowestTerms_28 : decode cX6_inLowestTerms 28 = .ok (.lstore 10, 2) := by decide +kernel
theorem dX6_inLowestTerms_30 : decode cX6_inLowestTerms 30 = .ok (.lload 7, 2) := by decide +kernel
theorem dX6_inLowestTerms_32 : decode cX6_inLowestTerms 32 = .ok (.lstore 5, 2) := by decide +kernel
theorem dX6_inLowestTerms_34 : decode cX6_inLowestTerms 34 = .ok (.lload 10, 2) := by decide +kernel
theorem dX6_inLowestTerms_36 : decode cX6_inLowestTerms 36 = .ok (.lstore 7, 2) := by decide +kernel
theorem dX6_inLowestTerms_38 : decode cX6_inLowestTerms 38 = .ok (.iinc 9 1, 3) := by decide +kernel
theorem dX6_inLowestTerms_41 : decode cX6_inLowestTerms 41 = .ok (.goto (-32), 3) := by decide +kernel
theorem dX6_inLowestTerms_44 : decode cX6_inLowestTerms 44 = .ok (.lload 5, 2) := by decide +kernel
theorem dX6_inLowestTerms_46 : decode cX6_inLowestTerms 46 = .ok (.lconst 0, 1) := by decide +kernel
theorem dX6_inLowestTerms_47 : decode cX6_inLowestTerms 47 = .ok (.lcmp, 1) := by decide +kernel
theorem dX6_inLowestTerms_48 : decode cX6_inLowestTerms 48 = .ok (.ifCond .ne 7, 3) := by decide +kernel
theorem dX6_inLowestTerms_51 : decode cX6_inLowestTerms 51 = .ok (.ldc2_w 234, 3) := by decide +kernel
theorem dX6_inLowestTerms_54 : decode cX6_inLowestTerms 54 = .ok (.lreturn, 1) := by decide +kernel
theorem dX6_inLowestTerms_55 : decode cX6_inLowestTerms 55 = .ok (.iload 4, 2) := by decide +kernel
theorem dX6_inLowestTerms_57 : decode cX6_inLowestTerms 57 = .ok (.ifCond .ne 10, 3) := by decide +kernel
theorem dX6_inLowestTerms_60 : decode cX6_inLowestTerms 60 = .ok (.lload_n 0, 1) := by decide +kernel
theorem dX6_inLowestTerms_61 : decode cX6_inLowestTerms 61 = .ok (.lload 5, 2) := by decide +kernel
theorem dX6_inLowestTerms_63 : decode cX6_inLowestTerms 63 = .ok (.ldiv, 1) := by decide +kernel
theorem dX6_inLowestTerms_64 : decode cX6_inLowestTerms 64 = .ok (.goto 7, 3) := by decide +kernel
theorem dX6_inLowestTerms_67 : decode cX6_inLowestTerms 67 = .ok (.lload_n 2, 1) := by decide +kernel
theorem dX6_inLowestTerms_68 : decode cX6_inLowestTerms 68 = .ok (.lload 5, 2) := by decide +kernel
theorem dX6_inLowestTerms_70 : decode cX6_inLowestTerms 70 = .ok (.ldiv, 1) := by decide +kernel
theorem dX6_inLowestTerms_71 : decode cX6_inLowestTerms 71 = .ok (.lreturn, 1) := by decide +kernel
theorem dX6_see_0 : decode cX6_see 0 = .ok (.iload_n 1, 1) := by decide +kernel
theorem dX6_see_1 : decode cX6_see 1 = .ok (.iconst 0, 1) := by decide +kernel
theorem dX6_see_2 : decode cX6_see 2 = .ok (.bipush 40, 2) := by decide +kernel
theorem dX6_see_4 : decode cX6_see 4 = .ok (.invokestatic 69, 3) := by decide +kernel
theorem dX6_see_7 : decode cX6_see 7 = .ok (.ifCond .eq 25, 3) := by decide +kernel
theorem dX6_see_10 : decode cX6_see 10 = .ok (.aload_n 0, 1) := by decide +kernel
theorem dX6_see_11 : decode cX6_see 11 = .ok (.getfield 10, 3) := by decide +kernel
theorem dX6_see_14 : decode cX6_see 14 = .ok (.iload_n 2, 1) := by decide +kernel
theorem dX6_see_15 : decode cX6_see 15 = .ok (.invokevirtual 138, 3) := by decide +kernel
theorem dX6_see_18 : decode cX6_see 18 = .ok (.ifCond .eq 14, 3) := by decide +kernel
theorem dX6_see_21 : decode cX6_see 21 = .ok (.aload_n 0, 1) := by decide +kernel
theorem dX6_see_22 : decode cX6_see 22 = .ok (.getfield 10, 3) := by decide +kernel
theorem dX6_see_25 : decode cX6_see 25 = .ok (.iload_n 3, 1) := by decide +kernel
theorem dX6_see_26 : decode cX6_see 26 = .ok (.invokevirtual 151, 3) := by decide +kernel
theorem dX6_see_29 : decode cX6_see 29 = .ok (.ifCond .ne 5, 3) := by decide +kernel
theorem dX6_see_32 : decode cX6_see 32 = .ok (.iconst (-1), 1) := by decide +kernel
theorem dX6_see_33 : decode cX6_see 33 = .ok (.ireturn, 1) := by decide +kernel
theorem dX6_see_34 : decode cX6_see 34 = .ok (.aload_n 0, 1) := by decide +kernel
theorem dX6_see_35 : decode cX6_see 35 = .ok (.getfield 37, 3) := by decide +kernel
theorem dX6_see_38 : decode cX6_see 38 = .ok (.iload_n 1, 1) := by decide +kernel
theorem dX6_see_39 : decode cX6_see 39 = .ok (.iload_n 2, 1) := by decide +kernel
theorem dX6_see_40 : decode cX6_see 40 = .ok (.iload_n 3, 1) := by decide +kernel
theorem dX6_see_41 : decode cX6_see 41 = .ok (.invokevirtual 256, 3) := by decide +kernel
theorem dX6_see_44 : decode cX6_see 44 = .ok (.ifCond .eq 13, 3) := by decide +kernel
theorem dX6_see_47 : decode cX6_see 47 = .ok (.aload_n 0, 1) := by decide +kernel
theorem dX6_see_48 : decode cX6_see 48 = .ok (.getfield 37, 3) := by decide +kernel
theorem dX6_see_51 : decode cX6_see 51 = .ok (.getfield 94, 3) := by decide +kernel
theorem dX6_see_54 : decode cX6_see 54 = .ok (.goto 5, 3) := by decide +kernel
theorem dX6_see_57 : decode cX6_see 57 = .ok (.bipush (-3), 2) := by decide +kernel
theorem dX6_see_59 : decode cX6_see 59 = .ok (.ireturn, 1) := by decide +kernel
theorem dX6_forget_0 : decode cX6_forget 0 = .ok (.iload_n 1, 1) := by decide +kernel
theorem dX6_forget_1 : decode cX6_forget 1 = .ok (.iconst 0, 1) := by decide +kernel
theorem dX6_forget_2 : decode cX6_forget 2 = .ok (.aload_n 0, 1) := by decide +kernel
theorem dX6_forget_3 : decode cX6_forget 3 = .ok (.getfield 37, 3) := by decide +kernel
theorem dX6_forget_6 : decode cX6_forget 6 = .ok (.getfield 94, 3) := by decide +kernel
theorem dX6_forget_9 : decode cX6_forget 9 = .ok (.invokestatic 69, 3) := by decide +kernel
theorem dX6_forget_12 : decode cX6_forget 12 = .ok (.ifCond .ne 5, 3) := by decide +kernel
theorem dX6_forget_15 : decode cX6_forget 15 = .ok (.iconst (-1), 1) := by decide +kernel
theorem dX6_forget_16 : decode cX6_forget 16 = .ok (.ireturn, 1) := by decide +kernel
theorem dX6_forget_17 : decode cX6_forget 17 = .ok (.aload_n 0, 1) := by decide +kernel
theorem dX6_forget_18 : decode cX6_forget 18 = .ok (.getfield 37, 3) := by decide +kernel
theorem dX6_forget_21 : decode cX6_forget 21 = .ok (.getfield 94, 3) := by decide +kernel
theorem dX6_forget_24 : decode cX6_forget 24 = .ok (.istore_n 2, 1) := by decide +kernel
theorem dX6_forget_25 : decode cX6_forget 25 = .ok (.aload_n 0, 1) := by decide +kernel
theorem dX6_forget_26 : decode cX6_forget 26 = .ok (.getfield 37, 3) := by decide +kernel
theorem dX6_forget_29 : decode cX6_forget 29 = .ok (.iload_n 1, 1) := by decide +kernel
theorem dX6_forget_30 : decode cX6_forget 30 = .ok (.putfield 94, 3) := by decide +kernel
theorem dX6_forget_33 : decode cX6_forget 33 = .ok (.iload_n 2, 1) := by decide +kernel
theorem dX6_forget_34 : decode cX6_forget 34 = .ok (.ireturn, 1) := by decide +kernel
theorem dX6_kinds_0 : decode cX6_kinds 0 = .ok (.aload_n 0, 1) := by decide +kernel
theorem dX6_kinds_1 : decode cX6_kinds 1 = .ok (.getfield 10, 3) := by decide +kernel
theorem dX6_kinds_4 : decode cX6_kinds 4 = .ok (.iload_n 1, 1) := by decide +kernel
theorem dX6_kinds_5 : decode cX6_kinds 5 = .ok (.invokevirtual 138, 3) := by decide +kernel
theorem dX6_kinds_8 : decode cX6_kinds 8 = .ok (.ifCond .ne 5, 3) := by decide +kernel
theorem dX6_kinds_11 : decode cX6_kinds 11 = .ok (.iconst (-1), 1) := by decide +kernel
theorem dX6_kinds_12 : decode cX6_kinds 12 = .ok (.ireturn, 1) := by decide +kernel
theorem dX6_kinds_13 : decode cX6_kinds 13 = .ok (.iconst 0, 1) := by decide +kernel
theorem dX6_kinds_14 : decode cX6_kinds 14 = .ok (.istore_n 2, 1) := by decide +kernel
theorem dX6_kinds_15 : decode cX6_kinds 15 = .ok (.iconst 0, 1) := by decide +kernel
theorem dX6_kinds_16 : decode cX6_kinds 16 = .ok (.istore_n 3, 1) := by decide +kernel
theorem dX6_kinds_17 : decode cX6_kinds 17 = .ok (.iload_n 3, 1) := by decide +kernel
theorem dX6_kinds_18 : decode cX6_kinds 18 = .ok (.iconst 3, 1) := by decide +kernel
theorem dX6_kinds_19 : decode cX6_kinds 19 = .ok (.if_icmp .gt 57, 3) := by decide +kernel
theorem dX6_kinds_22 : decode cX6_kinds 22 = .ok (.aload_n 0, 1) := by decide +kernel
theorem dX6_kinds_23 : decode cX6_kinds 23 = .ok (.getfield 16, 3) := by decide +kernel
theorem dX6_kinds_26 : decode cX6_kinds 26 = .ok (.aload_n 0, 1) := by decide +kernel
theorem dX6_kinds_27 : decode cX6_kinds 27 = .ok (.getfield 10, 3) := by decide +kernel
theorem dX6_kinds_30 : decode cX6_kinds 30 = .ok (.invokevirtual 90, 3) := by decide +kernel
theorem dX6_kinds_33 : decode cX6_kinds 33 = .ok (.aload_n 0, 1) := by decide +kernel
theorem dX6_kinds_34 : decode cX6_kinds 34 = .ok (.getfield 16, 3) := by decide +kernel
theorem dX6_kinds_37 : decode cX6_kinds 37 = .ok (.getfield 122, 3) := by decide +kernel
theorem dX6_kinds_40 : decode cX6_kinds 40 = .ok (.iload_n 1, 1) := by decide +kernel
theorem dX6_kinds_41 : decode cX6_kinds 41 = .ok (.aaload, 1) := by decide +kernel
theorem dX6_kinds_42 : decode cX6_kinds 42 = .ok (.iload_n 3, 1) := by decide +kernel
theorem dX6_kinds_43 : decode cX6_kinds 43 = .ok (.putfield 142, 3) := by decide +kernel
theorem dX6_kinds_46 : decode cX6_kinds 46 = .ok (.iload_n 2, 1) := by decide +kernel
theorem dX6_kinds_47 : decode cX6_kinds 47 = .ok (.aload_n 0, 1) := by decide +kernel
theorem dX6_kinds_48 : decode cX6_kinds 48 = .ok (.getfield 37, 3) := by decide +kernel
theorem dX6_kinds_51 : decode cX6_kinds 51 = .ok (.aload_n 0, 1) := by decide +kernel
theorem dX6_kinds_52 : decode cX6_kinds 52 = .ok (.getfield 16, 3) := by decide +kernel
theorem dX6_kinds_55 : decode cX6_kinds 55 = .ok (.invokevirtual 259, 3) := by decide +kernel
theorem dX6_kinds_58 : decode cX6_kinds 58 = .ok (.ifCond .eq 9, 3) := by decide +kernel
theorem dX6_kinds_61 : decode cX6_kinds 61 = .ok (.iconst 1, 1) := by decide +kernel
theorem dX6_kinds_62 : decode cX6_kinds 62 = .ok (.iload_n 3, 1) := by decide +kernel
theorem dX6_kinds_63 : decode cX6_kinds 63 = .ok (.ishl, 1) := by decide +kernel
theorem dX6_kinds_64 : decode cX6_kinds 64 = .ok (.goto 4, 3) := by decide +kernel
theorem dX6_kinds_67 : decode cX6_kinds 67 = .ok (.iconst 0, 1) := by decide +kernel
theorem dX6_kinds_68 : decode cX6_kinds 68 = .ok (.ior, 1) := by decide +kernel
theorem dX6_kinds_69 : decode cX6_kinds 69 = .ok (.istore_n 2, 1) := by decide +kernel
theorem dX6_kinds_70 : decode cX6_kinds 70 = .ok (.iinc 3 1, 3) := by decide +kernel
theorem dX6_kinds_73 : decode cX6_kinds 73 = .ok (.goto (-56), 3) := by decide +kernel
theorem dX6_kinds_76 : decode cX6_kinds 76 = .ok (.iload_n 2, 1) := by decide +kernel
theorem dX6_kinds_77 : decode cX6_kinds 77 = .ok (.ireturn, 1) := by decide +kernel
theorem dX6_books_0 : decode cX6_books 0 = .ok (.aload_n 0, 1) := by decide +kernel
theorem dX6_books_1 : decode cX6_books 1 = .ok (.getfield 10, 3) := by decide +kernel
theorem dX6_books_4 : decode cX6_books 4 = .ok (.iload_n 1, 1) := by decide +kernel
theorem dX6_books_5 : decode cX6_books 5 = .ok (.invokevirtual 157, 3) := by decide +kernel
theorem dX6_books_8 : decode cX6_books 8 = .ok (.ifCond .eq 11, 3) := by decide +kernel
theorem dX6_books_11 : decode cX6_books 11 = .ok (.aload_n 0, 1) := by decide +kernel
theorem dX6_books_12 : decode cX6_books 12 = .ok (.iload_n 1, 1) := by decide +kernel
theorem dX6_books_13 : decode cX6_books 13 = .ok (.invokevirtual 262, 3) := by decide +kernel
theorem dX6_books_16 : decode cX6_books 16 = .ok (.goto 4, 3) := by decide +kernel
theorem dX6_books_19 : decode cX6_books 19 = .ok (.iconst (-1), 1) := by decide +kernel
theorem dX6_books_20 : decode cX6_books 20 = .ok (.ireturn, 1) := by decide +kernel
theorem dX6_candidates_0 : decode cX6_candidates 0 = .ok (.iconst 0, 1) := by decide +kernel
theorem dX6_candidates_1 : decode cX6_candidates 1 = .ok (.istore_n 2, 1) := by decide +kernel
theorem dX6_candidates_2 : decode cX6_candidates 2 = .ok (.iconst 0, 1) := by decide +kernel
theorem dX6_candidates_3 : decode cX6_candidates 3 = .ok (.istore_n 3, 1) := by decide +kernel
theorem dX6_candidates_4 : decode cX6_candidates 4 = .ok (.iload_n 3, 1) := by decide +kernel
theorem dX6_candidates_5 : decode cX6_candidates 5 = .ok (.aload_n 0, 1) := by decide +kernel
theorem dX6_candidates_6 : decode cX6_candidates 6 = .ok (.getfield 10, 3) := by decide +kernel
theorem dX6_candidates_9 : decode cX6_candidates 9 = .ok (.getfield 97, 3) := by decide +kernel
theorem dX6_candidates_12 : decode cX6_candidates 12 = .ok (.if_icmp .ge 54, 3) := by decide +kernel
theorem dX6_candidates_15 : decode cX6_candidates 15 = .ok (.aload_n 0, 1) := by decide +kernel
theorem dX6_candidates_16 : decode cX6_candidates 16 = .ok (.getfield 16, 3) := by decide +kernel
theorem dX6_candidates_19 : decode cX6_candidates 19 = .ok (.aload_n 0, 1) := by decide +kernel
theorem dX6_candidates_20 : decode cX6_candidates 20 = .ok (.getfield 10, 3) := by decide +kernel
theorem dX6_candidates_23 : decode cX6_candidates 23 = .ok (.invokevirtual 90, 3) := by decide +kernel
theorem dX6_candidates_26 : decode cX6_candidates 26 = .ok (.aload_n 0, 1) := by decide +kernel
theorem dX6_candidates_27 : decode cX6_candidates 27 = .ok (.getfield 16, 3) := by decide +kernel
theorem dX6_candidates_30 : decode cX6_candidates 30 = .ok (.getfield 160, 3) := by decide +kernel
theorem dX6_candidates_33 : decode cX6_candidates 33 = .ok (.iload_n 1, 1) := by decide +kernel
theorem dX6_candidates_34 : decode cX6_candidates 34 = .ok (.iload_n 3, 1) := by decide +kernel
theorem dX6_candidates_35 : decode cX6_candidates 35 = .ok (.iastore, 1) := by decide +kernel
theorem dX6_candidates_36 : decode cX6_candidates 36 = .ok (.iload_n 2, 1) := by decide +kernel
theorem dX6_candidates_37 : decode cX6_candidates 37 = .ok (.aload_n 0, 1) := by decide +kernel
theorem dX6_candidates_38 : decode cX6_candidates 38 = .ok (.getfield 37, 3) := by decide +kernel
theorem dX6_candidates_41 : decode cX6_candidates 41 = .ok (.aload_n 0, 1) := by decide +kernel
theorem dX6_candidates_42 : decode cX6_candidates 42 = .ok (.getfield 16, 3) := by decide +kernel
theorem dX6_candidates_45 : decode cX6_candidates 45 = .ok (.invokevirtual 259, 3) := by decide +kernel
theorem dX6_candidates_48 : decode cX6_candidates 48 = .ok (.ifCond .eq 9, 3) := by decide +kernel
theorem dX6_candidates_51 : decode cX6_candidates 51 = .ok (.iconst 1, 1) := by decide +kernel
theorem dX6_candidates_52 : decode cX6_candidates 52 = .ok (.iload_n 3, 1) := by decide +kernel
theorem dX6_candidates_53 : decode cX6_candidates 53 = .ok (.ishl, 1) := by decide +kernel
theorem dX6_candidates_54 : decode cX6_candidates 54 = .ok (.goto 4, 3) := by decide +kernel
theorem dX6_candidates_57 : decode cX6_candidates 57 = .ok (.iconst 0, 1) := by decide +kernel
theorem dX6_candidates_58 : decode cX6_candidates 58 = .ok (.ior, 1) := by decide +kernel
theorem dX6_candidates_59 : decode cX6_candidates 59 = .ok (.istore_n 2, 1) := by decide +kernel
theorem dX6_candidates_60 : decode cX6_candidates 60 = .ok (.iinc 3 1, 3) := by decide +kernel
theorem dX6_candidates_63 : decode cX6_candidates 63 = .ok (.goto (-59), 3) := by decide +kernel
theorem dX6_candidates_66 : decode cX6_candidates 66 = .ok (.iload_n 2, 1) := by decide +kernel
theorem dX6_candidates_67 : decode cX6_candidates 67 = .ok (.ireturn, 1) := by decide +kernel
theorem dX6_ask_0 : decode cX6_ask 0 = .ok (.aload_n 0, 1) := by decide +kernel
theorem dX6_ask_1 : decode cX6_ask 1 = .ok (.getfield 10, 3) := by decide +kernel
theorem dX6_ask_4 : decode cX6_ask 4 = .ok (.iload_n 1, 1) := by decide +kernel
theorem dX6_ask_5 : decode cX6_ask 5 = .ok (.invokevirtual 157, 3) := by decide +kernel
theorem dX6_ask_8 : decode cX6_ask 8 = .ok (.ifCond .eq 12, 3) := by decide +kernel
theorem dX6_ask_11 : decode cX6_ask 11 = .ok (.iload_n 2, 1) := by decide +kernel
theorem dX6_ask_12 : decode cX6_ask 12 = .ok (.iconst 0, 1) := by decide +kernel
theorem dX6_ask_13 : decode cX6_ask 13 = .ok (.iconst 1, 1) := by decide +kernel
theorem dX6_ask_14 : decode cX6_ask 14 = .ok (.invokestatic 69, 3) := by decide +kernel
theorem dX6_ask_17 : decode cX6_ask 17 = .ok (.ifCond .ne 5, 3) := by decide +kernel
theorem dX6_ask_20 : decode cX6_ask 20 = .ok (.iconst (-1), 1) := by decide +kernel
theorem dX6_ask_21 : decode cX6_ask 21 = .ok (.ireturn, 1) := by decide +kernel
theorem dX6_ask_22 : decode cX6_ask 22 = .ok (.aload_n 0, 1) := by decide +kernel
theorem dX6_ask_23 : decode cX6_ask 23 = .ok (.iload_n 1, 1) := by decide +kernel
theorem dX6_ask_24 : decode cX6_ask 24 = .ok (.invokevirtual 262, 3) := by decide +kernel
theorem dX6_ask_27 : decode cX6_ask 27 = .ok (.istore_n 3, 1) := by decide +kernel
theorem dX6_ask_28 : decode cX6_ask 28 = .ok (.aload_n 0, 1) := by decide +kernel
theorem dX6_ask_29 : decode cX6_ask 29 = .ok (.iload_n 1, 1) := by decide +kernel
theorem dX6_ask_30 : decode cX6_ask 30 = .ok (.iload_n 3, 1) := by decide +kernel
theorem dX6_ask_31 : decode cX6_ask 31 = .ok (.invokevirtual 265, 3) := by decide +kernel
theorem dX6_ask_34 : decode cX6_ask 34 = .ok (.aload_n 0, 1) := by decide +kernel
theorem dX6_ask_35 : decode cX6_ask 35 = .ok (.getfield 50, 3) := by decide +kernel
theorem dX6_ask_38 : decode cX6_ask 38 = .ok (.iload_n 3, 1) := by decide +kernel
theorem dX6_ask_39 : decode cX6_ask 39 = .ok (.invokestatic 251, 3) := by decide +kernel
theorem dX6_ask_42 : decode cX6_ask 42 = .ok (.invokevirtual 118, 3) := by decide +kernel
theorem dX6_ask_45 : decode cX6_ask 45 = .ok (.iconst 0, 1) := by decide +kernel
theorem dX6_ask_46 : decode cX6_ask 46 = .ok (.istore 4, 2) := by decide +kernel
theorem dX6_ask_48 : decode cX6_ask 48 = .ok (.iload 4, 2) := by decide +kernel
theorem dX6_ask_50 : decode cX6_ask 50 = .ok (.bipush 40, 2) := by decide +kernel
theorem dX6_ask_52 : decode cX6_ask 52 = .ok (.if_icmp .gt 60, 3) := by decide +kernel
theorem dX6_ask_55 : decode cX6_ask 55 = .ok (.iconst 0, 1) := by decide +kernel
theorem dX6_ask_56 : decode cX6_ask 56 = .ok (.istore 5, 2) := by decide +kernel
theorem dX6_ask_58 : decode cX6_ask 58 = .ok (.iload 5, 2) := by decide +kernel
theorem dX6_ask_60 : decode cX6_ask 60 = .ok (.aload_n 0, 1) := by decide +kernel
theorem dX6_ask_61 : decode cX6_ask 61 = .ok (.getfield 10, 3) := by decide +kernel
theorem dX6_ask_64 : decode cX6_ask 64 = .ok (.getfield 100, 3) := by decide +kernel
theorem dX6_ask_67 : decode cX6_ask 67 = .ok (.if_icmp .ge 39, 3) := by decide +kernel
theorem dX6_ask_70 : decode cX6_ask 70 = .ok (.aload_n 0, 1) := by decide +kernel
theorem dX6_ask_71 : decode cX6_ask 71 = .ok (.getfield 50, 3) := by decide +kernel
theorem dX6_ask_74 : decode cX6_ask 74 = .ok (.bipush 10, 2) := by decide +kernel
theorem dX6_ask_76 : decode cX6_ask 76 = .ok (.iload 4, 2) := by decide +kernel
theorem dX6_ask_78 : decode cX6_ask 78 = .ok (.imul, 1) := by decide +kernel
theorem dX6_ask_79 : decode cX6_ask 79 = .ok (.iload 5, 2) := by decide +kernel
theorem dX6_ask_81 : decode cX6_ask 81 = .ok (.iadd, 1) := by decide +kernel
theorem dX6_ask_82 : decode cX6_ask 82 = .ok (.aload_n 0, 1) := by decide +kernel
theorem dX6_ask_83 : decode cX6_ask 83 = .ok (.getfield 61, 3) := by decide +kernel
theorem dX6_ask_86 : decode cX6_ask 86 = .ok (.iload 4, 2) := by decide +kernel
theorem dX6_ask_88 : decode cX6_ask 88 = .ok (.iconst 4, 1) := by decide +kernel
theorem dX6_ask_89 : decode cX6_ask 89 = .ok (.imul, 1) := by decide +kernel
theorem dX6_ask_90 : decode cX6_ask 90 = .ok (.iload 5, 2) := by decide +kernel
theorem dX6_ask_92 : decode cX6_ask 92 = .ok (.iadd, 1) := by decide +kernel
theorem dX6_ask_93 : decode cX6_ask 93 = .ok (.iaload, 1) := by decide +kernel
theorem dX6_ask_94 : decode cX6_ask 94 = .ok (.invokestatic 268, 3) := by decide +kernel
theorem dX6_ask_97 : decode cX6_ask 97 = .ok (.invokevirtual 131, 3) := by decide +kernel
theorem dX6_ask_100 : decode cX6_ask 100 = .ok (.iinc 5 1, 3) := by decide +kernel
theorem dX6_ask_103 : decode cX6_ask 103 = .ok (.goto (-45), 3) := by decide +kernel
theorem dX6_ask_106 : decode cX6_ask 106 = .ok (.iinc 4 1, 3) := by decide +kernel
theorem dX6_ask_109 : decode cX6_ask 109 = .ok (.goto (-61), 3) := by decide +kernel
theorem dX6_ask_112 : decode cX6_ask 112 = .ok (.aload_n 0, 1) := by decide +kernel
theorem dX6_ask_113 : decode cX6_ask 113 = .ok (.getfield 50, 3) := by decide +kernel
theorem dX6_ask_116 : decode cX6_ask 116 = .ok (.iload_n 2, 1) := by decide +kernel
theorem dX6_ask_117 : decode cX6_ask 117 = .ok (.invokevirtual 225, 3) := by decide +kernel
theorem dX6_ask_120 : decode cX6_ask 120 = .ok (.ireturn, 1) := by decide +kernel
theorem dX6_countLooks_0 : decode cX6_countLooks 0 = .ok (.iconst 0, 1) := by decide +kernel
theorem dX6_countLooks_1 : decode cX6_countLooks 1 = .ok (.istore_n 3, 1) := by decide +kernel
theorem dX6_countLooks_2 : decode cX6_countLooks 2 = .ok (.iload_n 3, 1) := by decide +kernel
theorem dX6_countLooks_3 : decode cX6_countLooks 3 = .ok (.aload_n 0, 1) := by decide +kernel
theorem dX6_countLooks_4 : decode cX6_countLooks 4 = .ok (.getfield 61, 3) := by decide +kernel
theorem dX6_countLooks_7 : decode cX6_countLooks 7 = .ok (.arraylength, 1) := by decide +kernel
theorem dX6_countLooks_8 : decode cX6_countLooks 8 = .ok (.if_icmp .ge 16, 3) := by decide +kernel
theorem dX6_countLooks_11 : decode cX6_countLooks 11 = .ok (.aload_n 0, 1) := by decide +kernel
theorem dX6_countLooks_12 : decode cX6_countLooks 12 = .ok (.getfield 61, 3) := by decide +kernel
theorem dX6_countLooks_15 : decode cX6_countLooks 15 = .ok (.iload_n 3, 1) := by decide +kernel
theorem dX6_countLooks_16 : decode cX6_countLooks 16 = .ok (.iconst 0, 1) := by decide +kernel
theorem dX6_countLooks_17 : decode cX6_countLooks 17 = .ok (.iastore, 1) := by decide +kernel
theorem dX6_countLooks_18 : decode cX6_countLooks 18 = .ok (.iinc 3 1, 3) := by decide +kernel
theorem dX6_countLooks_21 : decode cX6_countLooks 21 = .ok (.goto (-19), 3) := by decide +kernel
theorem dX6_countLooks_24 : decode cX6_countLooks 24 = .ok (.iconst 0, 1) := by decide +kernel
theorem dX6_countLooks_25 : decode cX6_countLooks 25 = .ok (.istore_n 3, 1) := by decide +kernel
theorem dX6_countLooks_26 : decode cX6_countLooks 26 = .ok (.iload_n 3, 1) := by decide +kernel
theorem dX6_countLooks_27 : decode cX6_countLooks 27 = .ok (.aload_n 0, 1) := by decide +kernel
theorem dX6_countLooks_28 : decode cX6_countLooks 28 = .ok (.getfield 10, 3) := by decide +kernel
theorem dX6_countLooks_31 : decode cX6_countLooks 31 = .ok (.getfield 97, 3) := by decide +kernel
theorem dX6_countLooks_34 : decode cX6_countLooks 34 = .ok (.if_icmp .ge 43, 3) := by decide +kernel
theorem dX6_countLooks_37 : decode cX6_countLooks 37 = .ok (.iload_n 2, 1) := by decide +kernel
theorem dX6_countLooks_38 : decode cX6_countLooks 38 = .ok (.iload_n 3, 1) := by decide +kernel
theorem dX6_countLooks_39 : decode cX6_countLooks 39 = .ok (.ishr, 1) := by decide +kernel
theorem dX6_countLooks_40 : decode cX6_countLooks 40 = .ok (.iconst 1, 1) := by decide +kernel
theorem dX6_countLooks_41 : decode cX6_countLooks 41 = .ok (.iand, 1) := by decide +kernel
theorem dX6_countLooks_42 : decode cX6_countLooks 42 = .ok (.iconst 1, 1) := by decide +kernel
theorem dX6_countLooks_43 : decode cX6_countLooks 43 = .ok (.if_icmp .ne 28, 3) := by decide +kernel
theorem dX6_countLooks_46 : decode cX6_countLooks 46 = .ok (.aload_n 0, 1) := by decide +kernel
theorem dX6_countLooks_47 : decode cX6_countLooks 47 = .ok (.getfield 16, 3) := by decide +kernel
theorem dX6_countLooks_50 : decode cX6_countLooks 50 = .ok (.aload_n 0, 1) := by decide +kernel
theorem dX6_countLooks_51 : decode cX6_countLooks 51 = .ok (.getfield 10, 3) := by decide +kernel
theorem dX6_countLooks_54 : decode cX6_countLooks 54 = .ok (.invokevirtual 90, 3) := by decide +kernel
theorem dX6_countLooks_57 : decode cX6_countLooks 57 = .ok (.aload_n 0, 1) := by decide +kernel
theorem dX6_countLooks_58 : decode cX6_countLooks 58 = .ok (.getfield 16, 3) := by decide +kernel
theorem dX6_countLooks_61 : decode cX6_countLooks 61 = .ok (.getfield 160, 3) := by decide +kernel
theorem dX6_countLooks_64 : decode cX6_countLooks 64 = .ok (.iload_n 1, 1) := by decide +kernel
theorem dX6_countLooks_65 : decode cX6_countLooks 65 = .ok (.iload_n 3, 1) := by decide +kernel
theorem dX6_countLooks_66 : decode cX6_countLooks 66 = .ok (.iastore, 1) := by decide +kernel
theorem dX6_countLooks_67 : decode cX6_countLooks 67 = .ok (.aload_n 0, 1) := by decide +kernel
theorem dX6_countLooks_68 : decode cX6_countLooks 68 = .ok (.invokevirtual 271, 3) := by decide +kernel
theorem dX6_countLooks_71 : decode cX6_countLooks 71 = .ok (.iinc 3 1, 3) := by decide +kernel
theorem dX6_countLooks_74 : decode cX6_countLooks 74 = .ok (.goto (-48), 3) := by decide +kernel
theorem dX6_countLooks_77 : decode cX6_countLooks 77 = .ok (.return_, 1) := by decide +kernel
theorem dX6_countLooksOfTrial_0 : decode cX6_countLooksOfTrial 0 = .ok (.iconst 0, 1) := by decide +kernel
theorem dX6_countLooksOfTrial_1 : decode cX6_countLooksOfTrial 1 = .ok (.istore_n 1, 1) := by decide +kernel
theorem dX6_countLooksOfTrial_2 : decode cX6_countLooksOfTrial 2 = .ok (.iload_n 1, 1) := by decide +kernel
theorem dX6_countLooksOfTrial_3 : decode cX6_countLooksOfTrial 3 = .ok (.bipush 40, 2) := by decide +kernel
theorem dX6_countLooksOfTrial_5 : decode cX6_countLooksOfTrial 5 = .ok (.if_icmp .gt 67, 3) := by decide +kernel
theorem dX6_countLooksOfTrial_8 : decode cX6_countLooksOfTrial 8 = .ok (.iconst 0, 1) := by decide +kernel
theorem dX6_countLooksOfTrial_9 : decode cX6_countLooksOfTrial 9 = .ok (.istore_n 2, 1) := by decide +kernel
theorem dX6_countLooksOfTrial_10 : decode cX6_countLooksOfTrial 10 = .ok (.iload_n 2, 1) := by decide +kernel
theorem dX6_countLooksOfTrial_11 : decode cX6_countLooksOfTrial 11 = .ok (.aload_n 0, 1) := by decide +kernel
theorem dX6_countLooksOfTrial_12 : decode cX6_countLooksOfTrial 12 = .ok (.getfield 16, 3) := by decide +kernel
theorem dX6_countLooksOfTrial_15 : decode cX6_countLooksOfTrial 15 = .ok (.getfield 100, 3) := by decide +kernel
theorem dX6_countLooksOfTrial_18 : decode cX6_countLooksOfTrial 18 = .ok (.if_icmp .ge 40, 3) := by decide +kernel
theorem dX6_countLooksOfTrial_21 : decode cX6_countLooksOfTrial 21 = .ok (.aload_n 0, 1) := by decide +kernel
theorem dX6_countLooksOfTrial_22 : decode cX6_countLooksOfTrial 22 = .ok (.getfield 61, 3) := by decide +kernel
theorem dX6_countLooksOfTrial_25 : decode cX6_countLooksOfTrial 25 = .ok (.iload_n 1, 1) := by decide +kernel
theorem dX6_countLooksOfTrial_26 : decode cX6_countLooksOfTrial 26 = .ok (.iconst 4, 1) := by decide +kernel
theorem dX6_countLooksOfTrial_27 : decode cX6_countLooksOfTrial 27 = .ok (.imul, 1) := by decide +kernel
theorem dX6_countLooksOfTrial_28 : decode cX6_countLooksOfTrial 28 = .ok (.iload_n 2, 1) := by decide +kernel
theorem dX6_countLooksOfTrial_29 : decode cX6_countLooksOfTrial 29 = .ok (.iadd, 1) := by decide +kernel
theorem dX6_countLooksOfTrial_30 : decode cX6_countLooksOfTrial 30 = .ok (.dup2, 1) := by decide +kernel
theorem dX6_countLooksOfTrial_31 : decode cX6_countLooksOfTrial 31 = .ok (.iaload, 1) := by decide +kernel
theorem dX6_countLooksOfTrial_32 : decode cX6_countLooksOfTrial 32 = .ok (.iconst 1, 1) := by decide +kernel
theorem dX6_countLooksOfTrial_33 : decode cX6_countLooksOfTrial 33 = .ok (.iconst 4, 1) := by decide +kernel
theorem dX6_countLooksOfTrial_34 : decode cX6_countLooksOfTrial 34 = .ok (.aload_n 0, 1) := by decide +kernel
theorem dX6_countLooksOfTrial_35 : decode cX6_countLooksOfTrial 35 = .ok (.getfield 16, 3) := by decide +kernel
theorem dX6_countLooksOfTrial_38 : decode cX6_countLooksOfTrial 38 = .ok (.getfield 122, 3) := by decide +kernel
theorem dX6_countLooksOfTrial_41 : decode cX6_countLooksOfTrial 41 = .ok (.iload_n 2, 1) := by decide +kernel
theorem dX6_countLooksOfTrial_42 : decode cX6_countLooksOfTrial 42 = .ok (.aaload, 1) := by decide +kernel
theorem dX6_countLooksOfTrial_43 : decode cX6_countLooksOfTrial 43 = .ok (.getfield 145, 3) := by decide +kernel
theorem dX6_countLooksOfTrial_46 : decode cX6_countLooksOfTrial 46 = .ok (.iconst 0, 1) := by decide +kernel
theorem dX6_countLooksOfTrial_47 : decode cX6_countLooksOfTrial 47 = .ok (.iaload, 1) := by decide +kernel
theorem dX6_countLooksOfTrial_48 : decode cX6_countLooksOfTrial 48 = .ok (.imul, 1) := by decide +kernel
theorem dX6_countLooksOfTrial_49 : decode cX6_countLooksOfTrial 49 = .ok (.ishl, 1) := by decide +kernel
theorem dX6_countLooksOfTrial_50 : decode cX6_countLooksOfTrial 50 = .ok (.iadd, 1) := by decide +kernel
theorem dX6_countLooksOfTrial_51 : decode cX6_countLooksOfTrial 51 = .ok (.iastore, 1) := by decide +kernel
theorem dX6_countLooksOfTrial_52 : decode cX6_countLooksOfTrial 52 = .ok (.iinc 2 1, 3) := by decide +kernel
theorem dX6_countLooksOfTrial_55 : decode cX6_countLooksOfTrial 55 = .ok (.goto (-45), 3) := by decide +kernel
theorem dX6_countLooksOfTrial_58 : decode cX6_countLooksOfTrial 58 = .ok (.aload_n 0, 1) := by decide +kernel
theorem dX6_countLooksOfTrial_59 : decode cX6_countLooksOfTrial 59 = .ok (.getfield 16, 3) := by decide +kernel
theorem dX6_countLooksOfTrial_62 : decode cX6_countLooksOfTrial 62 = .ok (.invokevirtual 175, 3) := by decide +kernel
theorem dX6_countLooksOfTrial_65 : decode cX6_countLooksOfTrial 65 = .ok (.pop, 1) := by decide +kernel
theorem dX6_countLooksOfTrial_66 : decode cX6_countLooksOfTrial 66 = .ok (.iinc 1 1, 3) := by decide +kernel
theorem dX6_countLooksOfTrial_69 : decode cX6_countLooksOfTrial 69 = .ok (.goto (-67), 3) := by decide +kernel
theorem dX6_countLooksOfTrial_72 : decode cX6_countLooksOfTrial 72 = .ok (.return_, 1) := by decide +kernel
theorem dX6_mostShowingOne_0 : decode cX6_mostShowingOne 0 = .ok (.iconst 0, 1) := by decide +kernel
theorem dX6_mostShowingOne_1 : decode cX6_mostShowingOne 1 = .ok (.istore_n 1, 1) := by decide +kernel
theorem dX6_mostShowingOne_2 : decode cX6_mostShowingOne 2 = .ok (.iconst 0, 1) := by decide +kernel
theorem dX6_mostShowingOne_3 : decode cX6_mostShowingOne 3 = .ok (.istore_n 2, 1) := by decide +kernel
theorem dX6_mostShowingOne_4 : decode cX6_mostShowingOne 4 = .ok (.iload_n 2, 1) := by decide +kernel
theorem dX6_mostShowingOne_5 : decode cX6_mostShowingOne 5 = .ok (.bipush 6, 2) := by decide +kernel
theorem dX6_mostShowingOne_7 : decode cX6_mostShowingOne 7 = .ok (.if_icmp .ge 22, 3) := by decide +kernel
theorem dX6_mostShowingOne_10 : decode cX6_mostShowingOne 10 = .ok (.iload_n 1, 1) := by decide +kernel
theorem dX6_mostShowingOne_11 : decode cX6_mostShowingOne 11 = .ok (.iload_n 0, 1) := by decide +kernel
theorem dX6_mostShowingOne_12 : decode cX6_mostShowingOne 12 = .ok (.iconst 4, 1) := by decide +kernel
theorem dX6_mostShowingOne_13 : decode cX6_mostShowingOne 13 = .ok (.iload_n 2, 1) := by decide +kernel
theorem dX6_mostShowingOne_14 : decode cX6_mostShowingOne 14 = .ok (.imul, 1) := by decide +kernel
theorem dX6_mostShowingOne_15 : decode cX6_mostShowingOne 15 = .ok (.ishr, 1) := by decide +kernel
theorem dX6_mostShowingOne_16 : decode cX6_mostShowingOne 16 = .ok (.bipush 15, 2) := by decide +kernel
theorem dX6_mostShowingOne_18 : decode cX6_mostShowingOne 18 = .ok (.iand, 1) := by decide +kernel
theorem dX6_mostShowingOne_19 : decode cX6_mostShowingOne 19 = .ok (.invokestatic 274, 3) := by decide +kernel
theorem dX6_mostShowingOne_22 : decode cX6_mostShowingOne 22 = .ok (.istore_n 1, 1) := by decide +kernel
theorem dX6_mostShowingOne_23 : decode cX6_mostShowingOne 23 = .ok (.iinc 2 1, 3) := by decide +kernel
theorem dX6_mostShowingOne_26 : decode cX6_mostShowingOne 26 = .ok (.goto (-22), 3) := by decide +kernel
theorem dX6_mostShowingOne_29 : decode cX6_mostShowingOne 29 = .ok (.iload_n 1, 1) := by decide +kernel
theorem dX6_mostShowingOne_30 : decode cX6_mostShowingOne 30 = .ok (.ireturn, 1) := by decide +kernel
theorem dX6_drift_0 : decode cX6_drift 0 = .ok (.iload_n 2, 1) := by decide +kernel
theorem dX6_drift_1 : decode cX6_drift 1 = .ok (.iconst 1, 1) := by decide +kernel
theorem dX6_drift_2 : decode cX6_drift 2 = .ok (.sipush 200, 3) := by decide +kernel
theorem dX6_drift_5 : decode cX6_drift 5 = .ok (.invokestatic 69, 3) := by decide +kernel
theorem dX6_drift_8 : decode cX6_drift 8 = .ok (.ifCond .eq 12, 3) := by decide +kernel
theorem dX6_drift_11 : decode cX6_drift 11 = .ok (.iload_n 3, 1) := by decide +kernel
theorem dX6_drift_12 : decode cX6_drift 12 = .ok (.iconst 0, 1) := by decide +kernel
theorem dX6_drift_13 : decode cX6_drift 13 = .ok (.iconst 1, 1) := by decide +kernel
theorem dX6_drift_14 : decode cX6_drift 14 = .ok (.invokestatic 69, 3) := by decide +kernel
theorem dX6_drift_17 : decode cX6_drift 17 = .ok (.ifCond .ne 5, 3) := by decide +kernel
theorem dX6_drift_20 : decode cX6_drift 20 = .ok (.iconst (-1), 1) := by decide +kernel
theorem dX6_drift_21 : decode cX6_drift 21 = .ok (.ireturn, 1) := by decide +kernel
theorem dX6_drift_22 : decode cX6_drift 22 = .ok (.aload_n 0, 1) := by decide +kernel
theorem dX6_drift_23 : decode cX6_drift 23 = .ok (.getfield 10, 3) := by decide +kernel
theorem dX6_drift_26 : decode cX6_drift 26 = .ok (.getfield 100, 3) := by decide +kernel
theorem dX6_drift_29 : decode cX6_drift 29 = .ok (.ifCond .ne 6, 3) := by decide +kernel
theorem dX6_drift_32 : decode cX6_drift 32 = .ok (.bipush (-2), 2) := by decide +kernel
theorem dX6_drift_34 : decode cX6_drift 34 = .ok (.ireturn, 1) := by decide +kernel
theorem dX6_drift_35 : decode cX6_drift 35 = .ok (.aload_n 0, 1) := by decide +kernel
theorem dX6_drift_36 : decode cX6_drift 36 = .ok (.getfield 16, 3) := by decide +kernel
theorem dX6_drift_39 : decode cX6_drift 39 = .ok (.aload_n 0, 1) := by decide +kernel
theorem dX6_drift_40 : decode cX6_drift 40 = .ok (.getfield 10, 3) := by decide +kernel
theorem dX6_drift_43 : decode cX6_drift 43 = .ok (.invokevirtual 90, 3) := by decide +kernel
theorem dX6_drift_46 : decode cX6_drift 46 = .ok (.aload_n 0, 1) := by decide +kernel
theorem dX6_drift_47 : decode cX6_drift 47 = .ok (.getfield 50, 3) := by decide +kernel
theorem dX6_drift_50 : decode cX6_drift 50 = .ok (.ldc 117, 2) := by decide +kernel
theorem dX6_drift_52 : decode cX6_drift 52 = .ok (.invokevirtual 118, 3) := by decide +kernel
theorem dX6_drift_55 : decode cX6_drift 55 = .ok (.iconst 0, 1) := by decide +kernel
theorem dX6_drift_56 : decode cX6_drift 56 = .ok (.istore 4, 2) := by decide +kernel
theorem dX6_drift_58 : decode cX6_drift 58 = .ok (.iconst 0, 1) := by decide +kernel
theorem dX6_drift_59 : decode cX6_drift 59 = .ok (.istore 5, 2) := by decide +kernel
theorem dX6_drift_61 : decode cX6_drift 61 = .ok (.iload 5, 2) := by decide +kernel
theorem dX6_drift_63 : decode cX6_drift 63 = .ok (.aload_n 0, 1) := by decide +kernel
theorem dX6_drift_64 : decode cX6_drift 64 = .ok (.getfield 16, 3) := by decide +kernel
theorem dX6_drift_67 : decode cX6_drift 67 = .ok (.getfield 100, 3) := by decide +kernel
theorem dX6_drift_70 : decode cX6_drift 70 = .ok (.if_icmp .ge 45, 3) := by decide +kernel
theorem dX6_drift_73 : decode cX6_drift 73 = .ok (.aload_n 0, 1) := by decide +kernel
theorem dX6_drift_74 : decode cX6_drift 74 = .ok (.aload_n 0, 1) := by decide +kernel
theorem dX6_drift_75 : decode cX6_drift 75 = .ok (.getfield 16, 3) := by decide +kernel
theorem dX6_drift_78 : decode cX6_drift 78 = .ok (.getfield 122, 3) := by decide +kernel
theorem dX6_drift_81 : decode cX6_drift 81 = .ok (.iload 5, 2) := by decide +kernel
theorem dX6_drift_83 : decode cX6_drift 83 = .ok (.aaload, 1) := by decide +kernel
theorem dX6_drift_84 : decode cX6_drift 84 = .ok (.iload_n 1, 1) := by decide +kernel
theorem dX6_drift_85 : decode cX6_drift 85 = .ok (.iload_n 2, 1) := by decide +kernel
theorem dX6_drift_86 : decode cX6_drift 86 = .ok (.invokevirtual 279, 3) := by decide +kernel
theorem dX6_drift_89 : decode cX6_drift 89 = .ok (.istore 6, 2) := by decide +kernel
theorem dX6_drift_91 : decode cX6_drift 91 = .ok (.aload_n 0, 1) := by decide +kernel
theorem dX6_drift_92 : decode cX6_drift 92 = .ok (.getfield 50, 3) := by decide +kernel
theorem dX6_drift_95 : decode cX6_drift 95 = .ok (.iload 5, 2) := by decide +kernel
theorem dX6_drift_97 : decode cX6_drift 97 = .ok (.iload 6, 2) := by decide +kernel
theorem dX6_drift_99 : decode cX6_drift 99 = .ok (.invokevirtual 131, 3) := by decide +kernel
theorem dX6_drift_102 : decode cX6_drift 102 = .ok (.iload 4, 2) := by decide +kernel
theorem dX6_drift_104 : decode cX6_drift 104 = .ok (.iload 6, 2) := by decide +kernel
theorem dX6_drift_106 : decode cX6_drift 106 = .ok (.iadd, 1) := by decide +kernel
theorem dX6_drift_107 : decode cX6_drift 107 = .ok (.istore 4, 2) := by decide +kernel
theorem dX6_drift_109 : decode cX6_drift 109 = .ok (.iinc 5 1, 3) := by decide +kernel
theorem dX6_drift_112 : decode cX6_drift 112 = .ok (.goto (-51), 3) := by decide +kernel
theorem dX6_drift_115 : decode cX6_drift 115 = .ok (.iload_n 3, 1) := by decide +kernel
theorem dX6_drift_116 : decode cX6_drift 116 = .ok (.ifCond .ne 8, 3) := by decide +kernel
theorem dX6_drift_119 : decode cX6_drift 119 = .ok (.iload 4, 2) := by decide +kernel
theorem dX6_drift_121 : decode cX6_drift 121 = .ok (.goto 10, 3) := by decide +kernel
theorem dX6_drift_124 : decode cX6_drift 124 = .ok (.aload_n 0, 1) := by decide +kernel
theorem dX6_drift_125 : decode cX6_drift 125 = .ok (.getfield 50, 3) := by decide +kernel
theorem dX6_drift_128 : decode cX6_drift 128 = .ok (.getfield 135, 3) := by decide +kernel
theorem dX6_drift_131 : decode cX6_drift 131 = .ok (.ireturn, 1) := by decide +kernel
theorem dX6_paidBySeed_0 : decode cX6_paidBySeed 0 = .ok (.iload_n 2, 1) := by decide +kernel
theorem dX6_paidBySeed_1 : decode cX6_paidBySeed 1 = .ok (.istore 4, 2) := by decide +kernel
theorem dX6_paidBySeed_3 : decode cX6_paidBySeed 3 = .ok (.iconst 0, 1) := by decide +kernel
theorem dX6_paidBySeed_4 : decode cX6_paidBySeed 4 = .ok (.istore 5, 2) := by decide +kernel
theorem dX6_paidBySeed_6 : decode cX6_paidBySeed 6 = .ok (.iconst 0, 1) := by decide +kernel
theorem dX6_paidBySeed_7 : decode cX6_paidBySeed 7 = .ok (.istore 6, 2) := by decide +kernel
theorem dX6_paidBySeed_9 : decode cX6_paidBySeed 9 = .ok (.iload 6, 2) := by decide +kernel
theorem dX6_paidBySeed_11 : decode cX6_paidBySeed 11 = .ok (.iload_n 3, 1) := by decide +kernel
theorem dX6_paidBySeed_12 : decode cX6_paidBySeed 12 = .ok (.if_icmp .ge 55, 3) := by decide +kernel
theorem dX6_paidBySeed_15 : decode cX6_paidBySeed 15 = .ok (.iload 4, 2) := by decide +kernel
theorem dX6_paidBySeed_17 : decode cX6_paidBySeed 17 = .ok (.ldc_w 283, 3) := by decide +kernel
theorem dX6_paidBySeed_20 : decode cX6_paidBySeed 20 = .ok (.imul, 1) := by decide +kernel
theorem dX6_paidBySeed_21 : decode cX6_paidBySeed 21 = .ok (.sipush 12345, 3) := by decide +kernel
theorem dX6_paidBySeed_24 : decode cX6_paidBySeed 24 = .ok (.iadd, 1) := by decide +kernel
theorem dX6_paidBySeed_25 : decode cX6_paidBySeed 25 = .ok (.istore 4, 2) := by decide +kernel
theorem dX6_paidBySeed_27 : decode cX6_paidBySeed 27 = .ok (.iload 4, 2) := by decide +kernel
theorem dX6_paidBySeed_29 : decode cX6_paidBySeed 29 = .ok (.bipush 16, 2) := by decide +kernel
theorem dX6_paidBySeed_31 : decode cX6_paidBySeed 31 = .ok (.iushr, 1) := by decide +kernel
theorem dX6_paidBySeed_32 : decode cX6_paidBySeed 32 = .ok (.sipush 32767, 3) := by decide +kernel
theorem dX6_paidBySeed_35 : decode cX6_paidBySeed 35 = .ok (.iand, 1) := by decide +kernel
theorem dX6_paidBySeed_36 : decode cX6_paidBySeed 36 = .ok (.istore 7, 2) := by decide +kernel
theorem dX6_paidBySeed_38 : decode cX6_paidBySeed 38 = .ok (.iload 5, 2) := by decide +kernel
theorem dX6_paidBySeed_40 : decode cX6_paidBySeed 40 = .ok (.aload_n 1, 1) := by decide +kernel
theorem dX6_paidBySeed_41 : decode cX6_paidBySeed 41 = .ok (.iload 7, 2) := by decide +kernel
theorem dX6_paidBySeed_43 : decode cX6_paidBySeed 43 = .ok (.iconst 1, 1) := by decide +kernel
theorem dX6_paidBySeed_44 : decode cX6_paidBySeed 44 = .ok (.aload_n 0, 1) := by decide +kernel
theorem dX6_paidBySeed_45 : decode cX6_paidBySeed 45 = .ok (.getfield 10, 3) := by decide +kernel
theorem dX6_paidBySeed_48 : decode cX6_paidBySeed 48 = .ok (.getfield 97, 3) := by decide +kernel
theorem dX6_paidBySeed_51 : decode cX6_paidBySeed 51 = .ok (.invokestatic 274, 3) := by decide +kernel
theorem dX6_paidBySeed_54 : decode cX6_paidBySeed 54 = .ok (.irem, 1) := by decide +kernel
theorem dX6_paidBySeed_55 : decode cX6_paidBySeed 55 = .ok (.invokevirtual 284, 3) := by decide +kernel
theorem dX6_paidBySeed_58 : decode cX6_paidBySeed 58 = .ok (.iadd, 1) := by decide +kernel
theorem dX6_paidBySeed_59 : decode cX6_paidBySeed 59 = .ok (.istore 5, 2) := by decide +kernel
theorem dX6_paidBySeed_61 : decode cX6_paidBySeed 61 = .ok (.iinc 6 1, 3) := by decide +kernel
theorem dX6_paidBySeed_64 : decode cX6_paidBySeed 64 = .ok (.goto (-55), 3) := by decide +kernel
theorem dX6_paidBySeed_67 : decode cX6_paidBySeed 67 = .ok (.iload 5, 2) := by decide +kernel
theorem dX6_paidBySeed_69 : decode cX6_paidBySeed 69 = .ok (.ireturn, 1) := by decide +kernel
theorem dX6_keep_0 : decode cX6_keep 0 = .ok (.iload_n 1, 1) := by decide +kernel
theorem dX6_keep_1 : decode cX6_keep 1 = .ok (.iconst 0, 1) := by decide +kernel
theorem dX6_keep_2 : decode cX6_keep 2 = .ok (.iconst 1, 1) := by decide +kernel
theorem dX6_keep_3 : decode cX6_keep 3 = .ok (.invokestatic 69, 3) := by decide +kernel
theorem dX6_keep_6 : decode cX6_keep 6 = .ok (.ifCond .ne 5, 3) := by decide +kernel
theorem dX6_keep_9 : decode cX6_keep 9 = .ok (.iconst (-1), 1) := by decide +kernel
theorem dX6_keep_10 : decode cX6_keep 10 = .ok (.ireturn, 1) := by decide +kernel
theorem dX6_keep_11 : decode cX6_keep 11 = .ok (.aload_n 0, 1) := by decide +kernel
theorem dX6_keep_12 : decode cX6_keep 12 = .ok (.getfield 23, 3) := by decide +kernel
theorem dX6_keep_15 : decode cX6_keep 15 = .ok (.iload_n 1, 1) := by decide +kernel
theorem dX6_keep_16 : decode cX6_keep 16 = .ok (.baload, 1) := by decide +kernel
theorem dX6_keep_17 : decode cX6_keep 17 = .ok (.ifCond .eq 7, 3) := by decide +kernel
theorem dX6_keep_20 : decode cX6_keep 20 = .ok (.iconst 1, 1) := by decide +kernel
theorem dX6_keep_21 : decode cX6_keep 21 = .ok (.goto 4, 3) := by decide +kernel
theorem dX6_keep_24 : decode cX6_keep 24 = .ok (.iconst 0, 1) := by decide +kernel
theorem dX6_keep_25 : decode cX6_keep 25 = .ok (.istore_n 2, 1) := by decide +kernel
theorem dX6_keep_26 : decode cX6_keep 26 = .ok (.aload_n 0, 1) := by decide +kernel
theorem dX6_keep_27 : decode cX6_keep 27 = .ok (.getfield 19, 3) := by decide +kernel
theorem dX6_keep_30 : decode cX6_keep 30 = .ok (.iload_n 1, 1) := by decide +kernel
theorem dX6_keep_31 : decode cX6_keep 31 = .ok (.aaload, 1) := by decide +kernel
theorem dX6_keep_32 : decode cX6_keep 32 = .ok (.aload_n 0, 1) := by decide +kernel
theorem dX6_keep_33 : decode cX6_keep 33 = .ok (.getfield 10, 3) := by decide +kernel
theorem dX6_keep_36 : decode cX6_keep 36 = .ok (.invokevirtual 90, 3) := by decide +kernel
theorem dX6_keep_39 : decode cX6_keep 39 = .ok (.aload_n 0, 1) := by decide +kernel
theorem dX6_keep_40 : decode cX6_keep 40 = .ok (.getfield 23, 3) := by decide +kernel
theorem dX6_keep_43 : decode cX6_keep 43 = .ok (.iload_n 1, 1) := by decide +kernel
theorem dX6_keep_44 : decode cX6_keep 44 = .ok (.iconst 1, 1) := by decide +kernel
theorem dX6_keep_45 : decode cX6_keep 45 = .ok (.bastore, 1) := by decide +kernel
theorem dX6_keep_46 : decode cX6_keep 46 = .ok (.iload_n 2, 1) := by decide +kernel
theorem dX6_keep_47 : decode cX6_keep 47 = .ok (.ireturn, 1) := by decide +kernel
theorem dX6_back_0 : decode cX6_back 0 = .ok (.iload_n 1, 1) := by decide +kernel
theorem dX6_back_1 : decode cX6_back 1 = .ok (.iconst 0, 1) := by decide +kernel
theorem dX6_back_2 : decode cX6_back 2 = .ok (.iconst 1, 1) := by decide +kernel
theorem dX6_back_3 : decode cX6_back 3 = .ok (.invokestatic 69, 3) := by decide +kernel
theorem dX6_back_6 : decode cX6_back 6 = .ok (.ifCond .ne 5, 3) := by decide +kernel
theorem dX6_back_9 : decode cX6_back 9 = .ok (.iconst (-1), 1) := by decide +kernel
theorem dX6_back_10 : decode cX6_back 10 = .ok (.ireturn, 1) := by decide +kernel
theorem dX6_back_11 : decode cX6_back 11 = .ok (.aload_n 0, 1) := by decide +kernel
theorem dX6_back_12 : decode cX6_back 12 = .ok (.getfield 23, 3) := by decide +kernel
theorem dX6_back_15 : decode cX6_back 15 = .ok (.iload_n 1, 1) := by decide +kernel
theorem dX6_back_16 : decode cX6_back 16 = .ok (.baload, 1) := by decide +kernel
theorem dX6_back_17 : decode cX6_back 17 = .ok (.ifCond .ne 6, 3) := by decide +kernel
theorem dX6_back_20 : decode cX6_back 20 = .ok (.bipush (-2), 2) := by decide +kernel
theorem dX6_back_22 : decode cX6_back 22 = .ok (.ireturn, 1) := by decide +kernel
theorem dX6_back_23 : decode cX6_back 23 = .ok (.aload_n 0, 1) := by decide +kernel
theorem dX6_back_24 : decode cX6_back 24 = .ok (.getfield 10, 3) := by decide +kernel
theorem dX6_back_27 : decode cX6_back 27 = .ok (.aload_n 0, 1) := by decide +kernel
theorem dX6_back_28 : decode cX6_back 28 = .ok (.getfield 19, 3) := by decide +kernel
theorem dX6_back_31 : decode cX6_back 31 = .ok (.iload_n 1, 1) := by decide +kernel
theorem dX6_back_32 : decode cX6_back 32 = .ok (.aaload, 1) := by decide +kernel
theorem dX6_back_33 : decode cX6_back 33 = .ok (.invokevirtual 90, 3) := by decide +kernel
theorem dX6_back_36 : decode cX6_back 36 = .ok (.aload_n 0, 1) := by decide +kernel
theorem dX6_back_37 : decode cX6_back 37 = .ok (.getfield 10, 3) := by decide +kernel
theorem dX6_back_40 : decode cX6_back 40 = .ok (.getfield 106, 3) := by decide +kernel
theorem dX6_back_43 : decode cX6_back 43 = .ok (.ireturn, 1) := by decide +kernel
theorem dX6_sheet_0 : decode cX6_sheet 0 = .ok (.iload_n 1, 1) := by decide +kernel
theorem dX6_sheet_1 : decode cX6_sheet 1 = .ok (.iconst 0, 1) := by decide +kernel
theorem dX6_sheet_2 : decode cX6_sheet 2 = .ok (.iconst 3, 1) := by decide +kernel
theorem dX6_sheet_3 : decode cX6_sheet 3 = .ok (.invokestatic 69, 3) := by decide +kernel
theorem dX6_sheet_6 : decode cX6_sheet 6 = .ok (.ifCond .eq 18, 3) := by decide +kernel
theorem dX6_sheet_9 : decode cX6_sheet 9 = .ok (.iload_n 2, 1) := by decide +kernel
theorem dX6_sheet_10 : decode cX6_sheet 10 = .ok (.iconst 0, 1) := by decide +kernel
theorem dX6_sheet_11 : decode cX6_sheet 11 = .ok (.iconst 2, 1) := by decide +kernel
theorem dX6_sheet_12 : decode cX6_sheet 12 = .ok (.invokestatic 69, 3) := by decide +kernel
theorem dX6_sheet_15 : decode cX6_sheet 15 = .ok (.ifCond .eq 9, 3) := by decide +kernel
theorem dX6_sheet_18 : decode cX6_sheet 18 = .ok (.iload_n 3, 1) := by decide +kernel
theorem dX6_sheet_19 : decode cX6_sheet 19 = .ok (.bipush 40, 2) := by decide +kernel
theorem dX6_sheet_21 : decode cX6_sheet 21 = .ok (.if_icmp .le 5, 3) := by decide +kernel
theorem dX6_sheet_24 : decode cX6_sheet 24 = .ok (.iconst (-1), 1) := by decide +kernel
theorem dX6_sheet_25 : decode cX6_sheet 25 = .ok (.ireturn, 1) := by decide +kernel
theorem dX6_sheet_26 : decode cX6_sheet 26 = .ok (.iload_n 3, 1) := by decide +kernel
theorem dX6_sheet_27 : decode cX6_sheet 27 = .ok (.ifCond .ge 6, 3) := by decide +kernel
theorem dX6_sheet_30 : decode cX6_sheet 30 = .ok (.bipush (-14), 2) := by decide +kernel
theorem dX6_sheet_32 : decode cX6_sheet 32 = .ok (.ireturn, 1) := by decide +kernel
theorem dX6_sheet_33 : decode cX6_sheet 33 = .ok (.aload_n 0, 1) := by decide +kernel
theorem dX6_sheet_34 : decode cX6_sheet 34 = .ok (.getfield 43, 3) := by decide +kernel
theorem dX6_sheet_37 : decode cX6_sheet 37 = .ok (.iload_n 1, 1) := by decide +kernel
theorem dX6_sheet_38 : decode cX6_sheet 38 = .ok (.aaload, 1) := by decide +kernel
theorem dX6_sheet_39 : decode cX6_sheet 39 = .ok (.iload_n 2, 1) := by decide +kernel
theorem dX6_sheet_40 : decode cX6_sheet 40 = .ok (.iload_n 3, 1) := by decide +kernel
theorem dX6_sheet_41 : decode cX6_sheet 41 = .ok (.invokevirtual 287, 3) := by decide +kernel
theorem dX6_sheet_44 : decode cX6_sheet 44 = .ok (.iconst 1, 1) := by decide +kernel
theorem dX6_sheet_45 : decode cX6_sheet 45 = .ok (.ireturn, 1) := by decide +kernel
theorem dX6_lay_0 : decode cX6_lay 0 = .ok (.iload_n 1, 1) := by decide +kernel
theorem dX6_lay_1 : decode cX6_lay 1 = .ok (.iconst 0, 1) := by decide +kernel
theorem dX6_lay_2 : decode cX6_lay 2 = .ok (.iconst 3, 1) := by decide +kernel
theorem dX6_lay_3 : decode cX6_lay 3 = .ok (.invokestatic 69, 3) := by decide +kernel
theorem dX6_lay_6 : decode cX6_lay 6 = .ok (.ifCond .ne 5, 3) := by decide +kernel
theorem dX6_lay_9 : decode cX6_lay 9 = .ok (.iconst (-1), 1) := by decide +kernel
theorem dX6_lay_10 : decode cX6_lay 10 = .ok (.ireturn, 1) := by decide +kernel
theorem dX6_lay_11 : decode cX6_lay 11 = .ok (.aload_n 0, 1) := by decide +kernel
theorem dX6_lay_12 : decode cX6_lay 12 = .ok (.getfield 43, 3) := by decide +kernel
theorem dX6_lay_15 : decode cX6_lay 15 = .ok (.iload_n 1, 1) := by decide +kernel
theorem dX6_lay_16 : decode cX6_lay 16 = .ok (.aaload, 1) := by decide +kernel
theorem dX6_lay_17 : decode cX6_lay 17 = .ok (.aload_n 0, 1) := by decide +kernel
theorem dX6_lay_18 : decode cX6_lay 18 = .ok (.getfield 43, 3) := by decide +kernel
theorem dX6_lay_21 : decode cX6_lay 21 = .ok (.iload_n 1, 1) := by decide +kernel
theorem dX6_lay_22 : decode cX6_lay 22 = .ok (.aaload, 1) := by decide +kernel
theorem dX6_lay_23 : decode cX6_lay 23 = .ok (.getfield 290, 3) := by decide +kernel
theorem dX6_lay_26 : decode cX6_lay 26 = .ok (.iload_n 2, 1) := by decide +kernel
theorem dX6_lay_27 : decode cX6_lay 27 = .ok (.invokevirtual 293, 3) := by decide +kernel
theorem dX6_lay_30 : decode cX6_lay 30 = .ok (.istore 4, 2) := by decide +kernel
theorem dX6_lay_32 : decode cX6_lay 32 = .ok (.iload 4, 2) := by decide +kernel
theorem dX6_lay_34 : decode cX6_lay 34 = .ok (.ifCond .eq 9, 3) := by decide +kernel
theorem dX6_lay_37 : decode cX6_lay 37 = .ok (.bipush (-10), 2) := by decide +kernel
theorem dX6_lay_39 : decode cX6_lay 39 = .ok (.iload 4, 2) := by decide +kernel
theorem dX6_lay_41 : decode cX6_lay 41 = .ok (.isub, 1) := by decide +kernel
theorem dX6_lay_42 : decode cX6_lay 42 = .ok (.ireturn, 1) := by decide +kernel
theorem dX6_lay_43 : decode cX6_lay 43 = .ok (.aload_n 0, 1) := by decide +kernel
theorem dX6_lay_44 : decode cX6_lay 44 = .ok (.getfield 43, 3) := by decide +kernel
theorem dX6_lay_47 : decode cX6_lay 47 = .ok (.iload_n 1, 1) := by decide +kernel
theorem dX6_lay_48 : decode cX6_lay 48 = .ok (.aaload, 1) := by decide +kernel
theorem dX6_lay_49 : decode cX6_lay 49 = .ok (.iload_n 2, 1) := by decide +kernel
theorem dX6_lay_50 : decode cX6_lay 50 = .ok (.iload_n 3, 1) := by decide +kernel
theorem dX6_lay_51 : decode cX6_lay 51 = .ok (.invokevirtual 296, 3) := by decide +kernel
theorem dX6_lay_54 : decode cX6_lay 54 = .ok (.iconst 1, 1) := by decide +kernel
theorem dX6_lay_55 : decode cX6_lay 55 = .ok (.ireturn, 1) := by decide +kernel
theorem dX6_read_0 : decode cX6_read 0 = .ok (.iload_n 1, 1) := by decide +kernel
theorem dX6_read_1 : decode cX6_read 1 = .ok (.iconst 0, 1) := by decide +kernel
theorem dX6_read_2 : decode cX6_read 2 = .ok (.iconst 3, 1) := by decide +kernel
theorem dX6_read_3 : decode cX6_read 3 = .ok (.invokestatic 69, 3) := by decide +kernel
theorem dX6_read_6 : decode cX6_read 6 = .ok (.ifCond .eq 23, 3) := by decide +kernel
theorem dX6_read_9 : decode cX6_read 9 = .ok (.iload_n 2, 1) := by decide +kernel
theorem dX6_read_10 : decode cX6_read 10 = .ok (.iconst 0, 1) := by decide +kernel
theorem dX6_read_11 : decode cX6_read 11 = .ok (.iconst 2, 1) := by decide +kernel
theorem dX6_read_12 : decode cX6_read 12 = .ok (.invokestatic 69, 3) := by decide +kernel
theorem dX6_read_15 : decode cX6_read 15 = .ok (.ifCond .eq 14, 3) := by decide +kernel
theorem dX6_read_18 : decode cX6_read 18 = .ok (.iload 4, 2) := by decide +kernel
theorem dX6_read_20 : decode cX6_read 20 = .ok (.iconst 0, 1) := by decide +kernel
theorem dX6_read_21 : decode cX6_read 21 = .ok (.bipush 40, 2) := by decide +kernel
theorem dX6_read_23 : decode cX6_read 23 = .ok (.invokestatic 69, 3) := by decide +kernel
theorem dX6_read_26 : decode cX6_read 26 = .ok (.ifCond .ne 5, 3) := by decide +kernel
theorem dX6_read_29 : decode cX6_read 29 = .ok (.iconst (-1), 1) := by decide +kernel
theorem dX6_read_30 : decode cX6_read 30 = .ok (.ireturn, 1) := by decide +kernel
theorem dX6_read_31 : decode cX6_read 31 = .ok (.aload_n 0, 1) := by decide +kernel
theorem dX6_read_32 : decode cX6_read 32 = .ok (.getfield 43, 3) := by decide +kernel
theorem dX6_read_35 : decode cX6_read 35 = .ok (.iload_n 1, 1) := by decide +kernel
theorem dX6_read_36 : decode cX6_read 36 = .ok (.aaload, 1) := by decide +kernel
theorem dX6_read_37 : decode cX6_read 37 = .ok (.astore 5, 2) := by decide +kernel
theorem dX6_read_39 : decode cX6_read 39 = .ok (.aload_n 0, 1) := by decide +kernel
theorem dX6_read_40 : decode cX6_read 40 = .ok (.getfield 10, 3) := by decide +kernel
theorem dX6_read_43 : decode cX6_read 43 = .ok (.getfield 103, 3) := by decide +kernel
theorem dX6_read_46 : decode cX6_read 46 = .ok (.istore 6, 2) := by decide +kernel
theorem dX6_read_48 : decode cX6_read 48 = .ok (.iconst 0, 1) := by decide +kernel
theorem dX6_read_49 : decode cX6_read 49 = .ok (.istore 7, 2) := by decide +kernel
theorem dX6_read_51 : decode cX6_read 51 = .ok (.iconst 0, 1) := by decide +kernel
theorem dX6_read_52 : decode cX6_read 52 = .ok (.istore 8, 2) := by decide +kernel
theorem dX6_read_54 : decode cX6_read 54 = .ok (.iload 8, 2) := by decide +kernel
theorem dX6_read_56 : decode cX6_read 56 = .ok (.iload 4, 2) := by decide +kernel
theorem dX6_read_58 : decode cX6_read 58 = .ok (.if_icmp .ge 63, 3) := by decide +kernel
theorem dX6_read_61 : decode cX6_read 61 = .ok (.iload 7, 2) := by decide +kernel
theorem dX6_read_63 : decode cX6_read 63 = .ok (.ifCond .ne 58, 3) := by decide +kernel
theorem dX6_read_66 : decode cX6_read 66 = .ok (.aload 5, 2) := by decide +kernel
theorem dX6_read_68 : decode cX6_read 68 = .ok (.iload_n 2, 1) := by decide +kernel
theorem dX6_read_69 : decode cX6_read 69 = .ok (.iload_n 3, 1) := by decide +kernel
theorem dX6_read_70 : decode cX6_read 70 = .ok (.iload 8, 2) := by decide +kernel
theorem dX6_read_72 : decode cX6_read 72 = .ok (.iadd, 1) := by decide +kernel
theorem dX6_read_73 : decode cX6_read 73 = .ok (.invokevirtual 293, 3) := by decide +kernel
theorem dX6_read_76 : decode cX6_read 76 = .ok (.istore 7, 2) := by decide +kernel
theorem dX6_read_78 : decode cX6_read 78 = .ok (.iload 7, 2) := by decide +kernel
theorem dX6_read_80 : decode cX6_read 80 = .ok (.ifCond .ne (-26), 3) := by decide +kernel
theorem dX6_read_83 : decode cX6_read 83 = .ok (.aload_n 0, 1) := by decide +kernel
theorem dX6_read_84 : decode cX6_read 84 = .ok (.aload 5, 2) := by decide +kernel
theorem dX6_read_86 : decode cX6_read 86 = .ok (.getfield 299, 3) := by decide +kernel
theorem dX6_read_89 : decode cX6_read 89 = .ok (.iload_n 3, 1) := by decide +kernel
theorem dX6_read_90 : decode cX6_read 90 = .ok (.iload 8, 2) := by decide +kernel
theorem dX6_read_92 : decode cX6_read 92 = .ok (.iadd, 1) := by decide +kernel
theorem dX6_read_93 : decode cX6_read 93 = .ok (.iaload, 1) := by decide +kernel
theorem dX6_read_94 : decode cX6_read 94 = .ok (.invokevirtual 302, 3) := by decide +kernel
theorem dX6_read_97 : decode cX6_read 97 = .ok (.ifCond .ge 18, 3) := by decide +kernel
theorem dX6_read_100 : decode cX6_read 100 = .ok (.aload_n 0, 1) := by decide +kernel
theorem dX6_read_101 : decode cX6_read 101 = .ok (.getfield 10, 3) := by decide +kernel
theorem dX6_read_104 : decode cX6_read 104 = .ok (.iload 6, 2) := by decide +kernel
theorem dX6_read_106 : decode cX6_read 106 = .ok (.putfield 103, 3) := by decide +kernel
theorem dX6_read_109 : decode cX6_read 109 = .ok (.bipush (-20), 2) := by decide +kernel
theorem dX6_read_111 : decode cX6_read 111 = .ok (.iload 8, 2) := by decide +kernel
theorem dX6_read_113 : decode cX6_read 113 = .ok (.isub, 1) := by decide +kernel
theorem dX6_read_114 : decode cX6_read 114 = .ok (.ireturn, 1) := by decide +kernel
theorem dX6_read_115 : decode cX6_read 115 = .ok (.iinc 8 1, 3) := by decide +kernel
theorem dX6_read_118 : decode cX6_read 118 = .ok (.goto (-64), 3) := by decide +kernel
theorem dX6_read_121 : decode cX6_read 121 = .ok (.aload_n 0, 1) := by decide +kernel
theorem dX6_read_122 : decode cX6_read 122 = .ok (.iload 7, 2) := by decide +kernel
theorem dX6_read_124 : decode cX6_read 124 = .ok (.putfield 64, 3) := by decide +kernel
theorem dX6_read_127 : decode cX6_read 127 = .ok (.iload 8, 2) := by decide +kernel
theorem dX6_read_129 : decode cX6_read 129 = .ok (.ireturn, 1) := by decide +kernel
theorem dX6_torn_0 : decode cX6_torn 0 = .ok (.aload_n 0, 1) := by decide +kernel
theorem dX6_torn_1 : decode cX6_torn 1 = .ok (.getfield 64, 3) := by decide +kernel
theorem dX6_torn_4 : decode cX6_torn 4 = .ok (.ireturn, 1) := by decide +kernel
theorem dX6_count_0 : decode cX6_count 0 = .ok (.iload_n 1, 1) := by decide +kernel
theorem dX6_count_1 : decode cX6_count 1 = .ok (.tableswitch 104 0 5 #[39, 47, 52, 60, 88, 96], 39) := by decide +kernel
theorem dX6_count_40 : decode cX6_count 40 = .ok (.aload_n 0, 1) := by decide +kernel
theorem dX6_count_41 : decode cX6_count 41 = .ok (.getfield 37, 3) := by decide +kernel
theorem dX6_count_44 : decode cX6_count 44 = .ok (.getfield 94, 3) := by decide +kernel
theorem dX6_count_47 : decode cX6_count 47 = .ok (.ireturn, 1) := by decide +kernel
theorem dX6_count_48 : decode cX6_count 48 = .ok (.aload_n 0, 1) := by decide +kernel
theorem dX6_count_49 : decode cX6_count 49 = .ok (.invokevirtual 305, 3) := by decide +kernel
theorem dX6_count_52 : decode cX6_count 52 = .ok (.ireturn, 1) := by decide +kernel
theorem dX6_count_53 : decode cX6_count 53 = .ok (.aload_n 0, 1) := by decide +kernel
theorem dX6_count_54 : decode cX6_count 54 = .ok (.getfield 30, 3) := by decide +kernel
theorem dX6_count_57 : decode cX6_count 57 = .ok (.getfield 73, 3) := by decide +kernel
theorem dX6_count_60 : decode cX6_count 60 = .ok (.ireturn, 1) := by decide +kernel
theorem dX6_count_61 : decode cX6_count 61 = .ok (.aload_n 0, 1) := by decide +kernel
theorem dX6_count_62 : decode cX6_count 62 = .ok (.getfield 43, 3) := by decide +kernel
theorem dX6_count_65 : decode cX6_count 65 = .ok (.iconst 0, 1) := by decide +kernel
theorem dX6_count_66 : decode cX6_count 66 = .ok (.aaload, 1) := by decide +kernel
theorem dX6_count_67 : decode cX6_count 67 = .ok (.getfield 290, 3) := by decide +kernel
theorem dX6_count_70 : decode cX6_count 70 = .ok (.iconst (-1), 1) := by decide +kernel
theorem dX6_count_71 : decode cX6_count 71 = .ok (.if_icmp .ne 8, 3) := by decide +kernel
theorem dX6_count_74 : decode cX6_count 74 = .ok (.bipush (-4), 2) := by decide +kernel
theorem dX6_count_76 : decode cX6_count 76 = .ok (.goto 12, 3) := by decide +kernel
theorem dX6_count_79 : decode cX6_count 79 = .ok (.aload_n 0, 1) := by decide +kernel
theorem dX6_count_80 : decode cX6_count 80 = .ok (.getfield 43, 3) := by decide +kernel
theorem dX6_count_83 : decode cX6_count 83 = .ok (.iconst 0, 1) := by decide +kernel
theorem dX6_count_84 : decode cX6_count 84 = .ok (.aaload, 1) := by decide +kernel
theorem dX6_count_85 : decode cX6_count 85 = .ok (.getfield 308, 3) := by decide +kernel
theorem dX6_count_88 : decode cX6_count 88 = .ok (.ireturn, 1) := by decide +kernel
theorem dX6_count_89 : decode cX6_count 89 = .ok (.aload_n 0, 1) := by decide +kernel
theorem dX6_count_90 : decode cX6_count 90 = .ok (.getfield 10, 3) := by decide +kernel
theorem dX6_count_93 : decode cX6_count 93 = .ok (.invokevirtual 309, 3) := by decide +kernel
theorem dX6_count_96 : decode cX6_count 96 = .ok (.ireturn, 1) := by decide +kernel
theorem dX6_count_97 : decode cX6_count 97 = .ok (.aload_n 0, 1) := by decide +kernel
theorem dX6_count_98 : decode cX6_count 98 = .ok (.getfield 10, 3) := by decide +kernel
theorem dX6_count_101 : decode cX6_count 101 = .ok (.invokevirtual 312, 3) := by decide +kernel
theorem dX6_count_104 : decode cX6_count 104 = .ok (.ireturn, 1) := by decide +kernel
theorem dX6_count_105 : decode cX6_count 105 = .ok (.iconst (-1), 1) := by decide +kernel
theorem dX6_count_106 : decode cX6_count 106 = .ok (.ireturn, 1) := by decide +kernel
theorem dX6_imagesKept_0 : decode cX6_imagesKept 0 = .ok (.iconst 0, 1) := by decide +kernel
theorem dX6_imagesKept_1 : decode cX6_imagesKept 1 = .ok (.istore_n 1, 1) := by decide +kernel
theorem dX6_imagesKept_2 : decode cX6_imagesKept 2 = .ok (.iconst 0, 1) := by decide +kernel
theorem dX6_imagesKept_3 : decode cX6_imagesKept 3 = .ok (.istore_n 2, 1) := by decide +kernel
theorem dX6_imagesKept_4 : decode cX6_imagesKept 4 = .ok (.iload_n 2, 1) := by decide +kernel
theorem dX6_imagesKept_5 : decode cX6_imagesKept 5 = .ok (.iconst 2, 1) := by decide +kernel
theorem dX6_imagesKept_6 : decode cX6_imagesKept 6 = .ok (.if_icmp .ge 26, 3) := by decide +kernel
theorem dX6_imagesKept_9 : decode cX6_imagesKept 9 = .ok (.iload_n 1, 1) := by decide +kernel
theorem dX6_imagesKept_10 : decode cX6_imagesKept 10 = .ok (.aload_n 0, 1) := by decide +kernel
theorem dX6_imagesKept_11 : decode cX6_imagesKept 11 = .ok (.getfield 23, 3) := by decide +kernel
theorem dX6_imagesKept_14 : decode cX6_imagesKept 14 = .ok (.iload_n 2, 1) := by decide +kernel
theorem dX6_imagesKept_15 : decode cX6_imagesKept 15 = .ok (.baload, 1) := by decide +kernel
theorem dX6_imagesKept_16 : decode cX6_imagesKept 16 = .ok (.ifCond .eq 7, 3) := by decide +kernel
theorem dX6_imagesKept_19 : decode cX6_imagesKept 19 = .ok (.iconst 1, 1) := by decide +kernel
theorem dX6_imagesKept_20 : decode cX6_imagesKept 20 = .ok (.goto 4, 3) := by decide +kernel
theorem dX6_imagesKept_23 : decode cX6_imagesKept 23 = .ok (.iconst 0, 1) := by decide +kernel
theorem dX6_imagesKept_24 : decode cX6_imagesKept 24 = .ok (.iadd, 1) := by decide +kernel
theorem dX6_imagesKept_25 : decode cX6_imagesKept 25 = .ok (.istore_n 1, 1) := by decide +kernel
theorem dX6_imagesKept_26 : decode cX6_imagesKept 26 = .ok (.iinc 2 1, 3) := by decide +kernel
theorem dX6_imagesKept_29 : decode cX6_imagesKept 29 = .ok (.goto (-25), 3) := by decide +kernel
theorem dX6_imagesKept_32 : decode cX6_imagesKept 32 = .ok (.iload_n 1, 1) := by decide +kernel
theorem dX6_imagesKept_33 : decode cX6_imagesKept 33 = .ok (.ireturn, 1) := by decide +kernel
theorem dX6_within_0 : decode cX6_within 0 = .ok (.iload_n 0, 1) := by decide +kernel
theorem dX6_within_1 : decode cX6_within 1 = .ok (.iload_n 1, 1) := by decide +kernel
theorem dX6_within_2 : decode cX6_within 2 = .ok (.if_icmp .lt 12, 3) := by decide +kernel
theorem dX6_within_5 : decode cX6_within 5 = .ok (.iload_n 0, 1) := by decide +kernel
theorem dX6_within_6 : decode cX6_within 6 = .ok (.iload_n 2, 1) := by decide +kernel
theorem dX6_within_7 : decode cX6_within 7 = .ok (.if_icmp .gt 7, 3) := by decide +kernel
theorem dX6_within_10 : decode cX6_within 10 = .ok (.iconst 1, 1) := by decide +kernel
theorem dX6_within_11 : decode cX6_within 11 = .ok (.goto 4, 3) := by decide +kernel
theorem dX6_within_14 : decode cX6_within 14 = .ok (.iconst 0, 1) := by decide +kernel
theorem dX6_within_15 : decode cX6_within 15 = .ok (.ireturn, 1) := by decide +kernel
theorem dX7_init_0 : decode cX7_init 0 = .ok (.aload_n 0, 1) := by decide +kernel
theorem dX7_init_1 : decode cX7_init 1 = .ok (.invokespecial 1, 3) := by decide +kernel
theorem dX7_init_4 : decode cX7_init 4 = .ok (.aload_n 0, 1) := by decide +kernel
theorem dX7_init_5 : decode cX7_init 5 = .ok (.sipush 450, 3) := by decide +kernel
theorem dX7_init_8 : decode cX7_init 8 = .ok (.newarray .int, 2) := by decide +kernel
theorem dX7_init_10 : decode cX7_init 10 = .ok (.putfield 7, 3) := by decide +kernel
theorem dX7_init_13 : decode cX7_init 13 = .ok (.aload_n 0, 1) := by decide +kernel
theorem dX7_init_14 : decode cX7_init 14 = .ok (.iconst 4, 1) := by decide +kernel
theorem dX7_init_15 : decode cX7_init 15 = .ok (.putfield 13, 3) := by decide +kernel
theorem dX7_init_18 : decode cX7_init 18 = .ok (.aload_n 0, 1) := by decide +kernel
theorem dX7_init_19 : decode cX7_init 19 = .ok (.bipush 75, 2) := by decide +kernel
theorem dX7_init_21 : decode cX7_init 21 = .ok (.newarray .int, 2) := by decide +kernel
theorem dX7_init_23 : decode cX7_init 23 = .ok (.putfield 17, 3) := by decide +kernel
theorem dX7_init_26 : decode cX7_init 26 = .ok (.aload_n 0, 1) := by decide +kernel
theorem dX7_init_27 : decode cX7_init 27 = .ok (.sipush 160, 3) := by decide +kernel
theorem dX7_init_30 : decode cX7_init 30 = .ok (.newarray .int, 2) := by decide +kernel
theorem dX7_init_32 : decode cX7_init 32 = .ok (.putfield 20, 3) := by decide +kernel
theorem dX7_init_35 : decode cX7_init 35 = .ok (.aload_n 0, 1) := by decide +kernel
theorem dX7_init_36 : decode cX7_init 36 = .ok (.bipush 7, 2) := by decide +kernel
theorem dX7_init_38 : decode cX7_init 38 = .ok (.newarray .int, 2) := by decide +kernel
theorem dX7_init_40 : decode cX7_init 40 = .ok (.dup, 1) := by decide +kernel
theorem dX7_init_41 : decode cX7_init 41 = .ok (.iconst 0, 1) := by decide +kernel
theorem dX7_init_42 : decode cX7_init 42 = .ok (.iconst 0, 1) := by decide +kernel
theorem dX7_init_43 : decode cX7_init 43 = .ok (.iastore, 1) := by decide +kernel
theorem dX7_init_44 : decode cX7_init 44 = .ok (.dup, 1) := by decide +kernel
theorem dX7_init_45 : decode cX7_init 45 = .ok (.iconst 1, 1) := by decide +kernel
theorem dX7_init_46 : decode cX7_init 46 = .ok (.iconst 4, 1) := by decide +kernel
theorem dX7_init_47 : decode cX7_init 47 = .ok (.iastore, 1) := by decide +kernel
theorem dX7_init_48 : decode cX7_init 48 = .ok (.dup, 1) := by decide +kernel
theorem dX7_init_49 : decode cX7_init 49 = .ok (.iconst 2, 1) := by decide +kernel
theorem dX7_init_50 : decode cX7_init 50 = .ok (.bipush 8, 2) := by decide +kernel
theorem dX7_init_52 : decode cX7_init 52 = .ok (.iastore, 1) := by decide +kernel
theorem dX7_init_53 : decode cX7_init 53 = .ok (.dup, 1) := by decide +kernel
theorem dX7_init_54 : decode cX7_init 54 = .ok (.iconst 3, 1) := by decide +kernel
theorem dX7_init_55 : decode cX7_init 55 = .ok (.bipush 13, 2) := by decide +kernel
theorem dX7_init_57 : decode cX7_init 57 = .ok (.iastore, 1) := by decide +kernel
theorem dX7_init_58 : decode cX7_init 58 = .ok (.dup, 1) := by decide +kernel
theorem dX7_init_59 : decode cX7_init 59 = .ok (.iconst 4, 1) := by decide +kernel
theorem dX7_init_60 : decode cX7_init 60 = .ok (.bipush 18, 2) := by decide +kernel
theorem dX7_init_62 : decode cX7_init 62 = .ok (.iastore, 1) := by decide +kernel
theorem dX7_init_63 : decode cX7_init 63 = .ok (.dup, 1) := by decide +kernel
theorem dX7_init_64 : decode cX7_init 64 = .ok (.iconst 5, 1) := by decide +kernel
theorem dX7_init_65 : decode cX7_init 65 = .ok (.bipush 23, 2) := by decide +kernel
theorem dX7_init_67 : decode cX7_init 67 = .ok (.iastore, 1) := by decide +kernel
theorem dX7_init_68 : decode cX7_init 68 = .ok (.dup, 1) := by decide +kernel
theorem dX7_init_69 : decode cX7_init 69 = .ok (.bipush 6, 2) := by decide +kernel
theorem dX7_init_71 : decode cX7_init 71 = .ok (.bipush 27, 2) := by decide +kernel
theorem dX7_init_73 : decode cX7_init 73 = .ok (.iastore, 1) := by decide +kernel
theorem dX7_init_74 : decode cX7_init 74 = .ok (.putfield 23, 3) := by decide +kernel
theorem dX7_init_77 : decode cX7_init 77 = .ok (.aload_n 0, 1) := by decide +kernel
theorem dX7_init_78 : decode cX7_init 78 = .ok (.bipush 27, 2) := by decide +kernel
theorem dX7_init_80 : decode cX7_init 80 = .ok (.newarray .int, 2) := by decide +kernel
theorem dX7_init_82 : decode cX7_init 82 = .ok (.dup, 1) := by decide +kernel
theorem dX7_init_83 : decode cX7_init 83 = .ok (.iconst 0, 1) := by decide +kernel
theorem dX7_init_84 : decode cX7_init 84 = .ok (.bipush 115, 2) := by decide +kernel
theorem dX7_init_86 : decode cX7_init 86 = .ok (.iastore, 1) := by decide +kernel
theorem dX7_init_87 : decode cX7_init 87 = .ok (.dup, 1) := by decide +kernel
theorem dX7_init_88 : decode cX7_init 88 = .ok (.iconst 1, 1) := by decide +kernel
theorem dX7_init_89 : decode cX7_init 89 = .ok (.bipush 116, 2) := by decide +kernel
theorem dX7_init_91 : decode cX7_init 91 = .ok (.iastore, 1) := by decide +kernel
theorem dX7_init_92 : decode cX7_init 92 = .ok (.dup, 1) := by decide +kernel
theorem dX7_init_93 : decode cX7_init 93 = .ok (.iconst 2, 1) := by decide +kernel
theorem dX7_init_94 : decode cX7_init 94 = .ok (.bipush 97, 2) := by decide +kernel
theorem dX7_init_96 : decode cX7_init 96 = .ok (.iastore, 1) := by decide +kernel
theorem dX7_init_97 : decode cX7_init 97 = .ok (.dup, 1) := by decide +kernel
theorem dX7_init_98 : decode cX7_init 98 = .ok (.iconst 3, 1) := by decide +kernel
theorem dX7_init_99 : decode cX7_init 99 = .ok (.bipush 121, 2) := by decide +kernel
theorem dX7_init_101 : decode cX7_init 101 = .ok (.iastore, 1) := by decide +kernel
theorem dX7_init_102 : decode cX7_init 102 = .ok (.dup, 1) := by decide +kernel
theorem dX7_init_103 : decode cX7_init 103 = .ok (.iconst 4, 1) := by decide +kernel
theorem dX7_init_104 : decode cX7_init 104 = .ok (.bipush 115, 2) := by decide +kernel
theorem dX7_init_106 : decode cX7_init 106 = .ok (.iastore, 1) := by decide +kernel
theorem dX7_init_107 : decode cX7_init 107 = .ok (.dup, 1) := by decide +kernel
theorem dX7_init_108 : decode cX7_init 108 = .ok (.iconst 5, 1) := by decide +kernel
theorem dX7_init_109 : decode cX7_init 109 = .ok (.bipush 116, 2) := by decide +kernel
theorem dX7_init_111 : decode cX7_init 111 = .ok (.iastore, 1) := by decide +kernel
theorem dX7_init_112 : decode cX7_init 112 = .ok (.dup, 1) := by decide +kernel
theorem dX7_init_113 : decode cX7_init 113 = .ok (.bipush 6, 2) := by decide +kernel
theorem dX7_init_115 : decode cX7_init 115 = .ok (.bipush 101, 2) := by decide +kernel
theorem dX7_init_117 : decode cX7_init 117 = .ok (.iastore, 1) := by decide +kernel
theorem dX7_init_118 : decode cX7_init 118 = .ok (.dup, 1) := by decide +kernel
theorem dX7_init_119 : decode cX7_init 119 = .ok (.bipush 7, 2) := by decide +kernel
theorem dX7_init_121 : decode cX7_init 121 = .ok (.bipush 112, 2) := by decide +kernel
theorem dX7_init_123 : decode cX7_init 123 = .ok (.iastore, 1) := by decide +kernel
theorem dX7_init_124 : decode cX7_init 124 = .ok (.dup, 1) := by decide +kernel
theorem dX7_init_125 : decode cX7_init 125 = .ok (.bipush 8, 2) := by decide +kernel
theorem dX7_init_127 : decode cX7_init 127 = .ok (.bipush 102, 2) := by decide +kernel
theorem dX7_init_129 : decode cX7_init 129 = .ok (.iastore, 1) := by decide +kernel
theorem dX7_init_130 : decode cX7_init 130 = .ok (.dup, 1) := by decide +kernel
theorem dX7_init_131 : decode cX7_init 131 = .ok (.bipush 9, 2) := by decide +kernel
theorem dX7_init_133 : decode cX7_init 133 = .ok (.bipush 114, 2) := by decide +kernel
theorem dX7_init_135 : decode cX7_init 135 = .ok (.iastore, 1) := by decide +kernel
theorem dX7_init_136 : decode cX7_init 136 = .ok (.dup, 1) := by decide +kernel
theorem dX7_init_137 : decode cX7_init 137 = .ok (.bipush 10, 2) := by decide +kernel
theorem dX7_init_139 : decode cX7_init 139 = .ok (.bipush 111, 2) := by decide +kernel
theorem dX7_init_141 : decode cX7_init 141 = .ok (.iastore, 1) := by decide +kernel
theorem dX7_init_142 : decode cX7_init 142 = .ok (.dup, 1) := by decide +kernel
theorem dX7_init_143 : decode cX7_init 143 = .ok (.bipush 11, 2) := by decide +kernel
theorem dX7_init_145 : decode cX7_init 145 = .ok (.bipush 110, 2) := by decide +kernel
theorem dX7_init_147 : decode cX7_init 147 = .ok (.iastore, 1) := by decide +kernel
theorem dX7_init_148 : decode cX7_init 148 = .ok (.dup, 1) := by decide +kernel
theorem dX7_init_149 : decode cX7_init 149 = .ok (.bipush 12, 2) := by decide +kernel
theorem dX7_init_151 : decode cX7_init 151 = .ok (.bipush 116, 2) := by decide +kernel
theorem dX7_init_153 : decode cX7_init 153 = .ok (.iastore, 1) := by decide +kernel
theorem dX7_init_154 : decode cX7_init 154 = .ok (.dup, 1) := by decide +kernel
theorem dX7_init_155 : decode cX7_init 155 = .ok (.bipush 13, 2) := by decide +kernel
theorem dX7_init_157 : decode cX7_init 157 = .ok (.bipush 111, 2) := by decide +kernel
theorem dX7_init_159 : decode cX7_init 159 = .ok (.iastore, 1) := by decide +kernel
theorem dX7_init_160 : decode cX7_init 160 = .ok (.dup, 1) := by decide +kernel
theorem dX7_init_161 : decode cX7_init 161 = .ok (.bipush 14, 2) := by decide +kernel
theorem dX7_init_163 : decode cX7_init 163 = .ok (.bipush 102, 2) := by decide +kernel
theorem dX7_init_165 : decode cX7_init 165 = .ok (.iastore, 1) := by decide +kernel
theorem dX7_init_166 : decode cX7_init 166 = .ok (.dup, 1) := by decide +kernel
theorem dX7_init_167 : decode cX7_init 167 = .ok (.bipush 15, 2) := by decide +kernel
theorem dX7_init_169 : decode cX7_init 169 = .ok (.bipush 116, 2) := by decide +kernel
theorem dX7_init_171 : decode cX7_init 171 = .ok (.iastore, 1) := by decide +kernel
theorem dX7_init_172 : decode cX7_init 172 = .ok (.dup, 1) := by decide +kernel
theorem dX7_init_173 : decode cX7_init 173 = .ok (.bipush 16, 2) := by decide +kernel
theorem dX7_init_175 : decode cX7_init 175 = .ok (.bipush 101, 2) := by decide +kernel
theorem dX7_init_177 : decode cX7_init 177 = .ok (.iastore, 1) := by decide +kernel
theorem dX7_init_178 : decode cX7_init 178 = .ok (.dup, 1) := by decide +kernel
theorem dX7_init_179 : decode cX7_init 179 = .ok (.bipush 17, 2) := by decide +kernel
theorem dX7_init_181 : decode cX7_init 181 = .ok (.bipush 110, 2) := by decide +kernel
theorem dX7_init_183 : decode cX7_init 183 = .ok (.iastore, 1) := by decide +kernel
theorem dX7_init_184 : decode cX7_init 184 = .ok (.dup, 1) := by decide +kernel
theorem dX7_init_185 : decode cX7_init 185 = .ok (.bipush 18, 2) := by decide +kernel
theorem dX7_init_187 : decode cX7_init 187 = .ok (.bipush 98, 2) := by decide +kernel
theorem dX7_init_189 : decode cX7_init 189 = .ok (.iastore, 1) := by decide +kernel
theorem dX7_init_190 : decode cX7_init 190 = .ok (.dup, 1) := by decide +kernel
theorem dX7_init_191 : decode cX7_init 191 = .ok (.bipush 19, 2) := by decide +kernel
theorem dX7_init_193 : decode cX7_init 193 = .ok (.bipush 111, 2) := by decide +kernel
theorem dX7_init_195 : decode cX7_init 195 = .ok (.iastore, 1) := by decide +kernel
theorem dX7_init_196 : decode cX7_init 196 = .ok (.dup, 1) := by decide +kernel
theorem dX7_init_197 : decode cX7_init 197 = .ok (.bipush 20, 2) := by decide +kernel
theorem dX7_init_199 : decode cX7_init 199 = .ok (.bipush 111, 2) := by decide +kernel
theorem dX7_init_201 : decode cX7_init 201 = .ok (.iastore, 1) := by decide +kernel
theorem dX7_init_202 : decode cX7_init 202 = .ok (.dup, 1) := by decide +kernel
theorem dX7_init_203 : decode cX7_init 203 = .ok (.bipush 21, 2) := by decide +kernel
theorem dX7_init_205 : decode cX7_init 205 = .ok (.bipush 107, 2) := by decide +kernel
theorem dX7_init_207 : decode cX7_init 207 = .ok (.iastore, 1) := by decide +kernel
theorem dX7_init_208 : decode cX7_init 208 = .ok (.dup, 1) := by decide +kernel
theorem dX7_init_209 : decode cX7_init 209 = .ok (.bipush 22, 2) := by decide +kernel
theorem dX7_init_211 : decode cX7_init 211 = .ok (.bipush 115, 2) := by decide +kernel
theorem dX7_init_213 : decode cX7_init 213 = .ok (.iastore, 1) := by decide +kernel
theorem dX7_init_214 : decode cX7_init 214 = .ok (.dup, 1) := by decide +kernel
theorem dX7_init_215 : decode cX7_init 215 = .ok (.bipush 23, 2) := by decide +kernel
theorem dX7_init_217 : decode cX7_init 217 = .ok (.bipush 119, 2) := by decide +kernel
theorem dX7_init_219 : decode cX7_init 219 = .ok (.iastore, 1) := by decide +kernel
theorem dX7_init_220 : decode cX7_init 220 = .ok (.dup, 1) := by decide +kernel
theorem dX7_init_221 : decode cX7_init 221 = .ok (.bipush 24, 2) := by decide +kernel
theorem dX7_init_223 : decode cX7_init 223 = .ok (.bipush 97, 2) := by decide +kernel
theorem dX7_init_225 : decode cX7_init 225 = .ok (.iastore, 1) := by decide +kernel
theorem dX7_init_226 : decode cX7_init 226 = .ok (.dup, 1) := by decide +kernel
theorem dX7_init_227 : decode cX7_init 227 = .ok (.bipush 25, 2) := by decide +kernel
theorem dX7_init_229 : decode cX7_init 229 = .ok (.bipush 110, 2) := by decide +kernel
theorem dX7_init_231 : decode cX7_init 231 = .ok (.iastore, 1) := by decide +kernel
theorem dX7_init_232 : decode cX7_init 232 = .ok (.dup, 1) := by decide +kernel
theorem dX7_init_233 : decode cX7_init 233 = .ok (.bipush 26, 2) := by decide +kernel
theorem dX7_init_235 : decode cX7_init 235 = .ok (.bipush 116, 2) := by decide +kernel
theorem dX7_init_237 : decode cX7_init 237 = .ok (.iastore, 1) := by decide +kernel
theorem dX7_init_238 : decode cX7_init 238 = .ok (.putfield 26, 3) := by decide +kernel
theorem dX7_init_241 : decode cX7_init 241 = .ok (.aload_n 0, 1) := by decide +kernel
theorem dX7_init_242 : decode cX7_init 242 = .ok (.iconst 4, 1) := by decide +kernel
theorem dX7_init_243 : decode cX7_init 243 = .ok (.newarray .int, 2) := by decide +kernel
theorem dX7_init_245 : decode cX7_init 245 = .ok (.putfield 29, 3) := by decide +kernel
theorem dX7_init_248 : decode cX7_init 248 = .ok (.aload_n 0, 1) := by decide +kernel
theorem dX7_init_249 : decode cX7_init 249 = .ok (.bipush (-4), 2) := by decide +kernel
theorem dX7_init_251 : decode cX7_init 251 = .ok (.putfield 32, 3) := by decide +kernel
theorem dX7_init_254 : decode cX7_init 254 = .ok (.aload_n 0, 1) := by decide +kernel
theorem dX7_init_255 : decode cX7_init 255 = .ok (.bipush 18, 2) := by decide +kernel
theorem dX7_init_257 : decode cX7_init 257 = .ok (.newarray .int, 2) := by decide +kernel
theorem dX7_init_259 : decode cX7_init 259 = .ok (.putfield 35, 3) := by decide +kernel
theorem dX7_init_262 : decode cX7_init 262 = .ok (.aload_n 0, 1) := by decide +kernel
theorem dX7_init_263 : decode cX7_init 263 = .ok (.sipush 984, 3) := by decide +kernel
theorem dX7_init_266 : decode cX7_init 266 = .ok (.newarray .int, 2) := by decide +kernel
theorem dX7_init_268 : decode cX7_init 268 = .ok (.putfield 38, 3) := by decide +kernel
theorem dX7_init_271 : decode cX7_init 271 = .ok (.aload_n 0, 1) := by decide +kernel
theorem dX7_init_272 : decode cX7_init 272 = .ok (.iconst 2, 1) := by decide +kernel
theorem dX7_init_273 : decode cX7_init 273 = .ok (.newarray .boolean, 2) := by decide +kernel
theorem dX7_init_275 : decode cX7_init 275 = .ok (.putfield 41, 3) := by decide +kernel
theorem dX7_init_278 : decode cX7_init 278 = .ok (.aload_n 0, 1) := by decide +kernel
theorem dX7_init_279 : decode cX7_init 279 = .ok (.iconst 4, 1) := by decide +kernel
theorem dX7_init_280 : decode cX7_init 280 = .ok (.newarray .int, 2) := by decide +kernel
theorem dX7_init_282 : decode cX7_init 282 = .ok (.dup, 1) := by decide +kernel
theorem dX7_init_283 : decode cX7_init 283 = .ok (.iconst 0, 1) := by decide +kernel
theorem dX7_init_284 : decode cX7_init 284 = .ok (.bipush (-4), 2) := by decide +kernel
theorem dX7_init_286 : decode cX7_init 286 = .ok (.iastore, 1) := by decide +kernel
theorem dX7_init_287 : decode cX7_init 287 = .ok (.dup, 1) := by decide +kernel
theorem dX7_init_288 : decode cX7_init 288 = .ok (.iconst 1, 1) := by decide +kernel
theorem dX7_init_289 : decode cX7_init 289 = .ok (.bipush (-4), 2) := by decide +kernel
theorem dX7_init_291 : decode cX7_init 291 = .ok (.iastore, 1) := by decide +kernel
theorem dX7_init_292 : decode cX7_init 292 = .ok (.dup, 1) := by decide +kernel
theorem dX7_init_293 : decode cX7_init 293 = .ok (.iconst 2, 1) := by decide +kernel
theorem dX7_init_294 : decode cX7_init 294 = .ok (.bipush (-4), 2) := by decide +kernel
theorem dX7_init_296 : decode cX7_init 296 = .ok (.iastore, 1) := by decide +kernel
theorem dX7_init_297 : decode cX7_init 297 = .ok (.dup, 1) := by decide +kernel
theorem dX7_init_298 : decode cX7_init 298 = .ok (.iconst 3, 1) := by decide +kernel
theorem dX7_init_299 : decode cX7_init 299 = .ok (.bipush (-4), 2) := by decide +kernel
theorem dX7_init_301 : decode cX7_init 301 = .ok (.iastore, 1) := by decide +kernel
theorem dX7_init_302 : decode cX7_init 302 = .ok (.putfield 45, 3) := by decide +kernel
theorem dX7_init_305 : decode cX7_init 305 = .ok (.aload_n 0, 1) := by decide +kernel
theorem dX7_init_306 : decode cX7_init 306 = .ok (.iconst 4, 1) := by decide +kernel
theorem dX7_init_307 : decode cX7_init 307 = .ok (.newarray .int, 2) := by decide +kernel
theorem dX7_init_309 : decode cX7_init 309 = .ok (.putfield 48, 3) := by decide +kernel
theorem dX7_init_312 : decode cX7_init 312 = .ok (.aload_n 0, 1) := by decide +kernel
theorem dX7_init_313 : decode cX7_init 313 = .ok (.sipush 160, 3) := by decide +kernel
theorem dX7_init_316 : decode cX7_init 316 = .ok (.newarray .int, 2) := by decide +kernel
theorem dX7_init_318 : decode cX7_init 318 = .ok (.putfield 51, 3) := by decide +kernel
theorem dX7_init_321 : decode cX7_init 321 = .ok (.return_, 1) := by decide +kernel
theorem dX7_in_0 : decode cX7_in 0 = .ok (.lload_n 0, 1) := by decide +kernel
theorem dX7_in_1 : decode cX7_in 1 = .ok (.lload_n 2, 1) := by decide +kernel
theorem dX7_in_2 : decode cX7_in 2 = .ok (.lcmp, 1) := by decide +kernel
theorem dX7_in_3 : decode cX7_in 3 = .ok (.ifCond .lt 14, 3) := by decide +kernel
theorem dX7_in_6 : decode cX7_in 6 = .ok (.lload_n 0, 1) := by decide +kernel
theorem dX7_in_7 : decode cX7_in 7 = .ok (.lload 4, 2) := by decide +kernel
theorem dX7_in_9 : decode cX7_in 9 = .ok (.lcmp, 1) := by decide +kernel
theorem dX7_in_10 : decode cX7_in 10 = .ok (.ifCond .gt 7, 3) := by decide +kernel
theorem dX7_in_13 : decode cX7_in 13 = .ok (.iconst 1, 1) := by decide +kernel
theorem dX7_in_14 : decode cX7_in 14 = .ok (.goto 4, 3) := by decide +kernel
theorem dX7_in_17 : decode cX7_in 17 = .ok (.iconst 0, 1) := by decide +kernel
theorem dX7_in_18 : decode cX7_in 18 = .ok (.ireturn, 1) := by decide +kernel
theorem dX7_feed_0 : decode cX7_feed 0 = .ok (.iload_n 1, 1) := by decide +kernel
theorem dX7_feed_1 : decode cX7_feed 1 = .ok (.i2l, 1) := by decide +kernel
theorem dX7_feed_2 : decode cX7_feed 2 = .ok (.lconst 0, 1) := by decide +kernel
theorem dX7_feed_3 : decode cX7_feed 3 = .ok (.ldc2_w 54, 3) := by decide +kernel
theorem dX7_feed_6 : decode cX7_feed 6 = .ok (.invokestatic 56, 3) := by decide +kernel
theorem dX7_feed_9 : decode cX7_feed 9 = .ok (.ifCond .ne 5, 3) := by decide +kernel
theorem dX7_feed_12 : decode cX7_feed 12 = .ok (.iconst (-1), 1) := by decide +kernel
theorem dX7_feed_13 : decode cX7_feed 13 = .ok (.ireturn, 1) := by decide +kernel
theorem dX7_feed_14 : decode cX7_feed 14 = .ok (.aload_n 0, 1) := by decide +kernel
theorem dX7_feed_15 : decode cX7_feed 15 = .ok (.getfield 60, 3) := by decide +kernel
theorem dX7_feed_18 : decode cX7_feed 18 = .ok (.sipush 160, 3) := by decide +kernel
theorem dX7_feed_21 : decode cX7_feed 21 = .ok (.if_icmp .ne 6, 3) := by decide +kernel
theorem dX7_feed_24 : decode cX7_feed 24 = .ok (.bipush (-3), 2) := by decide +kernel
theorem dX7_feed_26 : decode cX7_feed 26 = .ok (.ireturn, 1) := by decide +kernel
theorem dX7_feed_27 : decode cX7_feed 27 = .ok (.aload_n 0, 1) := by decide +kernel
theorem dX7_feed_28 : decode cX7_feed 28 = .ok (.getfield 20, 3) := by decide +kernel
theorem dX7_feed_31 : decode cX7_feed 31 = .ok (.aload_n 0, 1) := by decide +kernel
theorem dX7_feed_32 : decode cX7_feed 32 = .ok (.getfield 60, 3) := by decide +kernel
theorem dX7_feed_35 : decode cX7_feed 35 = .ok (.iload_n 1, 1) := by decide +kernel
theorem dX7_feed_36 : decode cX7_feed 36 = .ok (.iastore, 1) := by decide +kernel
theorem dX7_feed_37 : decode cX7_feed 37 = .ok (.aload_n 0, 1) := by decide +kernel
theorem dX7_feed_38 : decode cX7_feed 38 = .ok (.dup, 1) := by decide +kernel
theorem dX7_feed_39 : decode cX7_feed 39 = .ok (.getfield 60, 3) := by decide +kernel
theorem dX7_feed_42 : decode cX7_feed 42 = .ok (.iconst 1, 1) := by decide +kernel
theorem dX7_feed_43 : decode cX7_feed 43 = .ok (.iadd, 1) := by decide +kernel
theorem dX7_feed_44 : decode cX7_feed 44 = .ok (.putfield 60, 3) := by decide +kernel
theorem dX7_feed_47 : decode cX7_feed 47 = .ok (.aload_n 0, 1) := by decide +kernel
theorem dX7_feed_48 : decode cX7_feed 48 = .ok (.getfield 60, 3) := by decide +kernel
theorem dX7_feed_51 : decode cX7_feed 51 = .ok (.ireturn, 1) := by decide +kernel
theorem dX7_end_0 : decode cX7_end 0 = .ok (.iload_n 1, 1) := by decide +kernel
theorem dX7_end_1 : decode cX7_end 1 = .ok (.i2l, 1) := by decide +kernel
theorem dX7_end_2 : decode cX7_end 2 = .ok (.lconst 0, 1) := by decide +kernel
theorem dX7_end_3 : decode cX7_end 3 = .ok (.aload_n 0, 1) := by decide +kernel
theorem dX7_end_4 : decode cX7_end 4 = .ok (.getfield 60, 3) := by decide +kernel
theorem dX7_end_7 : decode cX7_end 7 = .ok (.i2l, 1) := by decide +kernel
theorem dX7_end_8 : decode cX7_end 8 = .ok (.invokestatic 56, 3) := by decide +kernel
theorem dX7_end_11 : decode cX7_end 11 = .ok (.ifCond .ne 5, 3) := by decide +kernel
theorem dX7_end_14 : decode cX7_end 14 = .ok (.iconst (-1), 1) := by decide +kernel
theorem dX7_end_15 : decode cX7_end 15 = .ok (.ireturn, 1) := by decide +kernel
theorem dX7_end_16 : decode cX7_end 16 = .ok (.aload_n 0, 1) := by decide +kernel
theorem dX7_end_17 : decode cX7_end 17 = .ok (.getfield 60, 3) := by decide +kernel
theorem dX7_end_20 : decode cX7_end 20 = .ok (.istore_n 2, 1) := by decide +kernel
theorem dX7_end_21 : decode cX7_end 21 = .ok (.aload_n 0, 1) := by decide +kernel
theorem dX7_end_22 : decode cX7_end 22 = .ok (.iload_n 1, 1) := by decide +kernel
theorem dX7_end_23 : decode cX7_end 23 = .ok (.putfield 60, 3) := by decide +kernel
theorem dX7_end_26 : decode cX7_end 26 = .ok (.iload_n 2, 1) := by decide +kernel
theorem dX7_end_27 : decode cX7_end 27 = .ok (.ireturn, 1) := by decide +kernel
theorem dX7_byteAt_0 : decode cX7_byteAt 0 = .ok (.iload_n 1, 1) := by decide +kernel
theorem dX7_byteAt_1 : decode cX7_byteAt 1 = .ok (.aload_n 0, 1) := by decide +kernel
theorem dX7_byteAt_2 : decode cX7_byteAt 2 = .ok (.getfield 60, 3) := by decide +kernel
theorem dX7_byteAt_5 : decode cX7_byteAt 5 = .ok (.if_icmp .ge 12, 3) := by decide +kernel
theorem dX7_byteAt_8 : decode cX7_byteAt 8 = .ok (.aload_n 0, 1) := by decide +kernel
theorem dX7_byteAt_9 : decode cX7_byteAt 9 = .ok (.getfield 20, 3) := by decide +kernel
theorem dX7_byteAt_12 : decode cX7_byteAt 12 = .ok (.iload_n 1, 1) := by decide +kernel
theorem dX7_byteAt_13 : decode cX7_byteAt 13 = .ok (.iaload, 1) := by decide +kernel
theorem dX7_byteAt_14 : decode cX7_byteAt 14 = .ok (.goto 5, 3) := by decide +kernel
theorem dX7_byteAt_17 : decode cX7_byteAt 17 = .ok (.bipush (-4), 2) := by decide +kernel
theorem dX7_byteAt_19 : decode cX7_byteAt 19 = .ok (.ireturn, 1) := by decide +kernel
theorem dX7_fails_0 : decode cX7_fails 0 = .ok (.aload_n 0, 1) := by decide +kernel
theorem dX7_fails_1 : decode cX7_fails 1 = .ok (.getfield 63, 3) := by decide +kernel
theorem dX7_fails_4 : decode cX7_fails 4 = .ok (.ifCond .ne 16, 3) := by decide +kernel
theorem dX7_fails_7 : decode cX7_fails 7 = .ok (.aload_n 0, 1) := by decide +kernel
theorem dX7_fails_8 : decode cX7_fails 8 = .ok (.iload_n 1, 1) := by decide +kernel
theorem dX7_fails_9 : decode cX7_fails 9 = .ok (.putfield 63, 3) := by decide +kernel
theorem dX7_fails_12 : decode cX7_fails 12 = .ok (.aload_n 0, 1) := by decide +kernel
theorem dX7_fails_13 : decode cX7_fails 13 = .ok (.aload_n 0, 1) := by decide +kernel
theorem dX7_fails_14 : decode cX7_fails 14 = .ok (.getfield 66, 3) := by decide +kernel
theorem dX7_fails_17 : decode cX7_fails 17 = .ok (.putfield 69, 3) := by decide +kernel
theorem dX7_fails_20 : decode cX7_fails 20 = .ok (.return_, 1) := by decide +kernel
theorem dX7_nameHere_0 : decode cX7_nameHere 0 = .ok (.iconst 0, 1) := by decide +kernel
theorem dX7_nameHere_1 : decode cX7_nameHere 1 = .ok (.istore_n 1, 1) := by decide +kernel
theorem dX7_nameHere_2 : decode cX7_nameHere 2 = .ok (.iload_n 1, 1) := by decide +kernel
theorem dX7_nameHere_3 : decode cX7_nameHere 3 = .ok (.bipush 6, 2) := by decide +kernel
theorem dX7_nameHere_5 : decode cX7_nameHere 5 = .ok (.if_icmp .ge 113, 3) := by decide +kernel
theorem dX7_nameHere_8 : decode cX7_nameHere 8 = .ok (.aload_n 0, 1) := by decide +kernel
theorem dX7_nameHere_9 : decode cX7_nameHere 9 = .ok (.getfield 72, 3) := by decide +kernel
theorem dX7_nameHere_12 : decode cX7_nameHere 12 = .ok (.iconst 1, 1) := by decide +kernel
theorem dX7_nameHere_13 : decode cX7_nameHere 13 = .ok (.if_icmp .ne 105, 3) := by decide +kernel
theorem dX7_nameHere_16 : decode cX7_nameHere 16 = .ok (.aload_n 0, 1) := by decide +kernel
theorem dX7_nameHere_17 : decode cX7_nameHere 17 = .ok (.getfield 75, 3) := by decide +kernel
theorem dX7_nameHere_20 : decode cX7_nameHere 20 = .ok (.aload_n 0, 1) := by decide +kernel
theorem dX7_nameHere_21 : decode cX7_nameHere 21 = .ok (.getfield 66, 3) := by decide +kernel
theorem dX7_nameHere_24 : decode cX7_nameHere 24 = .ok (.isub, 1) := by decide +kernel
theorem dX7_nameHere_25 : decode cX7_nameHere 25 = .ok (.aload_n 0, 1) := by decide +kernel
theorem dX7_nameHere_26 : decode cX7_nameHere 26 = .ok (.getfield 23, 3) := by decide +kernel
theorem dX7_nameHere_29 : decode cX7_nameHere 29 = .ok (.iload_n 1, 1) := by decide +kernel
theorem dX7_nameHere_30 : decode cX7_nameHere 30 = .ok (.iconst 1, 1) := by decide +kernel
theorem dX7_nameHere_31 : decode cX7_nameHere 31 = .ok (.iadd, 1) := by decide +kernel
theorem dX7_nameHere_32 : decode cX7_nameHere 32 = .ok (.iaload, 1) := by decide +kernel
theorem dX7_nameHere_33 : decode cX7_nameHere 33 = .ok (.aload_n 0, 1) := by decide +kernel
theorem dX7_nameHere_34 : decode cX7_nameHere 34 = .ok (.getfield 23, 3) := by decide +kernel
theorem dX7_nameHere_37 : decode cX7_nameHere 37 = .ok (.iload_n 1, 1) := by decide +kernel
theorem dX7_nameHere_38 : decode cX7_nameHere 38 = .ok (.iaload, 1) := by decide +kernel
theorem dX7_nameHere_39 : decode cX7_nameHere 39 = .ok (.isub, 1) := by decide +kernel
theorem dX7_nameHere_40 : decode cX7_nameHere 40 = .ok (.if_icmp .ne 7, 3) := by decide +kernel
theorem dX7_nameHere_43 : decode cX7_nameHere 43 = .ok (.iconst 1, 1) := by decide +kernel
theorem dX7_nameHere_44 : decode cX7_nameHere 44 = .ok (.goto 4, 3) := by decide +kernel
theorem dX7_nameHere_47 : decode cX7_nameHere 47 = .ok (.iconst 0, 1) := by decide +kernel
theorem dX7_nameHere_48 : decode cX7_nameHere 48 = .ok (.istore_n 2, 1) := by decide +kernel
theorem dX7_nameHere_49 : decode cX7_nameHere 49 = .ok (.iconst 0, 1) := by decide +kernel
theorem dX7_nameHere_50 : decode cX7_nameHere 50 = .ok (.istore_n 3, 1) := by decide +kernel
theorem dX7_nameHere_51 : decode cX7_nameHere 51 = .ok (.iload_n 2, 1) := by decide +kernel
theorem dX7_nameHere_52 : decode cX7_nameHere 52 = .ok (.ifCond .eq 54, 3) := by decide +kernel
theorem dX7_nameHere_55 : decode cX7_nameHere 55 = .ok (.iload_n 3, 1) := by decide +kernel
theorem dX7_nameHere_56 : decode cX7_nameHere 56 = .ok (.aload_n 0, 1) := by decide +kernel
theorem dX7_nameHere_57 : decode cX7_nameHere 57 = .ok (.getfield 75, 3) := by decide +kernel
theorem dX7_nameHere_60 : decode cX7_nameHere 60 = .ok (.aload_n 0, 1) := by decide +kernel
theorem dX7_nameHere_61 : decode cX7_nameHere 61 = .ok (.getfield 66, 3) := by decide +kernel
theorem dX7_nameHere_64 : decode cX7_nameHere 64 = .ok (.isub, 1) := by decide +kernel
theorem dX7_nameHere_65 : decode cX7_nameHere 65 = .ok (.if_icmp .ge 41, 3) := by decide +kernel
theorem dX7_nameHere_68 : decode cX7_nameHere 68 = .ok (.aload_n 0, 1) := by decide +kernel
theorem dX7_nameHere_69 : decode cX7_nameHere 69 = .ok (.aload_n 0, 1) := by decide +kernel
theorem dX7_nameHere_70 : decode cX7_nameHere 70 = .ok (.getfield 66, 3) := by decide +kernel
theorem dX7_nameHere_73 : decode cX7_nameHere 73 = .ok (.iload_n 3, 1) := by decide +kernel
theorem dX7_nameHere_74 : decode cX7_nameHere 74 = .ok (.iadd, 1) := by decide +kernel
theorem dX7_nameHere_75 : decode cX7_nameHere 75 = .ok (.invokevirtual 78, 3) := by decide +kernel
theorem dX7_nameHere_78 : decode cX7_nameHere 78 = .ok (.aload_n 0, 1) := by decide +kernel
theorem dX7_nameHere_79 : decode cX7_nameHere 79 = .ok (.getfield 26, 3) := by decide +kernel
theorem dX7_nameHere_82 : decode cX7_nameHere 82 = .ok (.aload_n 0, 1) := by decide +kernel
theorem dX7_nameHere_83 : decode cX7_nameHere 83 = .ok (.getfield 23, 3) := by decide +kernel
theorem dX7_nameHere_86 : decode cX7_nameHere 86 = .ok (.iload_n 1, 1) := by decide +kernel
theorem dX7_nameHere_87 : decode cX7_nameHere 87 = .ok (.iaload, 1) := by decide +kernel
theorem dX7_nameHere_88 : decode cX7_nameHere 88 = .ok (.iload_n 3, 1) := by decide +kernel
theorem dX7_nameHere_89 : decode cX7_nameHere 89 = .ok (.iadd, 1) := by decide +kernel
theorem dX7_nameHere_90 : decode cX7_nameHere 90 = .ok (.iaload, 1) := by decide +kernel
theorem dX7_nameHere_91 : decode cX7_nameHere 91 = .ok (.if_icmp .ne 7, 3) := by decide +kernel
theorem dX7_nameHere_94 : decode cX7_nameHere 94 = .ok (.iconst 1, 1) := by decide +kernel
theorem dX7_nameHere_95 : decode cX7_nameHere 95 = .ok (.goto 4, 3) := by decide +kernel
theorem dX7_nameHere_98 : decode cX7_nameHere 98 = .ok (.iconst 0, 1) := by decide +kernel
theorem dX7_nameHere_99 : decode cX7_nameHere 99 = .ok (.istore_n 2, 1) := by decide +kernel
theorem dX7_nameHere_100 : decode cX7_nameHere 100 = .ok (.iinc 3 1, 3) := by decide +kernel
theorem dX7_nameHere_103 : decode cX7_nameHere 103 = .ok (.goto (-52), 3) := by decide +kernel
theorem dX7_nameHere_106 : decode cX7_nameHere 106 = .ok (.iload_n 2, 1) := by decide +kernel
theorem dX7_nameHere_107 : decode cX7_nameHere 107 = .ok (.ifCond .eq 5, 3) := by decide +kernel
theorem dX7_nameHere_110 : decode cX7_nameHere 110 = .ok (.iload_n 1, 1) := by decide +kernel
theorem dX7_nameHere_111 : decode cX7_nameHere 111 = .ok (.ireturn, 1) := by decide +kernel
theorem dX7_nameHere_112 : decode cX7_nameHere 112 = .ok (.iinc 1 1, 3) := by decide +kernel
theorem dX7_nameHere_115 : decode cX7_nameHere 115 = .ok (.goto (-113), 3) := by decide +kernel
theorem dX7_nameHere_118 : decode cX7_nameHere 118 = .ok (.bipush (-4), 2) := by decide +kernel
theorem dX7_nameHere_120 : decode cX7_nameHere 120 = .ok (.ireturn, 1) := by decide +kernel
theorem dX7_readsOn_0 : decode cX7_readsOn 0 = .ok (.aload_n 0, 1) := by decide +kernel
theorem dX7_readsOn_1 : decode cX7_readsOn 1 = .ok (.getfield 63, 3) := by decide +kernel
theorem dX7_readsOn_4 : decode cX7_readsOn 4 = .ok (.ifCond .le 4, 3) := by decide +kernel
theorem dX7_readsOn_7 : decode cX7_readsOn 7 = .ok (.return_, 1) := by decide +kernel
theorem dX7_readsOn_8 : decode cX7_readsOn 8 = .ok (.aload_n 0, 1) := by decide +kernel
theorem dX7_readsOn_9 : decode cX7_readsOn 9 = .ok (.aload_n 0, 1) := by decide +kernel
theorem dX7_readsOn_10 : decode cX7_readsOn 10 = .ok (.getfield 75, 3) := by decide +kernel
theorem dX7_readsOn_13 : decode cX7_readsOn 13 = .ok (.invokevirtual 78, 3) := by decide +kernel
theorem dX7_readsOn_16 : decode cX7_readsOn 16 = .ok (.bipush 32, 2) := by decide +kernel
theorem dX7_readsOn_18 : decode cX7_readsOn 18 = .ok (.if_icmp .ne 16, 3) := by decide +kernel
theorem dX7_readsOn_21 : decode cX7_readsOn 21 = .ok (.aload_n 0, 1) := by decide +kernel
theorem dX7_readsOn_22 : decode cX7_readsOn 22 = .ok (.dup, 1) := by decide +kernel
theorem dX7_readsOn_23 : decode cX7_readsOn 23 = .ok (.getfield 75, 3) := by decide +kernel
theorem dX7_readsOn_26 : decode cX7_readsOn 26 = .ok (.iconst 1, 1) := by decide +kernel
theorem dX7_readsOn_27 : decode cX7_readsOn 27 = .ok (.iadd, 1) := by decide +kernel
theorem dX7_readsOn_28 : decode cX7_readsOn 28 = .ok (.putfield 75, 3) := by decide +kernel
theorem dX7_readsOn_31 : decode cX7_readsOn 31 = .ok (.goto (-23), 3) := by decide +kernel
theorem dX7_readsOn_34 : decode cX7_readsOn 34 = .ok (.aload_n 0, 1) := by decide +kernel
theorem dX7_readsOn_35 : decode cX7_readsOn 35 = .ok (.aload_n 0, 1) := by decide +kernel
theorem dX7_readsOn_36 : decode cX7_readsOn 36 = .ok (.getfield 75, 3) := by decide +kernel
theorem dX7_readsOn_39 : decode cX7_readsOn 39 = .ok (.putfield 66, 3) := by decide +kernel
theorem dX7_readsOn_42 : decode cX7_readsOn 42 = .ok (.aload_n 0, 1) := by decide +kernel
theorem dX7_readsOn_43 : decode cX7_readsOn 43 = .ok (.aload_n 0, 1) := by decide +kernel
theorem dX7_readsOn_44 : decode cX7_readsOn 44 = .ok (.getfield 75, 3) := by decide +kernel
theorem dX7_readsOn_47 : decode cX7_readsOn 47 = .ok (.invokevirtual 78, 3) := by decide +kernel
theorem dX7_readsOn_50 : decode cX7_readsOn 50 = .ok (.istore_n 1, 1) := by decide +kernel
theorem dX7_readsOn_51 : decode cX7_readsOn 51 = .ok (.aload_n 0, 1) := by decide +kernel
theorem dX7_readsOn_52 : decode cX7_readsOn 52 = .ok (.iconst 0, 1) := by decide +kernel
theorem dX7_readsOn_53 : decode cX7_readsOn 53 = .ok (.putfield 82, 3) := by decide +kernel
theorem dX7_readsOn_56 : decode cX7_readsOn 56 = .ok (.iload_n 1, 1) := by decide +kernel
theorem dX7_readsOn_57 : decode cX7_readsOn 57 = .ok (.bipush (-4), 2) := by decide +kernel
theorem dX7_readsOn_59 : decode cX7_readsOn 59 = .ok (.if_icmp .ne 11, 3) := by decide +kernel
theorem dX7_readsOn_62 : decode cX7_readsOn 62 = .ok (.aload_n 0, 1) := by decide +kernel
theorem dX7_readsOn_63 : decode cX7_readsOn 63 = .ok (.iconst 0, 1) := by decide +kernel
theorem dX7_readsOn_64 : decode cX7_readsOn 64 = .ok (.putfield 72, 3) := by decide +kernel
theorem dX7_readsOn_67 : decode cX7_readsOn 67 = .ok (.goto 202, 3) := by decide +kernel
theorem dX7_readsOn_70 : decode cX7_readsOn 70 = .ok (.iload_n 1, 1) := by decide +kernel
theorem dX7_readsOn_71 : decode cX7_readsOn 71 = .ok (.i2l, 1) := by decide +kernel
theorem dX7_readsOn_72 : decode cX7_readsOn 72 = .ok (.ldc2_w 85, 3) := by decide +kernel
theorem dX7_readsOn_75 : decode cX7_readsOn 75 = .ok (.ldc2_w 87, 3) := by decide +kernel
theorem dX7_readsOn_78 : decode cX7_readsOn 78 = .ok (.invokestatic 56, 3) := by decide +kernel
theorem dX7_readsOn_81 : decode cX7_readsOn 81 = .ok (.ifCond .eq 45, 3) := by decide +kernel
theorem dX7_readsOn_84 : decode cX7_readsOn 84 = .ok (.aload_n 0, 1) := by decide +kernel
theorem dX7_readsOn_85 : decode cX7_readsOn 85 = .ok (.aload_n 0, 1) := by decide +kernel
theorem dX7_readsOn_86 : decode cX7_readsOn 86 = .ok (.getfield 75, 3) := by decide +kernel
theorem dX7_readsOn_89 : decode cX7_readsOn 89 = .ok (.invokevirtual 78, 3) := by decide +kernel
theorem dX7_readsOn_92 : decode cX7_readsOn 92 = .ok (.i2l, 1) := by decide +kernel
theorem dX7_readsOn_93 : decode cX7_readsOn 93 = .ok (.ldc2_w 85, 3) := by decide +kernel
theorem dX7_readsOn_96 : decode cX7_readsOn 96 = .ok (.ldc2_w 87, 3) := by decide +kernel
theorem dX7_readsOn_99 : decode cX7_readsOn 99 = .ok (.invokestatic 56, 3) := by decide +kernel
theorem dX7_readsOn_102 : decode cX7_readsOn 102 = .ok (.ifCond .eq 16, 3) := by decide +kernel
theorem dX7_readsOn_105 : decode cX7_readsOn 105 = .ok (.aload_n 0, 1) := by decide +kernel
theorem dX7_readsOn_106 : decode cX7_readsOn 106 = .ok (.dup, 1) := by decide +kernel
theorem dX7_readsOn_107 : decode cX7_readsOn 107 = .ok (.getfield 75, 3) := by decide +kernel
theorem dX7_readsOn_110 : decode cX7_readsOn 110 = .ok (.iconst 1, 1) := by decide +kernel
theorem dX7_readsOn_111 : decode cX7_readsOn 111 = .ok (.iadd, 1) := by decide +kernel
theorem dX7_readsOn_112 : decode cX7_readsOn 112 = .ok (.putfield 75, 3) := by decide +kernel
theorem dX7_readsOn_115 : decode cX7_readsOn 115 = .ok (.goto (-31), 3) := by decide +kernel
theorem dX7_readsOn_118 : decode cX7_readsOn 118 = .ok (.aload_n 0, 1) := by decide +kernel
theorem dX7_readsOn_119 : decode cX7_readsOn 119 = .ok (.iconst 1, 1) := by decide +kernel
theorem dX7_readsOn_120 : decode cX7_readsOn 120 = .ok (.putfield 72, 3) := by decide +kernel
theorem dX7_readsOn_123 : decode cX7_readsOn 123 = .ok (.goto 146, 3) := by decide +kernel
theorem dX7_readsOn_126 : decode cX7_readsOn 126 = .ok (.iload_n 1, 1) := by decide +kernel
theorem dX7_readsOn_127 : decode cX7_readsOn 127 = .ok (.i2l, 1) := by decide +kernel
theorem dX7_readsOn_128 : decode cX7_readsOn 128 = .ok (.ldc2_w 89, 3) := by decide +kernel
theorem dX7_readsOn_131 : decode cX7_readsOn 131 = .ok (.ldc2_w 91, 3) := by decide +kernel
theorem dX7_readsOn_134 : decode cX7_readsOn 134 = .ok (.invokestatic 56, 3) := by decide +kernel
theorem dX7_readsOn_137 : decode cX7_readsOn 137 = .ok (.ifCond .eq 106, 3) := by decide +kernel
theorem dX7_readsOn_140 : decode cX7_readsOn 140 = .ok (.aload_n 0, 1) := by decide +kernel
theorem dX7_readsOn_141 : decode cX7_readsOn 141 = .ok (.aload_n 0, 1) := by decide +kernel
theorem dX7_readsOn_142 : decode cX7_readsOn 142 = .ok (.getfield 75, 3) := by decide +kernel
theorem dX7_readsOn_145 : decode cX7_readsOn 145 = .ok (.invokevirtual 78, 3) := by decide +kernel
theorem dX7_readsOn_148 : decode cX7_readsOn 148 = .ok (.i2l, 1) := by decide +kernel
theorem dX7_readsOn_149 : decode cX7_readsOn 149 = .ok (.ldc2_w 89, 3) := by decide +kernel
theorem dX7_readsOn_152 : decode cX7_readsOn 152 = .ok (.ldc2_w 91, 3) := by decide +kernel
theorem dX7_readsOn_155 : decode cX7_readsOn 155 = .ok (.invokestatic 56, 3) := by decide +kernel
theorem dX7_readsOn_158 : decode cX7_readsOn 158 = .ok (.ifCond .eq 59, 3) := by decide +kernel
theorem dX7_readsOn_161 : decode cX7_readsOn 161 = .ok (.aload_n 0, 1) := by decide +kernel
theorem dX7_readsOn_162 : decode cX7_readsOn 162 = .ok (.aload_n 0, 1) := by decide +kernel
theorem dX7_readsOn_163 : decode cX7_readsOn 163 = .ok (.getfield 75, 3) := by decide +kernel
theorem dX7_readsOn_166 : decode cX7_readsOn 166 = .ok (.aload_n 0, 1) := by decide +kernel
theorem dX7_readsOn_167 : decode cX7_readsOn 167 = .ok (.getfield 66, 3) := by decide +kernel
theorem dX7_readsOn_170 : decode cX7_readsOn 170 = .ok (.isub, 1) := by decide +kernel
theorem dX7_readsOn_171 : decode cX7_readsOn 171 = .ok (.iconst 2, 1) := by decide +kernel
theorem dX7_readsOn_172 : decode cX7_readsOn 172 = .ok (.if_icmp .ge 25, 3) := by decide +kernel
theorem dX7_readsOn_175 : decode cX7_readsOn 175 = .ok (.bipush 10, 2) := by decide +kernel
theorem dX7_readsOn_177 : decode cX7_readsOn 177 = .ok (.aload_n 0, 1) := by decide +kernel
theorem dX7_readsOn_178 : decode cX7_readsOn 178 = .ok (.getfield 82, 3) := by decide +kernel
theorem dX7_readsOn_181 : decode cX7_readsOn 181 = .ok (.imul, 1) := by decide +kernel
theorem dX7_readsOn_182 : decode cX7_readsOn 182 = .ok (.aload_n 0, 1) := by decide +kernel
theorem dX7_readsOn_183 : decode cX7_readsOn 183 = .ok (.aload_n 0, 1) := by decide +kernel
theorem dX7_readsOn_184 : decode cX7_readsOn 184 = .ok (.getfield 75, 3) := by decide +kernel
theorem dX7_readsOn_187 : decode cX7_readsOn 187 = .ok (.invokevirtual 78, 3) := by decide +kernel
theorem dX7_readsOn_190 : decode cX7_readsOn 190 = .ok (.iadd, 1) := by decide +kernel
theorem dX7_readsOn_191 : decode cX7_readsOn 191 = .ok (.bipush 48, 2) := by decide +kernel
theorem dX7_readsOn_193 : decode cX7_readsOn 193 = .ok (.isub, 1) := by decide +kernel
theorem dX7_readsOn_194 : decode cX7_readsOn 194 = .ok (.goto 7, 3) := by decide +kernel
theorem dX7_readsOn_197 : decode cX7_readsOn 197 = .ok (.aload_n 0, 1) := by decide +kernel
theorem dX7_readsOn_198 : decode cX7_readsOn 198 = .ok (.getfield 82, 3) := by decide +kernel
theorem dX7_readsOn_201 : decode cX7_readsOn 201 = .ok (.putfield 82, 3) := by decide +kernel
theorem dX7_readsOn_204 : decode cX7_readsOn 204 = .ok (.aload_n 0, 1) := by decide +kernel
theorem dX7_readsOn_205 : decode cX7_readsOn 205 = .ok (.dup, 1) := by decide +kernel
theorem dX7_readsOn_206 : decode cX7_readsOn 206 = .ok (.getfield 75, 3) := by decide +kernel
theorem dX7_readsOn_209 : decode cX7_readsOn 209 = .ok (.iconst 1, 1) := by decide +kernel
theorem dX7_readsOn_210 : decode cX7_readsOn 210 = .ok (.iadd, 1) := by decide +kernel
theorem dX7_readsOn_211 : decode cX7_readsOn 211 = .ok (.putfield 75, 3) := by decide +kernel
theorem dX7_readsOn_214 : decode cX7_readsOn 214 = .ok (.goto (-74), 3) := by decide +kernel
theorem dX7_readsOn_217 : decode cX7_readsOn 217 = .ok (.aload_n 0, 1) := by decide +kernel
theorem dX7_readsOn_218 : decode cX7_readsOn 218 = .ok (.iconst 2, 1) := by decide +kernel
theorem dX7_readsOn_219 : decode cX7_readsOn 219 = .ok (.putfield 72, 3) := by decide +kernel
theorem dX7_readsOn_222 : decode cX7_readsOn 222 = .ok (.aload_n 0, 1) := by decide +kernel
theorem dX7_readsOn_223 : decode cX7_readsOn 223 = .ok (.getfield 75, 3) := by decide +kernel
theorem dX7_readsOn_226 : decode cX7_readsOn 226 = .ok (.aload_n 0, 1) := by decide +kernel
theorem dX7_readsOn_227 : decode cX7_readsOn 227 = .ok (.getfield 66, 3) := by decide +kernel
theorem dX7_readsOn_230 : decode cX7_readsOn 230 = .ok (.isub, 1) := by decide +kernel
theorem dX7_readsOn_231 : decode cX7_readsOn 231 = .ok (.iconst 2, 1) := by decide +kernel
theorem dX7_readsOn_232 : decode cX7_readsOn 232 = .ok (.if_icmp .le 37, 3) := by decide +kernel
theorem dX7_readsOn_235 : decode cX7_readsOn 235 = .ok (.aload_n 0, 1) := by decide +kernel
theorem dX7_readsOn_236 : decode cX7_readsOn 236 = .ok (.iconst 1, 1) := by decide +kernel
theorem dX7_readsOn_237 : decode cX7_readsOn 237 = .ok (.invokevirtual 93, 3) := by decide +kernel
theorem dX7_readsOn_240 : decode cX7_readsOn 240 = .ok (.goto 29, 3) := by decide +kernel
theorem dX7_readsOn_243 : decode cX7_readsOn 243 = .ok (.aload_n 0, 1) := by decide +kernel
theorem dX7_readsOn_244 : decode cX7_readsOn 244 = .ok (.iconst 3, 1) := by decide +kernel
theorem dX7_readsOn_245 : decode cX7_readsOn 245 = .ok (.putfield 72, 3) := by decide +kernel
theorem dX7_readsOn_248 : decode cX7_readsOn 248 = .ok (.aload_n 0, 1) := by decide +kernel
theorem dX7_readsOn_249 : decode cX7_readsOn 249 = .ok (.dup, 1) := by decide +kernel
theorem dX7_readsOn_250 : decode cX7_readsOn 250 = .ok (.getfield 75, 3) := by decide +kernel
theorem dX7_readsOn_253 : decode cX7_readsOn 253 = .ok (.iconst 1, 1) := by decide +kernel
theorem dX7_readsOn_254 : decode cX7_readsOn 254 = .ok (.iadd, 1) := by decide +kernel
theorem dX7_readsOn_255 : decode cX7_readsOn 255 = .ok (.putfield 75, 3) := by decide +kernel
theorem dX7_readsOn_258 : decode cX7_readsOn 258 = .ok (.iload_n 1, 1) := by decide +kernel
theorem dX7_readsOn_259 : decode cX7_readsOn 259 = .ok (.bipush 59, 2) := by decide +kernel
theorem dX7_readsOn_261 : decode cX7_readsOn 261 = .ok (.if_icmp .eq 8, 3) := by decide +kernel
theorem dX7_readsOn_264 : decode cX7_readsOn 264 = .ok (.aload_n 0, 1) := by decide +kernel
theorem dX7_readsOn_265 : decode cX7_readsOn 265 = .ok (.iconst 1, 1) := by decide +kernel
theorem dX7_readsOn_266 : decode cX7_readsOn 266 = .ok (.invokevirtual 93, 3) := by decide +kernel
theorem dX7_readsOn_269 : decode cX7_readsOn 269 = .ok (.return_, 1) := by decide +kernel
theorem dX7_number_0 : decode cX7_number 0 = .ok (.aload_n 0, 1) := by decide +kernel
theorem dX7_number_1 : decode cX7_number 1 = .ok (.getfield 63, 3) := by decide +kernel
theorem dX7_number_4 : decode cX7_number 4 = .ok (.ifCond .ne 16, 3) := by decide +kernel
theorem dX7_number_7 : decode cX7_number 7 = .ok (.aload_n 0, 1) := by decide +kernel
theorem dX7_number_8 : decode cX7_number 8 = .ok (.getfield 72, 3) := by decide +kernel
theorem dX7_number_11 : decode cX7_number 11 = .ok (.iconst 2, 1) := by decide +kernel
theorem dX7_number_12 : decode cX7_number 12 = .ok (.if_icmp .eq 8, 3) := by decide +kernel
theorem dX7_number_15 : decode cX7_number 15 = .ok (.aload_n 0, 1) := by decide +kernel
theorem dX7_number_16 : decode cX7_number 16 = .ok (.iconst 2, 1) := by decide +kernel
theorem dX7_number_17 : decode cX7_number 17 = .ok (.invokevirtual 93, 3) := by decide +kernel
theorem dX7_number_20 : decode cX7_number 20 = .ok (.aload_n 0, 1) := by decide +kernel
theorem dX7_number_21 : decode cX7_number 21 = .ok (.getfield 63, 3) := by decide +kernel
theorem dX7_number_24 : decode cX7_number 24 = .ok (.ifCond .ne 23, 3) := by decide +kernel
theorem dX7_number_27 : decode cX7_number 27 = .ok (.aload_n 0, 1) := by decide +kernel
theorem dX7_number_28 : decode cX7_number 28 = .ok (.getfield 82, 3) := by decide +kernel
theorem dX7_number_31 : decode cX7_number 31 = .ok (.i2l, 1) := by decide +kernel
theorem dX7_number_32 : decode cX7_number 32 = .ok (.iload_n 1, 1) := by decide +kernel
theorem dX7_number_33 : decode cX7_number 33 = .ok (.i2l, 1) := by decide +kernel
theorem dX7_number_34 : decode cX7_number 34 = .ok (.iload_n 2, 1) := by decide +kernel
theorem dX7_number_35 : decode cX7_number 35 = .ok (.i2l, 1) := by decide +kernel
theorem dX7_number_36 : decode cX7_number 36 = .ok (.invokestatic 56, 3) := by decide +kernel
theorem dX7_number_39 : decode cX7_number 39 = .ok (.ifCond .ne 8, 3) := by decide +kernel
theorem dX7_number_42 : decode cX7_number 42 = .ok (.aload_n 0, 1) := by decide +kernel
theorem dX7_number_43 : decode cX7_number 43 = .ok (.iconst 3, 1) := by decide +kernel
theorem dX7_number_44 : decode cX7_number 44 = .ok (.invokevirtual 93, 3) := by decide +kernel
theorem dX7_number_47 : decode cX7_number 47 = .ok (.aload_n 0, 1) := by decide +kernel
theorem dX7_number_48 : decode cX7_number 48 = .ok (.getfield 63, 3) := by decide +kernel
theorem dX7_number_51 : decode cX7_number 51 = .ok (.ifCond .ne 10, 3) := by decide +kernel
theorem dX7_number_54 : decode cX7_number 54 = .ok (.aload_n 0, 1) := by decide +kernel
theorem dX7_number_55 : decode cX7_number 55 = .ok (.getfield 82, 3) := by decide +kernel
theorem dX7_number_58 : decode cX7_number 58 = .ok (.goto 4, 3) := by decide +kernel
theorem dX7_number_61 : decode cX7_number 61 = .ok (.iload_n 1, 1) := by decide +kernel
theorem dX7_number_62 : decode cX7_number 62 = .ok (.istore_n 3, 1) := by decide +kernel
theorem dX7_number_63 : decode cX7_number 63 = .ok (.aload_n 0, 1) := by decide +kernel
theorem dX7_number_64 : decode cX7_number 64 = .ok (.invokevirtual 97, 3) := by decide +kernel
theorem dX7_number_67 : decode cX7_number 67 = .ok (.iload_n 3, 1) := by decide +kernel
theorem dX7_number_68 : decode cX7_number 68 = .ok (.ireturn, 1) := by decide +kernel
theorem dX7_readWants_0 : decode cX7_readWants 0 = .ok (.aload_n 0, 1) := by decide +kernel
theorem dX7_readWants_1 : decode cX7_readWants 1 = .ok (.getfield 63, 3) := by decide +kernel
theorem dX7_readWants_4 : decode cX7_readWants 4 = .ok (.ifCond .ne 82, 3) := by decide +kernel
theorem dX7_readWants_7 : decode cX7_readWants 7 = .ok (.aload_n 0, 1) := by decide +kernel
theorem dX7_readWants_8 : decode cX7_readWants 8 = .ok (.getfield 72, 3) := by decide +kernel
theorem dX7_readWants_11 : decode cX7_readWants 11 = .ok (.iconst 2, 1) := by decide +kernel
theorem dX7_readWants_12 : decode cX7_readWants 12 = .ok (.if_icmp .ne 74, 3) := by decide +kernel
theorem dX7_readWants_15 : decode cX7_readWants 15 = .ok (.aload_n 0, 1) := by decide +kernel
theorem dX7_readWants_16 : decode cX7_readWants 16 = .ok (.getfield 17, 3) := by decide +kernel
theorem dX7_readWants_19 : decode cX7_readWants 19 = .ok (.bipush 25, 2) := by decide +kernel
theorem dX7_readWants_21 : decode cX7_readWants 21 = .ok (.iaload, 1) := by decide +kernel
theorem dX7_readWants_22 : decode cX7_readWants 22 = .ok (.istore_n 1, 1) := by decide +kernel
theorem dX7_readWants_23 : decode cX7_readWants 23 = .ok (.iload_n 1, 1) := by decide +kernel
theorem dX7_readWants_24 : decode cX7_readWants 24 = .ok (.bipush 16, 2) := by decide +kernel
theorem dX7_readWants_26 : decode cX7_readWants 26 = .ok (.if_icmp .ne 9, 3) := by decide +kernel
theorem dX7_readWants_29 : decode cX7_readWants 29 = .ok (.aload_n 0, 1) := by decide +kernel
theorem dX7_readWants_30 : decode cX7_readWants 30 = .ok (.iconst 5, 1) := by decide +kernel
theorem dX7_readWants_31 : decode cX7_readWants 31 = .ok (.invokevirtual 93, 3) := by decide +kernel
theorem dX7_readWants_34 : decode cX7_readWants 34 = .ok (.return_, 1) := by decide +kernel
theorem dX7_readWants_35 : decode cX7_readWants 35 = .ok (.aload_n 0, 1) := by decide +kernel
theorem dX7_readWants_36 : decode cX7_readWants 36 = .ok (.iconst 0, 1) := by decide +kernel
theorem dX7_readWants_37 : decode cX7_readWants 37 = .ok (.iconst 5, 1) := by decide +kernel
theorem dX7_readWants_38 : decode cX7_readWants 38 = .ok (.invokevirtual 100, 3) := by decide +kernel
theorem dX7_readWants_41 : decode cX7_readWants 41 = .ok (.istore_n 2, 1) := by decide +kernel
theorem dX7_readWants_42 : decode cX7_readWants 42 = .ok (.aload_n 0, 1) := by decide +kernel
theorem dX7_readWants_43 : decode cX7_readWants 43 = .ok (.iload_n 2, 1) := by decide +kernel
theorem dX7_readWants_44 : decode cX7_readWants 44 = .ok (.aload_n 0, 1) := by decide +kernel
theorem dX7_readWants_45 : decode cX7_readWants 45 = .ok (.getfield 104, 3) := by decide +kernel
theorem dX7_readWants_48 : decode cX7_readWants 48 = .ok (.if_icmp .le 7, 3) := by decide +kernel
theorem dX7_readWants_51 : decode cX7_readWants 51 = .ok (.iload_n 2, 1) := by decide +kernel
theorem dX7_readWants_52 : decode cX7_readWants 52 = .ok (.goto 7, 3) := by decide +kernel
theorem dX7_readWants_55 : decode cX7_readWants 55 = .ok (.aload_n 0, 1) := by decide +kernel
theorem dX7_readWants_56 : decode cX7_readWants 56 = .ok (.getfield 104, 3) := by decide +kernel
theorem dX7_readWants_59 : decode cX7_readWants 59 = .ok (.putfield 104, 3) := by decide +kernel
theorem dX7_readWants_62 : decode cX7_readWants 62 = .ok (.aload_n 0, 1) := by decide +kernel
theorem dX7_readWants_63 : decode cX7_readWants 63 = .ok (.getfield 17, 3) := by decide +kernel
theorem dX7_readWants_66 : decode cX7_readWants 66 = .ok (.bipush 9, 2) := by decide +kernel
theorem dX7_readWants_68 : decode cX7_readWants 68 = .ok (.iload_n 1, 1) := by decide +kernel
theorem dX7_readWants_69 : decode cX7_readWants 69 = .ok (.iadd, 1) := by decide +kernel
theorem dX7_readWants_70 : decode cX7_readWants 70 = .ok (.iload_n 2, 1) := by decide +kernel
theorem dX7_readWants_71 : decode cX7_readWants 71 = .ok (.iastore, 1) := by decide +kernel
theorem dX7_readWants_72 : decode cX7_readWants 72 = .ok (.aload_n 0, 1) := by decide +kernel
theorem dX7_readWants_73 : decode cX7_readWants 73 = .ok (.getfield 17, 3) := by decide +kernel
theorem dX7_readWants_76 : decode cX7_readWants 76 = .ok (.bipush 25, 2) := by decide +kernel
theorem dX7_readWants_78 : decode cX7_readWants 78 = .ok (.dup2, 1) := by decide +kernel
theorem dX7_readWants_79 : decode cX7_readWants 79 = .ok (.iaload, 1) := by decide +kernel
theorem dX7_readWants_80 : decode cX7_readWants 80 = .ok (.iconst 1, 1) := by decide +kernel
theorem dX7_readWants_81 : decode cX7_readWants 81 = .ok (.iadd, 1) := by decide +kernel
theorem dX7_readWants_82 : decode cX7_readWants 82 = .ok (.iastore, 1) := by decide +kernel
theorem dX7_readWants_83 : decode cX7_readWants 83 = .ok (.goto (-83), 3) := by decide +kernel
theorem dX7_readWants_86 : decode cX7_readWants 86 = .ok (.return_, 1) := by decide +kernel
theorem dX7_readMore_0 : decode cX7_readMore 0 = .ok (.iload_n 1, 1) := by decide +kernel
theorem dX7_readMore_1 : decode cX7_readMore 1 = .ok (.iconst 3, 1) := by decide +kernel
theorem dX7_readMore_2 : decode cX7_readMore 2 = .ok (.if_icmp .gt 30, 3) := by decide +kernel
theorem dX7_readMore_5 : decode cX7_readMore 5 = .ok (.aload_n 0, 1) := by decide +kernel
theorem dX7_readMore_6 : decode cX7_readMore 6 = .ok (.getfield 17, 3) := by decide +kernel
theorem dX7_readMore_9 : decode cX7_readMore 9 = .ok (.aload_n 0, 1) := by decide +kernel
theorem dX7_readMore_10 : decode cX7_readMore 10 = .ok (.getfield 17, 3) := by decide +kernel
theorem dX7_readMore_13 : decode cX7_readMore 13 = .ok (.bipush 8, 2) := by decide +kernel
theorem dX7_readMore_15 : decode cX7_readMore 15 = .ok (.iaload, 1) := by decide +kernel
theorem dX7_readMore_16 : decode cX7_readMore 16 = .ok (.iload_n 1, 1) := by decide +kernel
theorem dX7_readMore_17 : decode cX7_readMore 17 = .ok (.iastore, 1) := by decide +kernel
theorem dX7_readMore_18 : decode cX7_readMore 18 = .ok (.aload_n 0, 1) := by decide +kernel
theorem dX7_readMore_19 : decode cX7_readMore 19 = .ok (.getfield 17, 3) := by decide +kernel
theorem dX7_readMore_22 : decode cX7_readMore 22 = .ok (.bipush 8, 2) := by decide +kernel
theorem dX7_readMore_24 : decode cX7_readMore 24 = .ok (.dup2, 1) := by decide +kernel
theorem dX7_readMore_25 : decode cX7_readMore 25 = .ok (.iaload, 1) := by decide +kernel
theorem dX7_readMore_26 : decode cX7_readMore 26 = .ok (.iconst 1, 1) := by decide +kernel
theorem dX7_readMore_27 : decode cX7_readMore 27 = .ok (.iadd, 1) := by decide +kernel
theorem dX7_readMore_28 : decode cX7_readMore 28 = .ok (.iastore, 1) := by decide +kernel
theorem dX7_readMore_29 : decode cX7_readMore 29 = .ok (.goto 26, 3) := by decide +kernel
theorem dX7_readMore_32 : decode cX7_readMore 32 = .ok (.iload_n 1, 1) := by decide +kernel
theorem dX7_readMore_33 : decode cX7_readMore 33 = .ok (.iconst 4, 1) := by decide +kernel
theorem dX7_readMore_34 : decode cX7_readMore 34 = .ok (.if_icmp .ne 17, 3) := by decide +kernel
theorem dX7_readMore_37 : decode cX7_readMore 37 = .ok (.aload_n 0, 1) := by decide +kernel
theorem dX7_readMore_38 : decode cX7_readMore 38 = .ok (.aload_n 0, 1) := by decide +kernel
theorem dX7_readMore_39 : decode cX7_readMore 39 = .ok (.iconst 1, 1) := by decide +kernel
theorem dX7_readMore_40 : decode cX7_readMore 40 = .ok (.bipush 6, 2) := by decide +kernel
theorem dX7_readMore_42 : decode cX7_readMore 42 = .ok (.invokevirtual 100, 3) := by decide +kernel
theorem dX7_readMore_45 : decode cX7_readMore 45 = .ok (.putfield 107, 3) := by decide +kernel
theorem dX7_readMore_48 : decode cX7_readMore 48 = .ok (.goto 7, 3) := by decide +kernel
theorem dX7_readMore_51 : decode cX7_readMore 51 = .ok (.aload_n 0, 1) := by decide +kernel
theorem dX7_readMore_52 : decode cX7_readMore 52 = .ok (.invokevirtual 110, 3) := by decide +kernel
theorem dX7_readMore_55 : decode cX7_readMore 55 = .ok (.return_, 1) := by decide +kernel
theorem dX7_readLine_0 : decode cX7_readLine 0 = .ok (.aload_n 0, 1) := by decide +kernel
theorem dX7_readLine_1 : decode cX7_readLine 1 = .ok (.invokevirtual 113, 3) := by decide +kernel
theorem dX7_readLine_4 : decode cX7_readLine 4 = .ok (.istore_n 1, 1) := by decide +kernel
theorem dX7_readLine_5 : decode cX7_readLine 5 = .ok (.iload_n 1, 1) := by decide +kernel
theorem dX7_readLine_6 : decode cX7_readLine 6 = .ok (.i2l, 1) := by decide +kernel
theorem dX7_readLine_7 : decode cX7_readLine 7 = .ok (.lconst 0, 1) := by decide +kernel
theorem dX7_readLine_8 : decode cX7_readLine 8 = .ok (.ldc2_w 117, 3) := by decide +kernel
theorem dX7_readLine_11 : decode cX7_readLine 11 = .ok (.invokestatic 56, 3) := by decide +kernel
theorem dX7_readLine_14 : decode cX7_readLine 14 = .ok (.ifCond .ne 9, 3) := by decide +kernel
theorem dX7_readLine_17 : decode cX7_readLine 17 = .ok (.aload_n 0, 1) := by decide +kernel
theorem dX7_readLine_18 : decode cX7_readLine 18 = .ok (.iconst 2, 1) := by decide +kernel
theorem dX7_readLine_19 : decode cX7_readLine 19 = .ok (.invokevirtual 93, 3) := by decide +kernel
theorem dX7_readLine_22 : decode cX7_readLine 22 = .ok (.return_, 1) := by decide +kernel
theorem dX7_readLine_23 : decode cX7_readLine 23 = .ok (.iload_n 1, 1) := by decide +kernel
theorem dX7_readLine_24 : decode cX7_readLine 24 = .ok (.iconst 3, 1) := by decide +kernel
theorem dX7_readLine_25 : decode cX7_readLine 25 = .ok (.if_icmp .gt 19, 3) := by decide +kernel
theorem dX7_readLine_28 : decode cX7_readLine 28 = .ok (.aload_n 0, 1) := by decide +kernel
theorem dX7_readLine_29 : decode cX7_readLine 29 = .ok (.getfield 17, 3) := by decide +kernel
theorem dX7_readLine_32 : decode cX7_readLine 32 = .ok (.bipush 8, 2) := by decide +kernel
theorem dX7_readLine_34 : decode cX7_readLine 34 = .ok (.iaload, 1) := by decide +kernel
theorem dX7_readLine_35 : decode cX7_readLine 35 = .ok (.iconst 4, 1) := by decide +kernel
theorem dX7_readLine_36 : decode cX7_readLine 36 = .ok (.if_icmp .ne 8, 3) := by decide +kernel
theorem dX7_readLine_39 : decode cX7_readLine 39 = .ok (.aload_n 0, 1) := by decide +kernel
theorem dX7_readLine_40 : decode cX7_readLine 40 = .ok (.iconst 5, 1) := by decide +kernel
theorem dX7_readLine_41 : decode cX7_readLine 41 = .ok (.invokevirtual 93, 3) := by decide +kernel
theorem dX7_readLine_44 : decode cX7_readLine 44 = .ok (.iload_n 1, 1) := by decide +kernel
theorem dX7_readLine_45 : decode cX7_readLine 45 = .ok (.iconst 4, 1) := by decide +kernel
theorem dX7_readLine_46 : decode cX7_readLine 46 = .ok (.if_icmp .ne 15, 3) := by decide +kernel
theorem dX7_readLine_49 : decode cX7_readLine 49 = .ok (.aload_n 0, 1) := by decide +kernel
theorem dX7_readLine_50 : decode cX7_readLine 50 = .ok (.getfield 119, 3) := by decide +kernel
theorem dX7_readLine_53 : decode cX7_readLine 53 = .ok (.ifCond .eq 8, 3) := by decide +kernel
theorem dX7_readLine_56 : decode cX7_readLine 56 = .ok (.aload_n 0, 1) := by decide +kernel
theorem dX7_readLine_57 : decode cX7_readLine 57 = .ok (.iconst 4, 1) := by decide +kernel
theorem dX7_readLine_58 : decode cX7_readLine 58 = .ok (.invokevirtual 93, 3) := by decide +kernel
theorem dX7_readLine_61 : decode cX7_readLine 61 = .ok (.aload_n 0, 1) := by decide +kernel
theorem dX7_readLine_62 : decode cX7_readLine 62 = .ok (.aload_n 0, 1) := by decide +kernel
theorem dX7_readLine_63 : decode cX7_readLine 63 = .ok (.getfield 119, 3) := by decide +kernel
theorem dX7_readLine_66 : decode cX7_readLine 66 = .ok (.ifCond .ne 8, 3) := by decide +kernel
theorem dX7_readLine_69 : decode cX7_readLine 69 = .ok (.iload_n 1, 1) := by decide +kernel
theorem dX7_readLine_70 : decode cX7_readLine 70 = .ok (.iconst 4, 1) := by decide +kernel
theorem dX7_readLine_71 : decode cX7_readLine 71 = .ok (.if_icmp .ne 7, 3) := by decide +kernel
theorem dX7_readLine_74 : decode cX7_readLine 74 = .ok (.iconst 1, 1) := by decide +kernel
theorem dX7_readLine_75 : decode cX7_readLine 75 = .ok (.goto 4, 3) := by decide +kernel
theorem dX7_readLine_78 : decode cX7_readLine 78 = .ok (.iconst 0, 1) := by decide +kernel
theorem dX7_readLine_79 : decode cX7_readLine 79 = .ok (.putfield 119, 3) := by decide +kernel
theorem dX7_readLine_82 : decode cX7_readLine 82 = .ok (.aload_n 0, 1) := by decide +kernel
theorem dX7_readLine_83 : decode cX7_readLine 83 = .ok (.invokevirtual 97, 3) := by decide +kernel
theorem dX7_readLine_86 : decode cX7_readLine 86 = .ok (.aload_n 0, 1) := by decide +kernel
theorem dX7_readLine_87 : decode cX7_readLine 87 = .ok (.getfield 63, 3) := by decide +kernel
theorem dX7_readLine_90 : decode cX7_readLine 90 = .ok (.ifCond .le 4, 3) := by decide +kernel
theorem dX7_readLine_93 : decode cX7_readLine 93 = .ok (.return_, 1) := by decide +kernel
theorem dX7_readLine_94 : decode cX7_readLine 94 = .ok (.aload_n 0, 1) := by decide +kernel
theorem dX7_readLine_95 : decode cX7_readLine 95 = .ok (.iload_n 1, 1) := by decide +kernel
theorem dX7_readLine_96 : decode cX7_readLine 96 = .ok (.invokevirtual 123, 3) := by decide +kernel
theorem dX7_readLine_99 : decode cX7_readLine 99 = .ok (.aload_n 0, 1) := by decide +kernel
theorem dX7_readLine_100 : decode cX7_readLine 100 = .ok (.getfield 63, 3) := by decide +kernel
theorem dX7_readLine_103 : decode cX7_readLine 103 = .ok (.ifCond .ne 16, 3) := by decide +kernel
theorem dX7_readLine_106 : decode cX7_readLine 106 = .ok (.aload_n 0, 1) := by decide +kernel
theorem dX7_readLine_107 : decode cX7_readLine 107 = .ok (.getfield 72, 3) := by decide +kernel
end
section
theorem dX7_readLine_110 : decode cX7_readLine 110 = .ok (.iconst 3, 1) := by decide +kernel
theorem dX7_readLine_111 : decode cX7_readLine 111 = .ok (.if_icmp .eq 8, 3) := by decide +kernel
theorem dX7_readLine_114 : decode cX7_readLine 114 = .ok (.aload_n 0, 1) := by decide +kernel
theorem dX7_readLine_115 : decode cX7_readLine 115 = .ok (.iconst 2, 1) := by decide +kernel
theorem dX7_readLine_116 : decode cX7_readLine 116 = .ok (.invokevirtual 93, 3) := by decide +kernel
theorem dX7_readLine_119 : decode cX7_readLine 119 = .ok (.aload_n 0, 1) := by decide +kernel
theorem dX7_readLine_120 : decode cX7_readLine 120 = .ok (.invokevirtual 97, 3) := by decide +kernel
theorem dX7_readLine_123 : decode cX7_readLine 123 = .ok (.return_, 1) := by decide +kernel
theorem dX7_text_0 : decode cX7_text 0 = .ok (.aload_n 0, 1) := by decide +kernel
theorem dX7_text_1 : decode cX7_text 1 = .ok (.iconst 0, 1) := by decide +kernel
theorem dX7_text_2 : decode cX7_text 2 = .ok (.putfield 63, 3) := by decide +kernel
theorem dX7_text_5 : decode cX7_text 5 = .ok (.aload_n 0, 1) := by decide +kernel
theorem dX7_text_6 : decode cX7_text 6 = .ok (.iconst 0, 1) := by decide +kernel
theorem dX7_text_7 : decode cX7_text 7 = .ok (.putfield 75, 3) := by decide +kernel
theorem dX7_text_10 : decode cX7_text 10 = .ok (.aload_n 0, 1) := by decide +kernel
theorem dX7_text_11 : decode cX7_text 11 = .ok (.iconst 4, 1) := by decide +kernel
theorem dX7_text_12 : decode cX7_text 12 = .ok (.putfield 107, 3) := by decide +kernel
theorem dX7_text_15 : decode cX7_text 15 = .ok (.aload_n 0, 1) := by decide +kernel
theorem dX7_text_16 : decode cX7_text 16 = .ok (.iconst 0, 1) := by decide +kernel
theorem dX7_text_17 : decode cX7_text 17 = .ok (.putfield 119, 3) := by decide +kernel
theorem dX7_text_20 : decode cX7_text 20 = .ok (.aload_n 0, 1) := by decide +kernel
theorem dX7_text_21 : decode cX7_text 21 = .ok (.iconst (-1), 1) := by decide +kernel
theorem dX7_text_22 : decode cX7_text 22 = .ok (.putfield 104, 3) := by decide +kernel
theorem dX7_text_25 : decode cX7_text 25 = .ok (.iconst 0, 1) := by decide +kernel
theorem dX7_text_26 : decode cX7_text 26 = .ok (.istore_n 1, 1) := by decide +kernel
theorem dX7_text_27 : decode cX7_text 27 = .ok (.iconst 0, 1) := by decide +kernel
theorem dX7_text_28 : decode cX7_text 28 = .ok (.istore_n 2, 1) := by decide +kernel
theorem dX7_text_29 : decode cX7_text 29 = .ok (.iload_n 2, 1) := by decide +kernel
theorem dX7_text_30 : decode cX7_text 30 = .ok (.bipush 75, 2) := by decide +kernel
theorem dX7_text_32 : decode cX7_text 32 = .ok (.if_icmp .ge 16, 3) := by decide +kernel
theorem dX7_text_35 : decode cX7_text 35 = .ok (.aload_n 0, 1) := by decide +kernel
theorem dX7_text_36 : decode cX7_text 36 = .ok (.getfield 17, 3) := by decide +kernel
theorem dX7_text_39 : decode cX7_text 39 = .ok (.iload_n 2, 1) := by decide +kernel
theorem dX7_text_40 : decode cX7_text 40 = .ok (.iconst 0, 1) := by decide +kernel
theorem dX7_text_41 : decode cX7_text 41 = .ok (.iastore, 1) := by decide +kernel
theorem dX7_text_42 : decode cX7_text 42 = .ok (.iinc 2 1, 3) := by decide +kernel
theorem dX7_text_45 : decode cX7_text 45 = .ok (.goto (-16), 3) := by decide +kernel
theorem dX7_text_48 : decode cX7_text 48 = .ok (.aload_n 0, 1) := by decide +kernel
theorem dX7_text_49 : decode cX7_text 49 = .ok (.invokevirtual 97, 3) := by decide +kernel
theorem dX7_text_52 : decode cX7_text 52 = .ok (.aload_n 0, 1) := by decide +kernel
theorem dX7_text_53 : decode cX7_text 53 = .ok (.getfield 63, 3) := by decide +kernel
theorem dX7_text_56 : decode cX7_text 56 = .ok (.ifCond .ne 20, 3) := by decide +kernel
theorem dX7_text_59 : decode cX7_text 59 = .ok (.aload_n 0, 1) := by decide +kernel
theorem dX7_text_60 : decode cX7_text 60 = .ok (.getfield 72, 3) := by decide +kernel
theorem dX7_text_63 : decode cX7_text 63 = .ok (.ifCond .eq 13, 3) := by decide +kernel
theorem dX7_text_66 : decode cX7_text 66 = .ok (.aload_n 0, 1) := by decide +kernel
theorem dX7_text_67 : decode cX7_text 67 = .ok (.invokevirtual 126, 3) := by decide +kernel
theorem dX7_text_70 : decode cX7_text 70 = .ok (.iinc 1 1, 3) := by decide +kernel
theorem dX7_text_73 : decode cX7_text 73 = .ok (.goto (-21), 3) := by decide +kernel
theorem dX7_text_76 : decode cX7_text 76 = .ok (.aload_n 0, 1) := by decide +kernel
theorem dX7_text_77 : decode cX7_text 77 = .ok (.getfield 63, 3) := by decide +kernel
theorem dX7_text_80 : decode cX7_text 80 = .ok (.ifCond .ne 20, 3) := by decide +kernel
theorem dX7_text_83 : decode cX7_text 83 = .ok (.aload_n 0, 1) := by decide +kernel
theorem dX7_text_84 : decode cX7_text 84 = .ok (.getfield 104, 3) := by decide +kernel
theorem dX7_text_87 : decode cX7_text 87 = .ok (.aload_n 0, 1) := by decide +kernel
theorem dX7_text_88 : decode cX7_text 88 = .ok (.getfield 107, 3) := by decide +kernel
theorem dX7_text_91 : decode cX7_text 91 = .ok (.if_icmp .lt 9, 3) := by decide +kernel
theorem dX7_text_94 : decode cX7_text 94 = .ok (.aload_n 0, 1) := by decide +kernel
theorem dX7_text_95 : decode cX7_text 95 = .ok (.bipush 6, 2) := by decide +kernel
theorem dX7_text_97 : decode cX7_text 97 = .ok (.invokevirtual 93, 3) := by decide +kernel
theorem dX7_text_100 : decode cX7_text 100 = .ok (.aload_n 0, 1) := by decide +kernel
theorem dX7_text_101 : decode cX7_text 101 = .ok (.iconst 0, 1) := by decide +kernel
theorem dX7_text_102 : decode cX7_text 102 = .ok (.putfield 60, 3) := by decide +kernel
theorem dX7_text_105 : decode cX7_text 105 = .ok (.aload_n 0, 1) := by decide +kernel
theorem dX7_text_106 : decode cX7_text 106 = .ok (.aload_n 0, 1) := by decide +kernel
theorem dX7_text_107 : decode cX7_text 107 = .ok (.getfield 63, 3) := by decide +kernel
theorem dX7_text_110 : decode cX7_text 110 = .ok (.putfield 129, 3) := by decide +kernel
theorem dX7_text_113 : decode cX7_text 113 = .ok (.aload_n 0, 1) := by decide +kernel
theorem dX7_text_114 : decode cX7_text 114 = .ok (.getfield 63, 3) := by decide +kernel
theorem dX7_text_117 : decode cX7_text 117 = .ok (.ifCond .le 11, 3) := by decide +kernel
theorem dX7_text_120 : decode cX7_text 120 = .ok (.bipush (-10), 2) := by decide +kernel
theorem dX7_text_122 : decode cX7_text 122 = .ok (.aload_n 0, 1) := by decide +kernel
theorem dX7_text_123 : decode cX7_text 123 = .ok (.getfield 69, 3) := by decide +kernel
theorem dX7_text_126 : decode cX7_text 126 = .ok (.isub, 1) := by decide +kernel
theorem dX7_text_127 : decode cX7_text 127 = .ok (.ireturn, 1) := by decide +kernel
theorem dX7_text_128 : decode cX7_text 128 = .ok (.iconst 0, 1) := by decide +kernel
theorem dX7_text_129 : decode cX7_text 129 = .ok (.istore_n 2, 1) := by decide +kernel
theorem dX7_text_130 : decode cX7_text 130 = .ok (.iload_n 2, 1) := by decide +kernel
theorem dX7_text_131 : decode cX7_text 131 = .ok (.bipush 75, 2) := by decide +kernel
theorem dX7_text_133 : decode cX7_text 133 = .ok (.if_icmp .ge 21, 3) := by decide +kernel
theorem dX7_text_136 : decode cX7_text 136 = .ok (.aload_n 0, 1) := by decide +kernel
theorem dX7_text_137 : decode cX7_text 137 = .ok (.getfield 7, 3) := by decide +kernel
theorem dX7_text_140 : decode cX7_text 140 = .ok (.iload_n 2, 1) := by decide +kernel
theorem dX7_text_141 : decode cX7_text 141 = .ok (.aload_n 0, 1) := by decide +kernel
theorem dX7_text_142 : decode cX7_text 142 = .ok (.getfield 17, 3) := by decide +kernel
theorem dX7_text_145 : decode cX7_text 145 = .ok (.iload_n 2, 1) := by decide +kernel
theorem dX7_text_146 : decode cX7_text 146 = .ok (.iaload, 1) := by decide +kernel
theorem dX7_text_147 : decode cX7_text 147 = .ok (.iastore, 1) := by decide +kernel
theorem dX7_text_148 : decode cX7_text 148 = .ok (.iinc 2 1, 3) := by decide +kernel
theorem dX7_text_151 : decode cX7_text 151 = .ok (.goto (-21), 3) := by decide +kernel
theorem dX7_text_154 : decode cX7_text 154 = .ok (.aload_n 0, 1) := by decide +kernel
theorem dX7_text_155 : decode cX7_text 155 = .ok (.aload_n 0, 1) := by decide +kernel
theorem dX7_text_156 : decode cX7_text 156 = .ok (.getfield 107, 3) := by decide +kernel
theorem dX7_text_159 : decode cX7_text 159 = .ok (.putfield 13, 3) := by decide +kernel
theorem dX7_text_162 : decode cX7_text 162 = .ok (.iconst 0, 1) := by decide +kernel
theorem dX7_text_163 : decode cX7_text 163 = .ok (.istore_n 2, 1) := by decide +kernel
theorem dX7_text_164 : decode cX7_text 164 = .ok (.iload_n 2, 1) := by decide +kernel
theorem dX7_text_165 : decode cX7_text 165 = .ok (.aload_n 0, 1) := by decide +kernel
theorem dX7_text_166 : decode cX7_text 166 = .ok (.getfield 7, 3) := by decide +kernel
theorem dX7_text_169 : decode cX7_text 169 = .ok (.bipush 8, 2) := by decide +kernel
theorem dX7_text_171 : decode cX7_text 171 = .ok (.iaload, 1) := by decide +kernel
theorem dX7_text_172 : decode cX7_text 172 = .ok (.if_icmp .ge 14, 3) := by decide +kernel
theorem dX7_text_175 : decode cX7_text 175 = .ok (.aload_n 0, 1) := by decide +kernel
theorem dX7_text_176 : decode cX7_text 176 = .ok (.iload_n 2, 1) := by decide +kernel
theorem dX7_text_177 : decode cX7_text 177 = .ok (.invokevirtual 132, 3) := by decide +kernel
theorem dX7_text_180 : decode cX7_text 180 = .ok (.iinc 2 1, 3) := by decide +kernel
theorem dX7_text_183 : decode cX7_text 183 = .ok (.goto (-19), 3) := by decide +kernel
theorem dX7_text_186 : decode cX7_text 186 = .ok (.aload_n 0, 1) := by decide +kernel
theorem dX7_text_187 : decode cX7_text 187 = .ok (.iconst 0, 1) := by decide +kernel
theorem dX7_text_188 : decode cX7_text 188 = .ok (.putfield 135, 3) := by decide +kernel
theorem dX7_text_191 : decode cX7_text 191 = .ok (.aload_n 0, 1) := by decide +kernel
theorem dX7_text_192 : decode cX7_text 192 = .ok (.getfield 41, 3) := by decide +kernel
theorem dX7_text_195 : decode cX7_text 195 = .ok (.iconst 0, 1) := by decide +kernel
theorem dX7_text_196 : decode cX7_text 196 = .ok (.iconst 0, 1) := by decide +kernel
theorem dX7_text_197 : decode cX7_text 197 = .ok (.bastore, 1) := by decide +kernel
theorem dX7_text_198 : decode cX7_text 198 = .ok (.aload_n 0, 1) := by decide +kernel
theorem dX7_text_199 : decode cX7_text 199 = .ok (.getfield 41, 3) := by decide +kernel
theorem dX7_text_202 : decode cX7_text 202 = .ok (.iconst 1, 1) := by decide +kernel
theorem dX7_text_203 : decode cX7_text 203 = .ok (.iconst 0, 1) := by decide +kernel
theorem dX7_text_204 : decode cX7_text 204 = .ok (.bastore, 1) := by decide +kernel
theorem dX7_text_205 : decode cX7_text 205 = .ok (.iload_n 1, 1) := by decide +kernel
theorem dX7_text_206 : decode cX7_text 206 = .ok (.ireturn, 1) := by decide +kernel
theorem dX7_fault_0 : decode cX7_fault 0 = .ok (.aload_n 0, 1) := by decide +kernel
theorem dX7_fault_1 : decode cX7_fault 1 = .ok (.getfield 129, 3) := by decide +kernel
theorem dX7_fault_4 : decode cX7_fault 4 = .ok (.ireturn, 1) := by decide +kernel
theorem dX7_ordersFirst_0 : decode cX7_ordersFirst 0 = .ok (.iconst 0, 1) := by decide +kernel
theorem dX7_ordersFirst_1 : decode cX7_ordersFirst 1 = .ok (.istore_n 2, 1) := by decide +kernel
theorem dX7_ordersFirst_2 : decode cX7_ordersFirst 2 = .ok (.iload_n 2, 1) := by decide +kernel
theorem dX7_ordersFirst_3 : decode cX7_ordersFirst 3 = .ok (.bipush 6, 2) := by decide +kernel
theorem dX7_ordersFirst_5 : decode cX7_ordersFirst 5 = .ok (.if_icmp .ge 39, 3) := by decide +kernel
theorem dX7_ordersFirst_8 : decode cX7_ordersFirst 8 = .ok (.aload_n 0, 1) := by decide +kernel
theorem dX7_ordersFirst_9 : decode cX7_ordersFirst 9 = .ok (.getfield 7, 3) := by decide +kernel
theorem dX7_ordersFirst_12 : decode cX7_ordersFirst 12 = .ok (.bipush 27, 2) := by decide +kernel
theorem dX7_ordersFirst_14 : decode cX7_ordersFirst 14 = .ok (.bipush 6, 2) := by decide +kernel
theorem dX7_ordersFirst_16 : decode cX7_ordersFirst 16 = .ok (.iload_n 1, 1) := by decide +kernel
theorem dX7_ordersFirst_17 : decode cX7_ordersFirst 17 = .ok (.imul, 1) := by decide +kernel
theorem dX7_ordersFirst_18 : decode cX7_ordersFirst 18 = .ok (.iadd, 1) := by decide +kernel
theorem dX7_ordersFirst_19 : decode cX7_ordersFirst 19 = .ok (.iload_n 2, 1) := by decide +kernel
theorem dX7_ordersFirst_20 : decode cX7_ordersFirst 20 = .ok (.iadd, 1) := by decide +kernel
theorem dX7_ordersFirst_21 : decode cX7_ordersFirst 21 = .ok (.iload_n 2, 1) := by decide +kernel
theorem dX7_ordersFirst_22 : decode cX7_ordersFirst 22 = .ok (.iastore, 1) := by decide +kernel
theorem dX7_ordersFirst_23 : decode cX7_ordersFirst 23 = .ok (.aload_n 0, 1) := by decide +kernel
theorem dX7_ordersFirst_24 : decode cX7_ordersFirst 24 = .ok (.getfield 7, 3) := by decide +kernel
theorem dX7_ordersFirst_27 : decode cX7_ordersFirst 27 = .ok (.bipush 51, 2) := by decide +kernel
theorem dX7_ordersFirst_29 : decode cX7_ordersFirst 29 = .ok (.bipush 6, 2) := by decide +kernel
theorem dX7_ordersFirst_31 : decode cX7_ordersFirst 31 = .ok (.iload_n 1, 1) := by decide +kernel
theorem dX7_ordersFirst_32 : decode cX7_ordersFirst 32 = .ok (.imul, 1) := by decide +kernel
theorem dX7_ordersFirst_33 : decode cX7_ordersFirst 33 = .ok (.iadd, 1) := by decide +kernel
theorem dX7_ordersFirst_34 : decode cX7_ordersFirst 34 = .ok (.iload_n 2, 1) := by decide +kernel
theorem dX7_ordersFirst_35 : decode cX7_ordersFirst 35 = .ok (.iadd, 1) := by decide +kernel
theorem dX7_ordersFirst_36 : decode cX7_ordersFirst 36 = .ok (.iconst 0, 1) := by decide +kernel
theorem dX7_ordersFirst_37 : decode cX7_ordersFirst 37 = .ok (.iastore, 1) := by decide +kernel
theorem dX7_ordersFirst_38 : decode cX7_ordersFirst 38 = .ok (.iinc 2 1, 3) := by decide +kernel
theorem dX7_ordersFirst_41 : decode cX7_ordersFirst 41 = .ok (.goto (-39), 3) := by decide +kernel
theorem dX7_ordersFirst_44 : decode cX7_ordersFirst 44 = .ok (.aload_n 0, 1) := by decide +kernel
theorem dX7_ordersFirst_45 : decode cX7_ordersFirst 45 = .ok (.getfield 7, 3) := by decide +kernel
theorem dX7_ordersFirst_48 : decode cX7_ordersFirst 48 = .ok (.iconst 4, 1) := by decide +kernel
theorem dX7_ordersFirst_49 : decode cX7_ordersFirst 49 = .ok (.iload_n 1, 1) := by decide +kernel
theorem dX7_ordersFirst_50 : decode cX7_ordersFirst 50 = .ok (.iadd, 1) := by decide +kernel
theorem dX7_ordersFirst_51 : decode cX7_ordersFirst 51 = .ok (.iconst 0, 1) := by decide +kernel
theorem dX7_ordersFirst_52 : decode cX7_ordersFirst 52 = .ok (.iastore, 1) := by decide +kernel
theorem dX7_ordersFirst_53 : decode cX7_ordersFirst 53 = .ok (.return_, 1) := by decide +kernel
theorem dX7_isShelf_0 : decode cX7_isShelf 0 = .ok (.iload_n 1, 1) := by decide +kernel
theorem dX7_isShelf_1 : decode cX7_isShelf 1 = .ok (.i2l, 1) := by decide +kernel
theorem dX7_isShelf_2 : decode cX7_isShelf 2 = .ok (.lconst 0, 1) := by decide +kernel
theorem dX7_isShelf_3 : decode cX7_isShelf 3 = .ok (.aload_n 0, 1) := by decide +kernel
theorem dX7_isShelf_4 : decode cX7_isShelf 4 = .ok (.getfield 7, 3) := by decide +kernel
theorem dX7_isShelf_7 : decode cX7_isShelf 7 = .ok (.bipush 8, 2) := by decide +kernel
theorem dX7_isShelf_9 : decode cX7_isShelf 9 = .ok (.iaload, 1) := by decide +kernel
theorem dX7_isShelf_10 : decode cX7_isShelf 10 = .ok (.iconst 1, 1) := by decide +kernel
theorem dX7_isShelf_11 : decode cX7_isShelf 11 = .ok (.isub, 1) := by decide +kernel
theorem dX7_isShelf_12 : decode cX7_isShelf 12 = .ok (.i2l, 1) := by decide +kernel
theorem dX7_isShelf_13 : decode cX7_isShelf 13 = .ok (.invokestatic 56, 3) := by decide +kernel
theorem dX7_isShelf_16 : decode cX7_isShelf 16 = .ok (.ireturn, 1) := by decide +kernel
theorem dX7_isBook_0 : decode cX7_isBook 0 = .ok (.iload_n 1, 1) := by decide +kernel
theorem dX7_isBook_1 : decode cX7_isBook 1 = .ok (.i2l, 1) := by decide +kernel
theorem dX7_isBook_2 : decode cX7_isBook 2 = .ok (.lconst 0, 1) := by decide +kernel
theorem dX7_isBook_3 : decode cX7_isBook 3 = .ok (.aload_n 0, 1) := by decide +kernel
theorem dX7_isBook_4 : decode cX7_isBook 4 = .ok (.getfield 13, 3) := by decide +kernel
theorem dX7_isBook_7 : decode cX7_isBook 7 = .ok (.iconst 1, 1) := by decide +kernel
theorem dX7_isBook_8 : decode cX7_isBook 8 = .ok (.isub, 1) := by decide +kernel
theorem dX7_isBook_9 : decode cX7_isBook 9 = .ok (.i2l, 1) := by decide +kernel
theorem dX7_isBook_10 : decode cX7_isBook 10 = .ok (.invokestatic 56, 3) := by decide +kernel
theorem dX7_isBook_13 : decode cX7_isBook 13 = .ok (.ireturn, 1) := by decide +kernel
theorem dX7_isWant_0 : decode cX7_isWant 0 = .ok (.iload_n 1, 1) := by decide +kernel
theorem dX7_isWant_1 : decode cX7_isWant 1 = .ok (.i2l, 1) := by decide +kernel
theorem dX7_isWant_2 : decode cX7_isWant 2 = .ok (.lconst 0, 1) := by decide +kernel
theorem dX7_isWant_3 : decode cX7_isWant 3 = .ok (.aload_n 0, 1) := by decide +kernel
theorem dX7_isWant_4 : decode cX7_isWant 4 = .ok (.getfield 7, 3) := by decide +kernel
theorem dX7_isWant_7 : decode cX7_isWant 7 = .ok (.bipush 25, 2) := by decide +kernel
theorem dX7_isWant_9 : decode cX7_isWant 9 = .ok (.iaload, 1) := by decide +kernel
theorem dX7_isWant_10 : decode cX7_isWant 10 = .ok (.iconst 1, 1) := by decide +kernel
theorem dX7_isWant_11 : decode cX7_isWant 11 = .ok (.isub, 1) := by decide +kernel
theorem dX7_isWant_12 : decode cX7_isWant 12 = .ok (.i2l, 1) := by decide +kernel
theorem dX7_isWant_13 : decode cX7_isWant 13 = .ok (.invokestatic 56, 3) := by decide +kernel
theorem dX7_isWant_16 : decode cX7_isWant 16 = .ok (.ireturn, 1) := by decide +kernel
theorem dX7_placeOn_0 : decode cX7_placeOn 0 = .ok (.iconst 0, 1) := by decide +kernel
theorem dX7_placeOn_1 : decode cX7_placeOn 1 = .ok (.istore 4, 2) := by decide +kernel
theorem dX7_placeOn_3 : decode cX7_placeOn 3 = .ok (.iconst 0, 1) := by decide +kernel
theorem dX7_placeOn_4 : decode cX7_placeOn 4 = .ok (.istore 5, 2) := by decide +kernel
theorem dX7_placeOn_6 : decode cX7_placeOn 6 = .ok (.iload 5, 2) := by decide +kernel
theorem dX7_placeOn_8 : decode cX7_placeOn 8 = .ok (.aload_n 0, 1) := by decide +kernel
theorem dX7_placeOn_9 : decode cX7_placeOn 9 = .ok (.getfield 13, 3) := by decide +kernel
theorem dX7_placeOn_12 : decode cX7_placeOn 12 = .ok (.if_icmp .ge 39, 3) := by decide +kernel
theorem dX7_placeOn_15 : decode cX7_placeOn 15 = .ok (.aload_n 0, 1) := by decide +kernel
theorem dX7_placeOn_16 : decode cX7_placeOn 16 = .ok (.getfield 7, 3) := by decide +kernel
theorem dX7_placeOn_19 : decode cX7_placeOn 19 = .ok (.iload_n 1, 1) := by decide +kernel
theorem dX7_placeOn_20 : decode cX7_placeOn 20 = .ok (.bipush 27, 2) := by decide +kernel
theorem dX7_placeOn_22 : decode cX7_placeOn 22 = .ok (.iadd, 1) := by decide +kernel
theorem dX7_placeOn_23 : decode cX7_placeOn 23 = .ok (.bipush 6, 2) := by decide +kernel
theorem dX7_placeOn_25 : decode cX7_placeOn 25 = .ok (.iload_n 2, 1) := by decide +kernel
theorem dX7_placeOn_26 : decode cX7_placeOn 26 = .ok (.imul, 1) := by decide +kernel
theorem dX7_placeOn_27 : decode cX7_placeOn 27 = .ok (.iadd, 1) := by decide +kernel
theorem dX7_placeOn_28 : decode cX7_placeOn 28 = .ok (.iload 5, 2) := by decide +kernel
theorem dX7_placeOn_30 : decode cX7_placeOn 30 = .ok (.iadd, 1) := by decide +kernel
theorem dX7_placeOn_31 : decode cX7_placeOn 31 = .ok (.iaload, 1) := by decide +kernel
theorem dX7_placeOn_32 : decode cX7_placeOn 32 = .ok (.iload_n 3, 1) := by decide +kernel
theorem dX7_placeOn_33 : decode cX7_placeOn 33 = .ok (.if_icmp .ne 8, 3) := by decide +kernel
theorem dX7_placeOn_36 : decode cX7_placeOn 36 = .ok (.iload 5, 2) := by decide +kernel
theorem dX7_placeOn_38 : decode cX7_placeOn 38 = .ok (.goto 5, 3) := by decide +kernel
theorem dX7_placeOn_41 : decode cX7_placeOn 41 = .ok (.iload 4, 2) := by decide +kernel
theorem dX7_placeOn_43 : decode cX7_placeOn 43 = .ok (.istore 4, 2) := by decide +kernel
theorem dX7_placeOn_45 : decode cX7_placeOn 45 = .ok (.iinc 5 1, 3) := by decide +kernel
theorem dX7_placeOn_48 : decode cX7_placeOn 48 = .ok (.goto (-42), 3) := by decide +kernel
theorem dX7_placeOn_51 : decode cX7_placeOn 51 = .ok (.iload 4, 2) := by decide +kernel
theorem dX7_placeOn_53 : decode cX7_placeOn 53 = .ok (.ireturn, 1) := by decide +kernel
theorem dX7_standsOn_0 : decode cX7_standsOn 0 = .ok (.iload_n 1, 1) := by decide +kernel
theorem dX7_standsOn_1 : decode cX7_standsOn 1 = .ok (.bipush 27, 2) := by decide +kernel
theorem dX7_standsOn_3 : decode cX7_standsOn 3 = .ok (.iadd, 1) := by decide +kernel
theorem dX7_standsOn_4 : decode cX7_standsOn 4 = .ok (.bipush 6, 2) := by decide +kernel
theorem dX7_standsOn_6 : decode cX7_standsOn 6 = .ok (.iload_n 2, 1) := by decide +kernel
theorem dX7_standsOn_7 : decode cX7_standsOn 7 = .ok (.imul, 1) := by decide +kernel
theorem dX7_standsOn_8 : decode cX7_standsOn 8 = .ok (.iadd, 1) := by decide +kernel
theorem dX7_standsOn_9 : decode cX7_standsOn 9 = .ok (.istore 5, 2) := by decide +kernel
theorem dX7_standsOn_11 : decode cX7_standsOn 11 = .ok (.aload_n 0, 1) := by decide +kernel
theorem dX7_standsOn_12 : decode cX7_standsOn 12 = .ok (.getfield 7, 3) := by decide +kernel
theorem dX7_standsOn_15 : decode cX7_standsOn 15 = .ok (.iload 5, 2) := by decide +kernel
theorem dX7_standsOn_17 : decode cX7_standsOn 17 = .ok (.iload_n 3, 1) := by decide +kernel
theorem dX7_standsOn_18 : decode cX7_standsOn 18 = .ok (.iadd, 1) := by decide +kernel
theorem dX7_standsOn_19 : decode cX7_standsOn 19 = .ok (.iaload, 1) := by decide +kernel
theorem dX7_standsOn_20 : decode cX7_standsOn 20 = .ok (.istore 6, 2) := by decide +kernel
theorem dX7_standsOn_22 : decode cX7_standsOn 22 = .ok (.iload_n 3, 1) := by decide +kernel
theorem dX7_standsOn_23 : decode cX7_standsOn 23 = .ok (.istore 7, 2) := by decide +kernel
theorem dX7_standsOn_25 : decode cX7_standsOn 25 = .ok (.iload 7, 2) := by decide +kernel
theorem dX7_standsOn_27 : decode cX7_standsOn 27 = .ok (.iload 4, 2) := by decide +kernel
theorem dX7_standsOn_29 : decode cX7_standsOn 29 = .ok (.if_icmp .le 31, 3) := by decide +kernel
theorem dX7_standsOn_32 : decode cX7_standsOn 32 = .ok (.aload_n 0, 1) := by decide +kernel
theorem dX7_standsOn_33 : decode cX7_standsOn 33 = .ok (.getfield 7, 3) := by decide +kernel
theorem dX7_standsOn_36 : decode cX7_standsOn 36 = .ok (.iload 5, 2) := by decide +kernel
theorem dX7_standsOn_38 : decode cX7_standsOn 38 = .ok (.iload 7, 2) := by decide +kernel
theorem dX7_standsOn_40 : decode cX7_standsOn 40 = .ok (.iadd, 1) := by decide +kernel
theorem dX7_standsOn_41 : decode cX7_standsOn 41 = .ok (.aload_n 0, 1) := by decide +kernel
theorem dX7_standsOn_42 : decode cX7_standsOn 42 = .ok (.getfield 7, 3) := by decide +kernel
theorem dX7_standsOn_45 : decode cX7_standsOn 45 = .ok (.iload 5, 2) := by decide +kernel
theorem dX7_standsOn_47 : decode cX7_standsOn 47 = .ok (.iload 7, 2) := by decide +kernel
theorem dX7_standsOn_49 : decode cX7_standsOn 49 = .ok (.iadd, 1) := by decide +kernel
theorem dX7_standsOn_50 : decode cX7_standsOn 50 = .ok (.iconst 1, 1) := by decide +kernel
theorem dX7_standsOn_51 : decode cX7_standsOn 51 = .ok (.isub, 1) := by decide +kernel
theorem dX7_standsOn_52 : decode cX7_standsOn 52 = .ok (.iaload, 1) := by decide +kernel
theorem dX7_standsOn_53 : decode cX7_standsOn 53 = .ok (.iastore, 1) := by decide +kernel
theorem dX7_standsOn_54 : decode cX7_standsOn 54 = .ok (.iinc 7 (-1), 3) := by decide +kernel
theorem dX7_standsOn_57 : decode cX7_standsOn 57 = .ok (.goto (-32), 3) := by decide +kernel
theorem dX7_standsOn_60 : decode cX7_standsOn 60 = .ok (.iload_n 3, 1) := by decide +kernel
theorem dX7_standsOn_61 : decode cX7_standsOn 61 = .ok (.istore 7, 2) := by decide +kernel
theorem dX7_standsOn_63 : decode cX7_standsOn 63 = .ok (.iload 7, 2) := by decide +kernel
theorem dX7_standsOn_65 : decode cX7_standsOn 65 = .ok (.iload 4, 2) := by decide +kernel
theorem dX7_standsOn_67 : decode cX7_standsOn 67 = .ok (.if_icmp .ge 31, 3) := by decide +kernel
theorem dX7_standsOn_70 : decode cX7_standsOn 70 = .ok (.aload_n 0, 1) := by decide +kernel
theorem dX7_standsOn_71 : decode cX7_standsOn 71 = .ok (.getfield 7, 3) := by decide +kernel
theorem dX7_standsOn_74 : decode cX7_standsOn 74 = .ok (.iload 5, 2) := by decide +kernel
theorem dX7_standsOn_76 : decode cX7_standsOn 76 = .ok (.iload 7, 2) := by decide +kernel
theorem dX7_standsOn_78 : decode cX7_standsOn 78 = .ok (.iadd, 1) := by decide +kernel
theorem dX7_standsOn_79 : decode cX7_standsOn 79 = .ok (.aload_n 0, 1) := by decide +kernel
theorem dX7_standsOn_80 : decode cX7_standsOn 80 = .ok (.getfield 7, 3) := by decide +kernel
theorem dX7_standsOn_83 : decode cX7_standsOn 83 = .ok (.iload 5, 2) := by decide +kernel
theorem dX7_standsOn_85 : decode cX7_standsOn 85 = .ok (.iload 7, 2) := by decide +kernel
theorem dX7_standsOn_87 : decode cX7_standsOn 87 = .ok (.iadd, 1) := by decide +kernel
theorem dX7_standsOn_88 : decode cX7_standsOn 88 = .ok (.iconst 1, 1) := by decide +kernel
theorem dX7_standsOn_89 : decode cX7_standsOn 89 = .ok (.iadd, 1) := by decide +kernel
theorem dX7_standsOn_90 : decode cX7_standsOn 90 = .ok (.iaload, 1) := by decide +kernel
theorem dX7_standsOn_91 : decode cX7_standsOn 91 = .ok (.iastore, 1) := by decide +kernel
theorem dX7_standsOn_92 : decode cX7_standsOn 92 = .ok (.iinc 7 1, 3) := by decide +kernel
theorem dX7_standsOn_95 : decode cX7_standsOn 95 = .ok (.goto (-32), 3) := by decide +kernel
theorem dX7_standsOn_98 : decode cX7_standsOn 98 = .ok (.aload_n 0, 1) := by decide +kernel
theorem dX7_standsOn_99 : decode cX7_standsOn 99 = .ok (.getfield 7, 3) := by decide +kernel
theorem dX7_standsOn_102 : decode cX7_standsOn 102 = .ok (.iload 5, 2) := by decide +kernel
theorem dX7_standsOn_104 : decode cX7_standsOn 104 = .ok (.iload 4, 2) := by decide +kernel
theorem dX7_standsOn_106 : decode cX7_standsOn 106 = .ok (.iadd, 1) := by decide +kernel
theorem dX7_standsOn_107 : decode cX7_standsOn 107 = .ok (.iload 6, 2) := by decide +kernel
theorem dX7_standsOn_109 : decode cX7_standsOn 109 = .ok (.iastore, 1) := by decide +kernel
theorem dX7_standsOn_110 : decode cX7_standsOn 110 = .ok (.return_, 1) := by decide +kernel
theorem dX7_goalOn_0 : decode cX7_goalOn 0 = .ok (.aload_n 0, 1) := by decide +kernel
theorem dX7_goalOn_1 : decode cX7_goalOn 1 = .ok (.getfield 7, 3) := by decide +kernel
theorem dX7_goalOn_4 : decode cX7_goalOn 4 = .ok (.iload_n 1, 1) := by decide +kernel
theorem dX7_goalOn_5 : decode cX7_goalOn 5 = .ok (.iload_n 2, 1) := by decide +kernel
theorem dX7_goalOn_6 : decode cX7_goalOn 6 = .ok (.iadd, 1) := by decide +kernel
theorem dX7_goalOn_7 : decode cX7_goalOn 7 = .ok (.iaload, 1) := by decide +kernel
theorem dX7_goalOn_8 : decode cX7_goalOn 8 = .ok (.istore 4, 2) := by decide +kernel
theorem dX7_goalOn_10 : decode cX7_goalOn 10 = .ok (.iload 4, 2) := by decide +kernel
theorem dX7_goalOn_12 : decode cX7_goalOn 12 = .ok (.ifCond .eq 7, 3) := by decide +kernel
theorem dX7_goalOn_15 : decode cX7_goalOn 15 = .ok (.iload_n 3, 1) := by decide +kernel
theorem dX7_goalOn_16 : decode cX7_goalOn 16 = .ok (.ifCond .ne 5, 3) := by decide +kernel
theorem dX7_goalOn_19 : decode cX7_goalOn 19 = .ok (.iload_n 3, 1) := by decide +kernel
theorem dX7_goalOn_20 : decode cX7_goalOn 20 = .ok (.ireturn, 1) := by decide +kernel
theorem dX7_goalOn_21 : decode cX7_goalOn 21 = .ok (.iload 4, 2) := by decide +kernel
theorem dX7_goalOn_23 : decode cX7_goalOn 23 = .ok (.iconst 3, 1) := by decide +kernel
theorem dX7_goalOn_24 : decode cX7_goalOn 24 = .ok (.if_icmp .ge 17, 3) := by decide +kernel
theorem dX7_goalOn_27 : decode cX7_goalOn 27 = .ok (.iload 4, 2) := by decide +kernel
theorem dX7_goalOn_29 : decode cX7_goalOn 29 = .ok (.iconst 1, 1) := by decide +kernel
theorem dX7_goalOn_30 : decode cX7_goalOn 30 = .ok (.if_icmp .ne 9, 3) := by decide +kernel
theorem dX7_goalOn_33 : decode cX7_goalOn 33 = .ok (.iload_n 3, 1) := by decide +kernel
theorem dX7_goalOn_34 : decode cX7_goalOn 34 = .ok (.iconst 1, 1) := by decide +kernel
theorem dX7_goalOn_35 : decode cX7_goalOn 35 = .ok (.isub, 1) := by decide +kernel
theorem dX7_goalOn_36 : decode cX7_goalOn 36 = .ok (.goto 4, 3) := by decide +kernel
theorem dX7_goalOn_39 : decode cX7_goalOn 39 = .ok (.iconst 0, 1) := by decide +kernel
theorem dX7_goalOn_40 : decode cX7_goalOn 40 = .ok (.ireturn, 1) := by decide +kernel
theorem dX7_goalOn_41 : decode cX7_goalOn 41 = .ok (.iload_n 1, 1) := by decide +kernel
theorem dX7_goalOn_42 : decode cX7_goalOn 42 = .ok (.bipush 51, 2) := by decide +kernel
theorem dX7_goalOn_44 : decode cX7_goalOn 44 = .ok (.iadd, 1) := by decide +kernel
theorem dX7_goalOn_45 : decode cX7_goalOn 45 = .ok (.bipush 6, 2) := by decide +kernel
theorem dX7_goalOn_47 : decode cX7_goalOn 47 = .ok (.iload_n 2, 1) := by decide +kernel
theorem dX7_goalOn_48 : decode cX7_goalOn 48 = .ok (.imul, 1) := by decide +kernel
theorem dX7_goalOn_49 : decode cX7_goalOn 49 = .ok (.iadd, 1) := by decide +kernel
theorem dX7_goalOn_50 : decode cX7_goalOn 50 = .ok (.istore 5, 2) := by decide +kernel
theorem dX7_goalOn_52 : decode cX7_goalOn 52 = .ok (.iload_n 1, 1) := by decide +kernel
theorem dX7_goalOn_53 : decode cX7_goalOn 53 = .ok (.bipush 27, 2) := by decide +kernel
theorem dX7_goalOn_55 : decode cX7_goalOn 55 = .ok (.iadd, 1) := by decide +kernel
theorem dX7_goalOn_56 : decode cX7_goalOn 56 = .ok (.bipush 6, 2) := by decide +kernel
theorem dX7_goalOn_58 : decode cX7_goalOn 58 = .ok (.iload_n 2, 1) := by decide +kernel
theorem dX7_goalOn_59 : decode cX7_goalOn 59 = .ok (.imul, 1) := by decide +kernel
theorem dX7_goalOn_60 : decode cX7_goalOn 60 = .ok (.iadd, 1) := by decide +kernel
theorem dX7_goalOn_61 : decode cX7_goalOn 61 = .ok (.istore 6, 2) := by decide +kernel
theorem dX7_goalOn_63 : decode cX7_goalOn 63 = .ok (.iconst 0, 1) := by decide +kernel
theorem dX7_goalOn_64 : decode cX7_goalOn 64 = .ok (.istore 7, 2) := by decide +kernel
theorem dX7_goalOn_66 : decode cX7_goalOn 66 = .ok (.iload 7, 2) := by decide +kernel
theorem dX7_goalOn_68 : decode cX7_goalOn 68 = .ok (.iload_n 3, 1) := by decide +kernel
theorem dX7_goalOn_69 : decode cX7_goalOn 69 = .ok (.if_icmp .ge 50, 3) := by decide +kernel
theorem dX7_goalOn_72 : decode cX7_goalOn 72 = .ok (.aload_n 0, 1) := by decide +kernel
theorem dX7_goalOn_73 : decode cX7_goalOn 73 = .ok (.getfield 7, 3) := by decide +kernel
theorem dX7_goalOn_76 : decode cX7_goalOn 76 = .ok (.iload 5, 2) := by decide +kernel
theorem dX7_goalOn_78 : decode cX7_goalOn 78 = .ok (.aload_n 0, 1) := by decide +kernel
theorem dX7_goalOn_79 : decode cX7_goalOn 79 = .ok (.getfield 7, 3) := by decide +kernel
theorem dX7_goalOn_82 : decode cX7_goalOn 82 = .ok (.iload 6, 2) := by decide +kernel
theorem dX7_goalOn_84 : decode cX7_goalOn 84 = .ok (.iload 7, 2) := by decide +kernel
theorem dX7_goalOn_86 : decode cX7_goalOn 86 = .ok (.iadd, 1) := by decide +kernel
theorem dX7_goalOn_87 : decode cX7_goalOn 87 = .ok (.iaload, 1) := by decide +kernel
theorem dX7_goalOn_88 : decode cX7_goalOn 88 = .ok (.iadd, 1) := by decide +kernel
theorem dX7_goalOn_89 : decode cX7_goalOn 89 = .ok (.iaload, 1) := by decide +kernel
theorem dX7_goalOn_90 : decode cX7_goalOn 90 = .ok (.aload_n 0, 1) := by decide +kernel
theorem dX7_goalOn_91 : decode cX7_goalOn 91 = .ok (.getfield 7, 3) := by decide +kernel
theorem dX7_goalOn_94 : decode cX7_goalOn 94 = .ok (.iload 5, 2) := by decide +kernel
theorem dX7_goalOn_96 : decode cX7_goalOn 96 = .ok (.aload_n 0, 1) := by decide +kernel
theorem dX7_goalOn_97 : decode cX7_goalOn 97 = .ok (.getfield 7, 3) := by decide +kernel
theorem dX7_goalOn_100 : decode cX7_goalOn 100 = .ok (.iload 6, 2) := by decide +kernel
theorem dX7_goalOn_102 : decode cX7_goalOn 102 = .ok (.iload_n 3, 1) := by decide +kernel
theorem dX7_goalOn_103 : decode cX7_goalOn 103 = .ok (.iadd, 1) := by decide +kernel
theorem dX7_goalOn_104 : decode cX7_goalOn 104 = .ok (.iaload, 1) := by decide +kernel
theorem dX7_goalOn_105 : decode cX7_goalOn 105 = .ok (.iadd, 1) := by decide +kernel
theorem dX7_goalOn_106 : decode cX7_goalOn 106 = .ok (.iaload, 1) := by decide +kernel
theorem dX7_goalOn_107 : decode cX7_goalOn 107 = .ok (.if_icmp .ge 6, 3) := by decide +kernel
theorem dX7_goalOn_110 : decode cX7_goalOn 110 = .ok (.iload 7, 2) := by decide +kernel
theorem dX7_goalOn_112 : decode cX7_goalOn 112 = .ok (.ireturn, 1) := by decide +kernel
theorem dX7_goalOn_113 : decode cX7_goalOn 113 = .ok (.iinc 7 1, 3) := by decide +kernel
theorem dX7_goalOn_116 : decode cX7_goalOn 116 = .ok (.goto (-50), 3) := by decide +kernel
theorem dX7_goalOn_119 : decode cX7_goalOn 119 = .ok (.iload_n 3, 1) := by decide +kernel
theorem dX7_goalOn_120 : decode cX7_goalOn 120 = .ok (.ireturn, 1) := by decide +kernel
theorem dX7_starts_0 : decode cX7_starts 0 = .ok (.iconst 0, 1) := by decide +kernel
theorem dX7_starts_1 : decode cX7_starts 1 = .ok (.istore_n 1, 1) := by decide +kernel
theorem dX7_starts_2 : decode cX7_starts 2 = .ok (.iload_n 1, 1) := by decide +kernel
theorem dX7_starts_3 : decode cX7_starts 3 = .ok (.iconst 4, 1) := by decide +kernel
theorem dX7_starts_4 : decode cX7_starts 4 = .ok (.if_icmp .ge 16, 3) := by decide +kernel
theorem dX7_starts_7 : decode cX7_starts 7 = .ok (.aload_n 0, 1) := by decide +kernel
theorem dX7_starts_8 : decode cX7_starts 8 = .ok (.getfield 29, 3) := by decide +kernel
theorem dX7_starts_11 : decode cX7_starts 11 = .ok (.iload_n 1, 1) := by decide +kernel
theorem dX7_starts_12 : decode cX7_starts 12 = .ok (.iconst 0, 1) := by decide +kernel
theorem dX7_starts_13 : decode cX7_starts 13 = .ok (.iastore, 1) := by decide +kernel
theorem dX7_starts_14 : decode cX7_starts 14 = .ok (.iinc 1 1, 3) := by decide +kernel
theorem dX7_starts_17 : decode cX7_starts 17 = .ok (.goto (-15), 3) := by decide +kernel
theorem dX7_starts_20 : decode cX7_starts 20 = .ok (.aload_n 0, 1) := by decide +kernel
theorem dX7_starts_21 : decode cX7_starts 21 = .ok (.iconst 0, 1) := by decide +kernel
theorem dX7_starts_22 : decode cX7_starts 22 = .ok (.putfield 138, 3) := by decide +kernel
theorem dX7_starts_25 : decode cX7_starts 25 = .ok (.aload_n 0, 1) := by decide +kernel
theorem dX7_starts_26 : decode cX7_starts 26 = .ok (.iconst 0, 1) := by decide +kernel
theorem dX7_starts_27 : decode cX7_starts 27 = .ok (.putfield 141, 3) := by decide +kernel
theorem dX7_starts_30 : decode cX7_starts 30 = .ok (.return_, 1) := by decide +kernel
theorem dX7_asksOn_0 : decode cX7_asksOn 0 = .ok (.iconst 0, 1) := by decide +kernel
theorem dX7_asksOn_1 : decode cX7_asksOn 1 = .ok (.istore_n 3, 1) := by decide +kernel
theorem dX7_asksOn_2 : decode cX7_asksOn 2 = .ok (.iconst 0, 1) := by decide +kernel
theorem dX7_asksOn_3 : decode cX7_asksOn 3 = .ok (.istore 4, 2) := by decide +kernel
theorem dX7_asksOn_5 : decode cX7_asksOn 5 = .ok (.iload 4, 2) := by decide +kernel
theorem dX7_asksOn_7 : decode cX7_asksOn 7 = .ok (.aload_n 0, 1) := by decide +kernel
theorem dX7_asksOn_8 : decode cX7_asksOn 8 = .ok (.getfield 7, 3) := by decide +kernel
theorem dX7_asksOn_11 : decode cX7_asksOn 11 = .ok (.iload_n 1, 1) := by decide +kernel
theorem dX7_asksOn_12 : decode cX7_asksOn 12 = .ok (.bipush 8, 2) := by decide +kernel
theorem dX7_asksOn_14 : decode cX7_asksOn 14 = .ok (.iadd, 1) := by decide +kernel
theorem dX7_asksOn_15 : decode cX7_asksOn 15 = .ok (.iaload, 1) := by decide +kernel
theorem dX7_asksOn_16 : decode cX7_asksOn 16 = .ok (.if_icmp .ge 213, 3) := by decide +kernel
theorem dX7_asksOn_19 : decode cX7_asksOn 19 = .ok (.aload_n 0, 1) := by decide +kernel
theorem dX7_asksOn_20 : decode cX7_asksOn 20 = .ok (.iload_n 1, 1) := by decide +kernel
theorem dX7_asksOn_21 : decode cX7_asksOn 21 = .ok (.iload 4, 2) := by decide +kernel
theorem dX7_asksOn_23 : decode cX7_asksOn 23 = .ok (.iload_n 2, 1) := by decide +kernel
theorem dX7_asksOn_24 : decode cX7_asksOn 24 = .ok (.invokevirtual 144, 3) := by decide +kernel
theorem dX7_asksOn_27 : decode cX7_asksOn 27 = .ok (.istore 5, 2) := by decide +kernel
theorem dX7_asksOn_29 : decode cX7_asksOn 29 = .ok (.iload 5, 2) := by decide +kernel
theorem dX7_asksOn_31 : decode cX7_asksOn 31 = .ok (.iconst 1, 1) := by decide +kernel
theorem dX7_asksOn_32 : decode cX7_asksOn 32 = .ok (.iadd, 1) := by decide +kernel
theorem dX7_asksOn_33 : decode cX7_asksOn 33 = .ok (.aload_n 0, 1) := by decide +kernel
theorem dX7_asksOn_34 : decode cX7_asksOn 34 = .ok (.getfield 7, 3) := by decide +kernel
theorem dX7_asksOn_37 : decode cX7_asksOn 37 = .ok (.iload_n 1, 1) := by decide +kernel
theorem dX7_asksOn_38 : decode cX7_asksOn 38 = .ok (.iload 4, 2) := by decide +kernel
theorem dX7_asksOn_40 : decode cX7_asksOn 40 = .ok (.iadd, 1) := by decide +kernel
theorem dX7_asksOn_41 : decode cX7_asksOn 41 = .ok (.iaload, 1) := by decide +kernel
theorem dX7_asksOn_42 : decode cX7_asksOn 42 = .ok (.iconst 2, 1) := by decide +kernel
theorem dX7_asksOn_43 : decode cX7_asksOn 43 = .ok (.if_icmp .ne 12, 3) := by decide +kernel
theorem dX7_asksOn_46 : decode cX7_asksOn 46 = .ok (.iload 5, 2) := by decide +kernel
theorem dX7_asksOn_48 : decode cX7_asksOn 48 = .ok (.ifCond .le 7, 3) := by decide +kernel
theorem dX7_asksOn_51 : decode cX7_asksOn 51 = .ok (.iconst 1, 1) := by decide +kernel
theorem dX7_asksOn_52 : decode cX7_asksOn 52 = .ok (.goto 4, 3) := by decide +kernel
theorem dX7_asksOn_55 : decode cX7_asksOn 55 = .ok (.iconst 0, 1) := by decide +kernel
theorem dX7_asksOn_56 : decode cX7_asksOn 56 = .ok (.iadd, 1) := by decide +kernel
theorem dX7_asksOn_57 : decode cX7_asksOn 57 = .ok (.istore 6, 2) := by decide +kernel
theorem dX7_asksOn_59 : decode cX7_asksOn 59 = .ok (.aload_n 0, 1) := by decide +kernel
theorem dX7_asksOn_60 : decode cX7_asksOn 60 = .ok (.getfield 7, 3) := by decide +kernel
theorem dX7_asksOn_63 : decode cX7_asksOn 63 = .ok (.iload_n 1, 1) := by decide +kernel
theorem dX7_asksOn_64 : decode cX7_asksOn 64 = .ok (.iconst 4, 1) := by decide +kernel
theorem dX7_asksOn_65 : decode cX7_asksOn 65 = .ok (.iadd, 1) := by decide +kernel
theorem dX7_asksOn_66 : decode cX7_asksOn 66 = .ok (.iload 4, 2) := by decide +kernel
theorem dX7_asksOn_68 : decode cX7_asksOn 68 = .ok (.iadd, 1) := by decide +kernel
theorem dX7_asksOn_69 : decode cX7_asksOn 69 = .ok (.iaload, 1) := by decide +kernel
theorem dX7_asksOn_70 : decode cX7_asksOn 70 = .ok (.iload 6, 2) := by decide +kernel
theorem dX7_asksOn_72 : decode cX7_asksOn 72 = .ok (.iadd, 1) := by decide +kernel
theorem dX7_asksOn_73 : decode cX7_asksOn 73 = .ok (.istore 7, 2) := by decide +kernel
theorem dX7_asksOn_75 : decode cX7_asksOn 75 = .ok (.aload_n 0, 1) := by decide +kernel
theorem dX7_asksOn_76 : decode cX7_asksOn 76 = .ok (.getfield 7, 3) := by decide +kernel
theorem dX7_asksOn_79 : decode cX7_asksOn 79 = .ok (.iload_n 1, 1) := by decide +kernel
theorem dX7_asksOn_80 : decode cX7_asksOn 80 = .ok (.iconst 4, 1) := by decide +kernel
theorem dX7_asksOn_81 : decode cX7_asksOn 81 = .ok (.iadd, 1) := by decide +kernel
theorem dX7_asksOn_82 : decode cX7_asksOn 82 = .ok (.iload 4, 2) := by decide +kernel
theorem dX7_asksOn_84 : decode cX7_asksOn 84 = .ok (.iadd, 1) := by decide +kernel
theorem dX7_asksOn_85 : decode cX7_asksOn 85 = .ok (.iload 7, 2) := by decide +kernel
theorem dX7_asksOn_87 : decode cX7_asksOn 87 = .ok (.ldc 148, 2) := by decide +kernel
theorem dX7_asksOn_89 : decode cX7_asksOn 89 = .ok (.if_icmp .le 8, 3) := by decide +kernel
theorem dX7_asksOn_92 : decode cX7_asksOn 92 = .ok (.ldc 148, 2) := by decide +kernel
theorem dX7_asksOn_94 : decode cX7_asksOn 94 = .ok (.goto 5, 3) := by decide +kernel
theorem dX7_asksOn_97 : decode cX7_asksOn 97 = .ok (.iload 7, 2) := by decide +kernel
theorem dX7_asksOn_99 : decode cX7_asksOn 99 = .ok (.iastore, 1) := by decide +kernel
theorem dX7_asksOn_100 : decode cX7_asksOn 100 = .ok (.iload_n 1, 1) := by decide +kernel
theorem dX7_asksOn_101 : decode cX7_asksOn 101 = .ok (.bipush 51, 2) := by decide +kernel
theorem dX7_asksOn_103 : decode cX7_asksOn 103 = .ok (.iadd, 1) := by decide +kernel
theorem dX7_asksOn_104 : decode cX7_asksOn 104 = .ok (.bipush 6, 2) := by decide +kernel
theorem dX7_asksOn_106 : decode cX7_asksOn 106 = .ok (.iload 4, 2) := by decide +kernel
theorem dX7_asksOn_108 : decode cX7_asksOn 108 = .ok (.imul, 1) := by decide +kernel
theorem dX7_asksOn_109 : decode cX7_asksOn 109 = .ok (.iadd, 1) := by decide +kernel
theorem dX7_asksOn_110 : decode cX7_asksOn 110 = .ok (.iload_n 2, 1) := by decide +kernel
theorem dX7_asksOn_111 : decode cX7_asksOn 111 = .ok (.iadd, 1) := by decide +kernel
theorem dX7_asksOn_112 : decode cX7_asksOn 112 = .ok (.istore 8, 2) := by decide +kernel
theorem dX7_asksOn_114 : decode cX7_asksOn 114 = .ok (.aload_n 0, 1) := by decide +kernel
theorem dX7_asksOn_115 : decode cX7_asksOn 115 = .ok (.getfield 7, 3) := by decide +kernel
theorem dX7_asksOn_118 : decode cX7_asksOn 118 = .ok (.iload 8, 2) := by decide +kernel
theorem dX7_asksOn_120 : decode cX7_asksOn 120 = .ok (.dup2, 1) := by decide +kernel
theorem dX7_asksOn_121 : decode cX7_asksOn 121 = .ok (.iaload, 1) := by decide +kernel
theorem dX7_asksOn_122 : decode cX7_asksOn 122 = .ok (.aload_n 0, 1) := by decide +kernel
theorem dX7_asksOn_123 : decode cX7_asksOn 123 = .ok (.getfield 7, 3) := by decide +kernel
theorem dX7_asksOn_126 : decode cX7_asksOn 126 = .ok (.iload 8, 2) := by decide +kernel
theorem dX7_asksOn_128 : decode cX7_asksOn 128 = .ok (.iaload, 1) := by decide +kernel
theorem dX7_asksOn_129 : decode cX7_asksOn 129 = .ok (.bipush 99, 2) := by decide +kernel
theorem dX7_asksOn_131 : decode cX7_asksOn 131 = .ok (.if_icmp .ge 7, 3) := by decide +kernel
theorem dX7_asksOn_134 : decode cX7_asksOn 134 = .ok (.iconst 1, 1) := by decide +kernel
theorem dX7_asksOn_135 : decode cX7_asksOn 135 = .ok (.goto 4, 3) := by decide +kernel
theorem dX7_asksOn_138 : decode cX7_asksOn 138 = .ok (.iconst 0, 1) := by decide +kernel
theorem dX7_asksOn_139 : decode cX7_asksOn 139 = .ok (.iadd, 1) := by decide +kernel
theorem dX7_asksOn_140 : decode cX7_asksOn 140 = .ok (.iastore, 1) := by decide +kernel
theorem dX7_asksOn_141 : decode cX7_asksOn 141 = .ok (.aload_n 0, 1) := by decide +kernel
theorem dX7_asksOn_142 : decode cX7_asksOn 142 = .ok (.iload_n 1, 1) := by decide +kernel
theorem dX7_asksOn_143 : decode cX7_asksOn 143 = .ok (.iload 4, 2) := by decide +kernel
theorem dX7_asksOn_145 : decode cX7_asksOn 145 = .ok (.iload 5, 2) := by decide +kernel
theorem dX7_asksOn_147 : decode cX7_asksOn 147 = .ok (.invokevirtual 149, 3) := by decide +kernel
theorem dX7_asksOn_150 : decode cX7_asksOn 150 = .ok (.istore 9, 2) := by decide +kernel
theorem dX7_asksOn_152 : decode cX7_asksOn 152 = .ok (.aload_n 0, 1) := by decide +kernel
theorem dX7_asksOn_153 : decode cX7_asksOn 153 = .ok (.iload_n 1, 1) := by decide +kernel
theorem dX7_asksOn_154 : decode cX7_asksOn 154 = .ok (.iload 4, 2) := by decide +kernel
theorem dX7_asksOn_156 : decode cX7_asksOn 156 = .ok (.iload 5, 2) := by decide +kernel
theorem dX7_asksOn_158 : decode cX7_asksOn 158 = .ok (.iload 9, 2) := by decide +kernel
theorem dX7_asksOn_160 : decode cX7_asksOn 160 = .ok (.invokevirtual 152, 3) := by decide +kernel
theorem dX7_asksOn_163 : decode cX7_asksOn 163 = .ok (.aload_n 0, 1) := by decide +kernel
theorem dX7_asksOn_164 : decode cX7_asksOn 164 = .ok (.getfield 29, 3) := by decide +kernel
theorem dX7_asksOn_167 : decode cX7_asksOn 167 = .ok (.iload 4, 2) := by decide +kernel
theorem dX7_asksOn_169 : decode cX7_asksOn 169 = .ok (.dup2, 1) := by decide +kernel
theorem dX7_asksOn_170 : decode cX7_asksOn 170 = .ok (.iaload, 1) := by decide +kernel
theorem dX7_asksOn_171 : decode cX7_asksOn 171 = .ok (.iload 6, 2) := by decide +kernel
theorem dX7_asksOn_173 : decode cX7_asksOn 173 = .ok (.iadd, 1) := by decide +kernel
theorem dX7_asksOn_174 : decode cX7_asksOn 174 = .ok (.iastore, 1) := by decide +kernel
theorem dX7_asksOn_175 : decode cX7_asksOn 175 = .ok (.aload_n 0, 1) := by decide +kernel
theorem dX7_asksOn_176 : decode cX7_asksOn 176 = .ok (.iload 6, 2) := by decide +kernel
theorem dX7_asksOn_178 : decode cX7_asksOn 178 = .ok (.aload_n 0, 1) := by decide +kernel
theorem dX7_asksOn_179 : decode cX7_asksOn 179 = .ok (.getfield 138, 3) := by decide +kernel
theorem dX7_asksOn_182 : decode cX7_asksOn 182 = .ok (.if_icmp .le 8, 3) := by decide +kernel
theorem dX7_asksOn_185 : decode cX7_asksOn 185 = .ok (.iload 6, 2) := by decide +kernel
theorem dX7_asksOn_187 : decode cX7_asksOn 187 = .ok (.goto 7, 3) := by decide +kernel
theorem dX7_asksOn_190 : decode cX7_asksOn 190 = .ok (.aload_n 0, 1) := by decide +kernel
theorem dX7_asksOn_191 : decode cX7_asksOn 191 = .ok (.getfield 138, 3) := by decide +kernel
theorem dX7_asksOn_194 : decode cX7_asksOn 194 = .ok (.putfield 138, 3) := by decide +kernel
theorem dX7_asksOn_197 : decode cX7_asksOn 197 = .ok (.aload_n 0, 1) := by decide +kernel
theorem dX7_asksOn_198 : decode cX7_asksOn 198 = .ok (.dup, 1) := by decide +kernel
theorem dX7_asksOn_199 : decode cX7_asksOn 199 = .ok (.getfield 141, 3) := by decide +kernel
theorem dX7_asksOn_202 : decode cX7_asksOn 202 = .ok (.iload 9, 2) := by decide +kernel
theorem dX7_asksOn_204 : decode cX7_asksOn 204 = .ok (.iload 5, 2) := by decide +kernel
theorem dX7_asksOn_206 : decode cX7_asksOn 206 = .ok (.if_icmp .ne 7, 3) := by decide +kernel
theorem dX7_asksOn_209 : decode cX7_asksOn 209 = .ok (.iconst 0, 1) := by decide +kernel
theorem dX7_asksOn_210 : decode cX7_asksOn 210 = .ok (.goto 4, 3) := by decide +kernel
theorem dX7_asksOn_213 : decode cX7_asksOn 213 = .ok (.iconst 1, 1) := by decide +kernel
theorem dX7_asksOn_214 : decode cX7_asksOn 214 = .ok (.iadd, 1) := by decide +kernel
theorem dX7_asksOn_215 : decode cX7_asksOn 215 = .ok (.putfield 141, 3) := by decide +kernel
theorem dX7_asksOn_218 : decode cX7_asksOn 218 = .ok (.iload_n 3, 1) := by decide +kernel
theorem dX7_asksOn_219 : decode cX7_asksOn 219 = .ok (.iload 6, 2) := by decide +kernel
theorem dX7_asksOn_221 : decode cX7_asksOn 221 = .ok (.iadd, 1) := by decide +kernel
theorem dX7_asksOn_222 : decode cX7_asksOn 222 = .ok (.istore_n 3, 1) := by decide +kernel
theorem dX7_asksOn_223 : decode cX7_asksOn 223 = .ok (.iinc 4 1, 3) := by decide +kernel
theorem dX7_asksOn_226 : decode cX7_asksOn 226 = .ok (.goto (-221), 3) := by decide +kernel
theorem dX7_asksOn_229 : decode cX7_asksOn 229 = .ok (.iload_n 3, 1) := by decide +kernel
theorem dX7_asksOn_230 : decode cX7_asksOn 230 = .ok (.ireturn, 1) := by decide +kernel
theorem dX7_turnOn_0 : decode cX7_turnOn 0 = .ok (.aload_n 0, 1) := by decide +kernel
theorem dX7_turnOn_1 : decode cX7_turnOn 1 = .ok (.getfield 7, 3) := by decide +kernel
theorem dX7_turnOn_4 : decode cX7_turnOn 4 = .ok (.iload_n 1, 1) := by decide +kernel
theorem dX7_turnOn_5 : decode cX7_turnOn 5 = .ok (.bipush 25, 2) := by decide +kernel
theorem dX7_turnOn_7 : decode cX7_turnOn 7 = .ok (.iadd, 1) := by decide +kernel
theorem dX7_turnOn_8 : decode cX7_turnOn 8 = .ok (.iaload, 1) := by decide +kernel
theorem dX7_turnOn_9 : decode cX7_turnOn 9 = .ok (.ifCond .ne 8, 3) := by decide +kernel
theorem dX7_turnOn_12 : decode cX7_turnOn 12 = .ok (.bipush (-4), 2) := by decide +kernel
theorem dX7_turnOn_14 : decode cX7_turnOn 14 = .ok (.goto 22, 3) := by decide +kernel
theorem dX7_turnOn_17 : decode cX7_turnOn 17 = .ok (.aload_n 0, 1) := by decide +kernel
theorem dX7_turnOn_18 : decode cX7_turnOn 18 = .ok (.getfield 7, 3) := by decide +kernel
theorem dX7_turnOn_21 : decode cX7_turnOn 21 = .ok (.iload_n 1, 1) := by decide +kernel
theorem dX7_turnOn_22 : decode cX7_turnOn 22 = .ok (.bipush 26, 2) := by decide +kernel
theorem dX7_turnOn_24 : decode cX7_turnOn 24 = .ok (.iadd, 1) := by decide +kernel
theorem dX7_turnOn_25 : decode cX7_turnOn 25 = .ok (.iaload, 1) := by decide +kernel
theorem dX7_turnOn_26 : decode cX7_turnOn 26 = .ok (.aload_n 0, 1) := by decide +kernel
theorem dX7_turnOn_27 : decode cX7_turnOn 27 = .ok (.getfield 7, 3) := by decide +kernel
theorem dX7_turnOn_30 : decode cX7_turnOn 30 = .ok (.iload_n 1, 1) := by decide +kernel
theorem dX7_turnOn_31 : decode cX7_turnOn 31 = .ok (.bipush 25, 2) := by decide +kernel
theorem dX7_turnOn_33 : decode cX7_turnOn 33 = .ok (.iadd, 1) := by decide +kernel
theorem dX7_turnOn_34 : decode cX7_turnOn 34 = .ok (.iaload, 1) := by decide +kernel
theorem dX7_turnOn_35 : decode cX7_turnOn 35 = .ok (.irem, 1) := by decide +kernel
theorem dX7_turnOn_36 : decode cX7_turnOn 36 = .ok (.ireturn, 1) := by decide +kernel
theorem dX7_stepOn_0 : decode cX7_stepOn 0 = .ok (.aload_n 0, 1) := by decide +kernel
theorem dX7_stepOn_1 : decode cX7_stepOn 1 = .ok (.iload_n 1, 1) := by decide +kernel
theorem dX7_stepOn_2 : decode cX7_stepOn 2 = .ok (.invokevirtual 156, 3) := by decide +kernel
theorem dX7_stepOn_5 : decode cX7_stepOn 5 = .ok (.istore_n 3, 1) := by decide +kernel
theorem dX7_stepOn_6 : decode cX7_stepOn 6 = .ok (.iload_n 3, 1) := by decide +kernel
theorem dX7_stepOn_7 : decode cX7_stepOn 7 = .ok (.bipush (-4), 2) := by decide +kernel
theorem dX7_stepOn_9 : decode cX7_stepOn 9 = .ok (.if_icmp .eq 32, 3) := by decide +kernel
theorem dX7_stepOn_12 : decode cX7_stepOn 12 = .ok (.iload_n 3, 1) := by decide +kernel
theorem dX7_stepOn_13 : decode cX7_stepOn 13 = .ok (.aload_n 0, 1) := by decide +kernel
theorem dX7_stepOn_14 : decode cX7_stepOn 14 = .ok (.getfield 32, 3) := by decide +kernel
theorem dX7_stepOn_17 : decode cX7_stepOn 17 = .ok (.if_icmp .eq 24, 3) := by decide +kernel
theorem dX7_stepOn_20 : decode cX7_stepOn 20 = .ok (.iload_n 2, 1) := by decide +kernel
theorem dX7_stepOn_21 : decode cX7_stepOn 21 = .ok (.ifCond .ne 20, 3) := by decide +kernel
theorem dX7_stepOn_24 : decode cX7_stepOn 24 = .ok (.aload_n 0, 1) := by decide +kernel
theorem dX7_stepOn_25 : decode cX7_stepOn 25 = .ok (.iload_n 1, 1) := by decide +kernel
theorem dX7_stepOn_26 : decode cX7_stepOn 26 = .ok (.aload_n 0, 1) := by decide +kernel
theorem dX7_stepOn_27 : decode cX7_stepOn 27 = .ok (.getfield 7, 3) := by decide +kernel
theorem dX7_stepOn_30 : decode cX7_stepOn 30 = .ok (.iload_n 1, 1) := by decide +kernel
theorem dX7_stepOn_31 : decode cX7_stepOn 31 = .ok (.bipush 9, 2) := by decide +kernel
theorem dX7_stepOn_33 : decode cX7_stepOn 33 = .ok (.iadd, 1) := by decide +kernel
theorem dX7_stepOn_34 : decode cX7_stepOn 34 = .ok (.iload_n 3, 1) := by decide +kernel
theorem dX7_stepOn_35 : decode cX7_stepOn 35 = .ok (.iadd, 1) := by decide +kernel
theorem dX7_stepOn_36 : decode cX7_stepOn 36 = .ok (.iaload, 1) := by decide +kernel
theorem dX7_stepOn_37 : decode cX7_stepOn 37 = .ok (.invokevirtual 159, 3) := by decide +kernel
theorem dX7_stepOn_40 : decode cX7_stepOn 40 = .ok (.pop, 1) := by decide +kernel
theorem dX7_stepOn_41 : decode cX7_stepOn 41 = .ok (.aload_n 0, 1) := by decide +kernel
theorem dX7_stepOn_42 : decode cX7_stepOn 42 = .ok (.getfield 7, 3) := by decide +kernel
theorem dX7_stepOn_45 : decode cX7_stepOn 45 = .ok (.iload_n 1, 1) := by decide +kernel
theorem dX7_stepOn_46 : decode cX7_stepOn 46 = .ok (.bipush 26, 2) := by decide +kernel
theorem dX7_stepOn_48 : decode cX7_stepOn 48 = .ok (.iadd, 1) := by decide +kernel
theorem dX7_stepOn_49 : decode cX7_stepOn 49 = .ok (.dup2, 1) := by decide +kernel
theorem dX7_stepOn_50 : decode cX7_stepOn 50 = .ok (.iaload, 1) := by decide +kernel
theorem dX7_stepOn_51 : decode cX7_stepOn 51 = .ok (.iconst 1, 1) := by decide +kernel
theorem dX7_stepOn_52 : decode cX7_stepOn 52 = .ok (.iadd, 1) := by decide +kernel
theorem dX7_stepOn_53 : decode cX7_stepOn 53 = .ok (.iastore, 1) := by decide +kernel
theorem dX7_stepOn_54 : decode cX7_stepOn 54 = .ok (.return_, 1) := by decide +kernel
theorem dX7_paidAll_0 : decode cX7_paidAll 0 = .ok (.iconst 0, 1) := by decide +kernel
theorem dX7_paidAll_1 : decode cX7_paidAll 1 = .ok (.istore_n 1, 1) := by decide +kernel
theorem dX7_paidAll_2 : decode cX7_paidAll 2 = .ok (.iconst 0, 1) := by decide +kernel
theorem dX7_paidAll_3 : decode cX7_paidAll 3 = .ok (.istore_n 2, 1) := by decide +kernel
theorem dX7_paidAll_4 : decode cX7_paidAll 4 = .ok (.iload_n 2, 1) := by decide +kernel
theorem dX7_paidAll_5 : decode cX7_paidAll 5 = .ok (.iconst 4, 1) := by decide +kernel
theorem dX7_paidAll_6 : decode cX7_paidAll 6 = .ok (.if_icmp .ge 18, 3) := by decide +kernel
theorem dX7_paidAll_9 : decode cX7_paidAll 9 = .ok (.iload_n 1, 1) := by decide +kernel
theorem dX7_paidAll_10 : decode cX7_paidAll 10 = .ok (.aload_n 0, 1) := by decide +kernel
theorem dX7_paidAll_11 : decode cX7_paidAll 11 = .ok (.getfield 29, 3) := by decide +kernel
theorem dX7_paidAll_14 : decode cX7_paidAll 14 = .ok (.iload_n 2, 1) := by decide +kernel
theorem dX7_paidAll_15 : decode cX7_paidAll 15 = .ok (.iaload, 1) := by decide +kernel
theorem dX7_paidAll_16 : decode cX7_paidAll 16 = .ok (.iadd, 1) := by decide +kernel
theorem dX7_paidAll_17 : decode cX7_paidAll 17 = .ok (.istore_n 1, 1) := by decide +kernel
theorem dX7_paidAll_18 : decode cX7_paidAll 18 = .ok (.iinc 2 1, 3) := by decide +kernel
theorem dX7_paidAll_21 : decode cX7_paidAll 21 = .ok (.goto (-17), 3) := by decide +kernel
theorem dX7_paidAll_24 : decode cX7_paidAll 24 = .ok (.iload_n 1, 1) := by decide +kernel
theorem dX7_paidAll_25 : decode cX7_paidAll 25 = .ok (.ireturn, 1) := by decide +kernel
theorem dX7_cheapest_0 : decode cX7_cheapest 0 = .ok (.bipush (-4), 2) := by decide +kernel
theorem dX7_cheapest_2 : decode cX7_cheapest 2 = .ok (.istore_n 1, 1) := by decide +kernel
theorem dX7_cheapest_3 : decode cX7_cheapest 3 = .ok (.iconst 0, 1) := by decide +kernel
theorem dX7_cheapest_4 : decode cX7_cheapest 4 = .ok (.istore_n 2, 1) := by decide +kernel
theorem dX7_cheapest_5 : decode cX7_cheapest 5 = .ok (.iload_n 2, 1) := by decide +kernel
theorem dX7_cheapest_6 : decode cX7_cheapest 6 = .ok (.aload_n 0, 1) := by decide +kernel
theorem dX7_cheapest_7 : decode cX7_cheapest 7 = .ok (.getfield 7, 3) := by decide +kernel
theorem dX7_cheapest_10 : decode cX7_cheapest 10 = .ok (.bipush 8, 2) := by decide +kernel
theorem dX7_cheapest_12 : decode cX7_cheapest 12 = .ok (.iaload, 1) := by decide +kernel
theorem dX7_cheapest_13 : decode cX7_cheapest 13 = .ok (.if_icmp .ge 36, 3) := by decide +kernel
theorem dX7_cheapest_16 : decode cX7_cheapest 16 = .ok (.iload_n 1, 1) := by decide +kernel
theorem dX7_cheapest_17 : decode cX7_cheapest 17 = .ok (.bipush (-4), 2) := by decide +kernel
theorem dX7_cheapest_19 : decode cX7_cheapest 19 = .ok (.if_icmp .eq 18, 3) := by decide +kernel
theorem dX7_cheapest_22 : decode cX7_cheapest 22 = .ok (.aload_n 0, 1) := by decide +kernel
theorem dX7_cheapest_23 : decode cX7_cheapest 23 = .ok (.getfield 29, 3) := by decide +kernel
theorem dX7_cheapest_26 : decode cX7_cheapest 26 = .ok (.iload_n 2, 1) := by decide +kernel
theorem dX7_cheapest_27 : decode cX7_cheapest 27 = .ok (.iaload, 1) := by decide +kernel
theorem dX7_cheapest_28 : decode cX7_cheapest 28 = .ok (.aload_n 0, 1) := by decide +kernel
theorem dX7_cheapest_29 : decode cX7_cheapest 29 = .ok (.getfield 29, 3) := by decide +kernel
theorem dX7_cheapest_32 : decode cX7_cheapest 32 = .ok (.iload_n 1, 1) := by decide +kernel
theorem dX7_cheapest_33 : decode cX7_cheapest 33 = .ok (.iaload, 1) := by decide +kernel
theorem dX7_cheapest_34 : decode cX7_cheapest 34 = .ok (.if_icmp .ge 7, 3) := by decide +kernel
theorem dX7_cheapest_37 : decode cX7_cheapest 37 = .ok (.iload_n 2, 1) := by decide +kernel
theorem dX7_cheapest_38 : decode cX7_cheapest 38 = .ok (.goto 4, 3) := by decide +kernel
theorem dX7_cheapest_41 : decode cX7_cheapest 41 = .ok (.iload_n 1, 1) := by decide +kernel
theorem dX7_cheapest_42 : decode cX7_cheapest 42 = .ok (.istore_n 1, 1) := by decide +kernel
theorem dX7_cheapest_43 : decode cX7_cheapest 43 = .ok (.iinc 2 1, 3) := by decide +kernel
theorem dX7_cheapest_46 : decode cX7_cheapest 46 = .ok (.goto (-41), 3) := by decide +kernel
theorem dX7_cheapest_49 : decode cX7_cheapest 49 = .ok (.iload_n 1, 1) := by decide +kernel
theorem dX7_cheapest_50 : decode cX7_cheapest 50 = .ok (.ireturn, 1) := by decide +kernel
theorem dX7_rule_0 : decode cX7_rule 0 = .ok (.bipush (-4), 2) := by decide +kernel
theorem dX7_rule_2 : decode cX7_rule 2 = .ok (.istore_n 2, 1) := by decide +kernel
theorem dX7_rule_3 : decode cX7_rule 3 = .ok (.iconst 0, 1) := by decide +kernel
theorem dX7_rule_4 : decode cX7_rule 4 = .ok (.istore_n 3, 1) := by decide +kernel
theorem dX7_rule_5 : decode cX7_rule 5 = .ok (.iload_n 3, 1) := by decide +kernel
theorem dX7_rule_6 : decode cX7_rule 6 = .ok (.aload_n 0, 1) := by decide +kernel
theorem dX7_rule_7 : decode cX7_rule 7 = .ok (.getfield 7, 3) := by decide +kernel
theorem dX7_rule_10 : decode cX7_rule 10 = .ok (.bipush 8, 2) := by decide +kernel
theorem dX7_rule_12 : decode cX7_rule 12 = .ok (.iaload, 1) := by decide +kernel
theorem dX7_rule_13 : decode cX7_rule 13 = .ok (.if_icmp .ge 40, 3) := by decide +kernel
theorem dX7_rule_16 : decode cX7_rule 16 = .ok (.iload_n 2, 1) := by decide +kernel
theorem dX7_rule_17 : decode cX7_rule 17 = .ok (.bipush (-4), 2) := by decide +kernel
theorem dX7_rule_19 : decode cX7_rule 19 = .ok (.if_icmp .eq 22, 3) := by decide +kernel
theorem dX7_rule_22 : decode cX7_rule 22 = .ok (.aload_n 0, 1) := by decide +kernel
theorem dX7_rule_23 : decode cX7_rule 23 = .ok (.getfield 7, 3) := by decide +kernel
theorem dX7_rule_26 : decode cX7_rule 26 = .ok (.iconst 4, 1) := by decide +kernel
theorem dX7_rule_27 : decode cX7_rule 27 = .ok (.iload_n 3, 1) := by decide +kernel
theorem dX7_rule_28 : decode cX7_rule 28 = .ok (.iadd, 1) := by decide +kernel
theorem dX7_rule_29 : decode cX7_rule 29 = .ok (.iaload, 1) := by decide +kernel
theorem dX7_rule_30 : decode cX7_rule 30 = .ok (.aload_n 0, 1) := by decide +kernel
theorem dX7_rule_31 : decode cX7_rule 31 = .ok (.getfield 7, 3) := by decide +kernel
theorem dX7_rule_34 : decode cX7_rule 34 = .ok (.iconst 4, 1) := by decide +kernel
theorem dX7_rule_35 : decode cX7_rule 35 = .ok (.iload_n 2, 1) := by decide +kernel
theorem dX7_rule_36 : decode cX7_rule 36 = .ok (.iadd, 1) := by decide +kernel
theorem dX7_rule_37 : decode cX7_rule 37 = .ok (.iaload, 1) := by decide +kernel
theorem dX7_rule_38 : decode cX7_rule 38 = .ok (.if_icmp .ge 7, 3) := by decide +kernel
theorem dX7_rule_41 : decode cX7_rule 41 = .ok (.iload_n 3, 1) := by decide +kernel
theorem dX7_rule_42 : decode cX7_rule 42 = .ok (.goto 4, 3) := by decide +kernel
theorem dX7_rule_45 : decode cX7_rule 45 = .ok (.iload_n 2, 1) := by decide +kernel
theorem dX7_rule_46 : decode cX7_rule 46 = .ok (.istore_n 2, 1) := by decide +kernel
theorem dX7_rule_47 : decode cX7_rule 47 = .ok (.iinc 3 1, 3) := by decide +kernel
theorem dX7_rule_50 : decode cX7_rule 50 = .ok (.goto (-45), 3) := by decide +kernel
theorem dX7_rule_53 : decode cX7_rule 53 = .ok (.iload_n 1, 1) := by decide +kernel
theorem dX7_rule_54 : decode cX7_rule 54 = .ok (.tableswitch 75 0 5 #[38, 43, 51, 59, 67, 73], 38) := by decide +kernel
theorem dX7_rule_92 : decode cX7_rule 92 = .ok (.aload_n 0, 1) := by decide +kernel
theorem dX7_rule_93 : decode cX7_rule 93 = .ok (.getfield 13, 3) := by decide +kernel
theorem dX7_rule_96 : decode cX7_rule 96 = .ok (.ireturn, 1) := by decide +kernel
theorem dX7_rule_97 : decode cX7_rule 97 = .ok (.aload_n 0, 1) := by decide +kernel
theorem dX7_rule_98 : decode cX7_rule 98 = .ok (.getfield 7, 3) := by decide +kernel
theorem dX7_rule_101 : decode cX7_rule 101 = .ok (.bipush 8, 2) := by decide +kernel
theorem dX7_rule_103 : decode cX7_rule 103 = .ok (.iaload, 1) := by decide +kernel
theorem dX7_rule_104 : decode cX7_rule 104 = .ok (.ireturn, 1) := by decide +kernel
theorem dX7_rule_105 : decode cX7_rule 105 = .ok (.aload_n 0, 1) := by decide +kernel
theorem dX7_rule_106 : decode cX7_rule 106 = .ok (.getfield 7, 3) := by decide +kernel
theorem dX7_rule_109 : decode cX7_rule 109 = .ok (.bipush 25, 2) := by decide +kernel
theorem dX7_rule_111 : decode cX7_rule 111 = .ok (.iaload, 1) := by decide +kernel
theorem dX7_rule_112 : decode cX7_rule 112 = .ok (.ireturn, 1) := by decide +kernel
theorem dX7_rule_113 : decode cX7_rule 113 = .ok (.aload_n 0, 1) := by decide +kernel
theorem dX7_rule_114 : decode cX7_rule 114 = .ok (.getfield 7, 3) := by decide +kernel
theorem dX7_rule_117 : decode cX7_rule 117 = .ok (.bipush 26, 2) := by decide +kernel
theorem dX7_rule_119 : decode cX7_rule 119 = .ok (.iaload, 1) := by decide +kernel
theorem dX7_rule_120 : decode cX7_rule 120 = .ok (.ireturn, 1) := by decide +kernel
theorem dX7_rule_121 : decode cX7_rule 121 = .ok (.aload_n 0, 1) := by decide +kernel
theorem dX7_rule_122 : decode cX7_rule 122 = .ok (.iconst 0, 1) := by decide +kernel
theorem dX7_rule_123 : decode cX7_rule 123 = .ok (.invokevirtual 156, 3) := by decide +kernel
theorem dX7_rule_126 : decode cX7_rule 126 = .ok (.ireturn, 1) := by decide +kernel
theorem dX7_rule_127 : decode cX7_rule 127 = .ok (.iload_n 2, 1) := by decide +kernel
theorem dX7_rule_128 : decode cX7_rule 128 = .ok (.ireturn, 1) := by decide +kernel
theorem dX7_rule_129 : decode cX7_rule 129 = .ok (.iconst (-1), 1) := by decide +kernel
theorem dX7_rule_130 : decode cX7_rule 130 = .ok (.ireturn, 1) := by decide +kernel
theorem dX7_shelf_0 : decode cX7_shelf 0 = .ok (.aload_n 0, 1) := by decide +kernel
theorem dX7_shelf_1 : decode cX7_shelf 1 = .ok (.iload_n 1, 1) := by decide +kernel
theorem dX7_shelf_2 : decode cX7_shelf 2 = .ok (.invokevirtual 162, 3) := by decide +kernel
theorem dX7_shelf_5 : decode cX7_shelf 5 = .ok (.ifCond .ne 5, 3) := by decide +kernel
theorem dX7_shelf_8 : decode cX7_shelf 8 = .ok (.iconst (-1), 1) := by decide +kernel
theorem dX7_shelf_9 : decode cX7_shelf 9 = .ok (.ireturn, 1) := by decide +kernel
theorem dX7_shelf_10 : decode cX7_shelf 10 = .ok (.iload_n 2, 1) := by decide +kernel
theorem dX7_shelf_11 : decode cX7_shelf 11 = .ok (.ifCond .eq 8, 3) := by decide +kernel
theorem dX7_shelf_14 : decode cX7_shelf 14 = .ok (.iload_n 2, 1) := by decide +kernel
theorem dX7_shelf_15 : decode cX7_shelf 15 = .ok (.iconst 1, 1) := by decide +kernel
theorem dX7_shelf_16 : decode cX7_shelf 16 = .ok (.if_icmp .ne 14, 3) := by decide +kernel
theorem dX7_shelf_19 : decode cX7_shelf 19 = .ok (.aload_n 0, 1) := by decide +kernel
theorem dX7_shelf_20 : decode cX7_shelf 20 = .ok (.getfield 7, 3) := by decide +kernel
theorem dX7_shelf_23 : decode cX7_shelf 23 = .ok (.iconst 4, 1) := by decide +kernel
theorem dX7_shelf_24 : decode cX7_shelf 24 = .ok (.iload_n 2, 1) := by decide +kernel
theorem dX7_shelf_25 : decode cX7_shelf 25 = .ok (.imul, 1) := by decide +kernel
theorem dX7_shelf_26 : decode cX7_shelf 26 = .ok (.iload_n 1, 1) := by decide +kernel
theorem dX7_shelf_27 : decode cX7_shelf 27 = .ok (.iadd, 1) := by decide +kernel
theorem dX7_shelf_28 : decode cX7_shelf 28 = .ok (.iaload, 1) := by decide +kernel
theorem dX7_shelf_29 : decode cX7_shelf 29 = .ok (.ireturn, 1) := by decide +kernel
theorem dX7_shelf_30 : decode cX7_shelf 30 = .ok (.aload_n 0, 1) := by decide +kernel
theorem dX7_shelf_31 : decode cX7_shelf 31 = .ok (.iload_n 2, 1) := by decide +kernel
theorem dX7_shelf_32 : decode cX7_shelf 32 = .ok (.bipush 10, 2) := by decide +kernel
theorem dX7_shelf_34 : decode cX7_shelf 34 = .ok (.isub, 1) := by decide +kernel
theorem dX7_shelf_35 : decode cX7_shelf 35 = .ok (.invokevirtual 166, 3) := by decide +kernel
theorem dX7_shelf_38 : decode cX7_shelf 38 = .ok (.ifCond .eq 21, 3) := by decide +kernel
theorem dX7_shelf_41 : decode cX7_shelf 41 = .ok (.aload_n 0, 1) := by decide +kernel
theorem dX7_shelf_42 : decode cX7_shelf 42 = .ok (.getfield 7, 3) := by decide +kernel
theorem dX7_shelf_45 : decode cX7_shelf 45 = .ok (.bipush 27, 2) := by decide +kernel
theorem dX7_shelf_47 : decode cX7_shelf 47 = .ok (.bipush 6, 2) := by decide +kernel
theorem dX7_shelf_49 : decode cX7_shelf 49 = .ok (.iload_n 1, 1) := by decide +kernel
theorem dX7_shelf_50 : decode cX7_shelf 50 = .ok (.imul, 1) := by decide +kernel
theorem dX7_shelf_51 : decode cX7_shelf 51 = .ok (.iadd, 1) := by decide +kernel
theorem dX7_shelf_52 : decode cX7_shelf 52 = .ok (.iload_n 2, 1) := by decide +kernel
theorem dX7_shelf_53 : decode cX7_shelf 53 = .ok (.iadd, 1) := by decide +kernel
theorem dX7_shelf_54 : decode cX7_shelf 54 = .ok (.bipush 10, 2) := by decide +kernel
theorem dX7_shelf_56 : decode cX7_shelf 56 = .ok (.isub, 1) := by decide +kernel
theorem dX7_shelf_57 : decode cX7_shelf 57 = .ok (.iaload, 1) := by decide +kernel
theorem dX7_shelf_58 : decode cX7_shelf 58 = .ok (.ireturn, 1) := by decide +kernel
theorem dX7_shelf_59 : decode cX7_shelf 59 = .ok (.aload_n 0, 1) := by decide +kernel
theorem dX7_shelf_60 : decode cX7_shelf 60 = .ok (.iload_n 2, 1) := by decide +kernel
theorem dX7_shelf_61 : decode cX7_shelf 61 = .ok (.bipush 20, 2) := by decide +kernel
theorem dX7_shelf_63 : decode cX7_shelf 63 = .ok (.isub, 1) := by decide +kernel
theorem dX7_shelf_64 : decode cX7_shelf 64 = .ok (.invokevirtual 166, 3) := by decide +kernel
theorem dX7_shelf_67 : decode cX7_shelf 67 = .ok (.ifCond .eq 23, 3) := by decide +kernel
theorem dX7_shelf_70 : decode cX7_shelf 70 = .ok (.aload_n 0, 1) := by decide +kernel
theorem dX7_shelf_71 : decode cX7_shelf 71 = .ok (.getfield 7, 3) := by decide +kernel
theorem dX7_shelf_74 : decode cX7_shelf 74 = .ok (.bipush 51, 2) := by decide +kernel
theorem dX7_shelf_76 : decode cX7_shelf 76 = .ok (.bipush 6, 2) := by decide +kernel
theorem dX7_shelf_78 : decode cX7_shelf 78 = .ok (.iload_n 1, 1) := by decide +kernel
theorem dX7_shelf_79 : decode cX7_shelf 79 = .ok (.imul, 1) := by decide +kernel
theorem dX7_shelf_80 : decode cX7_shelf 80 = .ok (.iadd, 1) := by decide +kernel
theorem dX7_shelf_81 : decode cX7_shelf 81 = .ok (.iload_n 2, 1) := by decide +kernel
theorem dX7_shelf_82 : decode cX7_shelf 82 = .ok (.iadd, 1) := by decide +kernel
theorem dX7_shelf_83 : decode cX7_shelf 83 = .ok (.bipush 20, 2) := by decide +kernel
theorem dX7_shelf_85 : decode cX7_shelf 85 = .ok (.isub, 1) := by decide +kernel
theorem dX7_shelf_86 : decode cX7_shelf 86 = .ok (.iaload, 1) := by decide +kernel
theorem dX7_shelf_87 : decode cX7_shelf 87 = .ok (.goto 4, 3) := by decide +kernel
theorem dX7_shelf_90 : decode cX7_shelf 90 = .ok (.iconst (-1), 1) := by decide +kernel
theorem dX7_shelf_91 : decode cX7_shelf 91 = .ok (.ireturn, 1) := by decide +kernel
theorem dX7_place_0 : decode cX7_place 0 = .ok (.aload_n 0, 1) := by decide +kernel
theorem dX7_place_1 : decode cX7_place 1 = .ok (.iload_n 1, 1) := by decide +kernel
theorem dX7_place_2 : decode cX7_place 2 = .ok (.invokevirtual 162, 3) := by decide +kernel
theorem dX7_place_5 : decode cX7_place 5 = .ok (.ifCond .eq 21, 3) := by decide +kernel
theorem dX7_place_8 : decode cX7_place 8 = .ok (.aload_n 0, 1) := by decide +kernel
theorem dX7_place_9 : decode cX7_place 9 = .ok (.iload_n 2, 1) := by decide +kernel
theorem dX7_place_10 : decode cX7_place 10 = .ok (.invokevirtual 166, 3) := by decide +kernel
theorem dX7_place_13 : decode cX7_place 13 = .ok (.ifCond .eq 13, 3) := by decide +kernel
theorem dX7_place_16 : decode cX7_place 16 = .ok (.aload_n 0, 1) := by decide +kernel
theorem dX7_place_17 : decode cX7_place 17 = .ok (.iconst 0, 1) := by decide +kernel
theorem dX7_place_18 : decode cX7_place 18 = .ok (.iload_n 1, 1) := by decide +kernel
theorem dX7_place_19 : decode cX7_place 19 = .ok (.iload_n 2, 1) := by decide +kernel
theorem dX7_place_20 : decode cX7_place 20 = .ok (.invokevirtual 144, 3) := by decide +kernel
theorem dX7_place_23 : decode cX7_place 23 = .ok (.goto 4, 3) := by decide +kernel
theorem dX7_place_26 : decode cX7_place 26 = .ok (.iconst (-1), 1) := by decide +kernel
theorem dX7_place_27 : decode cX7_place 27 = .ok (.ireturn, 1) := by decide +kernel
theorem dX7_want_0 : decode cX7_want 0 = .ok (.aload_n 0, 1) := by decide +kernel
theorem dX7_want_1 : decode cX7_want 1 = .ok (.iload_n 1, 1) := by decide +kernel
theorem dX7_want_2 : decode cX7_want 2 = .ok (.invokevirtual 169, 3) := by decide +kernel
theorem dX7_want_5 : decode cX7_want 5 = .ok (.ifCond .eq 15, 3) := by decide +kernel
theorem dX7_want_8 : decode cX7_want 8 = .ok (.aload_n 0, 1) := by decide +kernel
theorem dX7_want_9 : decode cX7_want 9 = .ok (.getfield 7, 3) := by decide +kernel
theorem dX7_want_12 : decode cX7_want 12 = .ok (.bipush 9, 2) := by decide +kernel
theorem dX7_want_14 : decode cX7_want 14 = .ok (.iload_n 1, 1) := by decide +kernel
theorem dX7_want_15 : decode cX7_want 15 = .ok (.iadd, 1) := by decide +kernel
theorem dX7_want_16 : decode cX7_want 16 = .ok (.iaload, 1) := by decide +kernel
theorem dX7_want_17 : decode cX7_want 17 = .ok (.goto 4, 3) := by decide +kernel
theorem dX7_want_20 : decode cX7_want 20 = .ok (.iconst (-1), 1) := by decide +kernel
theorem dX7_want_21 : decode cX7_want 21 = .ok (.ireturn, 1) := by decide +kernel
theorem dX7_puts_0 : decode cX7_puts 0 = .ok (.iload_n 1, 1) := by decide +kernel
theorem dX7_puts_1 : decode cX7_puts 1 = .ok (.ifCond .ne 5, 3) := by decide +kernel
theorem dX7_puts_4 : decode cX7_puts 4 = .ok (.iconst (-1), 1) := by decide +kernel
theorem dX7_puts_5 : decode cX7_puts 5 = .ok (.ireturn, 1) := by decide +kernel
theorem dX7_puts_6 : decode cX7_puts 6 = .ok (.aload_n 0, 1) := by decide +kernel
theorem dX7_puts_7 : decode cX7_puts 7 = .ok (.getfield 7, 3) := by decide +kernel
theorem dX7_puts_10 : decode cX7_puts 10 = .ok (.iload_n 2, 1) := by decide +kernel
theorem dX7_puts_11 : decode cX7_puts 11 = .ok (.iaload, 1) := by decide +kernel
theorem dX7_puts_12 : decode cX7_puts 12 = .ok (.istore 4, 2) := by decide +kernel
theorem dX7_puts_14 : decode cX7_puts 14 = .ok (.aload_n 0, 1) := by decide +kernel
theorem dX7_puts_15 : decode cX7_puts 15 = .ok (.getfield 7, 3) := by decide +kernel
theorem dX7_puts_18 : decode cX7_puts 18 = .ok (.iload_n 2, 1) := by decide +kernel
theorem dX7_puts_19 : decode cX7_puts 19 = .ok (.iload_n 3, 1) := by decide +kernel
theorem dX7_puts_20 : decode cX7_puts 20 = .ok (.iastore, 1) := by decide +kernel
theorem dX7_puts_21 : decode cX7_puts 21 = .ok (.iload 4, 2) := by decide +kernel
theorem dX7_puts_23 : decode cX7_puts 23 = .ok (.ireturn, 1) := by decide +kernel
theorem dX7_alter_0 : decode cX7_alter 0 = .ok (.aload_n 0, 1) := by decide +kernel
theorem dX7_alter_1 : decode cX7_alter 1 = .ok (.aload_n 0, 1) := by decide +kernel
theorem dX7_alter_2 : decode cX7_alter 2 = .ok (.iload_n 1, 1) := by decide +kernel
theorem dX7_alter_3 : decode cX7_alter 3 = .ok (.invokevirtual 162, 3) := by decide +kernel
theorem dX7_alter_6 : decode cX7_alter 6 = .ok (.ifCond .eq 19, 3) := by decide +kernel
theorem dX7_alter_9 : decode cX7_alter 9 = .ok (.iload_n 2, 1) := by decide +kernel
theorem dX7_alter_10 : decode cX7_alter 10 = .ok (.i2l, 1) := by decide +kernel
theorem dX7_alter_11 : decode cX7_alter 11 = .ok (.lconst 0, 1) := by decide +kernel
theorem dX7_alter_12 : decode cX7_alter 12 = .ok (.ldc2_w 172, 3) := by decide +kernel
theorem dX7_alter_15 : decode cX7_alter 15 = .ok (.invokestatic 56, 3) := by decide +kernel
theorem dX7_alter_18 : decode cX7_alter 18 = .ok (.ifCond .eq 7, 3) := by decide +kernel
theorem dX7_alter_21 : decode cX7_alter 21 = .ok (.iconst 1, 1) := by decide +kernel
theorem dX7_alter_22 : decode cX7_alter 22 = .ok (.goto 4, 3) := by decide +kernel
theorem dX7_alter_25 : decode cX7_alter 25 = .ok (.iconst 0, 1) := by decide +kernel
theorem dX7_alter_26 : decode cX7_alter 26 = .ok (.iload_n 1, 1) := by decide +kernel
theorem dX7_alter_27 : decode cX7_alter 27 = .ok (.iload_n 2, 1) := by decide +kernel
theorem dX7_alter_28 : decode cX7_alter 28 = .ok (.invokevirtual 174, 3) := by decide +kernel
theorem dX7_alter_31 : decode cX7_alter 31 = .ok (.ireturn, 1) := by decide +kernel
theorem dX7_put_0 : decode cX7_put 0 = .ok (.iload_n 1, 1) := by decide +kernel
theorem dX7_put_1 : decode cX7_put 1 = .ok (.i2l, 1) := by decide +kernel
theorem dX7_put_2 : decode cX7_put 2 = .ok (.lconst 0, 1) := by decide +kernel
theorem dX7_put_3 : decode cX7_put 3 = .ok (.ldc2_w 172, 3) := by decide +kernel
theorem dX7_put_6 : decode cX7_put 6 = .ok (.invokestatic 56, 3) := by decide +kernel
theorem dX7_put_9 : decode cX7_put 9 = .ok (.ifCond .ne 5, 3) := by decide +kernel
theorem dX7_put_12 : decode cX7_put 12 = .ok (.iconst (-1), 1) := by decide +kernel
theorem dX7_put_13 : decode cX7_put 13 = .ok (.ireturn, 1) := by decide +kernel
theorem dX7_put_14 : decode cX7_put 14 = .ok (.aload_n 0, 1) := by decide +kernel
theorem dX7_put_15 : decode cX7_put 15 = .ok (.getfield 7, 3) := by decide +kernel
theorem dX7_put_18 : decode cX7_put 18 = .ok (.bipush 8, 2) := by decide +kernel
theorem dX7_put_20 : decode cX7_put 20 = .ok (.iaload, 1) := by decide +kernel
theorem dX7_put_21 : decode cX7_put 21 = .ok (.istore_n 2, 1) := by decide +kernel
theorem dX7_put_22 : decode cX7_put 22 = .ok (.iload_n 2, 1) := by decide +kernel
theorem dX7_put_23 : decode cX7_put 23 = .ok (.iconst 4, 1) := by decide +kernel
theorem dX7_put_24 : decode cX7_put 24 = .ok (.if_icmp .ne 6, 3) := by decide +kernel
theorem dX7_put_27 : decode cX7_put 27 = .ok (.bipush (-3), 2) := by decide +kernel
theorem dX7_put_29 : decode cX7_put 29 = .ok (.ireturn, 1) := by decide +kernel
theorem dX7_put_30 : decode cX7_put 30 = .ok (.aload_n 0, 1) := by decide +kernel
theorem dX7_put_31 : decode cX7_put 31 = .ok (.getfield 7, 3) := by decide +kernel
theorem dX7_put_34 : decode cX7_put 34 = .ok (.iload_n 2, 1) := by decide +kernel
theorem dX7_put_35 : decode cX7_put 35 = .ok (.iload_n 1, 1) := by decide +kernel
theorem dX7_put_36 : decode cX7_put 36 = .ok (.iastore, 1) := by decide +kernel
theorem dX7_put_37 : decode cX7_put 37 = .ok (.aload_n 0, 1) := by decide +kernel
theorem dX7_put_38 : decode cX7_put 38 = .ok (.iload_n 2, 1) := by decide +kernel
theorem dX7_put_39 : decode cX7_put 39 = .ok (.invokevirtual 132, 3) := by decide +kernel
theorem dX7_put_42 : decode cX7_put 42 = .ok (.aload_n 0, 1) := by decide +kernel
theorem dX7_put_43 : decode cX7_put 43 = .ok (.getfield 7, 3) := by decide +kernel
theorem dX7_put_46 : decode cX7_put 46 = .ok (.bipush 8, 2) := by decide +kernel
theorem dX7_put_48 : decode cX7_put 48 = .ok (.dup2, 1) := by decide +kernel
theorem dX7_put_49 : decode cX7_put 49 = .ok (.iaload, 1) := by decide +kernel
theorem dX7_put_50 : decode cX7_put 50 = .ok (.iconst 1, 1) := by decide +kernel
theorem dX7_put_51 : decode cX7_put 51 = .ok (.iadd, 1) := by decide +kernel
theorem dX7_put_52 : decode cX7_put 52 = .ok (.iastore, 1) := by decide +kernel
theorem dX7_put_53 : decode cX7_put 53 = .ok (.aload_n 0, 1) := by decide +kernel
theorem dX7_put_54 : decode cX7_put 54 = .ok (.getfield 7, 3) := by decide +kernel
theorem dX7_put_57 : decode cX7_put 57 = .ok (.bipush 8, 2) := by decide +kernel
theorem dX7_put_59 : decode cX7_put 59 = .ok (.iaload, 1) := by decide +kernel
theorem dX7_put_60 : decode cX7_put 60 = .ok (.ireturn, 1) := by decide +kernel
theorem dX7_cut_0 : decode cX7_cut 0 = .ok (.aload_n 0, 1) := by decide +kernel
theorem dX7_cut_1 : decode cX7_cut 1 = .ok (.iload_n 1, 1) := by decide +kernel
theorem dX7_cut_2 : decode cX7_cut 2 = .ok (.i2l, 1) := by decide +kernel
theorem dX7_cut_3 : decode cX7_cut 3 = .ok (.lconst 0, 1) := by decide +kernel
theorem dX7_cut_4 : decode cX7_cut 4 = .ok (.aload_n 0, 1) := by decide +kernel
theorem dX7_cut_5 : decode cX7_cut 5 = .ok (.getfield 7, 3) := by decide +kernel
theorem dX7_cut_8 : decode cX7_cut 8 = .ok (.bipush 8, 2) := by decide +kernel
theorem dX7_cut_10 : decode cX7_cut 10 = .ok (.iaload, 1) := by decide +kernel
theorem dX7_cut_11 : decode cX7_cut 11 = .ok (.i2l, 1) := by decide +kernel
theorem dX7_cut_12 : decode cX7_cut 12 = .ok (.invokestatic 56, 3) := by decide +kernel
theorem dX7_cut_15 : decode cX7_cut 15 = .ok (.bipush 8, 2) := by decide +kernel
theorem dX7_cut_17 : decode cX7_cut 17 = .ok (.iload_n 1, 1) := by decide +kernel
theorem dX7_cut_18 : decode cX7_cut 18 = .ok (.invokevirtual 174, 3) := by decide +kernel
theorem dX7_cut_21 : decode cX7_cut 21 = .ok (.ireturn, 1) := by decide +kernel
theorem dX7_stand_0 : decode cX7_stand 0 = .ok (.aload_n 0, 1) := by decide +kernel
theorem dX7_stand_1 : decode cX7_stand 1 = .ok (.iload_n 1, 1) := by decide +kernel
theorem dX7_stand_2 : decode cX7_stand 2 = .ok (.invokevirtual 162, 3) := by decide +kernel
theorem dX7_stand_5 : decode cX7_stand 5 = .ok (.ifCond .eq 19, 3) := by decide +kernel
theorem dX7_stand_8 : decode cX7_stand 8 = .ok (.aload_n 0, 1) := by decide +kernel
theorem dX7_stand_9 : decode cX7_stand 9 = .ok (.iload_n 2, 1) := by decide +kernel
theorem dX7_stand_10 : decode cX7_stand 10 = .ok (.invokevirtual 166, 3) := by decide +kernel
theorem dX7_stand_13 : decode cX7_stand 13 = .ok (.ifCond .eq 11, 3) := by decide +kernel
theorem dX7_stand_16 : decode cX7_stand 16 = .ok (.aload_n 0, 1) := by decide +kernel
theorem dX7_stand_17 : decode cX7_stand 17 = .ok (.iload_n 3, 1) := by decide +kernel
theorem dX7_stand_18 : decode cX7_stand 18 = .ok (.invokevirtual 166, 3) := by decide +kernel
theorem dX7_stand_21 : decode cX7_stand 21 = .ok (.ifCond .ne 5, 3) := by decide +kernel
theorem dX7_stand_24 : decode cX7_stand 24 = .ok (.iconst (-1), 1) := by decide +kernel
theorem dX7_stand_25 : decode cX7_stand 25 = .ok (.ireturn, 1) := by decide +kernel
theorem dX7_stand_26 : decode cX7_stand 26 = .ok (.aload_n 0, 1) := by decide +kernel
theorem dX7_stand_27 : decode cX7_stand 27 = .ok (.iconst 0, 1) := by decide +kernel
theorem dX7_stand_28 : decode cX7_stand 28 = .ok (.iload_n 1, 1) := by decide +kernel
theorem dX7_stand_29 : decode cX7_stand 29 = .ok (.iload_n 2, 1) := by decide +kernel
theorem dX7_stand_30 : decode cX7_stand 30 = .ok (.invokevirtual 144, 3) := by decide +kernel
theorem dX7_stand_33 : decode cX7_stand 33 = .ok (.istore 4, 2) := by decide +kernel
theorem dX7_stand_35 : decode cX7_stand 35 = .ok (.aload_n 0, 1) := by decide +kernel
theorem dX7_stand_36 : decode cX7_stand 36 = .ok (.iconst 0, 1) := by decide +kernel
theorem dX7_stand_37 : decode cX7_stand 37 = .ok (.iload_n 1, 1) := by decide +kernel
theorem dX7_stand_38 : decode cX7_stand 38 = .ok (.iload 4, 2) := by decide +kernel
theorem dX7_stand_40 : decode cX7_stand 40 = .ok (.iload_n 3, 1) := by decide +kernel
theorem dX7_stand_41 : decode cX7_stand 41 = .ok (.invokevirtual 152, 3) := by decide +kernel
theorem dX7_stand_44 : decode cX7_stand 44 = .ok (.iload 4, 2) := by decide +kernel
theorem dX7_stand_46 : decode cX7_stand 46 = .ok (.ireturn, 1) := by decide +kernel
theorem dX7_set_0 : decode cX7_set 0 = .ok (.aload_n 0, 1) := by decide +kernel
theorem dX7_set_1 : decode cX7_set 1 = .ok (.aload_n 0, 1) := by decide +kernel
theorem dX7_set_2 : decode cX7_set 2 = .ok (.iload_n 1, 1) := by decide +kernel
theorem dX7_set_3 : decode cX7_set 3 = .ok (.invokevirtual 169, 3) := by decide +kernel
theorem dX7_set_6 : decode cX7_set 6 = .ok (.ifCond .eq 15, 3) := by decide +kernel
theorem dX7_set_9 : decode cX7_set 9 = .ok (.aload_n 0, 1) := by decide +kernel
theorem dX7_set_10 : decode cX7_set 10 = .ok (.iload_n 2, 1) := by decide +kernel
theorem dX7_set_11 : decode cX7_set 11 = .ok (.invokevirtual 166, 3) := by decide +kernel
theorem dX7_set_14 : decode cX7_set 14 = .ok (.ifCond .eq 7, 3) := by decide +kernel
theorem dX7_set_17 : decode cX7_set 17 = .ok (.iconst 1, 1) := by decide +kernel
theorem dX7_set_18 : decode cX7_set 18 = .ok (.goto 4, 3) := by decide +kernel
theorem dX7_set_21 : decode cX7_set 21 = .ok (.iconst 0, 1) := by decide +kernel
theorem dX7_set_22 : decode cX7_set 22 = .ok (.bipush 9, 2) := by decide +kernel
theorem dX7_set_24 : decode cX7_set 24 = .ok (.iload_n 1, 1) := by decide +kernel
theorem dX7_set_25 : decode cX7_set 25 = .ok (.iadd, 1) := by decide +kernel
theorem dX7_set_26 : decode cX7_set 26 = .ok (.iload_n 2, 1) := by decide +kernel
theorem dX7_set_27 : decode cX7_set 27 = .ok (.invokevirtual 174, 3) := by decide +kernel
theorem dX7_set_30 : decode cX7_set 30 = .ok (.ireturn, 1) := by decide +kernel
theorem dX7_adds_0 : decode cX7_adds 0 = .ok (.aload_n 0, 1) := by decide +kernel
theorem dX7_adds_1 : decode cX7_adds 1 = .ok (.iload_n 1, 1) := by decide +kernel
theorem dX7_adds_2 : decode cX7_adds 2 = .ok (.invokevirtual 166, 3) := by decide +kernel
theorem dX7_adds_5 : decode cX7_adds 5 = .ok (.ifCond .ne 5, 3) := by decide +kernel
theorem dX7_adds_8 : decode cX7_adds 8 = .ok (.iconst (-1), 1) := by decide +kernel
theorem dX7_adds_9 : decode cX7_adds 9 = .ok (.ireturn, 1) := by decide +kernel
theorem dX7_adds_10 : decode cX7_adds 10 = .ok (.aload_n 0, 1) := by decide +kernel
theorem dX7_adds_11 : decode cX7_adds 11 = .ok (.getfield 7, 3) := by decide +kernel
theorem dX7_adds_14 : decode cX7_adds 14 = .ok (.bipush 25, 2) := by decide +kernel
theorem dX7_adds_16 : decode cX7_adds 16 = .ok (.iaload, 1) := by decide +kernel
theorem dX7_adds_17 : decode cX7_adds 17 = .ok (.bipush 16, 2) := by decide +kernel
theorem dX7_adds_19 : decode cX7_adds 19 = .ok (.if_icmp .ne 6, 3) := by decide +kernel
theorem dX7_adds_22 : decode cX7_adds 22 = .ok (.bipush (-3), 2) := by decide +kernel
theorem dX7_adds_24 : decode cX7_adds 24 = .ok (.ireturn, 1) := by decide +kernel
theorem dX7_adds_25 : decode cX7_adds 25 = .ok (.aload_n 0, 1) := by decide +kernel
theorem dX7_adds_26 : decode cX7_adds 26 = .ok (.getfield 7, 3) := by decide +kernel
theorem dX7_adds_29 : decode cX7_adds 29 = .ok (.bipush 9, 2) := by decide +kernel
theorem dX7_adds_31 : decode cX7_adds 31 = .ok (.aload_n 0, 1) := by decide +kernel
theorem dX7_adds_32 : decode cX7_adds 32 = .ok (.getfield 7, 3) := by decide +kernel
theorem dX7_adds_35 : decode cX7_adds 35 = .ok (.bipush 25, 2) := by decide +kernel
theorem dX7_adds_37 : decode cX7_adds 37 = .ok (.iaload, 1) := by decide +kernel
theorem dX7_adds_38 : decode cX7_adds 38 = .ok (.iadd, 1) := by decide +kernel
theorem dX7_adds_39 : decode cX7_adds 39 = .ok (.iload_n 1, 1) := by decide +kernel
theorem dX7_adds_40 : decode cX7_adds 40 = .ok (.iastore, 1) := by decide +kernel
theorem dX7_adds_41 : decode cX7_adds 41 = .ok (.aload_n 0, 1) := by decide +kernel
theorem dX7_adds_42 : decode cX7_adds 42 = .ok (.getfield 7, 3) := by decide +kernel
theorem dX7_adds_45 : decode cX7_adds 45 = .ok (.bipush 25, 2) := by decide +kernel
theorem dX7_adds_47 : decode cX7_adds 47 = .ok (.dup2, 1) := by decide +kernel
theorem dX7_adds_48 : decode cX7_adds 48 = .ok (.iaload, 1) := by decide +kernel
theorem dX7_adds_49 : decode cX7_adds 49 = .ok (.iconst 1, 1) := by decide +kernel
theorem dX7_adds_50 : decode cX7_adds 50 = .ok (.iadd, 1) := by decide +kernel
theorem dX7_adds_51 : decode cX7_adds 51 = .ok (.iastore, 1) := by decide +kernel
theorem dX7_adds_52 : decode cX7_adds 52 = .ok (.aload_n 0, 1) := by decide +kernel
theorem dX7_adds_53 : decode cX7_adds 53 = .ok (.getfield 7, 3) := by decide +kernel
theorem dX7_adds_56 : decode cX7_adds 56 = .ok (.bipush 25, 2) := by decide +kernel
theorem dX7_adds_58 : decode cX7_adds 58 = .ok (.iaload, 1) := by decide +kernel
theorem dX7_adds_59 : decode cX7_adds 59 = .ok (.ireturn, 1) := by decide +kernel
theorem dX7_add_0 : decode cX7_add 0 = .ok (.aload_n 0, 1) := by decide +kernel
theorem dX7_add_1 : decode cX7_add 1 = .ok (.iload_n 1, 1) := by decide +kernel
theorem dX7_add_2 : decode cX7_add 2 = .ok (.invokevirtual 178, 3) := by decide +kernel
theorem dX7_add_5 : decode cX7_add 5 = .ok (.ireturn, 1) := by decide +kernel
theorem dX7_drop_0 : decode cX7_drop 0 = .ok (.aload_n 0, 1) := by decide +kernel
theorem dX7_drop_1 : decode cX7_drop 1 = .ok (.iload_n 1, 1) := by decide +kernel
theorem dX7_drop_2 : decode cX7_drop 2 = .ok (.i2l, 1) := by decide +kernel
theorem dX7_drop_3 : decode cX7_drop 3 = .ok (.lconst 0, 1) := by decide +kernel
theorem dX7_drop_4 : decode cX7_drop 4 = .ok (.aload_n 0, 1) := by decide +kernel
theorem dX7_drop_5 : decode cX7_drop 5 = .ok (.getfield 7, 3) := by decide +kernel
theorem dX7_drop_8 : decode cX7_drop 8 = .ok (.bipush 25, 2) := by decide +kernel
theorem dX7_drop_10 : decode cX7_drop 10 = .ok (.iaload, 1) := by decide +kernel
theorem dX7_drop_11 : decode cX7_drop 11 = .ok (.i2l, 1) := by decide +kernel
theorem dX7_drop_12 : decode cX7_drop 12 = .ok (.invokestatic 56, 3) := by decide +kernel
theorem dX7_drop_15 : decode cX7_drop 15 = .ok (.bipush 25, 2) := by decide +kernel
theorem dX7_drop_17 : decode cX7_drop 17 = .ok (.iload_n 1, 1) := by decide +kernel
theorem dX7_drop_18 : decode cX7_drop 18 = .ok (.invokevirtual 174, 3) := by decide +kernel
theorem dX7_drop_21 : decode cX7_drop 21 = .ok (.ireturn, 1) := by decide +kernel
theorem dX7_take_0 : decode cX7_take 0 = .ok (.aload_n 0, 1) := by decide +kernel
theorem dX7_take_1 : decode cX7_take 1 = .ok (.iload_n 1, 1) := by decide +kernel
theorem dX7_take_2 : decode cX7_take 2 = .ok (.invokevirtual 166, 3) := by decide +kernel
theorem dX7_take_5 : decode cX7_take 5 = .ok (.ifCond .eq 12, 3) := by decide +kernel
theorem dX7_take_8 : decode cX7_take 8 = .ok (.aload_n 0, 1) := by decide +kernel
theorem dX7_take_9 : decode cX7_take 9 = .ok (.iconst 0, 1) := by decide +kernel
theorem dX7_take_10 : decode cX7_take 10 = .ok (.iload_n 1, 1) := by decide +kernel
theorem dX7_take_11 : decode cX7_take 11 = .ok (.invokevirtual 159, 3) := by decide +kernel
theorem dX7_take_14 : decode cX7_take 14 = .ok (.goto 4, 3) := by decide +kernel
theorem dX7_take_17 : decode cX7_take 17 = .ok (.iconst (-1), 1) := by decide +kernel
theorem dX7_take_18 : decode cX7_take 18 = .ok (.ireturn, 1) := by decide +kernel
theorem dX7_steps_0 : decode cX7_steps 0 = .ok (.iload_n 1, 1) := by decide +kernel
theorem dX7_steps_1 : decode cX7_steps 1 = .ok (.i2l, 1) := by decide +kernel
theorem dX7_steps_2 : decode cX7_steps 2 = .ok (.lconst 0, 1) := by decide +kernel
theorem dX7_steps_3 : decode cX7_steps 3 = .ok (.ldc2_w 181, 3) := by decide +kernel
theorem dX7_steps_6 : decode cX7_steps 6 = .ok (.invokestatic 56, 3) := by decide +kernel
theorem dX7_steps_9 : decode cX7_steps 9 = .ok (.ifCond .ne 5, 3) := by decide +kernel
theorem dX7_steps_12 : decode cX7_steps 12 = .ok (.iconst (-1), 1) := by decide +kernel
theorem dX7_steps_13 : decode cX7_steps 13 = .ok (.ireturn, 1) := by decide +kernel
theorem dX7_steps_14 : decode cX7_steps 14 = .ok (.aload_n 0, 1) := by decide +kernel
theorem dX7_steps_15 : decode cX7_steps 15 = .ok (.getfield 7, 3) := by decide +kernel
theorem dX7_steps_18 : decode cX7_steps 18 = .ok (.bipush 26, 2) := by decide +kernel
theorem dX7_steps_20 : decode cX7_steps 20 = .ok (.iaload, 1) := by decide +kernel
theorem dX7_steps_21 : decode cX7_steps 21 = .ok (.iload_n 1, 1) := by decide +kernel
theorem dX7_steps_22 : decode cX7_steps 22 = .ok (.iadd, 1) := by decide +kernel
theorem dX7_steps_23 : decode cX7_steps 23 = .ok (.sipush 9999, 3) := by decide +kernel
theorem dX7_steps_26 : decode cX7_steps 26 = .ok (.if_icmp .le 6, 3) := by decide +kernel
theorem dX7_steps_29 : decode cX7_steps 29 = .ok (.bipush (-3), 2) := by decide +kernel
theorem dX7_steps_31 : decode cX7_steps 31 = .ok (.ireturn, 1) := by decide +kernel
theorem dX7_steps_32 : decode cX7_steps 32 = .ok (.aload_n 0, 1) := by decide +kernel
theorem dX7_steps_33 : decode cX7_steps 33 = .ok (.invokevirtual 183, 3) := by decide +kernel
theorem dX7_steps_36 : decode cX7_steps 36 = .ok (.iconst 0, 1) := by decide +kernel
theorem dX7_steps_37 : decode cX7_steps 37 = .ok (.istore_n 2, 1) := by decide +kernel
theorem dX7_steps_38 : decode cX7_steps 38 = .ok (.iload_n 2, 1) := by decide +kernel
theorem dX7_steps_39 : decode cX7_steps 39 = .ok (.iload_n 1, 1) := by decide +kernel
theorem dX7_steps_40 : decode cX7_steps 40 = .ok (.if_icmp .ge 15, 3) := by decide +kernel
theorem dX7_steps_43 : decode cX7_steps 43 = .ok (.aload_n 0, 1) := by decide +kernel
theorem dX7_steps_44 : decode cX7_steps 44 = .ok (.iconst 0, 1) := by decide +kernel
theorem dX7_steps_45 : decode cX7_steps 45 = .ok (.iconst 0, 1) := by decide +kernel
theorem dX7_steps_46 : decode cX7_steps 46 = .ok (.invokevirtual 186, 3) := by decide +kernel
theorem dX7_steps_49 : decode cX7_steps 49 = .ok (.iinc 2 1, 3) := by decide +kernel
theorem dX7_steps_52 : decode cX7_steps 52 = .ok (.goto (-14), 3) := by decide +kernel
theorem dX7_steps_55 : decode cX7_steps 55 = .ok (.aload_n 0, 1) := by decide +kernel
theorem dX7_steps_56 : decode cX7_steps 56 = .ok (.invokevirtual 190, 3) := by decide +kernel
theorem dX7_steps_59 : decode cX7_steps 59 = .ok (.ireturn, 1) := by decide +kernel
theorem dX7_copies_0 : decode cX7_copies 0 = .ok (.iconst 0, 1) := by decide +kernel
theorem dX7_copies_1 : decode cX7_copies 1 = .ok (.istore_n 3, 1) := by decide +kernel
theorem dX7_copies_2 : decode cX7_copies 2 = .ok (.iload_n 3, 1) := by decide +kernel
theorem dX7_copies_3 : decode cX7_copies 3 = .ok (.bipush 75, 2) := by decide +kernel
theorem dX7_copies_5 : decode cX7_copies 5 = .ok (.if_icmp .ge 25, 3) := by decide +kernel
theorem dX7_copies_8 : decode cX7_copies 8 = .ok (.aload_n 0, 1) := by decide +kernel
theorem dX7_copies_9 : decode cX7_copies 9 = .ok (.getfield 7, 3) := by decide +kernel
theorem dX7_copies_12 : decode cX7_copies 12 = .ok (.iload_n 2, 1) := by decide +kernel
theorem dX7_copies_13 : decode cX7_copies 13 = .ok (.iload_n 3, 1) := by decide +kernel
theorem dX7_copies_14 : decode cX7_copies 14 = .ok (.iadd, 1) := by decide +kernel
theorem dX7_copies_15 : decode cX7_copies 15 = .ok (.aload_n 0, 1) := by decide +kernel
theorem dX7_copies_16 : decode cX7_copies 16 = .ok (.getfield 7, 3) := by decide +kernel
theorem dX7_copies_19 : decode cX7_copies 19 = .ok (.iload_n 1, 1) := by decide +kernel
theorem dX7_copies_20 : decode cX7_copies 20 = .ok (.iload_n 3, 1) := by decide +kernel
theorem dX7_copies_21 : decode cX7_copies 21 = .ok (.iadd, 1) := by decide +kernel
theorem dX7_copies_22 : decode cX7_copies 22 = .ok (.iaload, 1) := by decide +kernel
theorem dX7_copies_23 : decode cX7_copies 23 = .ok (.iastore, 1) := by decide +kernel
theorem dX7_copies_24 : decode cX7_copies 24 = .ok (.iinc 3 1, 3) := by decide +kernel
theorem dX7_copies_27 : decode cX7_copies 27 = .ok (.goto (-25), 3) := by decide +kernel
theorem dX7_copies_30 : decode cX7_copies 30 = .ok (.return_, 1) := by decide +kernel
theorem dX7_stepsGo_0 : decode cX7_stepsGo 0 = .ok (.aload_n 0, 1) := by decide +kernel
theorem dX7_stepsGo_1 : decode cX7_stepsGo 1 = .ok (.iload_n 1, 1) := by decide +kernel
theorem dX7_stepsGo_2 : decode cX7_stepsGo 2 = .ok (.sipush 300, 3) := by decide +kernel
theorem dX7_stepsGo_5 : decode cX7_stepsGo 5 = .ok (.invokevirtual 193, 3) := by decide +kernel
theorem dX7_stepsGo_8 : decode cX7_stepsGo 8 = .ok (.aload_n 0, 1) := by decide +kernel
theorem dX7_stepsGo_9 : decode cX7_stepsGo 9 = .ok (.invokevirtual 183, 3) := by decide +kernel
theorem dX7_stepsGo_12 : decode cX7_stepsGo 12 = .ok (.iconst 0, 1) := by decide +kernel
theorem dX7_stepsGo_13 : decode cX7_stepsGo 13 = .ok (.istore_n 3, 1) := by decide +kernel
theorem dX7_stepsGo_14 : decode cX7_stepsGo 14 = .ok (.iload_n 3, 1) := by decide +kernel
theorem dX7_stepsGo_15 : decode cX7_stepsGo 15 = .ok (.iload_n 2, 1) := by decide +kernel
theorem dX7_stepsGo_16 : decode cX7_stepsGo 16 = .ok (.if_icmp .ge 17, 3) := by decide +kernel
theorem dX7_stepsGo_19 : decode cX7_stepsGo 19 = .ok (.aload_n 0, 1) := by decide +kernel
theorem dX7_stepsGo_20 : decode cX7_stepsGo 20 = .ok (.sipush 300, 3) := by decide +kernel
theorem dX7_stepsGo_23 : decode cX7_stepsGo 23 = .ok (.iconst 0, 1) := by decide +kernel
theorem dX7_stepsGo_24 : decode cX7_stepsGo 24 = .ok (.invokevirtual 186, 3) := by decide +kernel
theorem dX7_stepsGo_27 : decode cX7_stepsGo 27 = .ok (.iinc 3 1, 3) := by decide +kernel
theorem dX7_stepsGo_30 : decode cX7_stepsGo 30 = .ok (.goto (-16), 3) := by decide +kernel
theorem dX7_stepsGo_33 : decode cX7_stepsGo 33 = .ok (.aload_n 0, 1) := by decide +kernel
theorem dX7_stepsGo_34 : decode cX7_stepsGo 34 = .ok (.invokevirtual 190, 3) := by decide +kernel
theorem dX7_stepsGo_37 : decode cX7_stepsGo 37 = .ok (.ireturn, 1) := by decide +kernel
theorem dX7_runs_0 : decode cX7_runs 0 = .ok (.iload_n 1, 1) := by decide +kernel
theorem dX7_runs_1 : decode cX7_runs 1 = .ok (.i2l, 1) := by decide +kernel
theorem dX7_runs_2 : decode cX7_runs 2 = .ok (.lconst 0, 1) := by decide +kernel
theorem dX7_runs_3 : decode cX7_runs 3 = .ok (.ldc2_w 197, 3) := by decide +kernel
theorem dX7_runs_6 : decode cX7_runs 6 = .ok (.invokestatic 56, 3) := by decide +kernel
theorem dX7_runs_9 : decode cX7_runs 9 = .ok (.ifCond .eq 15, 3) := by decide +kernel
theorem dX7_runs_12 : decode cX7_runs 12 = .ok (.iload_n 2, 1) := by decide +kernel
theorem dX7_runs_13 : decode cX7_runs 13 = .ok (.i2l, 1) := by decide +kernel
theorem dX7_runs_14 : decode cX7_runs 14 = .ok (.lconst 0, 1) := by decide +kernel
theorem dX7_runs_15 : decode cX7_runs 15 = .ok (.ldc2_w 172, 3) := by decide +kernel
theorem dX7_runs_18 : decode cX7_runs 18 = .ok (.invokestatic 56, 3) := by decide +kernel
theorem dX7_runs_21 : decode cX7_runs 21 = .ok (.ifCond .ne 5, 3) := by decide +kernel
theorem dX7_runs_24 : decode cX7_runs 24 = .ok (.iconst (-1), 1) := by decide +kernel
theorem dX7_runs_25 : decode cX7_runs 25 = .ok (.ireturn, 1) := by decide +kernel
theorem dX7_runs_26 : decode cX7_runs 26 = .ok (.aload_n 0, 1) := by decide +kernel
theorem dX7_runs_27 : decode cX7_runs 27 = .ok (.iconst 0, 1) := by decide +kernel
theorem dX7_runs_28 : decode cX7_runs 28 = .ok (.iload_n 1, 1) := by decide +kernel
theorem dX7_runs_29 : decode cX7_runs 29 = .ok (.invokevirtual 199, 3) := by decide +kernel
theorem dX7_runs_32 : decode cX7_runs 32 = .ok (.istore_n 3, 1) := by decide +kernel
theorem dX7_runs_33 : decode cX7_runs 33 = .ok (.iload_n 2, 1) := by decide +kernel
theorem dX7_runs_34 : decode cX7_runs 34 = .ok (.ifCond .ne 7, 3) := by decide +kernel
theorem dX7_runs_37 : decode cX7_runs 37 = .ok (.iload_n 3, 1) := by decide +kernel
theorem dX7_runs_38 : decode cX7_runs 38 = .ok (.goto 31, 3) := by decide +kernel
theorem dX7_runs_41 : decode cX7_runs 41 = .ok (.iload_n 2, 1) := by decide +kernel
theorem dX7_runs_42 : decode cX7_runs 42 = .ok (.iconst 1, 1) := by decide +kernel
theorem dX7_runs_43 : decode cX7_runs 43 = .ok (.if_icmp .ne 10, 3) := by decide +kernel
theorem dX7_runs_46 : decode cX7_runs 46 = .ok (.aload_n 0, 1) := by decide +kernel
theorem dX7_runs_47 : decode cX7_runs 47 = .ok (.invokevirtual 202, 3) := by decide +kernel
theorem dX7_runs_50 : decode cX7_runs 50 = .ok (.goto 19, 3) := by decide +kernel
theorem dX7_runs_53 : decode cX7_runs 53 = .ok (.iload_n 2, 1) := by decide +kernel
theorem dX7_runs_54 : decode cX7_runs 54 = .ok (.iconst 2, 1) := by decide +kernel
theorem dX7_runs_55 : decode cX7_runs 55 = .ok (.if_icmp .ne 10, 3) := by decide +kernel
theorem dX7_runs_58 : decode cX7_runs 58 = .ok (.aload_n 0, 1) := by decide +kernel
theorem dX7_runs_59 : decode cX7_runs 59 = .ok (.getfield 138, 3) := by decide +kernel
theorem dX7_runs_62 : decode cX7_runs 62 = .ok (.goto 7, 3) := by decide +kernel
theorem dX7_runs_65 : decode cX7_runs 65 = .ok (.aload_n 0, 1) := by decide +kernel
theorem dX7_runs_66 : decode cX7_runs 66 = .ok (.getfield 141, 3) := by decide +kernel
theorem dX7_runs_69 : decode cX7_runs 69 = .ok (.ireturn, 1) := by decide +kernel
theorem dX7_paid_0 : decode cX7_paid 0 = .ok (.aload_n 0, 1) := by decide +kernel
theorem dX7_paid_1 : decode cX7_paid 1 = .ok (.iload_n 1, 1) := by decide +kernel
theorem dX7_paid_2 : decode cX7_paid 2 = .ok (.invokevirtual 162, 3) := by decide +kernel
theorem dX7_paid_5 : decode cX7_paid 5 = .ok (.ifCond .eq 15, 3) := by decide +kernel
theorem dX7_paid_8 : decode cX7_paid 8 = .ok (.iload_n 2, 1) := by decide +kernel
theorem dX7_paid_9 : decode cX7_paid 9 = .ok (.i2l, 1) := by decide +kernel
theorem dX7_paid_10 : decode cX7_paid 10 = .ok (.lconst 0, 1) := by decide +kernel
theorem dX7_paid_11 : decode cX7_paid 11 = .ok (.ldc2_w 197, 3) := by decide +kernel
theorem dX7_paid_14 : decode cX7_paid 14 = .ok (.invokestatic 56, 3) := by decide +kernel
theorem dX7_paid_17 : decode cX7_paid 17 = .ok (.ifCond .ne 5, 3) := by decide +kernel
theorem dX7_paid_20 : decode cX7_paid 20 = .ok (.iconst (-1), 1) := by decide +kernel
theorem dX7_paid_21 : decode cX7_paid 21 = .ok (.ireturn, 1) := by decide +kernel
theorem dX7_paid_22 : decode cX7_paid 22 = .ok (.aload_n 0, 1) := by decide +kernel
theorem dX7_paid_23 : decode cX7_paid 23 = .ok (.iconst 0, 1) := by decide +kernel
theorem dX7_paid_24 : decode cX7_paid 24 = .ok (.iload_n 2, 1) := by decide +kernel
theorem dX7_paid_25 : decode cX7_paid 25 = .ok (.invokevirtual 199, 3) := by decide +kernel
theorem dX7_paid_28 : decode cX7_paid 28 = .ok (.pop, 1) := by decide +kernel
theorem dX7_paid_29 : decode cX7_paid 29 = .ok (.aload_n 0, 1) := by decide +kernel
theorem dX7_paid_30 : decode cX7_paid 30 = .ok (.getfield 29, 3) := by decide +kernel
theorem dX7_paid_33 : decode cX7_paid 33 = .ok (.iload_n 1, 1) := by decide +kernel
theorem dX7_paid_34 : decode cX7_paid 34 = .ok (.iaload, 1) := by decide +kernel
theorem dX7_paid_35 : decode cX7_paid 35 = .ok (.ireturn, 1) := by decide +kernel
theorem dX7_ahead_0 : decode cX7_ahead 0 = .ok (.aload_n 0, 1) := by decide +kernel
theorem dX7_ahead_1 : decode cX7_ahead 1 = .ok (.iload_n 1, 1) := by decide +kernel
theorem dX7_ahead_2 : decode cX7_ahead 2 = .ok (.invokevirtual 162, 3) := by decide +kernel
theorem dX7_ahead_5 : decode cX7_ahead 5 = .ok (.ifCond .eq 23, 3) := by decide +kernel
theorem dX7_ahead_8 : decode cX7_ahead 8 = .ok (.iload_n 2, 1) := by decide +kernel
theorem dX7_ahead_9 : decode cX7_ahead 9 = .ok (.i2l, 1) := by decide +kernel
theorem dX7_ahead_10 : decode cX7_ahead 10 = .ok (.lconst 0, 1) := by decide +kernel
theorem dX7_ahead_11 : decode cX7_ahead 11 = .ok (.ldc2_w 197, 3) := by decide +kernel
theorem dX7_ahead_14 : decode cX7_ahead 14 = .ok (.invokestatic 56, 3) := by decide +kernel
theorem dX7_ahead_17 : decode cX7_ahead 17 = .ok (.ifCond .eq 11, 3) := by decide +kernel
theorem dX7_ahead_20 : decode cX7_ahead 20 = .ok (.aload_n 0, 1) := by decide +kernel
theorem dX7_ahead_21 : decode cX7_ahead 21 = .ok (.iload_n 3, 1) := by decide +kernel
theorem dX7_ahead_22 : decode cX7_ahead 22 = .ok (.invokevirtual 166, 3) := by decide +kernel
theorem dX7_ahead_25 : decode cX7_ahead 25 = .ok (.ifCond .ne 5, 3) := by decide +kernel
theorem dX7_ahead_28 : decode cX7_ahead 28 = .ok (.iconst (-1), 1) := by decide +kernel
theorem dX7_ahead_29 : decode cX7_ahead 29 = .ok (.ireturn, 1) := by decide +kernel
theorem dX7_ahead_30 : decode cX7_ahead 30 = .ok (.aload_n 0, 1) := by decide +kernel
theorem dX7_ahead_31 : decode cX7_ahead 31 = .ok (.iconst 0, 1) := by decide +kernel
theorem dX7_ahead_32 : decode cX7_ahead 32 = .ok (.iload_n 2, 1) := by decide +kernel
theorem dX7_ahead_33 : decode cX7_ahead 33 = .ok (.invokevirtual 199, 3) := by decide +kernel
theorem dX7_ahead_36 : decode cX7_ahead 36 = .ok (.pop, 1) := by decide +kernel
theorem dX7_ahead_37 : decode cX7_ahead 37 = .ok (.aload_n 0, 1) := by decide +kernel
theorem dX7_ahead_38 : decode cX7_ahead 38 = .ok (.getfield 7, 3) := by decide +kernel
theorem dX7_ahead_41 : decode cX7_ahead 41 = .ok (.sipush 327, 3) := by decide +kernel
theorem dX7_ahead_44 : decode cX7_ahead 44 = .ok (.bipush 6, 2) := by decide +kernel
theorem dX7_ahead_46 : decode cX7_ahead 46 = .ok (.iload_n 1, 1) := by decide +kernel
theorem dX7_ahead_47 : decode cX7_ahead 47 = .ok (.imul, 1) := by decide +kernel
theorem dX7_ahead_48 : decode cX7_ahead 48 = .ok (.iadd, 1) := by decide +kernel
theorem dX7_ahead_49 : decode cX7_ahead 49 = .ok (.iload_n 3, 1) := by decide +kernel
theorem dX7_ahead_50 : decode cX7_ahead 50 = .ok (.iadd, 1) := by decide +kernel
theorem dX7_ahead_51 : decode cX7_ahead 51 = .ok (.iaload, 1) := by decide +kernel
theorem dX7_ahead_52 : decode cX7_ahead 52 = .ok (.ireturn, 1) := by decide +kernel
theorem dX7_when_0 : decode cX7_when 0 = .ok (.aload_n 0, 1) := by decide +kernel
theorem dX7_when_1 : decode cX7_when 1 = .ok (.iload_n 1, 1) := by decide +kernel
theorem dX7_when_2 : decode cX7_when 2 = .ok (.invokevirtual 162, 3) := by decide +kernel
theorem dX7_when_5 : decode cX7_when 5 = .ok (.ifCond .eq 11, 3) := by decide +kernel
theorem dX7_when_8 : decode cX7_when 8 = .ok (.aload_n 0, 1) := by decide +kernel
theorem dX7_when_9 : decode cX7_when 9 = .ok (.iload_n 2, 1) := by decide +kernel
theorem dX7_when_10 : decode cX7_when 10 = .ok (.invokevirtual 166, 3) := by decide +kernel
theorem dX7_when_13 : decode cX7_when 13 = .ok (.ifCond .ne 5, 3) := by decide +kernel
theorem dX7_when_16 : decode cX7_when 16 = .ok (.iconst (-1), 1) := by decide +kernel
theorem dX7_when_17 : decode cX7_when 17 = .ok (.ireturn, 1) := by decide +kernel
theorem dX7_when_18 : decode cX7_when 18 = .ok (.aload_n 0, 1) := by decide +kernel
theorem dX7_when_19 : decode cX7_when 19 = .ok (.iconst 0, 1) := by decide +kernel
theorem dX7_when_20 : decode cX7_when 20 = .ok (.sipush 300, 3) := by decide +kernel
theorem dX7_when_23 : decode cX7_when 23 = .ok (.invokevirtual 193, 3) := by decide +kernel
theorem dX7_when_26 : decode cX7_when 26 = .ok (.iconst 0, 1) := by decide +kernel
theorem dX7_when_27 : decode cX7_when 27 = .ok (.istore_n 3, 1) := by decide +kernel
theorem dX7_when_28 : decode cX7_when 28 = .ok (.iload_n 3, 1) := by decide +kernel
theorem dX7_when_29 : decode cX7_when 29 = .ok (.sipush 200, 3) := by decide +kernel
theorem dX7_when_32 : decode cX7_when 32 = .ok (.if_icmp .gt 36, 3) := by decide +kernel
theorem dX7_when_35 : decode cX7_when 35 = .ok (.aload_n 0, 1) := by decide +kernel
theorem dX7_when_36 : decode cX7_when 36 = .ok (.getfield 7, 3) := by decide +kernel
theorem dX7_when_39 : decode cX7_when 39 = .ok (.sipush 327, 3) := by decide +kernel
theorem dX7_when_42 : decode cX7_when 42 = .ok (.bipush 6, 2) := by decide +kernel
theorem dX7_when_44 : decode cX7_when 44 = .ok (.iload_n 1, 1) := by decide +kernel
theorem dX7_when_45 : decode cX7_when 45 = .ok (.imul, 1) := by decide +kernel
theorem dX7_when_46 : decode cX7_when 46 = .ok (.iadd, 1) := by decide +kernel
theorem dX7_when_47 : decode cX7_when 47 = .ok (.iaload, 1) := by decide +kernel
theorem dX7_when_48 : decode cX7_when 48 = .ok (.iload_n 2, 1) := by decide +kernel
theorem dX7_when_49 : decode cX7_when 49 = .ok (.if_icmp .ne 5, 3) := by decide +kernel
theorem dX7_when_52 : decode cX7_when 52 = .ok (.iload_n 3, 1) := by decide +kernel
theorem dX7_when_53 : decode cX7_when 53 = .ok (.ireturn, 1) := by decide +kernel
theorem dX7_when_54 : decode cX7_when 54 = .ok (.aload_n 0, 1) := by decide +kernel
theorem dX7_when_55 : decode cX7_when 55 = .ok (.sipush 300, 3) := by decide +kernel
theorem dX7_when_58 : decode cX7_when 58 = .ok (.iconst 0, 1) := by decide +kernel
theorem dX7_when_59 : decode cX7_when 59 = .ok (.invokevirtual 186, 3) := by decide +kernel
theorem dX7_when_62 : decode cX7_when 62 = .ok (.iinc 3 1, 3) := by decide +kernel
theorem dX7_when_65 : decode cX7_when 65 = .ok (.goto (-37), 3) := by decide +kernel
theorem dX7_when_68 : decode cX7_when 68 = .ok (.bipush (-4), 2) := by decide +kernel
theorem dX7_when_70 : decode cX7_when 70 = .ok (.ireturn, 1) := by decide +kernel
theorem dX7_again_0 : decode cX7_again 0 = .ok (.aload_n 0, 1) := by decide +kernel
theorem dX7_again_1 : decode cX7_again 1 = .ok (.iconst 0, 1) := by decide +kernel
theorem dX7_again_2 : decode cX7_again 2 = .ok (.sipush 300, 3) := by decide +kernel
theorem dX7_again_5 : decode cX7_again 5 = .ok (.invokevirtual 193, 3) := by decide +kernel
theorem dX7_again_8 : decode cX7_again 8 = .ok (.aload_n 0, 1) := by decide +kernel
theorem dX7_again_9 : decode cX7_again 9 = .ok (.getfield 7, 3) := by decide +kernel
theorem dX7_again_12 : decode cX7_again 12 = .ok (.bipush 25, 2) := by decide +kernel
theorem dX7_again_14 : decode cX7_again 14 = .ok (.iaload, 1) := by decide +kernel
theorem dX7_again_15 : decode cX7_again 15 = .ok (.istore_n 1, 1) := by decide +kernel
theorem dX7_again_16 : decode cX7_again 16 = .ok (.iconst 1, 1) := by decide +kernel
theorem dX7_again_17 : decode cX7_again 17 = .ok (.istore_n 2, 1) := by decide +kernel
theorem dX7_again_18 : decode cX7_again 18 = .ok (.iload_n 2, 1) := by decide +kernel
theorem dX7_again_19 : decode cX7_again 19 = .ok (.sipush 200, 3) := by decide +kernel
theorem dX7_again_22 : decode cX7_again 22 = .ok (.if_icmp .gt 122, 3) := by decide +kernel
theorem dX7_again_25 : decode cX7_again 25 = .ok (.aload_n 0, 1) := by decide +kernel
theorem dX7_again_26 : decode cX7_again 26 = .ok (.sipush 300, 3) := by decide +kernel
theorem dX7_again_29 : decode cX7_again 29 = .ok (.iconst 0, 1) := by decide +kernel
theorem dX7_again_30 : decode cX7_again 30 = .ok (.invokevirtual 186, 3) := by decide +kernel
theorem dX7_again_33 : decode cX7_again 33 = .ok (.iload_n 1, 1) := by decide +kernel
theorem dX7_again_34 : decode cX7_again 34 = .ok (.ifCond .eq 9, 3) := by decide +kernel
theorem dX7_again_37 : decode cX7_again 37 = .ok (.iload_n 2, 1) := by decide +kernel
theorem dX7_again_38 : decode cX7_again 38 = .ok (.iload_n 1, 1) := by decide +kernel
theorem dX7_again_39 : decode cX7_again 39 = .ok (.irem, 1) := by decide +kernel
theorem dX7_again_40 : decode cX7_again 40 = .ok (.ifCond .ne 7, 3) := by decide +kernel
theorem dX7_again_43 : decode cX7_again 43 = .ok (.iconst 1, 1) := by decide +kernel
theorem dX7_again_44 : decode cX7_again 44 = .ok (.goto 4, 3) := by decide +kernel
theorem dX7_again_47 : decode cX7_again 47 = .ok (.iconst 0, 1) := by decide +kernel
theorem dX7_again_48 : decode cX7_again 48 = .ok (.istore_n 3, 1) := by decide +kernel
theorem dX7_again_49 : decode cX7_again 49 = .ok (.iconst 0, 1) := by decide +kernel
theorem dX7_again_50 : decode cX7_again 50 = .ok (.istore 4, 2) := by decide +kernel
theorem dX7_again_52 : decode cX7_again 52 = .ok (.iload 4, 2) := by decide +kernel
theorem dX7_again_54 : decode cX7_again 54 = .ok (.aload_n 0, 1) := by decide +kernel
theorem dX7_again_55 : decode cX7_again 55 = .ok (.getfield 7, 3) := by decide +kernel
theorem dX7_again_58 : decode cX7_again 58 = .ok (.bipush 8, 2) := by decide +kernel
theorem dX7_again_60 : decode cX7_again 60 = .ok (.iaload, 1) := by decide +kernel
theorem dX7_again_61 : decode cX7_again 61 = .ok (.if_icmp .ge 71, 3) := by decide +kernel
theorem dX7_again_64 : decode cX7_again 64 = .ok (.iconst 0, 1) := by decide +kernel
theorem dX7_again_65 : decode cX7_again 65 = .ok (.istore 5, 2) := by decide +kernel
theorem dX7_again_67 : decode cX7_again 67 = .ok (.iload 5, 2) := by decide +kernel
theorem dX7_again_69 : decode cX7_again 69 = .ok (.aload_n 0, 1) := by decide +kernel
theorem dX7_again_70 : decode cX7_again 70 = .ok (.getfield 13, 3) := by decide +kernel
theorem dX7_again_73 : decode cX7_again 73 = .ok (.if_icmp .ge 53, 3) := by decide +kernel
theorem dX7_again_76 : decode cX7_again 76 = .ok (.bipush 27, 2) := by decide +kernel
theorem dX7_again_78 : decode cX7_again 78 = .ok (.bipush 6, 2) := by decide +kernel
theorem dX7_again_80 : decode cX7_again 80 = .ok (.iload 4, 2) := by decide +kernel
theorem dX7_again_82 : decode cX7_again 82 = .ok (.imul, 1) := by decide +kernel
theorem dX7_again_83 : decode cX7_again 83 = .ok (.iadd, 1) := by decide +kernel
theorem dX7_again_84 : decode cX7_again 84 = .ok (.iload 5, 2) := by decide +kernel
theorem dX7_again_86 : decode cX7_again 86 = .ok (.iadd, 1) := by decide +kernel
theorem dX7_again_87 : decode cX7_again 87 = .ok (.istore 6, 2) := by decide +kernel
theorem dX7_again_89 : decode cX7_again 89 = .ok (.iload_n 3, 1) := by decide +kernel
theorem dX7_again_90 : decode cX7_again 90 = .ok (.ifCond .eq 28, 3) := by decide +kernel
theorem dX7_again_93 : decode cX7_again 93 = .ok (.aload_n 0, 1) := by decide +kernel
theorem dX7_again_94 : decode cX7_again 94 = .ok (.getfield 7, 3) := by decide +kernel
theorem dX7_again_97 : decode cX7_again 97 = .ok (.sipush 300, 3) := by decide +kernel
theorem dX7_again_100 : decode cX7_again 100 = .ok (.iload 6, 2) := by decide +kernel
theorem dX7_again_102 : decode cX7_again 102 = .ok (.iadd, 1) := by decide +kernel
theorem dX7_again_103 : decode cX7_again 103 = .ok (.iaload, 1) := by decide +kernel
theorem dX7_again_104 : decode cX7_again 104 = .ok (.aload_n 0, 1) := by decide +kernel
theorem dX7_again_105 : decode cX7_again 105 = .ok (.getfield 7, 3) := by decide +kernel
theorem dX7_again_108 : decode cX7_again 108 = .ok (.iload 6, 2) := by decide +kernel
theorem dX7_again_110 : decode cX7_again 110 = .ok (.iaload, 1) := by decide +kernel
theorem dX7_again_111 : decode cX7_again 111 = .ok (.if_icmp .ne 7, 3) := by decide +kernel
theorem dX7_again_114 : decode cX7_again 114 = .ok (.iconst 1, 1) := by decide +kernel
theorem dX7_again_115 : decode cX7_again 115 = .ok (.goto 4, 3) := by decide +kernel
theorem dX7_again_118 : decode cX7_again 118 = .ok (.iconst 0, 1) := by decide +kernel
theorem dX7_again_119 : decode cX7_again 119 = .ok (.istore_n 3, 1) := by decide +kernel
theorem dX7_again_120 : decode cX7_again 120 = .ok (.iinc 5 1, 3) := by decide +kernel
theorem dX7_again_123 : decode cX7_again 123 = .ok (.goto (-56), 3) := by decide +kernel
theorem dX7_again_126 : decode cX7_again 126 = .ok (.iinc 4 1, 3) := by decide +kernel
theorem dX7_again_129 : decode cX7_again 129 = .ok (.goto (-77), 3) := by decide +kernel
theorem dX7_again_132 : decode cX7_again 132 = .ok (.iload_n 3, 1) := by decide +kernel
theorem dX7_again_133 : decode cX7_again 133 = .ok (.ifCond .eq 5, 3) := by decide +kernel
theorem dX7_again_136 : decode cX7_again 136 = .ok (.iload_n 2, 1) := by decide +kernel
theorem dX7_again_137 : decode cX7_again 137 = .ok (.ireturn, 1) := by decide +kernel
theorem dX7_again_138 : decode cX7_again 138 = .ok (.iinc 2 1, 3) := by decide +kernel
theorem dX7_again_141 : decode cX7_again 141 = .ok (.goto (-123), 3) := by decide +kernel
theorem dX7_again_144 : decode cX7_again 144 = .ok (.bipush (-4), 2) := by decide +kernel
theorem dX7_again_146 : decode cX7_again 146 = .ok (.ireturn, 1) := by decide +kernel
theorem dX7_ordered_0 : decode cX7_ordered 0 = .ok (.iconst 0, 1) := by decide +kernel
theorem dX7_ordered_1 : decode cX7_ordered 1 = .ok (.istore_n 3, 1) := by decide +kernel
theorem dX7_ordered_2 : decode cX7_ordered 2 = .ok (.iload_n 2, 1) := by decide +kernel
theorem dX7_ordered_3 : decode cX7_ordered 3 = .ok (.istore 4, 2) := by decide +kernel
theorem dX7_ordered_5 : decode cX7_ordered 5 = .ok (.aload_n 0, 1) := by decide +kernel
theorem dX7_ordered_6 : decode cX7_ordered 6 = .ok (.iconst 0, 1) := by decide +kernel
theorem dX7_ordered_7 : decode cX7_ordered 7 = .ok (.sipush 375, 3) := by decide +kernel
theorem dX7_ordered_10 : decode cX7_ordered 10 = .ok (.invokevirtual 193, 3) := by decide +kernel
theorem dX7_ordered_13 : decode cX7_ordered 13 = .ok (.aload_n 0, 1) := by decide +kernel
theorem dX7_ordered_14 : decode cX7_ordered 14 = .ok (.getfield 13, 3) := by decide +kernel
theorem dX7_ordered_17 : decode cX7_ordered 17 = .ok (.iconst 1, 1) := by decide +kernel
theorem dX7_ordered_18 : decode cX7_ordered 18 = .ok (.isub, 1) := by decide +kernel
theorem dX7_ordered_19 : decode cX7_ordered 19 = .ok (.istore 5, 2) := by decide +kernel
theorem dX7_ordered_21 : decode cX7_ordered 21 = .ok (.iload 5, 2) := by decide +kernel
theorem dX7_ordered_23 : decode cX7_ordered 23 = .ok (.ifCond .lt 53, 3) := by decide +kernel
theorem dX7_ordered_26 : decode cX7_ordered 26 = .ok (.iload_n 3, 1) := by decide +kernel
theorem dX7_ordered_27 : decode cX7_ordered 27 = .ok (.iconst 1, 1) := by decide +kernel
theorem dX7_ordered_28 : decode cX7_ordered 28 = .ok (.iload 4, 2) := by decide +kernel
theorem dX7_ordered_30 : decode cX7_ordered 30 = .ok (.aload_n 0, 1) := by decide +kernel
theorem dX7_ordered_31 : decode cX7_ordered 31 = .ok (.getfield 13, 3) := by decide +kernel
theorem dX7_ordered_34 : decode cX7_ordered 34 = .ok (.irem, 1) := by decide +kernel
theorem dX7_ordered_35 : decode cX7_ordered 35 = .ok (.ishl, 1) := by decide +kernel
theorem dX7_ordered_36 : decode cX7_ordered 36 = .ok (.ior, 1) := by decide +kernel
theorem dX7_ordered_37 : decode cX7_ordered 37 = .ok (.istore_n 3, 1) := by decide +kernel
theorem dX7_ordered_38 : decode cX7_ordered 38 = .ok (.aload_n 0, 1) := by decide +kernel
theorem dX7_ordered_39 : decode cX7_ordered 39 = .ok (.getfield 7, 3) := by decide +kernel
theorem dX7_ordered_42 : decode cX7_ordered 42 = .ok (.sipush 402, 3) := by decide +kernel
theorem dX7_ordered_45 : decode cX7_ordered 45 = .ok (.bipush 6, 2) := by decide +kernel
theorem dX7_ordered_47 : decode cX7_ordered 47 = .ok (.iload_n 1, 1) := by decide +kernel
theorem dX7_ordered_48 : decode cX7_ordered 48 = .ok (.imul, 1) := by decide +kernel
theorem dX7_ordered_49 : decode cX7_ordered 49 = .ok (.iadd, 1) := by decide +kernel
theorem dX7_ordered_50 : decode cX7_ordered 50 = .ok (.iload 5, 2) := by decide +kernel
theorem dX7_ordered_52 : decode cX7_ordered 52 = .ok (.iadd, 1) := by decide +kernel
theorem dX7_ordered_53 : decode cX7_ordered 53 = .ok (.iload 4, 2) := by decide +kernel
theorem dX7_ordered_55 : decode cX7_ordered 55 = .ok (.aload_n 0, 1) := by decide +kernel
theorem dX7_ordered_56 : decode cX7_ordered 56 = .ok (.getfield 13, 3) := by decide +kernel
theorem dX7_ordered_59 : decode cX7_ordered 59 = .ok (.irem, 1) := by decide +kernel
theorem dX7_ordered_60 : decode cX7_ordered 60 = .ok (.iastore, 1) := by decide +kernel
theorem dX7_ordered_61 : decode cX7_ordered 61 = .ok (.iload 4, 2) := by decide +kernel
theorem dX7_ordered_63 : decode cX7_ordered 63 = .ok (.aload_n 0, 1) := by decide +kernel
theorem dX7_ordered_64 : decode cX7_ordered 64 = .ok (.getfield 13, 3) := by decide +kernel
theorem dX7_ordered_67 : decode cX7_ordered 67 = .ok (.idiv, 1) := by decide +kernel
theorem dX7_ordered_68 : decode cX7_ordered 68 = .ok (.istore 4, 2) := by decide +kernel
theorem dX7_ordered_70 : decode cX7_ordered 70 = .ok (.iinc 5 (-1), 3) := by decide +kernel
theorem dX7_ordered_73 : decode cX7_ordered 73 = .ok (.goto (-52), 3) := by decide +kernel
theorem dX7_ordered_76 : decode cX7_ordered 76 = .ok (.iload_n 3, 1) := by decide +kernel
theorem dX7_ordered_77 : decode cX7_ordered 77 = .ok (.iconst 1, 1) := by decide +kernel
theorem dX7_ordered_78 : decode cX7_ordered 78 = .ok (.aload_n 0, 1) := by decide +kernel
theorem dX7_ordered_79 : decode cX7_ordered 79 = .ok (.getfield 13, 3) := by decide +kernel
theorem dX7_ordered_82 : decode cX7_ordered 82 = .ok (.ishl, 1) := by decide +kernel
theorem dX7_ordered_83 : decode cX7_ordered 83 = .ok (.iconst 1, 1) := by decide +kernel
theorem dX7_ordered_84 : decode cX7_ordered 84 = .ok (.isub, 1) := by decide +kernel
theorem dX7_ordered_85 : decode cX7_ordered 85 = .ok (.if_icmp .ne 7, 3) := by decide +kernel
theorem dX7_ordered_88 : decode cX7_ordered 88 = .ok (.iconst 1, 1) := by decide +kernel
theorem dX7_ordered_89 : decode cX7_ordered 89 = .ok (.goto 4, 3) := by decide +kernel
theorem dX7_ordered_92 : decode cX7_ordered 92 = .ok (.iconst 0, 1) := by decide +kernel
theorem dX7_ordered_93 : decode cX7_ordered 93 = .ok (.ireturn, 1) := by decide +kernel
theorem dX7_isRow_0 : decode cX7_isRow 0 = .ok (.iconst 0, 1) := by decide +kernel
theorem dX7_isRow_1 : decode cX7_isRow 1 = .ok (.istore_n 2, 1) := by decide +kernel
theorem dX7_isRow_2 : decode cX7_isRow 2 = .ok (.iload_n 1, 1) := by decide +kernel
theorem dX7_isRow_3 : decode cX7_isRow 3 = .ok (.istore_n 3, 1) := by decide +kernel
theorem dX7_isRow_4 : decode cX7_isRow 4 = .ok (.iconst 0, 1) := by decide +kernel
theorem dX7_isRow_5 : decode cX7_isRow 5 = .ok (.istore 4, 2) := by decide +kernel
theorem dX7_isRow_7 : decode cX7_isRow 7 = .ok (.iload 4, 2) := by decide +kernel
theorem dX7_isRow_9 : decode cX7_isRow 9 = .ok (.aload_n 0, 1) := by decide +kernel
theorem dX7_isRow_10 : decode cX7_isRow 10 = .ok (.getfield 13, 3) := by decide +kernel
theorem dX7_isRow_13 : decode cX7_isRow 13 = .ok (.if_icmp .ge 27, 3) := by decide +kernel
theorem dX7_isRow_16 : decode cX7_isRow 16 = .ok (.iload_n 2, 1) := by decide +kernel
theorem dX7_isRow_17 : decode cX7_isRow 17 = .ok (.iconst 1, 1) := by decide +kernel
theorem dX7_isRow_18 : decode cX7_isRow 18 = .ok (.iload_n 3, 1) := by decide +kernel
theorem dX7_isRow_19 : decode cX7_isRow 19 = .ok (.aload_n 0, 1) := by decide +kernel
theorem dX7_isRow_20 : decode cX7_isRow 20 = .ok (.getfield 13, 3) := by decide +kernel
theorem dX7_isRow_23 : decode cX7_isRow 23 = .ok (.irem, 1) := by decide +kernel
theorem dX7_isRow_24 : decode cX7_isRow 24 = .ok (.ishl, 1) := by decide +kernel
theorem dX7_isRow_25 : decode cX7_isRow 25 = .ok (.ior, 1) := by decide +kernel
theorem dX7_isRow_26 : decode cX7_isRow 26 = .ok (.istore_n 2, 1) := by decide +kernel
theorem dX7_isRow_27 : decode cX7_isRow 27 = .ok (.iload_n 3, 1) := by decide +kernel
theorem dX7_isRow_28 : decode cX7_isRow 28 = .ok (.aload_n 0, 1) := by decide +kernel
theorem dX7_isRow_29 : decode cX7_isRow 29 = .ok (.getfield 13, 3) := by decide +kernel
theorem dX7_isRow_32 : decode cX7_isRow 32 = .ok (.idiv, 1) := by decide +kernel
theorem dX7_isRow_33 : decode cX7_isRow 33 = .ok (.istore_n 3, 1) := by decide +kernel
theorem dX7_isRow_34 : decode cX7_isRow 34 = .ok (.iinc 4 1, 3) := by decide +kernel
theorem dX7_isRow_37 : decode cX7_isRow 37 = .ok (.goto (-30), 3) := by decide +kernel
theorem dX7_isRow_40 : decode cX7_isRow 40 = .ok (.iload_n 2, 1) := by decide +kernel
theorem dX7_isRow_41 : decode cX7_isRow 41 = .ok (.iconst 1, 1) := by decide +kernel
theorem dX7_isRow_42 : decode cX7_isRow 42 = .ok (.aload_n 0, 1) := by decide +kernel
theorem dX7_isRow_43 : decode cX7_isRow 43 = .ok (.getfield 13, 3) := by decide +kernel
theorem dX7_isRow_46 : decode cX7_isRow 46 = .ok (.ishl, 1) := by decide +kernel
theorem dX7_isRow_47 : decode cX7_isRow 47 = .ok (.iconst 1, 1) := by decide +kernel
theorem dX7_isRow_48 : decode cX7_isRow 48 = .ok (.isub, 1) := by decide +kernel
theorem dX7_isRow_49 : decode cX7_isRow 49 = .ok (.if_icmp .ne 7, 3) := by decide +kernel
theorem dX7_isRow_52 : decode cX7_isRow 52 = .ok (.iconst 1, 1) := by decide +kernel
theorem dX7_isRow_53 : decode cX7_isRow 53 = .ok (.goto 4, 3) := by decide +kernel
theorem dX7_isRow_56 : decode cX7_isRow 56 = .ok (.iconst 0, 1) := by decide +kernel
theorem dX7_isRow_57 : decode cX7_isRow 57 = .ok (.ireturn, 1) := by decide +kernel
theorem dX7_order_0 : decode cX7_order 0 = .ok (.aload_n 0, 1) := by decide +kernel
theorem dX7_order_1 : decode cX7_order 1 = .ok (.iload_n 1, 1) := by decide +kernel
theorem dX7_order_2 : decode cX7_order 2 = .ok (.invokevirtual 162, 3) := by decide +kernel
theorem dX7_order_5 : decode cX7_order 5 = .ok (.ifCond .eq 18, 3) := by decide +kernel
theorem dX7_order_8 : decode cX7_order 8 = .ok (.iload_n 2, 1) := by decide +kernel
theorem dX7_order_9 : decode cX7_order 9 = .ok (.ifCond .eq 16, 3) := by decide +kernel
theorem dX7_order_12 : decode cX7_order 12 = .ok (.aload_n 0, 1) := by decide +kernel
theorem dX7_order_13 : decode cX7_order 13 = .ok (.iload_n 2, 1) := by decide +kernel
theorem dX7_order_14 : decode cX7_order 14 = .ok (.bipush 10, 2) := by decide +kernel
theorem dX7_order_16 : decode cX7_order 16 = .ok (.isub, 1) := by decide +kernel
theorem dX7_order_17 : decode cX7_order 17 = .ok (.invokevirtual 166, 3) := by decide +kernel
theorem dX7_order_20 : decode cX7_order 20 = .ok (.ifCond .ne 5, 3) := by decide +kernel
theorem dX7_order_23 : decode cX7_order 23 = .ok (.iconst (-1), 1) := by decide +kernel
theorem dX7_order_24 : decode cX7_order 24 = .ok (.ireturn, 1) := by decide +kernel
theorem dX7_order_25 : decode cX7_order 25 = .ok (.iconst 1, 1) := by decide +kernel
theorem dX7_order_26 : decode cX7_order 26 = .ok (.istore_n 3, 1) := by decide +kernel
theorem dX7_order_27 : decode cX7_order 27 = .ok (.iconst 0, 1) := by decide +kernel
theorem dX7_order_28 : decode cX7_order 28 = .ok (.istore 4, 2) := by decide +kernel
theorem dX7_order_30 : decode cX7_order 30 = .ok (.iload 4, 2) := by decide +kernel
theorem dX7_order_32 : decode cX7_order 32 = .ok (.aload_n 0, 1) := by decide +kernel
theorem dX7_order_33 : decode cX7_order 33 = .ok (.getfield 13, 3) := by decide +kernel
theorem dX7_order_36 : decode cX7_order 36 = .ok (.if_icmp .ge 16, 3) := by decide +kernel
theorem dX7_order_39 : decode cX7_order 39 = .ok (.iload_n 3, 1) := by decide +kernel
theorem dX7_order_40 : decode cX7_order 40 = .ok (.aload_n 0, 1) := by decide +kernel
theorem dX7_order_41 : decode cX7_order 41 = .ok (.getfield 13, 3) := by decide +kernel
theorem dX7_order_44 : decode cX7_order 44 = .ok (.imul, 1) := by decide +kernel
theorem dX7_order_45 : decode cX7_order 45 = .ok (.istore_n 3, 1) := by decide +kernel
theorem dX7_order_46 : decode cX7_order 46 = .ok (.iinc 4 1, 3) := by decide +kernel
theorem dX7_order_49 : decode cX7_order 49 = .ok (.goto (-19), 3) := by decide +kernel
theorem dX7_order_52 : decode cX7_order 52 = .ok (.ldc 205, 2) := by decide +kernel
theorem dX7_order_54 : decode cX7_order 54 = .ok (.istore 4, 2) := by decide +kernel
theorem dX7_order_56 : decode cX7_order 56 = .ok (.iconst 0, 1) := by decide +kernel
theorem dX7_order_57 : decode cX7_order 57 = .ok (.istore 5, 2) := by decide +kernel
theorem dX7_order_59 : decode cX7_order 59 = .ok (.iconst 0, 1) := by decide +kernel
theorem dX7_order_60 : decode cX7_order 60 = .ok (.istore 6, 2) := by decide +kernel
theorem dX7_order_62 : decode cX7_order 62 = .ok (.iload 6, 2) := by decide +kernel
theorem dX7_order_64 : decode cX7_order 64 = .ok (.iload_n 3, 1) := by decide +kernel
theorem dX7_order_65 : decode cX7_order 65 = .ok (.if_icmp .ge 87, 3) := by decide +kernel
theorem dX7_order_68 : decode cX7_order 68 = .ok (.aload_n 0, 1) := by decide +kernel
theorem dX7_order_69 : decode cX7_order 69 = .ok (.iload 6, 2) := by decide +kernel
theorem dX7_order_71 : decode cX7_order 71 = .ok (.invokevirtual 206, 3) := by decide +kernel
theorem dX7_order_74 : decode cX7_order 74 = .ok (.ifCond .eq 72, 3) := by decide +kernel
theorem dX7_order_77 : decode cX7_order 77 = .ok (.aload_n 0, 1) := by decide +kernel
theorem dX7_order_78 : decode cX7_order 78 = .ok (.iload_n 1, 1) := by decide +kernel
theorem dX7_order_79 : decode cX7_order 79 = .ok (.iload 6, 2) := by decide +kernel
end
section
theorem dX7_order_81 : decode cX7_order 81 = .ok (.invokevirtual 209, 3) := by decide +kernel
theorem dX7_order_84 : decode cX7_order 84 = .ok (.ifCond .eq 62, 3) := by decide +kernel
theorem dX7_order_87 : decode cX7_order 87 = .ok (.aload_n 0, 1) := by decide +kernel
theorem dX7_order_88 : decode cX7_order 88 = .ok (.sipush 375, 3) := by decide +kernel
theorem dX7_order_91 : decode cX7_order 91 = .ok (.aload_n 0, 1) := by decide +kernel
theorem dX7_order_92 : decode cX7_order 92 = .ok (.getfield 7, 3) := by decide +kernel
theorem dX7_order_95 : decode cX7_order 95 = .ok (.bipush 25, 2) := by decide +kernel
theorem dX7_order_97 : decode cX7_order 97 = .ok (.iaload, 1) := by decide +kernel
theorem dX7_order_98 : decode cX7_order 98 = .ok (.invokevirtual 199, 3) := by decide +kernel
theorem dX7_order_101 : decode cX7_order 101 = .ok (.pop, 1) := by decide +kernel
theorem dX7_order_102 : decode cX7_order 102 = .ok (.aload_n 0, 1) := by decide +kernel
theorem dX7_order_103 : decode cX7_order 103 = .ok (.getfield 29, 3) := by decide +kernel
theorem dX7_order_106 : decode cX7_order 106 = .ok (.iload_n 1, 1) := by decide +kernel
theorem dX7_order_107 : decode cX7_order 107 = .ok (.iaload, 1) := by decide +kernel
theorem dX7_order_108 : decode cX7_order 108 = .ok (.iload 4, 2) := by decide +kernel
theorem dX7_order_110 : decode cX7_order 110 = .ok (.if_icmp .ge 8, 3) := by decide +kernel
theorem dX7_order_113 : decode cX7_order 113 = .ok (.iload 6, 2) := by decide +kernel
theorem dX7_order_115 : decode cX7_order 115 = .ok (.goto 5, 3) := by decide +kernel
theorem dX7_order_118 : decode cX7_order 118 = .ok (.iload 5, 2) := by decide +kernel
theorem dX7_order_120 : decode cX7_order 120 = .ok (.istore 5, 2) := by decide +kernel
theorem dX7_order_122 : decode cX7_order 122 = .ok (.aload_n 0, 1) := by decide +kernel
theorem dX7_order_123 : decode cX7_order 123 = .ok (.getfield 29, 3) := by decide +kernel
theorem dX7_order_126 : decode cX7_order 126 = .ok (.iload_n 1, 1) := by decide +kernel
theorem dX7_order_127 : decode cX7_order 127 = .ok (.iaload, 1) := by decide +kernel
theorem dX7_order_128 : decode cX7_order 128 = .ok (.iload 4, 2) := by decide +kernel
theorem dX7_order_130 : decode cX7_order 130 = .ok (.if_icmp .ge 12, 3) := by decide +kernel
theorem dX7_order_133 : decode cX7_order 133 = .ok (.aload_n 0, 1) := by decide +kernel
theorem dX7_order_134 : decode cX7_order 134 = .ok (.getfield 29, 3) := by decide +kernel
theorem dX7_order_137 : decode cX7_order 137 = .ok (.iload_n 1, 1) := by decide +kernel
theorem dX7_order_138 : decode cX7_order 138 = .ok (.iaload, 1) := by decide +kernel
theorem dX7_order_139 : decode cX7_order 139 = .ok (.goto 5, 3) := by decide +kernel
theorem dX7_order_142 : decode cX7_order 142 = .ok (.iload 4, 2) := by decide +kernel
theorem dX7_order_144 : decode cX7_order 144 = .ok (.istore 4, 2) := by decide +kernel
theorem dX7_order_146 : decode cX7_order 146 = .ok (.iinc 6 1, 3) := by decide +kernel
theorem dX7_order_149 : decode cX7_order 149 = .ok (.goto (-87), 3) := by decide +kernel
theorem dX7_order_152 : decode cX7_order 152 = .ok (.aload_n 0, 1) := by decide +kernel
theorem dX7_order_153 : decode cX7_order 153 = .ok (.getfield 13, 3) := by decide +kernel
theorem dX7_order_156 : decode cX7_order 156 = .ok (.iconst 1, 1) := by decide +kernel
theorem dX7_order_157 : decode cX7_order 157 = .ok (.isub, 1) := by decide +kernel
theorem dX7_order_158 : decode cX7_order 158 = .ok (.istore 6, 2) := by decide +kernel
theorem dX7_order_160 : decode cX7_order 160 = .ok (.iload 6, 2) := by decide +kernel
theorem dX7_order_162 : decode cX7_order 162 = .ok (.iload_n 2, 1) := by decide +kernel
theorem dX7_order_163 : decode cX7_order 163 = .ok (.bipush 10, 2) := by decide +kernel
theorem dX7_order_165 : decode cX7_order 165 = .ok (.isub, 1) := by decide +kernel
theorem dX7_order_166 : decode cX7_order 166 = .ok (.if_icmp .le 22, 3) := by decide +kernel
theorem dX7_order_169 : decode cX7_order 169 = .ok (.iload_n 2, 1) := by decide +kernel
theorem dX7_order_170 : decode cX7_order 170 = .ok (.ifCond .le 18, 3) := by decide +kernel
theorem dX7_order_173 : decode cX7_order 173 = .ok (.iload 5, 2) := by decide +kernel
theorem dX7_order_175 : decode cX7_order 175 = .ok (.aload_n 0, 1) := by decide +kernel
theorem dX7_order_176 : decode cX7_order 176 = .ok (.getfield 13, 3) := by decide +kernel
theorem dX7_order_179 : decode cX7_order 179 = .ok (.idiv, 1) := by decide +kernel
theorem dX7_order_180 : decode cX7_order 180 = .ok (.istore 5, 2) := by decide +kernel
theorem dX7_order_182 : decode cX7_order 182 = .ok (.iinc 6 (-1), 3) := by decide +kernel
theorem dX7_order_185 : decode cX7_order 185 = .ok (.goto (-25), 3) := by decide +kernel
theorem dX7_order_188 : decode cX7_order 188 = .ok (.iload_n 2, 1) := by decide +kernel
theorem dX7_order_189 : decode cX7_order 189 = .ok (.ifCond .ne 8, 3) := by decide +kernel
theorem dX7_order_192 : decode cX7_order 192 = .ok (.iload 4, 2) := by decide +kernel
theorem dX7_order_194 : decode cX7_order 194 = .ok (.goto 10, 3) := by decide +kernel
theorem dX7_order_197 : decode cX7_order 197 = .ok (.iload 5, 2) := by decide +kernel
theorem dX7_order_199 : decode cX7_order 199 = .ok (.aload_n 0, 1) := by decide +kernel
theorem dX7_order_200 : decode cX7_order 200 = .ok (.getfield 13, 3) := by decide +kernel
theorem dX7_order_203 : decode cX7_order 203 = .ok (.irem, 1) := by decide +kernel
theorem dX7_order_204 : decode cX7_order 204 = .ok (.ireturn, 1) := by decide +kernel
theorem dX7_kind_0 : decode cX7_kind 0 = .ok (.aload_n 0, 1) := by decide +kernel
theorem dX7_kind_1 : decode cX7_kind 1 = .ok (.iload_n 1, 1) := by decide +kernel
theorem dX7_kind_2 : decode cX7_kind 2 = .ok (.invokevirtual 162, 3) := by decide +kernel
theorem dX7_kind_5 : decode cX7_kind 5 = .ok (.ifCond .eq 25, 3) := by decide +kernel
theorem dX7_kind_8 : decode cX7_kind 8 = .ok (.iload_n 2, 1) := by decide +kernel
theorem dX7_kind_9 : decode cX7_kind 9 = .ok (.i2l, 1) := by decide +kernel
theorem dX7_kind_10 : decode cX7_kind 10 = .ok (.lconst 0, 1) := by decide +kernel
theorem dX7_kind_11 : decode cX7_kind 11 = .ok (.ldc2_w 197, 3) := by decide +kernel
theorem dX7_kind_14 : decode cX7_kind 14 = .ok (.invokestatic 56, 3) := by decide +kernel
theorem dX7_kind_17 : decode cX7_kind 17 = .ok (.ifCond .eq 13, 3) := by decide +kernel
theorem dX7_kind_20 : decode cX7_kind 20 = .ok (.iload_n 3, 1) := by decide +kernel
theorem dX7_kind_21 : decode cX7_kind 21 = .ok (.i2l, 1) := by decide +kernel
theorem dX7_kind_22 : decode cX7_kind 22 = .ok (.lconst 0, 1) := by decide +kernel
theorem dX7_kind_23 : decode cX7_kind 23 = .ok (.lconst 1, 1) := by decide +kernel
theorem dX7_kind_24 : decode cX7_kind 24 = .ok (.invokestatic 56, 3) := by decide +kernel
theorem dX7_kind_27 : decode cX7_kind 27 = .ok (.ifCond .ne 5, 3) := by decide +kernel
theorem dX7_kind_30 : decode cX7_kind 30 = .ok (.iconst (-1), 1) := by decide +kernel
theorem dX7_kind_31 : decode cX7_kind 31 = .ok (.ireturn, 1) := by decide +kernel
theorem dX7_kind_32 : decode cX7_kind 32 = .ok (.ldc 205, 2) := by decide +kernel
theorem dX7_kind_34 : decode cX7_kind 34 = .ok (.istore 4, 2) := by decide +kernel
theorem dX7_kind_36 : decode cX7_kind 36 = .ok (.iconst 0, 1) := by decide +kernel
theorem dX7_kind_37 : decode cX7_kind 37 = .ok (.istore 5, 2) := by decide +kernel
theorem dX7_kind_39 : decode cX7_kind 39 = .ok (.aload_n 0, 1) := by decide +kernel
theorem dX7_kind_40 : decode cX7_kind 40 = .ok (.iconst 0, 1) := by decide +kernel
theorem dX7_kind_41 : decode cX7_kind 41 = .ok (.sipush 375, 3) := by decide +kernel
theorem dX7_kind_44 : decode cX7_kind 44 = .ok (.invokevirtual 193, 3) := by decide +kernel
theorem dX7_kind_47 : decode cX7_kind 47 = .ok (.iconst 0, 1) := by decide +kernel
theorem dX7_kind_48 : decode cX7_kind 48 = .ok (.istore 6, 2) := by decide +kernel
theorem dX7_kind_50 : decode cX7_kind 50 = .ok (.iload 6, 2) := by decide +kernel
theorem dX7_kind_52 : decode cX7_kind 52 = .ok (.iconst 4, 1) := by decide +kernel
theorem dX7_kind_53 : decode cX7_kind 53 = .ok (.if_icmp .ge 74, 3) := by decide +kernel
theorem dX7_kind_56 : decode cX7_kind 56 = .ok (.aload_n 0, 1) := by decide +kernel
theorem dX7_kind_57 : decode cX7_kind 57 = .ok (.getfield 7, 3) := by decide +kernel
theorem dX7_kind_60 : decode cX7_kind 60 = .ok (.sipush 375, 3) := by decide +kernel
theorem dX7_kind_63 : decode cX7_kind 63 = .ok (.iload_n 1, 1) := by decide +kernel
theorem dX7_kind_64 : decode cX7_kind 64 = .ok (.iadd, 1) := by decide +kernel
theorem dX7_kind_65 : decode cX7_kind 65 = .ok (.iload 6, 2) := by decide +kernel
theorem dX7_kind_67 : decode cX7_kind 67 = .ok (.iastore, 1) := by decide +kernel
theorem dX7_kind_68 : decode cX7_kind 68 = .ok (.aload_n 0, 1) := by decide +kernel
theorem dX7_kind_69 : decode cX7_kind 69 = .ok (.sipush 375, 3) := by decide +kernel
theorem dX7_kind_72 : decode cX7_kind 72 = .ok (.iload_n 2, 1) := by decide +kernel
theorem dX7_kind_73 : decode cX7_kind 73 = .ok (.invokevirtual 199, 3) := by decide +kernel
theorem dX7_kind_76 : decode cX7_kind 76 = .ok (.pop, 1) := by decide +kernel
theorem dX7_kind_77 : decode cX7_kind 77 = .ok (.aload_n 0, 1) := by decide +kernel
theorem dX7_kind_78 : decode cX7_kind 78 = .ok (.getfield 29, 3) := by decide +kernel
theorem dX7_kind_81 : decode cX7_kind 81 = .ok (.iload_n 1, 1) := by decide +kernel
theorem dX7_kind_82 : decode cX7_kind 82 = .ok (.iaload, 1) := by decide +kernel
theorem dX7_kind_83 : decode cX7_kind 83 = .ok (.iload 4, 2) := by decide +kernel
theorem dX7_kind_85 : decode cX7_kind 85 = .ok (.if_icmp .ge 8, 3) := by decide +kernel
theorem dX7_kind_88 : decode cX7_kind 88 = .ok (.iload 6, 2) := by decide +kernel
theorem dX7_kind_90 : decode cX7_kind 90 = .ok (.goto 5, 3) := by decide +kernel
theorem dX7_kind_93 : decode cX7_kind 93 = .ok (.iload 5, 2) := by decide +kernel
theorem dX7_kind_95 : decode cX7_kind 95 = .ok (.istore 5, 2) := by decide +kernel
theorem dX7_kind_97 : decode cX7_kind 97 = .ok (.aload_n 0, 1) := by decide +kernel
theorem dX7_kind_98 : decode cX7_kind 98 = .ok (.getfield 29, 3) := by decide +kernel
theorem dX7_kind_101 : decode cX7_kind 101 = .ok (.iload_n 1, 1) := by decide +kernel
theorem dX7_kind_102 : decode cX7_kind 102 = .ok (.iaload, 1) := by decide +kernel
theorem dX7_kind_103 : decode cX7_kind 103 = .ok (.iload 4, 2) := by decide +kernel
theorem dX7_kind_105 : decode cX7_kind 105 = .ok (.if_icmp .ge 12, 3) := by decide +kernel
theorem dX7_kind_108 : decode cX7_kind 108 = .ok (.aload_n 0, 1) := by decide +kernel
theorem dX7_kind_109 : decode cX7_kind 109 = .ok (.getfield 29, 3) := by decide +kernel
theorem dX7_kind_112 : decode cX7_kind 112 = .ok (.iload_n 1, 1) := by decide +kernel
theorem dX7_kind_113 : decode cX7_kind 113 = .ok (.iaload, 1) := by decide +kernel
theorem dX7_kind_114 : decode cX7_kind 114 = .ok (.goto 5, 3) := by decide +kernel
theorem dX7_kind_117 : decode cX7_kind 117 = .ok (.iload 4, 2) := by decide +kernel
theorem dX7_kind_119 : decode cX7_kind 119 = .ok (.istore 4, 2) := by decide +kernel
theorem dX7_kind_121 : decode cX7_kind 121 = .ok (.iinc 6 1, 3) := by decide +kernel
theorem dX7_kind_124 : decode cX7_kind 124 = .ok (.goto (-74), 3) := by decide +kernel
theorem dX7_kind_127 : decode cX7_kind 127 = .ok (.iload_n 3, 1) := by decide +kernel
theorem dX7_kind_128 : decode cX7_kind 128 = .ok (.ifCond .ne 8, 3) := by decide +kernel
theorem dX7_kind_131 : decode cX7_kind 131 = .ok (.iload 5, 2) := by decide +kernel
theorem dX7_kind_133 : decode cX7_kind 133 = .ok (.goto 5, 3) := by decide +kernel
theorem dX7_kind_136 : decode cX7_kind 136 = .ok (.iload 4, 2) := by decide +kernel
theorem dX7_kind_138 : decode cX7_kind 138 = .ok (.ireturn, 1) := by decide +kernel
theorem dX7_first_0 : decode cX7_first 0 = .ok (.aload_n 0, 1) := by decide +kernel
theorem dX7_first_1 : decode cX7_first 1 = .ok (.iload_n 1, 1) := by decide +kernel
theorem dX7_first_2 : decode cX7_first 2 = .ok (.invokevirtual 162, 3) := by decide +kernel
theorem dX7_first_5 : decode cX7_first 5 = .ok (.ifCond .eq 25, 3) := by decide +kernel
theorem dX7_first_8 : decode cX7_first 8 = .ok (.iload_n 2, 1) := by decide +kernel
theorem dX7_first_9 : decode cX7_first 9 = .ok (.i2l, 1) := by decide +kernel
theorem dX7_first_10 : decode cX7_first 10 = .ok (.lconst 0, 1) := by decide +kernel
theorem dX7_first_11 : decode cX7_first 11 = .ok (.ldc2_w 197, 3) := by decide +kernel
theorem dX7_first_14 : decode cX7_first 14 = .ok (.invokestatic 56, 3) := by decide +kernel
theorem dX7_first_17 : decode cX7_first 17 = .ok (.ifCond .eq 13, 3) := by decide +kernel
theorem dX7_first_20 : decode cX7_first 20 = .ok (.iload_n 3, 1) := by decide +kernel
theorem dX7_first_21 : decode cX7_first 21 = .ok (.i2l, 1) := by decide +kernel
theorem dX7_first_22 : decode cX7_first 22 = .ok (.lconst 0, 1) := by decide +kernel
theorem dX7_first_23 : decode cX7_first 23 = .ok (.lconst 1, 1) := by decide +kernel
theorem dX7_first_24 : decode cX7_first 24 = .ok (.invokestatic 56, 3) := by decide +kernel
theorem dX7_first_27 : decode cX7_first 27 = .ok (.ifCond .ne 5, 3) := by decide +kernel
theorem dX7_first_30 : decode cX7_first 30 = .ok (.iconst (-1), 1) := by decide +kernel
theorem dX7_first_31 : decode cX7_first 31 = .ok (.ireturn, 1) := by decide +kernel
theorem dX7_first_32 : decode cX7_first 32 = .ok (.ldc 205, 2) := by decide +kernel
theorem dX7_first_34 : decode cX7_first 34 = .ok (.istore 4, 2) := by decide +kernel
theorem dX7_first_36 : decode cX7_first 36 = .ok (.iconst 0, 1) := by decide +kernel
theorem dX7_first_37 : decode cX7_first 37 = .ok (.istore 5, 2) := by decide +kernel
theorem dX7_first_39 : decode cX7_first 39 = .ok (.iconst 0, 1) := by decide +kernel
theorem dX7_first_40 : decode cX7_first 40 = .ok (.istore 6, 2) := by decide +kernel
theorem dX7_first_42 : decode cX7_first 42 = .ok (.iload 6, 2) := by decide +kernel
theorem dX7_first_44 : decode cX7_first 44 = .ok (.aload_n 0, 1) := by decide +kernel
theorem dX7_first_45 : decode cX7_first 45 = .ok (.getfield 13, 3) := by decide +kernel
theorem dX7_first_48 : decode cX7_first 48 = .ok (.if_icmp .ge 89, 3) := by decide +kernel
theorem dX7_first_51 : decode cX7_first 51 = .ok (.aload_n 0, 1) := by decide +kernel
theorem dX7_first_52 : decode cX7_first 52 = .ok (.iconst 0, 1) := by decide +kernel
theorem dX7_first_53 : decode cX7_first 53 = .ok (.sipush 375, 3) := by decide +kernel
theorem dX7_first_56 : decode cX7_first 56 = .ok (.invokevirtual 193, 3) := by decide +kernel
theorem dX7_first_59 : decode cX7_first 59 = .ok (.aload_n 0, 1) := by decide +kernel
theorem dX7_first_60 : decode cX7_first 60 = .ok (.sipush 375, 3) := by decide +kernel
theorem dX7_first_63 : decode cX7_first 63 = .ok (.iload_n 1, 1) := by decide +kernel
theorem dX7_first_64 : decode cX7_first 64 = .ok (.aload_n 0, 1) := by decide +kernel
theorem dX7_first_65 : decode cX7_first 65 = .ok (.sipush 375, 3) := by decide +kernel
theorem dX7_first_68 : decode cX7_first 68 = .ok (.iload_n 1, 1) := by decide +kernel
theorem dX7_first_69 : decode cX7_first 69 = .ok (.iload 6, 2) := by decide +kernel
theorem dX7_first_71 : decode cX7_first 71 = .ok (.invokevirtual 144, 3) := by decide +kernel
theorem dX7_first_74 : decode cX7_first 74 = .ok (.iconst 0, 1) := by decide +kernel
theorem dX7_first_75 : decode cX7_first 75 = .ok (.invokevirtual 152, 3) := by decide +kernel
theorem dX7_first_78 : decode cX7_first 78 = .ok (.aload_n 0, 1) := by decide +kernel
theorem dX7_first_79 : decode cX7_first 79 = .ok (.sipush 375, 3) := by decide +kernel
theorem dX7_first_82 : decode cX7_first 82 = .ok (.iload_n 2, 1) := by decide +kernel
theorem dX7_first_83 : decode cX7_first 83 = .ok (.invokevirtual 199, 3) := by decide +kernel
theorem dX7_first_86 : decode cX7_first 86 = .ok (.pop, 1) := by decide +kernel
theorem dX7_first_87 : decode cX7_first 87 = .ok (.aload_n 0, 1) := by decide +kernel
theorem dX7_first_88 : decode cX7_first 88 = .ok (.getfield 29, 3) := by decide +kernel
theorem dX7_first_91 : decode cX7_first 91 = .ok (.iload_n 1, 1) := by decide +kernel
theorem dX7_first_92 : decode cX7_first 92 = .ok (.iaload, 1) := by decide +kernel
theorem dX7_first_93 : decode cX7_first 93 = .ok (.iload 4, 2) := by decide +kernel
theorem dX7_first_95 : decode cX7_first 95 = .ok (.if_icmp .ge 8, 3) := by decide +kernel
theorem dX7_first_98 : decode cX7_first 98 = .ok (.iload 6, 2) := by decide +kernel
theorem dX7_first_100 : decode cX7_first 100 = .ok (.goto 5, 3) := by decide +kernel
theorem dX7_first_103 : decode cX7_first 103 = .ok (.iload 5, 2) := by decide +kernel
theorem dX7_first_105 : decode cX7_first 105 = .ok (.istore 5, 2) := by decide +kernel
theorem dX7_first_107 : decode cX7_first 107 = .ok (.aload_n 0, 1) := by decide +kernel
theorem dX7_first_108 : decode cX7_first 108 = .ok (.getfield 29, 3) := by decide +kernel
theorem dX7_first_111 : decode cX7_first 111 = .ok (.iload_n 1, 1) := by decide +kernel
theorem dX7_first_112 : decode cX7_first 112 = .ok (.iaload, 1) := by decide +kernel
theorem dX7_first_113 : decode cX7_first 113 = .ok (.iload 4, 2) := by decide +kernel
theorem dX7_first_115 : decode cX7_first 115 = .ok (.if_icmp .ge 12, 3) := by decide +kernel
theorem dX7_first_118 : decode cX7_first 118 = .ok (.aload_n 0, 1) := by decide +kernel
theorem dX7_first_119 : decode cX7_first 119 = .ok (.getfield 29, 3) := by decide +kernel
theorem dX7_first_122 : decode cX7_first 122 = .ok (.iload_n 1, 1) := by decide +kernel
theorem dX7_first_123 : decode cX7_first 123 = .ok (.iaload, 1) := by decide +kernel
theorem dX7_first_124 : decode cX7_first 124 = .ok (.goto 5, 3) := by decide +kernel
theorem dX7_first_127 : decode cX7_first 127 = .ok (.iload 4, 2) := by decide +kernel
theorem dX7_first_129 : decode cX7_first 129 = .ok (.istore 4, 2) := by decide +kernel
theorem dX7_first_131 : decode cX7_first 131 = .ok (.iinc 6 1, 3) := by decide +kernel
theorem dX7_first_134 : decode cX7_first 134 = .ok (.goto (-92), 3) := by decide +kernel
theorem dX7_first_137 : decode cX7_first 137 = .ok (.iload_n 3, 1) := by decide +kernel
theorem dX7_first_138 : decode cX7_first 138 = .ok (.ifCond .ne 8, 3) := by decide +kernel
theorem dX7_first_141 : decode cX7_first 141 = .ok (.iload 5, 2) := by decide +kernel
theorem dX7_first_143 : decode cX7_first 143 = .ok (.goto 5, 3) := by decide +kernel
theorem dX7_first_146 : decode cX7_first 146 = .ok (.iload 4, 2) := by decide +kernel
theorem dX7_first_148 : decode cX7_first 148 = .ok (.ireturn, 1) := by decide +kernel
theorem dX7_swap_0 : decode cX7_swap 0 = .ok (.iload_n 1, 1) := by decide +kernel
theorem dX7_swap_1 : decode cX7_swap 1 = .ok (.i2l, 1) := by decide +kernel
theorem dX7_swap_2 : decode cX7_swap 2 = .ok (.lconst 0, 1) := by decide +kernel
theorem dX7_swap_3 : decode cX7_swap 3 = .ok (.ldc2_w 197, 3) := by decide +kernel
theorem dX7_swap_6 : decode cX7_swap 6 = .ok (.invokestatic 56, 3) := by decide +kernel
theorem dX7_swap_9 : decode cX7_swap 9 = .ok (.ifCond .eq 13, 3) := by decide +kernel
theorem dX7_swap_12 : decode cX7_swap 12 = .ok (.iload_n 2, 1) := by decide +kernel
theorem dX7_swap_13 : decode cX7_swap 13 = .ok (.i2l, 1) := by decide +kernel
theorem dX7_swap_14 : decode cX7_swap 14 = .ok (.lconst 0, 1) := by decide +kernel
theorem dX7_swap_15 : decode cX7_swap 15 = .ok (.lconst 1, 1) := by decide +kernel
theorem dX7_swap_16 : decode cX7_swap 16 = .ok (.invokestatic 56, 3) := by decide +kernel
theorem dX7_swap_19 : decode cX7_swap 19 = .ok (.ifCond .ne 5, 3) := by decide +kernel
theorem dX7_swap_22 : decode cX7_swap 22 = .ok (.iconst (-1), 1) := by decide +kernel
theorem dX7_swap_23 : decode cX7_swap 23 = .ok (.ireturn, 1) := by decide +kernel
theorem dX7_swap_24 : decode cX7_swap 24 = .ok (.aload_n 0, 1) := by decide +kernel
theorem dX7_swap_25 : decode cX7_swap 25 = .ok (.iconst 0, 1) := by decide +kernel
theorem dX7_swap_26 : decode cX7_swap 26 = .ok (.iload_n 1, 1) := by decide +kernel
theorem dX7_swap_27 : decode cX7_swap 27 = .ok (.invokevirtual 199, 3) := by decide +kernel
theorem dX7_swap_30 : decode cX7_swap 30 = .ok (.istore_n 3, 1) := by decide +kernel
theorem dX7_swap_31 : decode cX7_swap 31 = .ok (.bipush (-4), 2) := by decide +kernel
theorem dX7_swap_33 : decode cX7_swap 33 = .ok (.istore 4, 2) := by decide +kernel
theorem dX7_swap_35 : decode cX7_swap 35 = .ok (.iconst 0, 1) := by decide +kernel
theorem dX7_swap_36 : decode cX7_swap 36 = .ok (.istore 5, 2) := by decide +kernel
theorem dX7_swap_38 : decode cX7_swap 38 = .ok (.iload 5, 2) := by decide +kernel
theorem dX7_swap_40 : decode cX7_swap 40 = .ok (.aload_n 0, 1) := by decide +kernel
theorem dX7_swap_41 : decode cX7_swap 41 = .ok (.getfield 7, 3) := by decide +kernel
theorem dX7_swap_44 : decode cX7_swap 44 = .ok (.bipush 25, 2) := by decide +kernel
theorem dX7_swap_46 : decode cX7_swap 46 = .ok (.iaload, 1) := by decide +kernel
theorem dX7_swap_47 : decode cX7_swap 47 = .ok (.if_icmp .ge 127, 3) := by decide +kernel
theorem dX7_swap_50 : decode cX7_swap 50 = .ok (.iload 5, 2) := by decide +kernel
theorem dX7_swap_52 : decode cX7_swap 52 = .ok (.iconst 1, 1) := by decide +kernel
theorem dX7_swap_53 : decode cX7_swap 53 = .ok (.iadd, 1) := by decide +kernel
theorem dX7_swap_54 : decode cX7_swap 54 = .ok (.istore 6, 2) := by decide +kernel
theorem dX7_swap_56 : decode cX7_swap 56 = .ok (.iload 6, 2) := by decide +kernel
theorem dX7_swap_58 : decode cX7_swap 58 = .ok (.aload_n 0, 1) := by decide +kernel
theorem dX7_swap_59 : decode cX7_swap 59 = .ok (.getfield 7, 3) := by decide +kernel
theorem dX7_swap_62 : decode cX7_swap 62 = .ok (.bipush 25, 2) := by decide +kernel
theorem dX7_swap_64 : decode cX7_swap 64 = .ok (.iaload, 1) := by decide +kernel
theorem dX7_swap_65 : decode cX7_swap 65 = .ok (.if_icmp .ge 103, 3) := by decide +kernel
theorem dX7_swap_68 : decode cX7_swap 68 = .ok (.aload_n 0, 1) := by decide +kernel
theorem dX7_swap_69 : decode cX7_swap 69 = .ok (.iconst 0, 1) := by decide +kernel
theorem dX7_swap_70 : decode cX7_swap 70 = .ok (.sipush 375, 3) := by decide +kernel
theorem dX7_swap_73 : decode cX7_swap 73 = .ok (.invokevirtual 193, 3) := by decide +kernel
theorem dX7_swap_76 : decode cX7_swap 76 = .ok (.aload_n 0, 1) := by decide +kernel
theorem dX7_swap_77 : decode cX7_swap 77 = .ok (.getfield 7, 3) := by decide +kernel
theorem dX7_swap_80 : decode cX7_swap 80 = .ok (.sipush 384, 3) := by decide +kernel
theorem dX7_swap_83 : decode cX7_swap 83 = .ok (.iload 5, 2) := by decide +kernel
theorem dX7_swap_85 : decode cX7_swap 85 = .ok (.iadd, 1) := by decide +kernel
theorem dX7_swap_86 : decode cX7_swap 86 = .ok (.aload_n 0, 1) := by decide +kernel
theorem dX7_swap_87 : decode cX7_swap 87 = .ok (.getfield 7, 3) := by decide +kernel
theorem dX7_swap_90 : decode cX7_swap 90 = .ok (.bipush 9, 2) := by decide +kernel
theorem dX7_swap_92 : decode cX7_swap 92 = .ok (.iload 6, 2) := by decide +kernel
theorem dX7_swap_94 : decode cX7_swap 94 = .ok (.iadd, 1) := by decide +kernel
theorem dX7_swap_95 : decode cX7_swap 95 = .ok (.iaload, 1) := by decide +kernel
theorem dX7_swap_96 : decode cX7_swap 96 = .ok (.iastore, 1) := by decide +kernel
theorem dX7_swap_97 : decode cX7_swap 97 = .ok (.aload_n 0, 1) := by decide +kernel
theorem dX7_swap_98 : decode cX7_swap 98 = .ok (.getfield 7, 3) := by decide +kernel
theorem dX7_swap_101 : decode cX7_swap 101 = .ok (.sipush 384, 3) := by decide +kernel
theorem dX7_swap_104 : decode cX7_swap 104 = .ok (.iload 6, 2) := by decide +kernel
theorem dX7_swap_106 : decode cX7_swap 106 = .ok (.iadd, 1) := by decide +kernel
theorem dX7_swap_107 : decode cX7_swap 107 = .ok (.aload_n 0, 1) := by decide +kernel
theorem dX7_swap_108 : decode cX7_swap 108 = .ok (.getfield 7, 3) := by decide +kernel
theorem dX7_swap_111 : decode cX7_swap 111 = .ok (.bipush 9, 2) := by decide +kernel
theorem dX7_swap_113 : decode cX7_swap 113 = .ok (.iload 5, 2) := by decide +kernel
theorem dX7_swap_115 : decode cX7_swap 115 = .ok (.iadd, 1) := by decide +kernel
theorem dX7_swap_116 : decode cX7_swap 116 = .ok (.iaload, 1) := by decide +kernel
theorem dX7_swap_117 : decode cX7_swap 117 = .ok (.iastore, 1) := by decide +kernel
theorem dX7_swap_118 : decode cX7_swap 118 = .ok (.aload_n 0, 1) := by decide +kernel
theorem dX7_swap_119 : decode cX7_swap 119 = .ok (.sipush 375, 3) := by decide +kernel
theorem dX7_swap_122 : decode cX7_swap 122 = .ok (.iload_n 1, 1) := by decide +kernel
theorem dX7_swap_123 : decode cX7_swap 123 = .ok (.invokevirtual 199, 3) := by decide +kernel
theorem dX7_swap_126 : decode cX7_swap 126 = .ok (.istore 7, 2) := by decide +kernel
theorem dX7_swap_128 : decode cX7_swap 128 = .ok (.iload 7, 2) := by decide +kernel
theorem dX7_swap_130 : decode cX7_swap 130 = .ok (.iload_n 3, 1) := by decide +kernel
theorem dX7_swap_131 : decode cX7_swap 131 = .ok (.if_icmp .ge 14, 3) := by decide +kernel
theorem dX7_swap_134 : decode cX7_swap 134 = .ok (.bipush 100, 2) := by decide +kernel
theorem dX7_swap_136 : decode cX7_swap 136 = .ok (.iload 5, 2) := by decide +kernel
theorem dX7_swap_138 : decode cX7_swap 138 = .ok (.imul, 1) := by decide +kernel
theorem dX7_swap_139 : decode cX7_swap 139 = .ok (.iload 6, 2) := by decide +kernel
theorem dX7_swap_141 : decode cX7_swap 141 = .ok (.iadd, 1) := by decide +kernel
theorem dX7_swap_142 : decode cX7_swap 142 = .ok (.goto 5, 3) := by decide +kernel
theorem dX7_swap_145 : decode cX7_swap 145 = .ok (.iload 4, 2) := by decide +kernel
theorem dX7_swap_147 : decode cX7_swap 147 = .ok (.istore 4, 2) := by decide +kernel
theorem dX7_swap_149 : decode cX7_swap 149 = .ok (.iload 7, 2) := by decide +kernel
theorem dX7_swap_151 : decode cX7_swap 151 = .ok (.iload_n 3, 1) := by decide +kernel
theorem dX7_swap_152 : decode cX7_swap 152 = .ok (.if_icmp .ge 8, 3) := by decide +kernel
theorem dX7_swap_155 : decode cX7_swap 155 = .ok (.iload 7, 2) := by decide +kernel
theorem dX7_swap_157 : decode cX7_swap 157 = .ok (.goto 4, 3) := by decide +kernel
theorem dX7_swap_160 : decode cX7_swap 160 = .ok (.iload_n 3, 1) := by decide +kernel
theorem dX7_swap_161 : decode cX7_swap 161 = .ok (.istore_n 3, 1) := by decide +kernel
theorem dX7_swap_162 : decode cX7_swap 162 = .ok (.iinc 6 1, 3) := by decide +kernel
theorem dX7_swap_165 : decode cX7_swap 165 = .ok (.goto (-109), 3) := by decide +kernel
theorem dX7_swap_168 : decode cX7_swap 168 = .ok (.iinc 5 1, 3) := by decide +kernel
theorem dX7_swap_171 : decode cX7_swap 171 = .ok (.goto (-133), 3) := by decide +kernel
theorem dX7_swap_174 : decode cX7_swap 174 = .ok (.iload 4, 2) := by decide +kernel
theorem dX7_swap_176 : decode cX7_swap 176 = .ok (.bipush (-4), 2) := by decide +kernel
theorem dX7_swap_178 : decode cX7_swap 178 = .ok (.if_icmp .eq 7, 3) := by decide +kernel
theorem dX7_swap_181 : decode cX7_swap 181 = .ok (.iload_n 2, 1) := by decide +kernel
theorem dX7_swap_182 : decode cX7_swap 182 = .ok (.ifCond .ne 8, 3) := by decide +kernel
theorem dX7_swap_185 : decode cX7_swap 185 = .ok (.iload 4, 2) := by decide +kernel
theorem dX7_swap_187 : decode cX7_swap 187 = .ok (.goto 4, 3) := by decide +kernel
theorem dX7_swap_190 : decode cX7_swap 190 = .ok (.iload_n 3, 1) := by decide +kernel
theorem dX7_swap_191 : decode cX7_swap 191 = .ok (.ireturn, 1) := by decide +kernel
theorem dX7_lose_0 : decode cX7_lose 0 = .ok (.iload_n 1, 1) := by decide +kernel
theorem dX7_lose_1 : decode cX7_lose 1 = .ok (.i2l, 1) := by decide +kernel
theorem dX7_lose_2 : decode cX7_lose 2 = .ok (.lconst 0, 1) := by decide +kernel
theorem dX7_lose_3 : decode cX7_lose 3 = .ok (.ldc2_w 197, 3) := by decide +kernel
theorem dX7_lose_6 : decode cX7_lose 6 = .ok (.invokestatic 56, 3) := by decide +kernel
theorem dX7_lose_9 : decode cX7_lose 9 = .ok (.ifCond .eq 13, 3) := by decide +kernel
theorem dX7_lose_12 : decode cX7_lose 12 = .ok (.iload_n 2, 1) := by decide +kernel
theorem dX7_lose_13 : decode cX7_lose 13 = .ok (.i2l, 1) := by decide +kernel
theorem dX7_lose_14 : decode cX7_lose 14 = .ok (.lconst 0, 1) := by decide +kernel
theorem dX7_lose_15 : decode cX7_lose 15 = .ok (.lconst 1, 1) := by decide +kernel
theorem dX7_lose_16 : decode cX7_lose 16 = .ok (.invokestatic 56, 3) := by decide +kernel
theorem dX7_lose_19 : decode cX7_lose 19 = .ok (.ifCond .ne 5, 3) := by decide +kernel
theorem dX7_lose_22 : decode cX7_lose 22 = .ok (.iconst (-1), 1) := by decide +kernel
theorem dX7_lose_23 : decode cX7_lose 23 = .ok (.ireturn, 1) := by decide +kernel
theorem dX7_lose_24 : decode cX7_lose 24 = .ok (.aload_n 0, 1) := by decide +kernel
theorem dX7_lose_25 : decode cX7_lose 25 = .ok (.iconst 0, 1) := by decide +kernel
theorem dX7_lose_26 : decode cX7_lose 26 = .ok (.iload_n 1, 1) := by decide +kernel
theorem dX7_lose_27 : decode cX7_lose 27 = .ok (.invokevirtual 199, 3) := by decide +kernel
theorem dX7_lose_30 : decode cX7_lose 30 = .ok (.istore_n 3, 1) := by decide +kernel
theorem dX7_lose_31 : decode cX7_lose 31 = .ok (.bipush (-4), 2) := by decide +kernel
theorem dX7_lose_33 : decode cX7_lose 33 = .ok (.istore 4, 2) := by decide +kernel
theorem dX7_lose_35 : decode cX7_lose 35 = .ok (.iconst 0, 1) := by decide +kernel
theorem dX7_lose_36 : decode cX7_lose 36 = .ok (.istore 5, 2) := by decide +kernel
theorem dX7_lose_38 : decode cX7_lose 38 = .ok (.iload 5, 2) := by decide +kernel
theorem dX7_lose_40 : decode cX7_lose 40 = .ok (.aload_n 0, 1) := by decide +kernel
theorem dX7_lose_41 : decode cX7_lose 41 = .ok (.getfield 7, 3) := by decide +kernel
theorem dX7_lose_44 : decode cX7_lose 44 = .ok (.bipush 25, 2) := by decide +kernel
theorem dX7_lose_46 : decode cX7_lose 46 = .ok (.iaload, 1) := by decide +kernel
theorem dX7_lose_47 : decode cX7_lose 47 = .ok (.if_icmp .ge 57, 3) := by decide +kernel
theorem dX7_lose_50 : decode cX7_lose 50 = .ok (.aload_n 0, 1) := by decide +kernel
theorem dX7_lose_51 : decode cX7_lose 51 = .ok (.iload 5, 2) := by decide +kernel
theorem dX7_lose_53 : decode cX7_lose 53 = .ok (.putfield 32, 3) := by decide +kernel
theorem dX7_lose_56 : decode cX7_lose 56 = .ok (.aload_n 0, 1) := by decide +kernel
theorem dX7_lose_57 : decode cX7_lose 57 = .ok (.iconst 0, 1) := by decide +kernel
theorem dX7_lose_58 : decode cX7_lose 58 = .ok (.iload_n 1, 1) := by decide +kernel
theorem dX7_lose_59 : decode cX7_lose 59 = .ok (.invokevirtual 199, 3) := by decide +kernel
theorem dX7_lose_62 : decode cX7_lose 62 = .ok (.istore 6, 2) := by decide +kernel
theorem dX7_lose_64 : decode cX7_lose 64 = .ok (.aload_n 0, 1) := by decide +kernel
theorem dX7_lose_65 : decode cX7_lose 65 = .ok (.bipush (-4), 2) := by decide +kernel
theorem dX7_lose_67 : decode cX7_lose 67 = .ok (.putfield 32, 3) := by decide +kernel
theorem dX7_lose_70 : decode cX7_lose 70 = .ok (.iload 6, 2) := by decide +kernel
theorem dX7_lose_72 : decode cX7_lose 72 = .ok (.iload_n 3, 1) := by decide +kernel
theorem dX7_lose_73 : decode cX7_lose 73 = .ok (.if_icmp .ge 8, 3) := by decide +kernel
theorem dX7_lose_76 : decode cX7_lose 76 = .ok (.iload 5, 2) := by decide +kernel
theorem dX7_lose_78 : decode cX7_lose 78 = .ok (.goto 5, 3) := by decide +kernel
theorem dX7_lose_81 : decode cX7_lose 81 = .ok (.iload 4, 2) := by decide +kernel
theorem dX7_lose_83 : decode cX7_lose 83 = .ok (.istore 4, 2) := by decide +kernel
theorem dX7_lose_85 : decode cX7_lose 85 = .ok (.iload 6, 2) := by decide +kernel
theorem dX7_lose_87 : decode cX7_lose 87 = .ok (.iload_n 3, 1) := by decide +kernel
theorem dX7_lose_88 : decode cX7_lose 88 = .ok (.if_icmp .ge 8, 3) := by decide +kernel
theorem dX7_lose_91 : decode cX7_lose 91 = .ok (.iload 6, 2) := by decide +kernel
theorem dX7_lose_93 : decode cX7_lose 93 = .ok (.goto 4, 3) := by decide +kernel
theorem dX7_lose_96 : decode cX7_lose 96 = .ok (.iload_n 3, 1) := by decide +kernel
theorem dX7_lose_97 : decode cX7_lose 97 = .ok (.istore_n 3, 1) := by decide +kernel
theorem dX7_lose_98 : decode cX7_lose 98 = .ok (.iinc 5 1, 3) := by decide +kernel
theorem dX7_lose_101 : decode cX7_lose 101 = .ok (.goto (-63), 3) := by decide +kernel
theorem dX7_lose_104 : decode cX7_lose 104 = .ok (.iload 4, 2) := by decide +kernel
theorem dX7_lose_106 : decode cX7_lose 106 = .ok (.bipush (-4), 2) := by decide +kernel
theorem dX7_lose_108 : decode cX7_lose 108 = .ok (.if_icmp .eq 7, 3) := by decide +kernel
theorem dX7_lose_111 : decode cX7_lose 111 = .ok (.iload_n 2, 1) := by decide +kernel
theorem dX7_lose_112 : decode cX7_lose 112 = .ok (.ifCond .ne 8, 3) := by decide +kernel
theorem dX7_lose_115 : decode cX7_lose 115 = .ok (.iload 4, 2) := by decide +kernel
theorem dX7_lose_117 : decode cX7_lose 117 = .ok (.goto 4, 3) := by decide +kernel
theorem dX7_lose_120 : decode cX7_lose 120 = .ok (.iload_n 3, 1) := by decide +kernel
theorem dX7_lose_121 : decode cX7_lose 121 = .ok (.ireturn, 1) := by decide +kernel
theorem dX7_lowest_0 : decode cX7_lowest 0 = .ok (.lload_n 0, 1) := by decide +kernel
theorem dX7_lowest_1 : decode cX7_lowest 1 = .ok (.lstore 5, 2) := by decide +kernel
theorem dX7_lowest_3 : decode cX7_lowest 3 = .ok (.lload_n 2, 1) := by decide +kernel
theorem dX7_lowest_4 : decode cX7_lowest 4 = .ok (.lstore 7, 2) := by decide +kernel
theorem dX7_lowest_6 : decode cX7_lowest 6 = .ok (.lload 7, 2) := by decide +kernel
theorem dX7_lowest_8 : decode cX7_lowest 8 = .ok (.lconst 0, 1) := by decide +kernel
theorem dX7_lowest_9 : decode cX7_lowest 9 = .ok (.lcmp, 1) := by decide +kernel
theorem dX7_lowest_10 : decode cX7_lowest 10 = .ok (.ifCond .eq 21, 3) := by decide +kernel
theorem dX7_lowest_13 : decode cX7_lowest 13 = .ok (.lload 5, 2) := by decide +kernel
theorem dX7_lowest_15 : decode cX7_lowest 15 = .ok (.lload 7, 2) := by decide +kernel
theorem dX7_lowest_17 : decode cX7_lowest 17 = .ok (.lrem, 1) := by decide +kernel
theorem dX7_lowest_18 : decode cX7_lowest 18 = .ok (.lstore 9, 2) := by decide +kernel
theorem dX7_lowest_20 : decode cX7_lowest 20 = .ok (.lload 7, 2) := by decide +kernel
theorem dX7_lowest_22 : decode cX7_lowest 22 = .ok (.lstore 5, 2) := by decide +kernel
theorem dX7_lowest_24 : decode cX7_lowest 24 = .ok (.lload 9, 2) := by decide +kernel
theorem dX7_lowest_26 : decode cX7_lowest 26 = .ok (.lstore 7, 2) := by decide +kernel
theorem dX7_lowest_28 : decode cX7_lowest 28 = .ok (.goto (-22), 3) := by decide +kernel
theorem dX7_lowest_31 : decode cX7_lowest 31 = .ok (.iload 4, 2) := by decide +kernel
theorem dX7_lowest_33 : decode cX7_lowest 33 = .ok (.ifCond .ne 7, 3) := by decide +kernel
theorem dX7_lowest_36 : decode cX7_lowest 36 = .ok (.lload_n 0, 1) := by decide +kernel
theorem dX7_lowest_37 : decode cX7_lowest 37 = .ok (.goto 4, 3) := by decide +kernel
theorem dX7_lowest_40 : decode cX7_lowest 40 = .ok (.lload_n 2, 1) := by decide +kernel
theorem dX7_lowest_41 : decode cX7_lowest 41 = .ok (.lload 5, 2) := by decide +kernel
theorem dX7_lowest_43 : decode cX7_lowest 43 = .ok (.ldiv, 1) := by decide +kernel
theorem dX7_lowest_44 : decode cX7_lowest 44 = .ok (.lreturn, 1) := by decide +kernel
theorem dX7_byNothing_0 : decode cX7_byNothing 0 = .ok (.lconst 0, 1) := by decide +kernel
theorem dX7_byNothing_1 : decode cX7_byNothing 1 = .ok (.lstore 6, 2) := by decide +kernel
theorem dX7_byNothing_3 : decode cX7_byNothing 3 = .ok (.lconst 1, 1) := by decide +kernel
theorem dX7_byNothing_4 : decode cX7_byNothing 4 = .ok (.lstore 8, 2) := by decide +kernel
theorem dX7_byNothing_6 : decode cX7_byNothing 6 = .ok (.iconst 0, 1) := by decide +kernel
theorem dX7_byNothing_7 : decode cX7_byNothing 7 = .ok (.istore 10, 2) := by decide +kernel
theorem dX7_byNothing_9 : decode cX7_byNothing 9 = .ok (.iload 10, 2) := by decide +kernel
theorem dX7_byNothing_11 : decode cX7_byNothing 11 = .ok (.iload 4, 2) := by decide +kernel
theorem dX7_byNothing_13 : decode cX7_byNothing 13 = .ok (.if_icmp .ge 17, 3) := by decide +kernel
theorem dX7_byNothing_16 : decode cX7_byNothing 16 = .ok (.lload 8, 2) := by decide +kernel
theorem dX7_byNothing_18 : decode cX7_byNothing 18 = .ok (.ldc2_w 213, 3) := by decide +kernel
theorem dX7_byNothing_21 : decode cX7_byNothing 21 = .ok (.lmul, 1) := by decide +kernel
theorem dX7_byNothing_22 : decode cX7_byNothing 22 = .ok (.lstore 8, 2) := by decide +kernel
theorem dX7_byNothing_24 : decode cX7_byNothing 24 = .ok (.iinc 10 1, 3) := by decide +kernel
theorem dX7_byNothing_27 : decode cX7_byNothing 27 = .ok (.goto (-18), 3) := by decide +kernel
theorem dX7_byNothing_30 : decode cX7_byNothing 30 = .ok (.iconst 0, 1) := by decide +kernel
theorem dX7_byNothing_31 : decode cX7_byNothing 31 = .ok (.istore 10, 2) := by decide +kernel
theorem dX7_byNothing_33 : decode cX7_byNothing 33 = .ok (.iload 10, 2) := by decide +kernel
theorem dX7_byNothing_35 : decode cX7_byNothing 35 = .ok (.iconst 1, 1) := by decide +kernel
theorem dX7_byNothing_36 : decode cX7_byNothing 36 = .ok (.iload 4, 2) := by decide +kernel
theorem dX7_byNothing_38 : decode cX7_byNothing 38 = .ok (.ishl, 1) := by decide +kernel
theorem dX7_byNothing_39 : decode cX7_byNothing 39 = .ok (.if_icmp .ge 131, 3) := by decide +kernel
theorem dX7_byNothing_42 : decode cX7_byNothing 42 = .ok (.lconst 1, 1) := by decide +kernel
theorem dX7_byNothing_43 : decode cX7_byNothing 43 = .ok (.lstore 11, 2) := by decide +kernel
theorem dX7_byNothing_45 : decode cX7_byNothing 45 = .ok (.aload_n 0, 1) := by decide +kernel
theorem dX7_byNothing_46 : decode cX7_byNothing 46 = .ok (.iconst 0, 1) := by decide +kernel
theorem dX7_byNothing_47 : decode cX7_byNothing 47 = .ok (.sipush 300, 3) := by decide +kernel
theorem dX7_byNothing_50 : decode cX7_byNothing 50 = .ok (.invokevirtual 193, 3) := by decide +kernel
theorem dX7_byNothing_53 : decode cX7_byNothing 53 = .ok (.aload_n 0, 1) := by decide +kernel
theorem dX7_byNothing_54 : decode cX7_byNothing 54 = .ok (.invokevirtual 183, 3) := by decide +kernel
theorem dX7_byNothing_57 : decode cX7_byNothing 57 = .ok (.iconst 0, 1) := by decide +kernel
theorem dX7_byNothing_58 : decode cX7_byNothing 58 = .ok (.istore 13, 2) := by decide +kernel
theorem dX7_byNothing_60 : decode cX7_byNothing 60 = .ok (.iload 13, 2) := by decide +kernel
theorem dX7_byNothing_62 : decode cX7_byNothing 62 = .ok (.iload 4, 2) := by decide +kernel
theorem dX7_byNothing_64 : decode cX7_byNothing 64 = .ok (.if_icmp .ge 56, 3) := by decide +kernel
theorem dX7_byNothing_67 : decode cX7_byNothing 67 = .ok (.iload 10, 2) := by decide +kernel
theorem dX7_byNothing_69 : decode cX7_byNothing 69 = .ok (.iload 13, 2) := by decide +kernel
theorem dX7_byNothing_71 : decode cX7_byNothing 71 = .ok (.ishr, 1) := by decide +kernel
theorem dX7_byNothing_72 : decode cX7_byNothing 72 = .ok (.iconst 1, 1) := by decide +kernel
theorem dX7_byNothing_73 : decode cX7_byNothing 73 = .ok (.iand, 1) := by decide +kernel
theorem dX7_byNothing_74 : decode cX7_byNothing 74 = .ok (.iconst 1, 1) := by decide +kernel
theorem dX7_byNothing_75 : decode cX7_byNothing 75 = .ok (.if_icmp .ne 7, 3) := by decide +kernel
theorem dX7_byNothing_78 : decode cX7_byNothing 78 = .ok (.iconst 1, 1) := by decide +kernel
theorem dX7_byNothing_79 : decode cX7_byNothing 79 = .ok (.goto 4, 3) := by decide +kernel
theorem dX7_byNothing_82 : decode cX7_byNothing 82 = .ok (.iconst 0, 1) := by decide +kernel
theorem dX7_byNothing_83 : decode cX7_byNothing 83 = .ok (.istore 14, 2) := by decide +kernel
theorem dX7_byNothing_85 : decode cX7_byNothing 85 = .ok (.lload 11, 2) := by decide +kernel
theorem dX7_byNothing_87 : decode cX7_byNothing 87 = .ok (.iload 14, 2) := by decide +kernel
theorem dX7_byNothing_89 : decode cX7_byNothing 89 = .ok (.ifCond .eq 8, 3) := by decide +kernel
theorem dX7_byNothing_92 : decode cX7_byNothing 92 = .ok (.iload_n 1, 1) := by decide +kernel
theorem dX7_byNothing_93 : decode cX7_byNothing 93 = .ok (.i2l, 1) := by decide +kernel
theorem dX7_byNothing_94 : decode cX7_byNothing 94 = .ok (.goto 8, 3) := by decide +kernel
theorem dX7_byNothing_97 : decode cX7_byNothing 97 = .ok (.bipush 10, 2) := by decide +kernel
theorem dX7_byNothing_99 : decode cX7_byNothing 99 = .ok (.iload_n 1, 1) := by decide +kernel
theorem dX7_byNothing_100 : decode cX7_byNothing 100 = .ok (.isub, 1) := by decide +kernel
theorem dX7_byNothing_101 : decode cX7_byNothing 101 = .ok (.i2l, 1) := by decide +kernel
theorem dX7_byNothing_102 : decode cX7_byNothing 102 = .ok (.lmul, 1) := by decide +kernel
theorem dX7_byNothing_103 : decode cX7_byNothing 103 = .ok (.lstore 11, 2) := by decide +kernel
theorem dX7_byNothing_105 : decode cX7_byNothing 105 = .ok (.aload_n 0, 1) := by decide +kernel
theorem dX7_byNothing_106 : decode cX7_byNothing 106 = .ok (.sipush 300, 3) := by decide +kernel
theorem dX7_byNothing_109 : decode cX7_byNothing 109 = .ok (.iload 14, 2) := by decide +kernel
theorem dX7_byNothing_111 : decode cX7_byNothing 111 = .ok (.invokevirtual 186, 3) := by decide +kernel
theorem dX7_byNothing_114 : decode cX7_byNothing 114 = .ok (.iinc 13 1, 3) := by decide +kernel
theorem dX7_byNothing_117 : decode cX7_byNothing 117 = .ok (.goto (-57), 3) := by decide +kernel
theorem dX7_byNothing_120 : decode cX7_byNothing 120 = .ok (.lload 6, 2) := by decide +kernel
theorem dX7_byNothing_122 : decode cX7_byNothing 122 = .ok (.lload 11, 2) := by decide +kernel
theorem dX7_byNothing_124 : decode cX7_byNothing 124 = .ok (.iload_n 2, 1) := by decide +kernel
theorem dX7_byNothing_125 : decode cX7_byNothing 125 = .ok (.bipush (-4), 2) := by decide +kernel
theorem dX7_byNothing_127 : decode cX7_byNothing 127 = .ok (.if_icmp .ne 10, 3) := by decide +kernel
theorem dX7_byNothing_130 : decode cX7_byNothing 130 = .ok (.aload_n 0, 1) := by decide +kernel
theorem dX7_byNothing_131 : decode cX7_byNothing 131 = .ok (.invokevirtual 190, 3) := by decide +kernel
theorem dX7_byNothing_134 : decode cX7_byNothing 134 = .ok (.goto 25, 3) := by decide +kernel
theorem dX7_byNothing_137 : decode cX7_byNothing 137 = .ok (.aload_n 0, 1) := by decide +kernel
theorem dX7_byNothing_138 : decode cX7_byNothing 138 = .ok (.getfield 7, 3) := by decide +kernel
theorem dX7_byNothing_141 : decode cX7_byNothing 141 = .ok (.sipush 327, 3) := by decide +kernel
theorem dX7_byNothing_144 : decode cX7_byNothing 144 = .ok (.bipush 6, 2) := by decide +kernel
theorem dX7_byNothing_146 : decode cX7_byNothing 146 = .ok (.iload_n 2, 1) := by decide +kernel
theorem dX7_byNothing_147 : decode cX7_byNothing 147 = .ok (.imul, 1) := by decide +kernel
theorem dX7_byNothing_148 : decode cX7_byNothing 148 = .ok (.iadd, 1) := by decide +kernel
theorem dX7_byNothing_149 : decode cX7_byNothing 149 = .ok (.iaload, 1) := by decide +kernel
theorem dX7_byNothing_150 : decode cX7_byNothing 150 = .ok (.iload_n 3, 1) := by decide +kernel
theorem dX7_byNothing_151 : decode cX7_byNothing 151 = .ok (.if_icmp .ne 7, 3) := by decide +kernel
theorem dX7_byNothing_154 : decode cX7_byNothing 154 = .ok (.iconst 1, 1) := by decide +kernel
theorem dX7_byNothing_155 : decode cX7_byNothing 155 = .ok (.goto 4, 3) := by decide +kernel
theorem dX7_byNothing_158 : decode cX7_byNothing 158 = .ok (.iconst 0, 1) := by decide +kernel
theorem dX7_byNothing_159 : decode cX7_byNothing 159 = .ok (.i2l, 1) := by decide +kernel
theorem dX7_byNothing_160 : decode cX7_byNothing 160 = .ok (.lmul, 1) := by decide +kernel
theorem dX7_byNothing_161 : decode cX7_byNothing 161 = .ok (.ladd, 1) := by decide +kernel
theorem dX7_byNothing_162 : decode cX7_byNothing 162 = .ok (.lstore 6, 2) := by decide +kernel
theorem dX7_byNothing_164 : decode cX7_byNothing 164 = .ok (.iinc 10 1, 3) := by decide +kernel
theorem dX7_byNothing_167 : decode cX7_byNothing 167 = .ok (.goto (-134), 3) := by decide +kernel
theorem dX7_byNothing_170 : decode cX7_byNothing 170 = .ok (.lload 6, 2) := by decide +kernel
theorem dX7_byNothing_172 : decode cX7_byNothing 172 = .ok (.lload 8, 2) := by decide +kernel
theorem dX7_byNothing_174 : decode cX7_byNothing 174 = .ok (.iload 5, 2) := by decide +kernel
theorem dX7_byNothing_176 : decode cX7_byNothing 176 = .ok (.invokestatic 215, 3) := by decide +kernel
theorem dX7_byNothing_179 : decode cX7_byNothing 179 = .ok (.lreturn, 1) := by decide +kernel
theorem dX7_luck_0 : decode cX7_luck 0 = .ok (.iload_n 1, 1) := by decide +kernel
theorem dX7_luck_1 : decode cX7_luck 1 = .ok (.i2l, 1) := by decide +kernel
theorem dX7_luck_2 : decode cX7_luck 2 = .ok (.lconst 0, 1) := by decide +kernel
theorem dX7_luck_3 : decode cX7_luck 3 = .ok (.ldc2_w 213, 3) := by decide +kernel
theorem dX7_luck_6 : decode cX7_luck 6 = .ok (.invokestatic 56, 3) := by decide +kernel
theorem dX7_luck_9 : decode cX7_luck 9 = .ok (.ifCond .eq 57, 3) := by decide +kernel
theorem dX7_luck_12 : decode cX7_luck 12 = .ok (.aload_n 0, 1) := by decide +kernel
theorem dX7_luck_13 : decode cX7_luck 13 = .ok (.iload_n 2, 1) := by decide +kernel
theorem dX7_luck_14 : decode cX7_luck 14 = .ok (.invokevirtual 162, 3) := by decide +kernel
theorem dX7_luck_17 : decode cX7_luck 17 = .ok (.ifCond .eq 49, 3) := by decide +kernel
theorem dX7_luck_20 : decode cX7_luck 20 = .ok (.aload_n 0, 1) := by decide +kernel
theorem dX7_luck_21 : decode cX7_luck 21 = .ok (.iload_n 3, 1) := by decide +kernel
theorem dX7_luck_22 : decode cX7_luck 22 = .ok (.invokevirtual 166, 3) := by decide +kernel
theorem dX7_luck_25 : decode cX7_luck 25 = .ok (.ifCond .eq 41, 3) := by decide +kernel
theorem dX7_luck_28 : decode cX7_luck 28 = .ok (.iload 4, 2) := by decide +kernel
theorem dX7_luck_30 : decode cX7_luck 30 = .ok (.i2l, 1) := by decide +kernel
theorem dX7_luck_31 : decode cX7_luck 31 = .ok (.lconst 0, 1) := by decide +kernel
theorem dX7_luck_32 : decode cX7_luck 32 = .ok (.ldc2_w 219, 3) := by decide +kernel
theorem dX7_luck_35 : decode cX7_luck 35 = .ok (.invokestatic 56, 3) := by decide +kernel
theorem dX7_luck_38 : decode cX7_luck 38 = .ok (.ifCond .eq 28, 3) := by decide +kernel
theorem dX7_luck_41 : decode cX7_luck 41 = .ok (.iload 5, 2) := by decide +kernel
theorem dX7_luck_43 : decode cX7_luck 43 = .ok (.i2l, 1) := by decide +kernel
theorem dX7_luck_44 : decode cX7_luck 44 = .ok (.lconst 0, 1) := by decide +kernel
theorem dX7_luck_45 : decode cX7_luck 45 = .ok (.lconst 1, 1) := by decide +kernel
theorem dX7_luck_46 : decode cX7_luck 46 = .ok (.invokestatic 56, 3) := by decide +kernel
theorem dX7_luck_49 : decode cX7_luck 49 = .ok (.ifCond .eq 17, 3) := by decide +kernel
theorem dX7_luck_52 : decode cX7_luck 52 = .ok (.aload_n 0, 1) := by decide +kernel
theorem dX7_luck_53 : decode cX7_luck 53 = .ok (.iload_n 1, 1) := by decide +kernel
theorem dX7_luck_54 : decode cX7_luck 54 = .ok (.iload_n 2, 1) := by decide +kernel
theorem dX7_luck_55 : decode cX7_luck 55 = .ok (.iload_n 3, 1) := by decide +kernel
theorem dX7_luck_56 : decode cX7_luck 56 = .ok (.iload 4, 2) := by decide +kernel
theorem dX7_luck_58 : decode cX7_luck 58 = .ok (.iload 5, 2) := by decide +kernel
theorem dX7_luck_60 : decode cX7_luck 60 = .ok (.invokevirtual 221, 3) := by decide +kernel
theorem dX7_luck_63 : decode cX7_luck 63 = .ok (.goto 6, 3) := by decide +kernel
theorem dX7_luck_66 : decode cX7_luck 66 = .ok (.ldc2_w 225, 3) := by decide +kernel
theorem dX7_luck_69 : decode cX7_luck 69 = .ok (.lreturn, 1) := by decide +kernel
theorem dX7_mean_0 : decode cX7_mean 0 = .ok (.iload_n 1, 1) := by decide +kernel
theorem dX7_mean_1 : decode cX7_mean 1 = .ok (.i2l, 1) := by decide +kernel
theorem dX7_mean_2 : decode cX7_mean 2 = .ok (.lconst 0, 1) := by decide +kernel
theorem dX7_mean_3 : decode cX7_mean 3 = .ok (.ldc2_w 213, 3) := by decide +kernel
theorem dX7_mean_6 : decode cX7_mean 6 = .ok (.invokestatic 56, 3) := by decide +kernel
theorem dX7_mean_9 : decode cX7_mean 9 = .ok (.ifCond .eq 38, 3) := by decide +kernel
theorem dX7_mean_12 : decode cX7_mean 12 = .ok (.iload_n 2, 1) := by decide +kernel
theorem dX7_mean_13 : decode cX7_mean 13 = .ok (.i2l, 1) := by decide +kernel
theorem dX7_mean_14 : decode cX7_mean 14 = .ok (.lconst 0, 1) := by decide +kernel
theorem dX7_mean_15 : decode cX7_mean 15 = .ok (.ldc2_w 219, 3) := by decide +kernel
theorem dX7_mean_18 : decode cX7_mean 18 = .ok (.invokestatic 56, 3) := by decide +kernel
theorem dX7_mean_21 : decode cX7_mean 21 = .ok (.ifCond .eq 26, 3) := by decide +kernel
theorem dX7_mean_24 : decode cX7_mean 24 = .ok (.iload_n 3, 1) := by decide +kernel
theorem dX7_mean_25 : decode cX7_mean 25 = .ok (.i2l, 1) := by decide +kernel
theorem dX7_mean_26 : decode cX7_mean 26 = .ok (.lconst 0, 1) := by decide +kernel
theorem dX7_mean_27 : decode cX7_mean 27 = .ok (.lconst 1, 1) := by decide +kernel
theorem dX7_mean_28 : decode cX7_mean 28 = .ok (.invokestatic 56, 3) := by decide +kernel
theorem dX7_mean_31 : decode cX7_mean 31 = .ok (.ifCond .eq 16, 3) := by decide +kernel
theorem dX7_mean_34 : decode cX7_mean 34 = .ok (.aload_n 0, 1) := by decide +kernel
theorem dX7_mean_35 : decode cX7_mean 35 = .ok (.iload_n 1, 1) := by decide +kernel
theorem dX7_mean_36 : decode cX7_mean 36 = .ok (.bipush (-4), 2) := by decide +kernel
theorem dX7_mean_38 : decode cX7_mean 38 = .ok (.iconst 0, 1) := by decide +kernel
theorem dX7_mean_39 : decode cX7_mean 39 = .ok (.iload_n 2, 1) := by decide +kernel
theorem dX7_mean_40 : decode cX7_mean 40 = .ok (.iload_n 3, 1) := by decide +kernel
theorem dX7_mean_41 : decode cX7_mean 41 = .ok (.invokevirtual 221, 3) := by decide +kernel
theorem dX7_mean_44 : decode cX7_mean 44 = .ok (.goto 6, 3) := by decide +kernel
theorem dX7_mean_47 : decode cX7_mean 47 = .ok (.ldc2_w 225, 3) := by decide +kernel
theorem dX7_mean_50 : decode cX7_mean 50 = .ok (.lreturn, 1) := by decide +kernel
theorem dX7_see_0 : decode cX7_see 0 = .ok (.iload_n 1, 1) := by decide +kernel
theorem dX7_see_1 : decode cX7_see 1 = .ok (.i2l, 1) := by decide +kernel
theorem dX7_see_2 : decode cX7_see 2 = .ok (.lconst 0, 1) := by decide +kernel
theorem dX7_see_3 : decode cX7_see 3 = .ok (.ldc2_w 227, 3) := by decide +kernel
theorem dX7_see_6 : decode cX7_see 6 = .ok (.invokestatic 56, 3) := by decide +kernel
theorem dX7_see_9 : decode cX7_see 9 = .ok (.ifCond .eq 19, 3) := by decide +kernel
theorem dX7_see_12 : decode cX7_see 12 = .ok (.aload_n 0, 1) := by decide +kernel
theorem dX7_see_13 : decode cX7_see 13 = .ok (.iload_n 2, 1) := by decide +kernel
theorem dX7_see_14 : decode cX7_see 14 = .ok (.invokevirtual 162, 3) := by decide +kernel
theorem dX7_see_17 : decode cX7_see 17 = .ok (.ifCond .eq 11, 3) := by decide +kernel
theorem dX7_see_20 : decode cX7_see 20 = .ok (.aload_n 0, 1) := by decide +kernel
theorem dX7_see_21 : decode cX7_see 21 = .ok (.iload_n 3, 1) := by decide +kernel
theorem dX7_see_22 : decode cX7_see 22 = .ok (.invokevirtual 166, 3) := by decide +kernel
theorem dX7_see_25 : decode cX7_see 25 = .ok (.ifCond .ne 5, 3) := by decide +kernel
theorem dX7_see_28 : decode cX7_see 28 = .ok (.iconst (-1), 1) := by decide +kernel
theorem dX7_see_29 : decode cX7_see 29 = .ok (.ireturn, 1) := by decide +kernel
theorem dX7_see_30 : decode cX7_see 30 = .ok (.aload_n 0, 1) := by decide +kernel
theorem dX7_see_31 : decode cX7_see 31 = .ok (.getfield 135, 3) := by decide +kernel
theorem dX7_see_34 : decode cX7_see 34 = .ok (.bipush 6, 2) := by decide +kernel
theorem dX7_see_36 : decode cX7_see 36 = .ok (.if_icmp .ne 6, 3) := by decide +kernel
theorem dX7_see_39 : decode cX7_see 39 = .ok (.bipush (-3), 2) := by decide +kernel
theorem dX7_see_41 : decode cX7_see 41 = .ok (.ireturn, 1) := by decide +kernel
theorem dX7_see_42 : decode cX7_see 42 = .ok (.aload_n 0, 1) := by decide +kernel
theorem dX7_see_43 : decode cX7_see 43 = .ok (.getfield 35, 3) := by decide +kernel
theorem dX7_see_46 : decode cX7_see 46 = .ok (.iconst 3, 1) := by decide +kernel
theorem dX7_see_47 : decode cX7_see 47 = .ok (.aload_n 0, 1) := by decide +kernel
theorem dX7_see_48 : decode cX7_see 48 = .ok (.getfield 135, 3) := by decide +kernel
theorem dX7_see_51 : decode cX7_see 51 = .ok (.imul, 1) := by decide +kernel
theorem dX7_see_52 : decode cX7_see 52 = .ok (.iload_n 1, 1) := by decide +kernel
theorem dX7_see_53 : decode cX7_see 53 = .ok (.iastore, 1) := by decide +kernel
theorem dX7_see_54 : decode cX7_see 54 = .ok (.aload_n 0, 1) := by decide +kernel
theorem dX7_see_55 : decode cX7_see 55 = .ok (.getfield 35, 3) := by decide +kernel
theorem dX7_see_58 : decode cX7_see 58 = .ok (.iconst 3, 1) := by decide +kernel
theorem dX7_see_59 : decode cX7_see 59 = .ok (.aload_n 0, 1) := by decide +kernel
theorem dX7_see_60 : decode cX7_see 60 = .ok (.getfield 135, 3) := by decide +kernel
theorem dX7_see_63 : decode cX7_see 63 = .ok (.imul, 1) := by decide +kernel
theorem dX7_see_64 : decode cX7_see 64 = .ok (.iconst 1, 1) := by decide +kernel
theorem dX7_see_65 : decode cX7_see 65 = .ok (.iadd, 1) := by decide +kernel
theorem dX7_see_66 : decode cX7_see 66 = .ok (.iload_n 2, 1) := by decide +kernel
theorem dX7_see_67 : decode cX7_see 67 = .ok (.iastore, 1) := by decide +kernel
theorem dX7_see_68 : decode cX7_see 68 = .ok (.aload_n 0, 1) := by decide +kernel
theorem dX7_see_69 : decode cX7_see 69 = .ok (.getfield 35, 3) := by decide +kernel
theorem dX7_see_72 : decode cX7_see 72 = .ok (.iconst 3, 1) := by decide +kernel
theorem dX7_see_73 : decode cX7_see 73 = .ok (.aload_n 0, 1) := by decide +kernel
theorem dX7_see_74 : decode cX7_see 74 = .ok (.getfield 135, 3) := by decide +kernel
theorem dX7_see_77 : decode cX7_see 77 = .ok (.imul, 1) := by decide +kernel
theorem dX7_see_78 : decode cX7_see 78 = .ok (.iconst 2, 1) := by decide +kernel
theorem dX7_see_79 : decode cX7_see 79 = .ok (.iadd, 1) := by decide +kernel
theorem dX7_see_80 : decode cX7_see 80 = .ok (.iload_n 3, 1) := by decide +kernel
theorem dX7_see_81 : decode cX7_see 81 = .ok (.iastore, 1) := by decide +kernel
theorem dX7_see_82 : decode cX7_see 82 = .ok (.aload_n 0, 1) := by decide +kernel
theorem dX7_see_83 : decode cX7_see 83 = .ok (.dup, 1) := by decide +kernel
theorem dX7_see_84 : decode cX7_see 84 = .ok (.getfield 135, 3) := by decide +kernel
theorem dX7_see_87 : decode cX7_see 87 = .ok (.iconst 1, 1) := by decide +kernel
theorem dX7_see_88 : decode cX7_see 88 = .ok (.iadd, 1) := by decide +kernel
theorem dX7_see_89 : decode cX7_see 89 = .ok (.putfield 135, 3) := by decide +kernel
theorem dX7_see_92 : decode cX7_see 92 = .ok (.aload_n 0, 1) := by decide +kernel
theorem dX7_see_93 : decode cX7_see 93 = .ok (.getfield 135, 3) := by decide +kernel
theorem dX7_see_96 : decode cX7_see 96 = .ok (.ireturn, 1) := by decide +kernel
theorem dX7_forget_0 : decode cX7_forget 0 = .ok (.iload_n 1, 1) := by decide +kernel
theorem dX7_forget_1 : decode cX7_forget 1 = .ok (.i2l, 1) := by decide +kernel
theorem dX7_forget_2 : decode cX7_forget 2 = .ok (.lconst 0, 1) := by decide +kernel
theorem dX7_forget_3 : decode cX7_forget 3 = .ok (.aload_n 0, 1) := by decide +kernel
theorem dX7_forget_4 : decode cX7_forget 4 = .ok (.getfield 135, 3) := by decide +kernel
theorem dX7_forget_7 : decode cX7_forget 7 = .ok (.i2l, 1) := by decide +kernel
theorem dX7_forget_8 : decode cX7_forget 8 = .ok (.invokestatic 56, 3) := by decide +kernel
theorem dX7_forget_11 : decode cX7_forget 11 = .ok (.ifCond .ne 5, 3) := by decide +kernel
theorem dX7_forget_14 : decode cX7_forget 14 = .ok (.iconst (-1), 1) := by decide +kernel
theorem dX7_forget_15 : decode cX7_forget 15 = .ok (.ireturn, 1) := by decide +kernel
theorem dX7_forget_16 : decode cX7_forget 16 = .ok (.aload_n 0, 1) := by decide +kernel
theorem dX7_forget_17 : decode cX7_forget 17 = .ok (.getfield 135, 3) := by decide +kernel
theorem dX7_forget_20 : decode cX7_forget 20 = .ok (.istore_n 2, 1) := by decide +kernel
theorem dX7_forget_21 : decode cX7_forget 21 = .ok (.aload_n 0, 1) := by decide +kernel
theorem dX7_forget_22 : decode cX7_forget 22 = .ok (.iload_n 1, 1) := by decide +kernel
theorem dX7_forget_23 : decode cX7_forget 23 = .ok (.putfield 135, 3) := by decide +kernel
theorem dX7_forget_26 : decode cX7_forget 26 = .ok (.iload_n 2, 1) := by decide +kernel
theorem dX7_forget_27 : decode cX7_forget 27 = .ok (.ireturn, 1) := by decide +kernel
theorem dX7_isAsSeen_0 : decode cX7_isAsSeen 0 = .ok (.aload_n 0, 1) := by decide +kernel
theorem dX7_isAsSeen_1 : decode cX7_isAsSeen 1 = .ok (.iconst 0, 1) := by decide +kernel
theorem dX7_isAsSeen_2 : decode cX7_isAsSeen 2 = .ok (.sipush 300, 3) := by decide +kernel
theorem dX7_isAsSeen_5 : decode cX7_isAsSeen 5 = .ok (.invokevirtual 193, 3) := by decide +kernel
theorem dX7_isAsSeen_8 : decode cX7_isAsSeen 8 = .ok (.iconst 1, 1) := by decide +kernel
theorem dX7_isAsSeen_9 : decode cX7_isAsSeen 9 = .ok (.istore_n 2, 1) := by decide +kernel
theorem dX7_isAsSeen_10 : decode cX7_isAsSeen 10 = .ok (.iconst 0, 1) := by decide +kernel
theorem dX7_isAsSeen_11 : decode cX7_isAsSeen 11 = .ok (.istore_n 3, 1) := by decide +kernel
theorem dX7_isAsSeen_12 : decode cX7_isAsSeen 12 = .ok (.iload_n 3, 1) := by decide +kernel
theorem dX7_isAsSeen_13 : decode cX7_isAsSeen 13 = .ok (.bipush 40, 2) := by decide +kernel
theorem dX7_isAsSeen_15 : decode cX7_isAsSeen 15 = .ok (.if_icmp .gt 175, 3) := by decide +kernel
theorem dX7_isAsSeen_18 : decode cX7_isAsSeen 18 = .ok (.iconst 0, 1) := by decide +kernel
theorem dX7_isAsSeen_19 : decode cX7_isAsSeen 19 = .ok (.istore 4, 2) := by decide +kernel
theorem dX7_isAsSeen_21 : decode cX7_isAsSeen 21 = .ok (.iload 4, 2) := by decide +kernel
theorem dX7_isAsSeen_23 : decode cX7_isAsSeen 23 = .ok (.aload_n 0, 1) := by decide +kernel
theorem dX7_isAsSeen_24 : decode cX7_isAsSeen 24 = .ok (.getfield 7, 3) := by decide +kernel
theorem dX7_isAsSeen_27 : decode cX7_isAsSeen 27 = .ok (.bipush 8, 2) := by decide +kernel
theorem dX7_isAsSeen_29 : decode cX7_isAsSeen 29 = .ok (.iaload, 1) := by decide +kernel
theorem dX7_isAsSeen_30 : decode cX7_isAsSeen 30 = .ok (.if_icmp .ge 40, 3) := by decide +kernel
theorem dX7_isAsSeen_33 : decode cX7_isAsSeen 33 = .ok (.aload_n 0, 1) := by decide +kernel
theorem dX7_isAsSeen_34 : decode cX7_isAsSeen 34 = .ok (.getfield 38, 3) := by decide +kernel
theorem dX7_isAsSeen_37 : decode cX7_isAsSeen 37 = .ok (.sipush 164, 3) := by decide +kernel
theorem dX7_isAsSeen_40 : decode cX7_isAsSeen 40 = .ok (.iload_n 1, 1) := by decide +kernel
theorem dX7_isAsSeen_41 : decode cX7_isAsSeen 41 = .ok (.imul, 1) := by decide +kernel
theorem dX7_isAsSeen_42 : decode cX7_isAsSeen 42 = .ok (.iconst 4, 1) := by decide +kernel
theorem dX7_isAsSeen_43 : decode cX7_isAsSeen 43 = .ok (.iload_n 3, 1) := by decide +kernel
theorem dX7_isAsSeen_44 : decode cX7_isAsSeen 44 = .ok (.imul, 1) := by decide +kernel
theorem dX7_isAsSeen_45 : decode cX7_isAsSeen 45 = .ok (.iadd, 1) := by decide +kernel
theorem dX7_isAsSeen_46 : decode cX7_isAsSeen 46 = .ok (.iload 4, 2) := by decide +kernel
theorem dX7_isAsSeen_48 : decode cX7_isAsSeen 48 = .ok (.iadd, 1) := by decide +kernel
theorem dX7_isAsSeen_49 : decode cX7_isAsSeen 49 = .ok (.aload_n 0, 1) := by decide +kernel
theorem dX7_isAsSeen_50 : decode cX7_isAsSeen 50 = .ok (.getfield 7, 3) := by decide +kernel
theorem dX7_isAsSeen_53 : decode cX7_isAsSeen 53 = .ok (.sipush 327, 3) := by decide +kernel
theorem dX7_isAsSeen_56 : decode cX7_isAsSeen 56 = .ok (.bipush 6, 2) := by decide +kernel
theorem dX7_isAsSeen_58 : decode cX7_isAsSeen 58 = .ok (.iload 4, 2) := by decide +kernel
theorem dX7_isAsSeen_60 : decode cX7_isAsSeen 60 = .ok (.imul, 1) := by decide +kernel
theorem dX7_isAsSeen_61 : decode cX7_isAsSeen 61 = .ok (.iadd, 1) := by decide +kernel
theorem dX7_isAsSeen_62 : decode cX7_isAsSeen 62 = .ok (.iaload, 1) := by decide +kernel
theorem dX7_isAsSeen_63 : decode cX7_isAsSeen 63 = .ok (.iastore, 1) := by decide +kernel
theorem dX7_isAsSeen_64 : decode cX7_isAsSeen 64 = .ok (.iinc 4 1, 3) := by decide +kernel
theorem dX7_isAsSeen_67 : decode cX7_isAsSeen 67 = .ok (.goto (-46), 3) := by decide +kernel
theorem dX7_isAsSeen_70 : decode cX7_isAsSeen 70 = .ok (.iconst 0, 1) := by decide +kernel
theorem dX7_isAsSeen_71 : decode cX7_isAsSeen 71 = .ok (.istore 4, 2) := by decide +kernel
theorem dX7_isAsSeen_73 : decode cX7_isAsSeen 73 = .ok (.iload 4, 2) := by decide +kernel
theorem dX7_isAsSeen_75 : decode cX7_isAsSeen 75 = .ok (.aload_n 0, 1) := by decide +kernel
theorem dX7_isAsSeen_76 : decode cX7_isAsSeen 76 = .ok (.getfield 135, 3) := by decide +kernel
theorem dX7_isAsSeen_79 : decode cX7_isAsSeen 79 = .ok (.if_icmp .ge 97, 3) := by decide +kernel
theorem dX7_isAsSeen_82 : decode cX7_isAsSeen 82 = .ok (.aload_n 0, 1) := by decide +kernel
theorem dX7_isAsSeen_83 : decode cX7_isAsSeen 83 = .ok (.getfield 35, 3) := by decide +kernel
theorem dX7_isAsSeen_86 : decode cX7_isAsSeen 86 = .ok (.iconst 3, 1) := by decide +kernel
theorem dX7_isAsSeen_87 : decode cX7_isAsSeen 87 = .ok (.iload 4, 2) := by decide +kernel
theorem dX7_isAsSeen_89 : decode cX7_isAsSeen 89 = .ok (.imul, 1) := by decide +kernel
theorem dX7_isAsSeen_90 : decode cX7_isAsSeen 90 = .ok (.iconst 1, 1) := by decide +kernel
theorem dX7_isAsSeen_91 : decode cX7_isAsSeen 91 = .ok (.iadd, 1) := by decide +kernel
theorem dX7_isAsSeen_92 : decode cX7_isAsSeen 92 = .ok (.iaload, 1) := by decide +kernel
theorem dX7_isAsSeen_93 : decode cX7_isAsSeen 93 = .ok (.istore 5, 2) := by decide +kernel
theorem dX7_isAsSeen_95 : decode cX7_isAsSeen 95 = .ok (.iload 5, 2) := by decide +kernel
theorem dX7_isAsSeen_97 : decode cX7_isAsSeen 97 = .ok (.aload_n 0, 1) := by decide +kernel
theorem dX7_isAsSeen_98 : decode cX7_isAsSeen 98 = .ok (.getfield 7, 3) := by decide +kernel
theorem dX7_isAsSeen_101 : decode cX7_isAsSeen 101 = .ok (.bipush 8, 2) := by decide +kernel
theorem dX7_isAsSeen_103 : decode cX7_isAsSeen 103 = .ok (.iaload, 1) := by decide +kernel
theorem dX7_isAsSeen_104 : decode cX7_isAsSeen 104 = .ok (.if_icmp .ge 35, 3) := by decide +kernel
theorem dX7_isAsSeen_107 : decode cX7_isAsSeen 107 = .ok (.aload_n 0, 1) := by decide +kernel
theorem dX7_isAsSeen_108 : decode cX7_isAsSeen 108 = .ok (.getfield 7, 3) := by decide +kernel
theorem dX7_isAsSeen_111 : decode cX7_isAsSeen 111 = .ok (.sipush 327, 3) := by decide +kernel
theorem dX7_isAsSeen_114 : decode cX7_isAsSeen 114 = .ok (.bipush 6, 2) := by decide +kernel
theorem dX7_isAsSeen_116 : decode cX7_isAsSeen 116 = .ok (.iload 5, 2) := by decide +kernel
theorem dX7_isAsSeen_118 : decode cX7_isAsSeen 118 = .ok (.imul, 1) := by decide +kernel
theorem dX7_isAsSeen_119 : decode cX7_isAsSeen 119 = .ok (.iadd, 1) := by decide +kernel
theorem dX7_isAsSeen_120 : decode cX7_isAsSeen 120 = .ok (.iaload, 1) := by decide +kernel
theorem dX7_isAsSeen_121 : decode cX7_isAsSeen 121 = .ok (.aload_n 0, 1) := by decide +kernel
theorem dX7_isAsSeen_122 : decode cX7_isAsSeen 122 = .ok (.getfield 35, 3) := by decide +kernel
theorem dX7_isAsSeen_125 : decode cX7_isAsSeen 125 = .ok (.iconst 3, 1) := by decide +kernel
theorem dX7_isAsSeen_126 : decode cX7_isAsSeen 126 = .ok (.iload 4, 2) := by decide +kernel
theorem dX7_isAsSeen_128 : decode cX7_isAsSeen 128 = .ok (.imul, 1) := by decide +kernel
theorem dX7_isAsSeen_129 : decode cX7_isAsSeen 129 = .ok (.iconst 2, 1) := by decide +kernel
theorem dX7_isAsSeen_130 : decode cX7_isAsSeen 130 = .ok (.iadd, 1) := by decide +kernel
theorem dX7_isAsSeen_131 : decode cX7_isAsSeen 131 = .ok (.iaload, 1) := by decide +kernel
theorem dX7_isAsSeen_132 : decode cX7_isAsSeen 132 = .ok (.if_icmp .ne 7, 3) := by decide +kernel
theorem dX7_isAsSeen_135 : decode cX7_isAsSeen 135 = .ok (.iconst 1, 1) := by decide +kernel
theorem dX7_isAsSeen_136 : decode cX7_isAsSeen 136 = .ok (.goto 4, 3) := by decide +kernel
theorem dX7_isAsSeen_139 : decode cX7_isAsSeen 139 = .ok (.iconst 0, 1) := by decide +kernel
theorem dX7_isAsSeen_140 : decode cX7_isAsSeen 140 = .ok (.istore 6, 2) := by decide +kernel
theorem dX7_isAsSeen_142 : decode cX7_isAsSeen 142 = .ok (.iload_n 2, 1) := by decide +kernel
theorem dX7_isAsSeen_143 : decode cX7_isAsSeen 143 = .ok (.ifCond .eq 25, 3) := by decide +kernel
theorem dX7_isAsSeen_146 : decode cX7_isAsSeen 146 = .ok (.aload_n 0, 1) := by decide +kernel
theorem dX7_isAsSeen_147 : decode cX7_isAsSeen 147 = .ok (.getfield 35, 3) := by decide +kernel
theorem dX7_isAsSeen_150 : decode cX7_isAsSeen 150 = .ok (.iconst 3, 1) := by decide +kernel
theorem dX7_isAsSeen_151 : decode cX7_isAsSeen 151 = .ok (.iload 4, 2) := by decide +kernel
theorem dX7_isAsSeen_153 : decode cX7_isAsSeen 153 = .ok (.imul, 1) := by decide +kernel
theorem dX7_isAsSeen_154 : decode cX7_isAsSeen 154 = .ok (.iaload, 1) := by decide +kernel
theorem dX7_isAsSeen_155 : decode cX7_isAsSeen 155 = .ok (.iload_n 3, 1) := by decide +kernel
theorem dX7_isAsSeen_156 : decode cX7_isAsSeen 156 = .ok (.if_icmp .ne 8, 3) := by decide +kernel
theorem dX7_isAsSeen_159 : decode cX7_isAsSeen 159 = .ok (.iload 6, 2) := by decide +kernel
theorem dX7_isAsSeen_161 : decode cX7_isAsSeen 161 = .ok (.ifCond .eq 7, 3) := by decide +kernel
theorem dX7_isAsSeen_164 : decode cX7_isAsSeen 164 = .ok (.iconst 1, 1) := by decide +kernel
theorem dX7_isAsSeen_165 : decode cX7_isAsSeen 165 = .ok (.goto 4, 3) := by decide +kernel
theorem dX7_isAsSeen_168 : decode cX7_isAsSeen 168 = .ok (.iconst 0, 1) := by decide +kernel
theorem dX7_isAsSeen_169 : decode cX7_isAsSeen 169 = .ok (.istore_n 2, 1) := by decide +kernel
theorem dX7_isAsSeen_170 : decode cX7_isAsSeen 170 = .ok (.iinc 4 1, 3) := by decide +kernel
theorem dX7_isAsSeen_173 : decode cX7_isAsSeen 173 = .ok (.goto (-100), 3) := by decide +kernel
theorem dX7_isAsSeen_176 : decode cX7_isAsSeen 176 = .ok (.aload_n 0, 1) := by decide +kernel
theorem dX7_isAsSeen_177 : decode cX7_isAsSeen 177 = .ok (.sipush 300, 3) := by decide +kernel
theorem dX7_isAsSeen_180 : decode cX7_isAsSeen 180 = .ok (.iconst 0, 1) := by decide +kernel
theorem dX7_isAsSeen_181 : decode cX7_isAsSeen 181 = .ok (.invokevirtual 186, 3) := by decide +kernel
theorem dX7_isAsSeen_184 : decode cX7_isAsSeen 184 = .ok (.iinc 3 1, 3) := by decide +kernel
theorem dX7_isAsSeen_187 : decode cX7_isAsSeen 187 = .ok (.goto (-175), 3) := by decide +kernel
theorem dX7_isAsSeen_190 : decode cX7_isAsSeen 190 = .ok (.iload_n 2, 1) := by decide +kernel
theorem dX7_isAsSeen_191 : decode cX7_isAsSeen 191 = .ok (.ireturn, 1) := by decide +kernel
theorem dX7_numbersAt_0 : decode cX7_numbersAt 0 = .ok (.aload_n 0, 1) := by decide +kernel
theorem dX7_numbersAt_1 : decode cX7_numbersAt 1 = .ok (.getfield 7, 3) := by decide +kernel
theorem dX7_numbersAt_4 : decode cX7_numbersAt 4 = .ok (.iload_n 1, 1) := by decide +kernel
theorem dX7_numbersAt_5 : decode cX7_numbersAt 5 = .ok (.iaload, 1) := by decide +kernel
theorem dX7_numbersAt_6 : decode cX7_numbersAt 6 = .ok (.istore_n 3, 1) := by decide +kernel
theorem dX7_numbersAt_7 : decode cX7_numbersAt 7 = .ok (.iconst 0, 1) := by decide +kernel
theorem dX7_numbersAt_8 : decode cX7_numbersAt 8 = .ok (.istore 4, 2) := by decide +kernel
theorem dX7_numbersAt_10 : decode cX7_numbersAt 10 = .ok (.iconst 0, 1) := by decide +kernel
theorem dX7_numbersAt_11 : decode cX7_numbersAt 11 = .ok (.istore 5, 2) := by decide +kernel
theorem dX7_numbersAt_13 : decode cX7_numbersAt 13 = .ok (.iload 5, 2) := by decide +kernel
theorem dX7_numbersAt_15 : decode cX7_numbersAt 15 = .ok (.iload_n 2, 1) := by decide +kernel
theorem dX7_numbersAt_16 : decode cX7_numbersAt 16 = .ok (.if_icmp .ge 39, 3) := by decide +kernel
theorem dX7_numbersAt_19 : decode cX7_numbersAt 19 = .ok (.aload_n 0, 1) := by decide +kernel
theorem dX7_numbersAt_20 : decode cX7_numbersAt 20 = .ok (.getfield 7, 3) := by decide +kernel
theorem dX7_numbersAt_23 : decode cX7_numbersAt 23 = .ok (.iload_n 1, 1) := by decide +kernel
theorem dX7_numbersAt_24 : decode cX7_numbersAt 24 = .ok (.iload 5, 2) := by decide +kernel
theorem dX7_numbersAt_26 : decode cX7_numbersAt 26 = .ok (.iastore, 1) := by decide +kernel
theorem dX7_numbersAt_27 : decode cX7_numbersAt 27 = .ok (.iload 4, 2) := by decide +kernel
theorem dX7_numbersAt_29 : decode cX7_numbersAt 29 = .ok (.aload_n 0, 1) := by decide +kernel
theorem dX7_numbersAt_30 : decode cX7_numbersAt 30 = .ok (.iload 5, 2) := by decide +kernel
theorem dX7_numbersAt_32 : decode cX7_numbersAt 32 = .ok (.invokevirtual 229, 3) := by decide +kernel
theorem dX7_numbersAt_35 : decode cX7_numbersAt 35 = .ok (.ifCond .eq 10, 3) := by decide +kernel
theorem dX7_numbersAt_38 : decode cX7_numbersAt 38 = .ok (.iconst 1, 1) := by decide +kernel
theorem dX7_numbersAt_39 : decode cX7_numbersAt 39 = .ok (.iload 5, 2) := by decide +kernel
theorem dX7_numbersAt_41 : decode cX7_numbersAt 41 = .ok (.ishl, 1) := by decide +kernel
theorem dX7_numbersAt_42 : decode cX7_numbersAt 42 = .ok (.goto 4, 3) := by decide +kernel
theorem dX7_numbersAt_45 : decode cX7_numbersAt 45 = .ok (.iconst 0, 1) := by decide +kernel
theorem dX7_numbersAt_46 : decode cX7_numbersAt 46 = .ok (.ior, 1) := by decide +kernel
theorem dX7_numbersAt_47 : decode cX7_numbersAt 47 = .ok (.istore 4, 2) := by decide +kernel
theorem dX7_numbersAt_49 : decode cX7_numbersAt 49 = .ok (.iinc 5 1, 3) := by decide +kernel
theorem dX7_numbersAt_52 : decode cX7_numbersAt 52 = .ok (.goto (-39), 3) := by decide +kernel
theorem dX7_numbersAt_55 : decode cX7_numbersAt 55 = .ok (.aload_n 0, 1) := by decide +kernel
theorem dX7_numbersAt_56 : decode cX7_numbersAt 56 = .ok (.getfield 7, 3) := by decide +kernel
theorem dX7_numbersAt_59 : decode cX7_numbersAt 59 = .ok (.iload_n 1, 1) := by decide +kernel
theorem dX7_numbersAt_60 : decode cX7_numbersAt 60 = .ok (.iload_n 3, 1) := by decide +kernel
theorem dX7_numbersAt_61 : decode cX7_numbersAt 61 = .ok (.iastore, 1) := by decide +kernel
theorem dX7_numbersAt_62 : decode cX7_numbersAt 62 = .ok (.iload 4, 2) := by decide +kernel
theorem dX7_numbersAt_64 : decode cX7_numbersAt 64 = .ok (.ireturn, 1) := by decide +kernel
theorem dX7_kinds_0 : decode cX7_kinds 0 = .ok (.aload_n 0, 1) := by decide +kernel
theorem dX7_kinds_1 : decode cX7_kinds 1 = .ok (.iload_n 1, 1) := by decide +kernel
theorem dX7_kinds_2 : decode cX7_kinds 2 = .ok (.invokevirtual 162, 3) := by decide +kernel
theorem dX7_kinds_5 : decode cX7_kinds 5 = .ok (.ifCond .eq 12, 3) := by decide +kernel
theorem dX7_kinds_8 : decode cX7_kinds 8 = .ok (.aload_n 0, 1) := by decide +kernel
theorem dX7_kinds_9 : decode cX7_kinds 9 = .ok (.iload_n 1, 1) := by decide +kernel
theorem dX7_kinds_10 : decode cX7_kinds 10 = .ok (.iconst 4, 1) := by decide +kernel
theorem dX7_kinds_11 : decode cX7_kinds 11 = .ok (.invokevirtual 232, 3) := by decide +kernel
theorem dX7_kinds_14 : decode cX7_kinds 14 = .ok (.goto 4, 3) := by decide +kernel
theorem dX7_kinds_17 : decode cX7_kinds 17 = .ok (.iconst (-1), 1) := by decide +kernel
theorem dX7_kinds_18 : decode cX7_kinds 18 = .ok (.ireturn, 1) := by decide +kernel
theorem dX7_books_0 : decode cX7_books 0 = .ok (.aload_n 0, 1) := by decide +kernel
theorem dX7_books_1 : decode cX7_books 1 = .ok (.iload_n 1, 1) := by decide +kernel
theorem dX7_books_2 : decode cX7_books 2 = .ok (.invokevirtual 169, 3) := by decide +kernel
theorem dX7_books_5 : decode cX7_books 5 = .ok (.ifCond .eq 18, 3) := by decide +kernel
theorem dX7_books_8 : decode cX7_books 8 = .ok (.aload_n 0, 1) := by decide +kernel
theorem dX7_books_9 : decode cX7_books 9 = .ok (.bipush 9, 2) := by decide +kernel
theorem dX7_books_11 : decode cX7_books 11 = .ok (.iload_n 1, 1) := by decide +kernel
theorem dX7_books_12 : decode cX7_books 12 = .ok (.iadd, 1) := by decide +kernel
theorem dX7_books_13 : decode cX7_books 13 = .ok (.aload_n 0, 1) := by decide +kernel
theorem dX7_books_14 : decode cX7_books 14 = .ok (.getfield 13, 3) := by decide +kernel
theorem dX7_books_17 : decode cX7_books 17 = .ok (.invokevirtual 232, 3) := by decide +kernel
theorem dX7_books_20 : decode cX7_books 20 = .ok (.goto 4, 3) := by decide +kernel
theorem dX7_books_23 : decode cX7_books 23 = .ok (.iconst (-1), 1) := by decide +kernel
theorem dX7_books_24 : decode cX7_books 24 = .ok (.ireturn, 1) := by decide +kernel
theorem dX7_worstAt_0 : decode cX7_worstAt 0 = .ok (.iconst 0, 1) := by decide +kernel
theorem dX7_worstAt_1 : decode cX7_worstAt 1 = .ok (.istore_n 3, 1) := by decide +kernel
theorem dX7_worstAt_2 : decode cX7_worstAt 2 = .ok (.iconst 0, 1) := by decide +kernel
theorem dX7_worstAt_3 : decode cX7_worstAt 3 = .ok (.istore 4, 2) := by decide +kernel
theorem dX7_worstAt_5 : decode cX7_worstAt 5 = .ok (.iload 4, 2) := by decide +kernel
theorem dX7_worstAt_7 : decode cX7_worstAt 7 = .ok (.aload_n 0, 1) := by decide +kernel
theorem dX7_worstAt_8 : decode cX7_worstAt 8 = .ok (.getfield 13, 3) := by decide +kernel
theorem dX7_worstAt_11 : decode cX7_worstAt 11 = .ok (.if_icmp .ge 102, 3) := by decide +kernel
theorem dX7_worstAt_14 : decode cX7_worstAt 14 = .ok (.iconst 0, 1) := by decide +kernel
theorem dX7_worstAt_15 : decode cX7_worstAt 15 = .ok (.istore 5, 2) := by decide +kernel
theorem dX7_worstAt_17 : decode cX7_worstAt 17 = .ok (.iconst 0, 1) := by decide +kernel
theorem dX7_worstAt_18 : decode cX7_worstAt 18 = .ok (.istore 6, 2) := by decide +kernel
theorem dX7_worstAt_20 : decode cX7_worstAt 20 = .ok (.iload 6, 2) := by decide +kernel
theorem dX7_worstAt_22 : decode cX7_worstAt 22 = .ok (.aload_n 0, 1) := by decide +kernel
theorem dX7_worstAt_23 : decode cX7_worstAt 23 = .ok (.getfield 13, 3) := by decide +kernel
theorem dX7_worstAt_26 : decode cX7_worstAt 26 = .ok (.if_icmp .ge 68, 3) := by decide +kernel
theorem dX7_worstAt_29 : decode cX7_worstAt 29 = .ok (.iload_n 1, 1) := by decide +kernel
theorem dX7_worstAt_30 : decode cX7_worstAt 30 = .ok (.iload 4, 2) := by decide +kernel
theorem dX7_worstAt_32 : decode cX7_worstAt 32 = .ok (.ishr, 1) := by decide +kernel
theorem dX7_worstAt_33 : decode cX7_worstAt 33 = .ok (.iconst 1, 1) := by decide +kernel
theorem dX7_worstAt_34 : decode cX7_worstAt 34 = .ok (.iand, 1) := by decide +kernel
theorem dX7_worstAt_35 : decode cX7_worstAt 35 = .ok (.iconst 1, 1) := by decide +kernel
theorem dX7_worstAt_36 : decode cX7_worstAt 36 = .ok (.if_icmp .ne 58, 3) := by decide +kernel
theorem dX7_worstAt_39 : decode cX7_worstAt 39 = .ok (.iload 5, 2) := by decide +kernel
theorem dX7_worstAt_41 : decode cX7_worstAt 41 = .ok (.iload_n 1, 1) := by decide +kernel
theorem dX7_worstAt_42 : decode cX7_worstAt 42 = .ok (.iload 6, 2) := by decide +kernel
theorem dX7_worstAt_44 : decode cX7_worstAt 44 = .ok (.ishr, 1) := by decide +kernel
theorem dX7_worstAt_45 : decode cX7_worstAt 45 = .ok (.iconst 1, 1) := by decide +kernel
theorem dX7_worstAt_46 : decode cX7_worstAt 46 = .ok (.iand, 1) := by decide +kernel
theorem dX7_worstAt_47 : decode cX7_worstAt 47 = .ok (.iconst 1, 1) := by decide +kernel
theorem dX7_worstAt_48 : decode cX7_worstAt 48 = .ok (.if_icmp .ne 36, 3) := by decide +kernel
theorem dX7_worstAt_51 : decode cX7_worstAt 51 = .ok (.aload_n 0, 1) := by decide +kernel
theorem dX7_worstAt_52 : decode cX7_worstAt 52 = .ok (.getfield 38, 3) := by decide +kernel
theorem dX7_worstAt_55 : decode cX7_worstAt 55 = .ok (.sipush 164, 3) := by decide +kernel
theorem dX7_worstAt_58 : decode cX7_worstAt 58 = .ok (.iload 4, 2) := by decide +kernel
theorem dX7_worstAt_60 : decode cX7_worstAt 60 = .ok (.imul, 1) := by decide +kernel
theorem dX7_worstAt_61 : decode cX7_worstAt 61 = .ok (.iload_n 2, 1) := by decide +kernel
theorem dX7_worstAt_62 : decode cX7_worstAt 62 = .ok (.iadd, 1) := by decide +kernel
theorem dX7_worstAt_63 : decode cX7_worstAt 63 = .ok (.iaload, 1) := by decide +kernel
theorem dX7_worstAt_64 : decode cX7_worstAt 64 = .ok (.aload_n 0, 1) := by decide +kernel
theorem dX7_worstAt_65 : decode cX7_worstAt 65 = .ok (.getfield 38, 3) := by decide +kernel
theorem dX7_worstAt_68 : decode cX7_worstAt 68 = .ok (.sipush 164, 3) := by decide +kernel
theorem dX7_worstAt_71 : decode cX7_worstAt 71 = .ok (.iload 6, 2) := by decide +kernel
theorem dX7_worstAt_73 : decode cX7_worstAt 73 = .ok (.imul, 1) := by decide +kernel
theorem dX7_worstAt_74 : decode cX7_worstAt 74 = .ok (.iload_n 2, 1) := by decide +kernel
theorem dX7_worstAt_75 : decode cX7_worstAt 75 = .ok (.iadd, 1) := by decide +kernel
theorem dX7_worstAt_76 : decode cX7_worstAt 76 = .ok (.iaload, 1) := by decide +kernel
theorem dX7_worstAt_77 : decode cX7_worstAt 77 = .ok (.if_icmp .ne 7, 3) := by decide +kernel
theorem dX7_worstAt_80 : decode cX7_worstAt 80 = .ok (.iconst 1, 1) := by decide +kernel
theorem dX7_worstAt_81 : decode cX7_worstAt 81 = .ok (.goto 4, 3) := by decide +kernel
theorem dX7_worstAt_84 : decode cX7_worstAt 84 = .ok (.iconst 0, 1) := by decide +kernel
theorem dX7_worstAt_85 : decode cX7_worstAt 85 = .ok (.iadd, 1) := by decide +kernel
theorem dX7_worstAt_86 : decode cX7_worstAt 86 = .ok (.istore 5, 2) := by decide +kernel
theorem dX7_worstAt_88 : decode cX7_worstAt 88 = .ok (.iinc 6 1, 3) := by decide +kernel
theorem dX7_worstAt_91 : decode cX7_worstAt 91 = .ok (.goto (-71), 3) := by decide +kernel
theorem dX7_worstAt_94 : decode cX7_worstAt 94 = .ok (.iload 5, 2) := by decide +kernel
theorem dX7_worstAt_96 : decode cX7_worstAt 96 = .ok (.iload_n 3, 1) := by decide +kernel
theorem dX7_worstAt_97 : decode cX7_worstAt 97 = .ok (.if_icmp .le 8, 3) := by decide +kernel
theorem dX7_worstAt_100 : decode cX7_worstAt 100 = .ok (.iload 5, 2) := by decide +kernel
theorem dX7_worstAt_102 : decode cX7_worstAt 102 = .ok (.goto 4, 3) := by decide +kernel
theorem dX7_worstAt_105 : decode cX7_worstAt 105 = .ok (.iload_n 3, 1) := by decide +kernel
theorem dX7_worstAt_106 : decode cX7_worstAt 106 = .ok (.istore_n 3, 1) := by decide +kernel
theorem dX7_worstAt_107 : decode cX7_worstAt 107 = .ok (.iinc 4 1, 3) := by decide +kernel
theorem dX7_worstAt_110 : decode cX7_worstAt 110 = .ok (.goto (-105), 3) := by decide +kernel
theorem dX7_worstAt_113 : decode cX7_worstAt 113 = .ok (.iload_n 3, 1) := by decide +kernel
theorem dX7_worstAt_114 : decode cX7_worstAt 114 = .ok (.ireturn, 1) := by decide +kernel
theorem dX7_ask_0 : decode cX7_ask 0 = .ok (.aload_n 0, 1) := by decide +kernel
theorem dX7_ask_1 : decode cX7_ask 1 = .ok (.iload_n 1, 1) := by decide +kernel
theorem dX7_ask_2 : decode cX7_ask 2 = .ok (.invokevirtual 169, 3) := by decide +kernel
theorem dX7_ask_5 : decode cX7_ask 5 = .ok (.ifCond .eq 13, 3) := by decide +kernel
theorem dX7_ask_8 : decode cX7_ask 8 = .ok (.iload_n 2, 1) := by decide +kernel
theorem dX7_ask_9 : decode cX7_ask 9 = .ok (.i2l, 1) := by decide +kernel
theorem dX7_ask_10 : decode cX7_ask 10 = .ok (.lconst 0, 1) := by decide +kernel
theorem dX7_ask_11 : decode cX7_ask 11 = .ok (.lconst 1, 1) := by decide +kernel
theorem dX7_ask_12 : decode cX7_ask 12 = .ok (.invokestatic 56, 3) := by decide +kernel
theorem dX7_ask_15 : decode cX7_ask 15 = .ok (.ifCond .ne 5, 3) := by decide +kernel
theorem dX7_ask_18 : decode cX7_ask 18 = .ok (.iconst (-1), 1) := by decide +kernel
theorem dX7_ask_19 : decode cX7_ask 19 = .ok (.ireturn, 1) := by decide +kernel
theorem dX7_ask_20 : decode cX7_ask 20 = .ok (.aload_n 0, 1) := by decide +kernel
theorem dX7_ask_21 : decode cX7_ask 21 = .ok (.bipush 9, 2) := by decide +kernel
theorem dX7_ask_23 : decode cX7_ask 23 = .ok (.iload_n 1, 1) := by decide +kernel
theorem dX7_ask_24 : decode cX7_ask 24 = .ok (.iadd, 1) := by decide +kernel
theorem dX7_ask_25 : decode cX7_ask 25 = .ok (.aload_n 0, 1) := by decide +kernel
theorem dX7_ask_26 : decode cX7_ask 26 = .ok (.getfield 13, 3) := by decide +kernel
theorem dX7_ask_29 : decode cX7_ask 29 = .ok (.invokevirtual 232, 3) := by decide +kernel
theorem dX7_ask_32 : decode cX7_ask 32 = .ok (.istore_n 3, 1) := by decide +kernel
theorem dX7_ask_33 : decode cX7_ask 33 = .ok (.iconst 0, 1) := by decide +kernel
theorem dX7_ask_34 : decode cX7_ask 34 = .ok (.istore 4, 2) := by decide +kernel
theorem dX7_ask_36 : decode cX7_ask 36 = .ok (.iconst 0, 1) := by decide +kernel
theorem dX7_ask_37 : decode cX7_ask 37 = .ok (.istore 5, 2) := by decide +kernel
theorem dX7_ask_39 : decode cX7_ask 39 = .ok (.iload 5, 2) := by decide +kernel
theorem dX7_ask_41 : decode cX7_ask 41 = .ok (.aload_n 0, 1) := by decide +kernel
theorem dX7_ask_42 : decode cX7_ask 42 = .ok (.getfield 13, 3) := by decide +kernel
theorem dX7_ask_45 : decode cX7_ask 45 = .ok (.if_icmp .ge 20, 3) := by decide +kernel
theorem dX7_ask_48 : decode cX7_ask 48 = .ok (.iload 4, 2) := by decide +kernel
theorem dX7_ask_50 : decode cX7_ask 50 = .ok (.iload_n 3, 1) := by decide +kernel
theorem dX7_ask_51 : decode cX7_ask 51 = .ok (.iload 5, 2) := by decide +kernel
theorem dX7_ask_53 : decode cX7_ask 53 = .ok (.ishr, 1) := by decide +kernel
theorem dX7_ask_54 : decode cX7_ask 54 = .ok (.iconst 1, 1) := by decide +kernel
theorem dX7_ask_55 : decode cX7_ask 55 = .ok (.iand, 1) := by decide +kernel
theorem dX7_ask_56 : decode cX7_ask 56 = .ok (.iadd, 1) := by decide +kernel
theorem dX7_ask_57 : decode cX7_ask 57 = .ok (.istore 4, 2) := by decide +kernel
theorem dX7_ask_59 : decode cX7_ask 59 = .ok (.iinc 5 1, 3) := by decide +kernel
theorem dX7_ask_62 : decode cX7_ask 62 = .ok (.goto (-23), 3) := by decide +kernel
theorem dX7_ask_65 : decode cX7_ask 65 = .ok (.bipush (-4), 2) := by decide +kernel
theorem dX7_ask_67 : decode cX7_ask 67 = .ok (.istore 5, 2) := by decide +kernel
theorem dX7_ask_69 : decode cX7_ask 69 = .ok (.iconst 0, 1) := by decide +kernel
theorem dX7_ask_70 : decode cX7_ask 70 = .ok (.istore 6, 2) := by decide +kernel
theorem dX7_ask_72 : decode cX7_ask 72 = .ok (.iload 6, 2) := by decide +kernel
theorem dX7_ask_74 : decode cX7_ask 74 = .ok (.bipush 40, 2) := by decide +kernel
theorem dX7_ask_76 : decode cX7_ask 76 = .ok (.if_icmp .gt 82, 3) := by decide +kernel
theorem dX7_ask_79 : decode cX7_ask 79 = .ok (.iconst 0, 1) := by decide +kernel
theorem dX7_ask_80 : decode cX7_ask 80 = .ok (.istore 7, 2) := by decide +kernel
theorem dX7_ask_82 : decode cX7_ask 82 = .ok (.iload 7, 2) := by decide +kernel
theorem dX7_ask_84 : decode cX7_ask 84 = .ok (.aload_n 0, 1) := by decide +kernel
theorem dX7_ask_85 : decode cX7_ask 85 = .ok (.getfield 7, 3) := by decide +kernel
theorem dX7_ask_88 : decode cX7_ask 88 = .ok (.bipush 8, 2) := by decide +kernel
theorem dX7_ask_90 : decode cX7_ask 90 = .ok (.iaload, 1) := by decide +kernel
theorem dX7_ask_91 : decode cX7_ask 91 = .ok (.if_icmp .ge 61, 3) := by decide +kernel
theorem dX7_ask_94 : decode cX7_ask 94 = .ok (.aload_n 0, 1) := by decide +kernel
theorem dX7_ask_95 : decode cX7_ask 95 = .ok (.iload_n 3, 1) := by decide +kernel
theorem dX7_ask_96 : decode cX7_ask 96 = .ok (.iconst 4, 1) := by decide +kernel
theorem dX7_ask_97 : decode cX7_ask 97 = .ok (.iload 6, 2) := by decide +kernel
theorem dX7_ask_99 : decode cX7_ask 99 = .ok (.imul, 1) := by decide +kernel
theorem dX7_ask_100 : decode cX7_ask 100 = .ok (.iload 7, 2) := by decide +kernel
theorem dX7_ask_102 : decode cX7_ask 102 = .ok (.iadd, 1) := by decide +kernel
theorem dX7_ask_103 : decode cX7_ask 103 = .ok (.invokevirtual 235, 3) := by decide +kernel
theorem dX7_ask_106 : decode cX7_ask 106 = .ok (.istore 8, 2) := by decide +kernel
theorem dX7_ask_108 : decode cX7_ask 108 = .ok (.iload 8, 2) := by decide +kernel
theorem dX7_ask_110 : decode cX7_ask 110 = .ok (.iload 4, 2) := by decide +kernel
theorem dX7_ask_112 : decode cX7_ask 112 = .ok (.if_icmp .ge 14, 3) := by decide +kernel
theorem dX7_ask_115 : decode cX7_ask 115 = .ok (.bipush 10, 2) := by decide +kernel
theorem dX7_ask_117 : decode cX7_ask 117 = .ok (.iload 6, 2) := by decide +kernel
theorem dX7_ask_119 : decode cX7_ask 119 = .ok (.imul, 1) := by decide +kernel
theorem dX7_ask_120 : decode cX7_ask 120 = .ok (.iload 7, 2) := by decide +kernel
theorem dX7_ask_122 : decode cX7_ask 122 = .ok (.iadd, 1) := by decide +kernel
theorem dX7_ask_123 : decode cX7_ask 123 = .ok (.goto 5, 3) := by decide +kernel
theorem dX7_ask_126 : decode cX7_ask 126 = .ok (.iload 5, 2) := by decide +kernel
theorem dX7_ask_128 : decode cX7_ask 128 = .ok (.istore 5, 2) := by decide +kernel
theorem dX7_ask_130 : decode cX7_ask 130 = .ok (.iload 8, 2) := by decide +kernel
theorem dX7_ask_132 : decode cX7_ask 132 = .ok (.iload 4, 2) := by decide +kernel
theorem dX7_ask_134 : decode cX7_ask 134 = .ok (.if_icmp .ge 8, 3) := by decide +kernel
theorem dX7_ask_137 : decode cX7_ask 137 = .ok (.iload 8, 2) := by decide +kernel
theorem dX7_ask_139 : decode cX7_ask 139 = .ok (.goto 5, 3) := by decide +kernel
theorem dX7_ask_142 : decode cX7_ask 142 = .ok (.iload 4, 2) := by decide +kernel
theorem dX7_ask_144 : decode cX7_ask 144 = .ok (.istore 4, 2) := by decide +kernel
theorem dX7_ask_146 : decode cX7_ask 146 = .ok (.iinc 7 1, 3) := by decide +kernel
theorem dX7_ask_149 : decode cX7_ask 149 = .ok (.goto (-67), 3) := by decide +kernel
theorem dX7_ask_152 : decode cX7_ask 152 = .ok (.iinc 6 1, 3) := by decide +kernel
theorem dX7_ask_155 : decode cX7_ask 155 = .ok (.goto (-83), 3) := by decide +kernel
theorem dX7_ask_158 : decode cX7_ask 158 = .ok (.iload 5, 2) := by decide +kernel
theorem dX7_ask_160 : decode cX7_ask 160 = .ok (.bipush (-4), 2) := by decide +kernel
theorem dX7_ask_162 : decode cX7_ask 162 = .ok (.if_icmp .eq 7, 3) := by decide +kernel
theorem dX7_ask_165 : decode cX7_ask 165 = .ok (.iload_n 2, 1) := by decide +kernel
theorem dX7_ask_166 : decode cX7_ask 166 = .ok (.ifCond .ne 8, 3) := by decide +kernel
theorem dX7_ask_169 : decode cX7_ask 169 = .ok (.iload 5, 2) := by decide +kernel
theorem dX7_ask_171 : decode cX7_ask 171 = .ok (.goto 5, 3) := by decide +kernel
theorem dX7_ask_174 : decode cX7_ask 174 = .ok (.iload 4, 2) := by decide +kernel
theorem dX7_ask_176 : decode cX7_ask 176 = .ok (.ireturn, 1) := by decide +kernel
theorem dX7_drift_0 : decode cX7_drift 0 = .ok (.iload_n 2, 1) := by decide +kernel
theorem dX7_drift_1 : decode cX7_drift 1 = .ok (.i2l, 1) := by decide +kernel
theorem dX7_drift_2 : decode cX7_drift 2 = .ok (.lconst 1, 1) := by decide +kernel
theorem dX7_drift_3 : decode cX7_drift 3 = .ok (.ldc2_w 197, 3) := by decide +kernel
theorem dX7_drift_6 : decode cX7_drift 6 = .ok (.invokestatic 56, 3) := by decide +kernel
theorem dX7_drift_9 : decode cX7_drift 9 = .ok (.ifCond .eq 13, 3) := by decide +kernel
theorem dX7_drift_12 : decode cX7_drift 12 = .ok (.iload_n 3, 1) := by decide +kernel
theorem dX7_drift_13 : decode cX7_drift 13 = .ok (.i2l, 1) := by decide +kernel
theorem dX7_drift_14 : decode cX7_drift 14 = .ok (.lconst 0, 1) := by decide +kernel
theorem dX7_drift_15 : decode cX7_drift 15 = .ok (.lconst 1, 1) := by decide +kernel
theorem dX7_drift_16 : decode cX7_drift 16 = .ok (.invokestatic 56, 3) := by decide +kernel
theorem dX7_drift_19 : decode cX7_drift 19 = .ok (.ifCond .ne 5, 3) := by decide +kernel
theorem dX7_drift_22 : decode cX7_drift 22 = .ok (.iconst (-1), 1) := by decide +kernel
theorem dX7_drift_23 : decode cX7_drift 23 = .ok (.ireturn, 1) := by decide +kernel
theorem dX7_drift_24 : decode cX7_drift 24 = .ok (.aload_n 0, 1) := by decide +kernel
theorem dX7_drift_25 : decode cX7_drift 25 = .ok (.getfield 7, 3) := by decide +kernel
theorem dX7_drift_28 : decode cX7_drift 28 = .ok (.bipush 8, 2) := by decide +kernel
theorem dX7_drift_30 : decode cX7_drift 30 = .ok (.iaload, 1) := by decide +kernel
theorem dX7_drift_31 : decode cX7_drift 31 = .ok (.ifCond .ne 6, 3) := by decide +kernel
theorem dX7_drift_34 : decode cX7_drift 34 = .ok (.bipush (-2), 2) := by decide +kernel
theorem dX7_drift_36 : decode cX7_drift 36 = .ok (.ireturn, 1) := by decide +kernel
theorem dX7_drift_37 : decode cX7_drift 37 = .ok (.aload_n 0, 1) := by decide +kernel
theorem dX7_drift_38 : decode cX7_drift 38 = .ok (.iconst 0, 1) := by decide +kernel
theorem dX7_drift_39 : decode cX7_drift 39 = .ok (.sipush 300, 3) := by decide +kernel
theorem dX7_drift_42 : decode cX7_drift 42 = .ok (.invokevirtual 193, 3) := by decide +kernel
theorem dX7_drift_45 : decode cX7_drift 45 = .ok (.aload_n 0, 1) := by decide +kernel
theorem dX7_drift_46 : decode cX7_drift 46 = .ok (.invokevirtual 183, 3) := by decide +kernel
theorem dX7_drift_49 : decode cX7_drift 49 = .ok (.iload_n 1, 1) := by decide +kernel
theorem dX7_drift_50 : decode cX7_drift 50 = .ok (.istore 4, 2) := by decide +kernel
theorem dX7_drift_52 : decode cX7_drift 52 = .ok (.iconst 0, 1) := by decide +kernel
theorem dX7_drift_53 : decode cX7_drift 53 = .ok (.istore 5, 2) := by decide +kernel
theorem dX7_drift_55 : decode cX7_drift 55 = .ok (.iload 5, 2) := by decide +kernel
theorem dX7_drift_57 : decode cX7_drift 57 = .ok (.iload_n 2, 1) := by decide +kernel
theorem dX7_drift_58 : decode cX7_drift 58 = .ok (.if_icmp .ge 42, 3) := by decide +kernel
theorem dX7_drift_61 : decode cX7_drift 61 = .ok (.iload 4, 2) := by decide +kernel
theorem dX7_drift_63 : decode cX7_drift 63 = .ok (.ldc 238, 2) := by decide +kernel
theorem dX7_drift_65 : decode cX7_drift 65 = .ok (.imul, 1) := by decide +kernel
theorem dX7_drift_66 : decode cX7_drift 66 = .ok (.sipush 12345, 3) := by decide +kernel
theorem dX7_drift_69 : decode cX7_drift 69 = .ok (.iadd, 1) := by decide +kernel
theorem dX7_drift_70 : decode cX7_drift 70 = .ok (.istore 4, 2) := by decide +kernel
theorem dX7_drift_72 : decode cX7_drift 72 = .ok (.aload_n 0, 1) := by decide +kernel
theorem dX7_drift_73 : decode cX7_drift 73 = .ok (.sipush 300, 3) := by decide +kernel
theorem dX7_drift_76 : decode cX7_drift 76 = .ok (.iload 4, 2) := by decide +kernel
theorem dX7_drift_78 : decode cX7_drift 78 = .ok (.bipush 16, 2) := by decide +kernel
theorem dX7_drift_80 : decode cX7_drift 80 = .ok (.ishr, 1) := by decide +kernel
theorem dX7_drift_81 : decode cX7_drift 81 = .ok (.sipush 32767, 3) := by decide +kernel
theorem dX7_drift_84 : decode cX7_drift 84 = .ok (.iand, 1) := by decide +kernel
theorem dX7_drift_85 : decode cX7_drift 85 = .ok (.aload_n 0, 1) := by decide +kernel
theorem dX7_drift_86 : decode cX7_drift 86 = .ok (.getfield 13, 3) := by decide +kernel
theorem dX7_drift_89 : decode cX7_drift 89 = .ok (.irem, 1) := by decide +kernel
theorem dX7_drift_90 : decode cX7_drift 90 = .ok (.invokevirtual 159, 3) := by decide +kernel
theorem dX7_drift_93 : decode cX7_drift 93 = .ok (.pop, 1) := by decide +kernel
theorem dX7_drift_94 : decode cX7_drift 94 = .ok (.iinc 5 1, 3) := by decide +kernel
theorem dX7_drift_97 : decode cX7_drift 97 = .ok (.goto (-42), 3) := by decide +kernel
theorem dX7_drift_100 : decode cX7_drift 100 = .ok (.iload_n 3, 1) := by decide +kernel
theorem dX7_drift_101 : decode cX7_drift 101 = .ok (.ifCond .ne 10, 3) := by decide +kernel
theorem dX7_drift_104 : decode cX7_drift 104 = .ok (.aload_n 0, 1) := by decide +kernel
theorem dX7_drift_105 : decode cX7_drift 105 = .ok (.invokevirtual 190, 3) := by decide +kernel
theorem dX7_drift_108 : decode cX7_drift 108 = .ok (.goto 7, 3) := by decide +kernel
theorem dX7_drift_111 : decode cX7_drift 111 = .ok (.aload_n 0, 1) := by decide +kernel
theorem dX7_drift_112 : decode cX7_drift 112 = .ok (.invokevirtual 202, 3) := by decide +kernel
theorem dX7_drift_115 : decode cX7_drift 115 = .ok (.ireturn, 1) := by decide +kernel
theorem dX7_keep_0 : decode cX7_keep 0 = .ok (.iload_n 1, 1) := by decide +kernel
theorem dX7_keep_1 : decode cX7_keep 1 = .ok (.i2l, 1) := by decide +kernel
theorem dX7_keep_2 : decode cX7_keep 2 = .ok (.lconst 0, 1) := by decide +kernel
theorem dX7_keep_3 : decode cX7_keep 3 = .ok (.lconst 1, 1) := by decide +kernel
theorem dX7_keep_4 : decode cX7_keep 4 = .ok (.invokestatic 56, 3) := by decide +kernel
theorem dX7_keep_7 : decode cX7_keep 7 = .ok (.ifCond .ne 5, 3) := by decide +kernel
theorem dX7_keep_10 : decode cX7_keep 10 = .ok (.iconst (-1), 1) := by decide +kernel
theorem dX7_keep_11 : decode cX7_keep 11 = .ok (.ireturn, 1) := by decide +kernel
theorem dX7_keep_12 : decode cX7_keep 12 = .ok (.aload_n 0, 1) := by decide +kernel
theorem dX7_keep_13 : decode cX7_keep 13 = .ok (.iconst 0, 1) := by decide +kernel
theorem dX7_keep_14 : decode cX7_keep 14 = .ok (.bipush 75, 2) := by decide +kernel
theorem dX7_keep_16 : decode cX7_keep 16 = .ok (.iload_n 1, 1) := by decide +kernel
theorem dX7_keep_17 : decode cX7_keep 17 = .ok (.iconst 1, 1) := by decide +kernel
theorem dX7_keep_18 : decode cX7_keep 18 = .ok (.iadd, 1) := by decide +kernel
theorem dX7_keep_19 : decode cX7_keep 19 = .ok (.imul, 1) := by decide +kernel
theorem dX7_keep_20 : decode cX7_keep 20 = .ok (.invokevirtual 193, 3) := by decide +kernel
theorem dX7_keep_23 : decode cX7_keep 23 = .ok (.aload_n 0, 1) := by decide +kernel
theorem dX7_keep_24 : decode cX7_keep 24 = .ok (.getfield 41, 3) := by decide +kernel
theorem dX7_keep_27 : decode cX7_keep 27 = .ok (.iload_n 1, 1) := by decide +kernel
theorem dX7_keep_28 : decode cX7_keep 28 = .ok (.baload, 1) := by decide +kernel
theorem dX7_keep_29 : decode cX7_keep 29 = .ok (.ifCond .eq 7, 3) := by decide +kernel
theorem dX7_keep_32 : decode cX7_keep 32 = .ok (.iconst 1, 1) := by decide +kernel
theorem dX7_keep_33 : decode cX7_keep 33 = .ok (.goto 4, 3) := by decide +kernel
theorem dX7_keep_36 : decode cX7_keep 36 = .ok (.iconst 0, 1) := by decide +kernel
theorem dX7_keep_37 : decode cX7_keep 37 = .ok (.istore_n 2, 1) := by decide +kernel
theorem dX7_keep_38 : decode cX7_keep 38 = .ok (.aload_n 0, 1) := by decide +kernel
theorem dX7_keep_39 : decode cX7_keep 39 = .ok (.getfield 41, 3) := by decide +kernel
theorem dX7_keep_42 : decode cX7_keep 42 = .ok (.iload_n 1, 1) := by decide +kernel
theorem dX7_keep_43 : decode cX7_keep 43 = .ok (.iconst 1, 1) := by decide +kernel
theorem dX7_keep_44 : decode cX7_keep 44 = .ok (.bastore, 1) := by decide +kernel
theorem dX7_keep_45 : decode cX7_keep 45 = .ok (.iload_n 2, 1) := by decide +kernel
theorem dX7_keep_46 : decode cX7_keep 46 = .ok (.ireturn, 1) := by decide +kernel
theorem dX7_back_0 : decode cX7_back 0 = .ok (.iload_n 1, 1) := by decide +kernel
theorem dX7_back_1 : decode cX7_back 1 = .ok (.i2l, 1) := by decide +kernel
theorem dX7_back_2 : decode cX7_back 2 = .ok (.lconst 0, 1) := by decide +kernel
theorem dX7_back_3 : decode cX7_back 3 = .ok (.lconst 1, 1) := by decide +kernel
theorem dX7_back_4 : decode cX7_back 4 = .ok (.invokestatic 56, 3) := by decide +kernel
theorem dX7_back_7 : decode cX7_back 7 = .ok (.ifCond .ne 5, 3) := by decide +kernel
theorem dX7_back_10 : decode cX7_back 10 = .ok (.iconst (-1), 1) := by decide +kernel
theorem dX7_back_11 : decode cX7_back 11 = .ok (.ireturn, 1) := by decide +kernel
theorem dX7_back_12 : decode cX7_back 12 = .ok (.aload_n 0, 1) := by decide +kernel
theorem dX7_back_13 : decode cX7_back 13 = .ok (.getfield 41, 3) := by decide +kernel
theorem dX7_back_16 : decode cX7_back 16 = .ok (.iload_n 1, 1) := by decide +kernel
theorem dX7_back_17 : decode cX7_back 17 = .ok (.baload, 1) := by decide +kernel
theorem dX7_back_18 : decode cX7_back 18 = .ok (.ifCond .ne 6, 3) := by decide +kernel
theorem dX7_back_21 : decode cX7_back 21 = .ok (.bipush (-2), 2) := by decide +kernel
theorem dX7_back_23 : decode cX7_back 23 = .ok (.ireturn, 1) := by decide +kernel
theorem dX7_back_24 : decode cX7_back 24 = .ok (.aload_n 0, 1) := by decide +kernel
theorem dX7_back_25 : decode cX7_back 25 = .ok (.bipush 75, 2) := by decide +kernel
theorem dX7_back_27 : decode cX7_back 27 = .ok (.iload_n 1, 1) := by decide +kernel
theorem dX7_back_28 : decode cX7_back 28 = .ok (.iconst 1, 1) := by decide +kernel
theorem dX7_back_29 : decode cX7_back 29 = .ok (.iadd, 1) := by decide +kernel
theorem dX7_back_30 : decode cX7_back 30 = .ok (.imul, 1) := by decide +kernel
theorem dX7_back_31 : decode cX7_back 31 = .ok (.iconst 0, 1) := by decide +kernel
theorem dX7_back_32 : decode cX7_back 32 = .ok (.invokevirtual 193, 3) := by decide +kernel
theorem dX7_back_35 : decode cX7_back 35 = .ok (.aload_n 0, 1) := by decide +kernel
theorem dX7_back_36 : decode cX7_back 36 = .ok (.getfield 7, 3) := by decide +kernel
theorem dX7_back_39 : decode cX7_back 39 = .ok (.bipush 26, 2) := by decide +kernel
theorem dX7_back_41 : decode cX7_back 41 = .ok (.iaload, 1) := by decide +kernel
theorem dX7_back_42 : decode cX7_back 42 = .ok (.ireturn, 1) := by decide +kernel
theorem dX7_sheet_0 : decode cX7_sheet 0 = .ok (.iload_n 1, 1) := by decide +kernel
theorem dX7_sheet_1 : decode cX7_sheet 1 = .ok (.i2l, 1) := by decide +kernel
theorem dX7_sheet_2 : decode cX7_sheet 2 = .ok (.lconst 0, 1) := by decide +kernel
theorem dX7_sheet_3 : decode cX7_sheet 3 = .ok (.ldc2_w 172, 3) := by decide +kernel
theorem dX7_sheet_6 : decode cX7_sheet 6 = .ok (.invokestatic 56, 3) := by decide +kernel
theorem dX7_sheet_9 : decode cX7_sheet 9 = .ok (.ifCond .eq 21, 3) := by decide +kernel
theorem dX7_sheet_12 : decode cX7_sheet 12 = .ok (.iload_n 2, 1) := by decide +kernel
theorem dX7_sheet_13 : decode cX7_sheet 13 = .ok (.i2l, 1) := by decide +kernel
theorem dX7_sheet_14 : decode cX7_sheet 14 = .ok (.lconst 0, 1) := by decide +kernel
theorem dX7_sheet_15 : decode cX7_sheet 15 = .ok (.ldc2_w 239, 3) := by decide +kernel
theorem dX7_sheet_18 : decode cX7_sheet 18 = .ok (.invokestatic 56, 3) := by decide +kernel
theorem dX7_sheet_21 : decode cX7_sheet 21 = .ok (.ifCond .eq 9, 3) := by decide +kernel
theorem dX7_sheet_24 : decode cX7_sheet 24 = .ok (.iload_n 3, 1) := by decide +kernel
theorem dX7_sheet_25 : decode cX7_sheet 25 = .ok (.bipush 40, 2) := by decide +kernel
theorem dX7_sheet_27 : decode cX7_sheet 27 = .ok (.if_icmp .le 5, 3) := by decide +kernel
theorem dX7_sheet_30 : decode cX7_sheet 30 = .ok (.iconst (-1), 1) := by decide +kernel
theorem dX7_sheet_31 : decode cX7_sheet 31 = .ok (.ireturn, 1) := by decide +kernel
theorem dX7_sheet_32 : decode cX7_sheet 32 = .ok (.iload_n 3, 1) := by decide +kernel
theorem dX7_sheet_33 : decode cX7_sheet 33 = .ok (.ifCond .ge 6, 3) := by decide +kernel
theorem dX7_sheet_36 : decode cX7_sheet 36 = .ok (.bipush (-14), 2) := by decide +kernel
theorem dX7_sheet_38 : decode cX7_sheet 38 = .ok (.ireturn, 1) := by decide +kernel
theorem dX7_sheet_39 : decode cX7_sheet 39 = .ok (.aload_n 0, 1) := by decide +kernel
theorem dX7_sheet_40 : decode cX7_sheet 40 = .ok (.getfield 45, 3) := by decide +kernel
theorem dX7_sheet_43 : decode cX7_sheet 43 = .ok (.iload_n 1, 1) := by decide +kernel
theorem dX7_sheet_44 : decode cX7_sheet 44 = .ok (.iload_n 2, 1) := by decide +kernel
theorem dX7_sheet_45 : decode cX7_sheet 45 = .ok (.iastore, 1) := by decide +kernel
theorem dX7_sheet_46 : decode cX7_sheet 46 = .ok (.aload_n 0, 1) := by decide +kernel
theorem dX7_sheet_47 : decode cX7_sheet 47 = .ok (.getfield 48, 3) := by decide +kernel
theorem dX7_sheet_50 : decode cX7_sheet 50 = .ok (.iload_n 1, 1) := by decide +kernel
theorem dX7_sheet_51 : decode cX7_sheet 51 = .ok (.iload_n 3, 1) := by decide +kernel
theorem dX7_sheet_52 : decode cX7_sheet 52 = .ok (.iastore, 1) := by decide +kernel
theorem dX7_sheet_53 : decode cX7_sheet 53 = .ok (.iconst 0, 1) := by decide +kernel
theorem dX7_sheet_54 : decode cX7_sheet 54 = .ok (.istore 4, 2) := by decide +kernel
theorem dX7_sheet_56 : decode cX7_sheet 56 = .ok (.iload 4, 2) := by decide +kernel
theorem dX7_sheet_58 : decode cX7_sheet 58 = .ok (.bipush 40, 2) := by decide +kernel
theorem dX7_sheet_60 : decode cX7_sheet 60 = .ok (.if_icmp .ge 22, 3) := by decide +kernel
theorem dX7_sheet_63 : decode cX7_sheet 63 = .ok (.aload_n 0, 1) := by decide +kernel
theorem dX7_sheet_64 : decode cX7_sheet 64 = .ok (.getfield 51, 3) := by decide +kernel
theorem dX7_sheet_67 : decode cX7_sheet 67 = .ok (.bipush 40, 2) := by decide +kernel
theorem dX7_sheet_69 : decode cX7_sheet 69 = .ok (.iload_n 1, 1) := by decide +kernel
theorem dX7_sheet_70 : decode cX7_sheet 70 = .ok (.imul, 1) := by decide +kernel
theorem dX7_sheet_71 : decode cX7_sheet 71 = .ok (.iload 4, 2) := by decide +kernel
theorem dX7_sheet_73 : decode cX7_sheet 73 = .ok (.iadd, 1) := by decide +kernel
theorem dX7_sheet_74 : decode cX7_sheet 74 = .ok (.iconst 0, 1) := by decide +kernel
theorem dX7_sheet_75 : decode cX7_sheet 75 = .ok (.iastore, 1) := by decide +kernel
theorem dX7_sheet_76 : decode cX7_sheet 76 = .ok (.iinc 4 1, 3) := by decide +kernel
theorem dX7_sheet_79 : decode cX7_sheet 79 = .ok (.goto (-23), 3) := by decide +kernel
theorem dX7_sheet_82 : decode cX7_sheet 82 = .ok (.iconst 1, 1) := by decide +kernel
theorem dX7_sheet_83 : decode cX7_sheet 83 = .ok (.ireturn, 1) := by decide +kernel
theorem dX7_lay_0 : decode cX7_lay 0 = .ok (.iload_n 1, 1) := by decide +kernel
theorem dX7_lay_1 : decode cX7_lay 1 = .ok (.i2l, 1) := by decide +kernel
theorem dX7_lay_2 : decode cX7_lay 2 = .ok (.lconst 0, 1) := by decide +kernel
theorem dX7_lay_3 : decode cX7_lay 3 = .ok (.ldc2_w 172, 3) := by decide +kernel
theorem dX7_lay_6 : decode cX7_lay 6 = .ok (.invokestatic 56, 3) := by decide +kernel
theorem dX7_lay_9 : decode cX7_lay 9 = .ok (.ifCond .ne 5, 3) := by decide +kernel
theorem dX7_lay_12 : decode cX7_lay 12 = .ok (.iconst (-1), 1) := by decide +kernel
theorem dX7_lay_13 : decode cX7_lay 13 = .ok (.ireturn, 1) := by decide +kernel
theorem dX7_lay_14 : decode cX7_lay 14 = .ok (.aload_n 0, 1) := by decide +kernel
theorem dX7_lay_15 : decode cX7_lay 15 = .ok (.getfield 45, 3) := by decide +kernel
theorem dX7_lay_18 : decode cX7_lay 18 = .ok (.iload_n 1, 1) := by decide +kernel
theorem dX7_lay_19 : decode cX7_lay 19 = .ok (.iaload, 1) := by decide +kernel
theorem dX7_lay_20 : decode cX7_lay 20 = .ok (.bipush (-4), 2) := by decide +kernel
theorem dX7_lay_22 : decode cX7_lay 22 = .ok (.if_icmp .ne 6, 3) := by decide +kernel
theorem dX7_lay_25 : decode cX7_lay 25 = .ok (.bipush (-11), 2) := by decide +kernel
theorem dX7_lay_27 : decode cX7_lay 27 = .ok (.ireturn, 1) := by decide +kernel
theorem dX7_lay_28 : decode cX7_lay 28 = .ok (.iload_n 2, 1) := by decide +kernel
theorem dX7_lay_29 : decode cX7_lay 29 = .ok (.i2l, 1) := by decide +kernel
theorem dX7_lay_30 : decode cX7_lay 30 = .ok (.lconst 0, 1) := by decide +kernel
theorem dX7_lay_31 : decode cX7_lay 31 = .ok (.aload_n 0, 1) := by decide +kernel
theorem dX7_lay_32 : decode cX7_lay 32 = .ok (.getfield 48, 3) := by decide +kernel
theorem dX7_lay_35 : decode cX7_lay 35 = .ok (.iload_n 1, 1) := by decide +kernel
theorem dX7_lay_36 : decode cX7_lay 36 = .ok (.iaload, 1) := by decide +kernel
theorem dX7_lay_37 : decode cX7_lay 37 = .ok (.iconst 1, 1) := by decide +kernel
theorem dX7_lay_38 : decode cX7_lay 38 = .ok (.isub, 1) := by decide +kernel
theorem dX7_lay_39 : decode cX7_lay 39 = .ok (.i2l, 1) := by decide +kernel
theorem dX7_lay_40 : decode cX7_lay 40 = .ok (.invokestatic 56, 3) := by decide +kernel
theorem dX7_lay_43 : decode cX7_lay 43 = .ok (.ifCond .ne 6, 3) := by decide +kernel
theorem dX7_lay_46 : decode cX7_lay 46 = .ok (.bipush (-12), 2) := by decide +kernel
theorem dX7_lay_48 : decode cX7_lay 48 = .ok (.ireturn, 1) := by decide +kernel
theorem dX7_lay_49 : decode cX7_lay 49 = .ok (.aload_n 0, 1) := by decide +kernel
theorem dX7_lay_50 : decode cX7_lay 50 = .ok (.getfield 51, 3) := by decide +kernel
theorem dX7_lay_53 : decode cX7_lay 53 = .ok (.bipush 40, 2) := by decide +kernel
theorem dX7_lay_55 : decode cX7_lay 55 = .ok (.iload_n 1, 1) := by decide +kernel
theorem dX7_lay_56 : decode cX7_lay 56 = .ok (.imul, 1) := by decide +kernel
theorem dX7_lay_57 : decode cX7_lay 57 = .ok (.iload_n 2, 1) := by decide +kernel
theorem dX7_lay_58 : decode cX7_lay 58 = .ok (.iadd, 1) := by decide +kernel
theorem dX7_lay_59 : decode cX7_lay 59 = .ok (.aload_n 0, 1) := by decide +kernel
theorem dX7_lay_60 : decode cX7_lay 60 = .ok (.getfield 45, 3) := by decide +kernel
theorem dX7_lay_63 : decode cX7_lay 63 = .ok (.iload_n 1, 1) := by decide +kernel
theorem dX7_lay_64 : decode cX7_lay 64 = .ok (.iaload, 1) := by decide +kernel
theorem dX7_lay_65 : decode cX7_lay 65 = .ok (.ifCond .ne 13, 3) := by decide +kernel
theorem dX7_lay_68 : decode cX7_lay 68 = .ok (.iload_n 3, 1) := by decide +kernel
theorem dX7_lay_69 : decode cX7_lay 69 = .ok (.bipush 24, 2) := by decide +kernel
theorem dX7_lay_71 : decode cX7_lay 71 = .ok (.ishl, 1) := by decide +kernel
theorem dX7_lay_72 : decode cX7_lay 72 = .ok (.bipush 24, 2) := by decide +kernel
theorem dX7_lay_74 : decode cX7_lay 74 = .ok (.ishr, 1) := by decide +kernel
theorem dX7_lay_75 : decode cX7_lay 75 = .ok (.goto 24, 3) := by decide +kernel
theorem dX7_lay_78 : decode cX7_lay 78 = .ok (.aload_n 0, 1) := by decide +kernel
theorem dX7_lay_79 : decode cX7_lay 79 = .ok (.getfield 45, 3) := by decide +kernel
theorem dX7_lay_82 : decode cX7_lay 82 = .ok (.iload_n 1, 1) := by decide +kernel
theorem dX7_lay_83 : decode cX7_lay 83 = .ok (.iaload, 1) := by decide +kernel
theorem dX7_lay_84 : decode cX7_lay 84 = .ok (.iconst 1, 1) := by decide +kernel
theorem dX7_lay_85 : decode cX7_lay 85 = .ok (.if_icmp .ne 13, 3) := by decide +kernel
theorem dX7_lay_88 : decode cX7_lay 88 = .ok (.iload_n 3, 1) := by decide +kernel
theorem dX7_lay_89 : decode cX7_lay 89 = .ok (.bipush 16, 2) := by decide +kernel
theorem dX7_lay_91 : decode cX7_lay 91 = .ok (.ishl, 1) := by decide +kernel
theorem dX7_lay_92 : decode cX7_lay 92 = .ok (.bipush 16, 2) := by decide +kernel
theorem dX7_lay_94 : decode cX7_lay 94 = .ok (.ishr, 1) := by decide +kernel
theorem dX7_lay_95 : decode cX7_lay 95 = .ok (.goto 4, 3) := by decide +kernel
theorem dX7_lay_98 : decode cX7_lay 98 = .ok (.iload_n 3, 1) := by decide +kernel
theorem dX7_lay_99 : decode cX7_lay 99 = .ok (.iastore, 1) := by decide +kernel
theorem dX7_lay_100 : decode cX7_lay 100 = .ok (.iconst 1, 1) := by decide +kernel
theorem dX7_lay_101 : decode cX7_lay 101 = .ok (.ireturn, 1) := by decide +kernel
theorem dX7_read_0 : decode cX7_read 0 = .ok (.iload_n 1, 1) := by decide +kernel
theorem dX7_read_1 : decode cX7_read 1 = .ok (.i2l, 1) := by decide +kernel
theorem dX7_read_2 : decode cX7_read 2 = .ok (.lconst 0, 1) := by decide +kernel
theorem dX7_read_3 : decode cX7_read 3 = .ok (.ldc2_w 172, 3) := by decide +kernel
theorem dX7_read_6 : decode cX7_read 6 = .ok (.invokestatic 56, 3) := by decide +kernel
theorem dX7_read_9 : decode cX7_read 9 = .ok (.ifCond .eq 28, 3) := by decide +kernel
theorem dX7_read_12 : decode cX7_read 12 = .ok (.iload_n 2, 1) := by decide +kernel
theorem dX7_read_13 : decode cX7_read 13 = .ok (.i2l, 1) := by decide +kernel
theorem dX7_read_14 : decode cX7_read 14 = .ok (.lconst 0, 1) := by decide +kernel
theorem dX7_read_15 : decode cX7_read 15 = .ok (.ldc2_w 239, 3) := by decide +kernel
theorem dX7_read_18 : decode cX7_read 18 = .ok (.invokestatic 56, 3) := by decide +kernel
theorem dX7_read_21 : decode cX7_read 21 = .ok (.ifCond .eq 16, 3) := by decide +kernel
theorem dX7_read_24 : decode cX7_read 24 = .ok (.iload 4, 2) := by decide +kernel
theorem dX7_read_26 : decode cX7_read 26 = .ok (.i2l, 1) := by decide +kernel
theorem dX7_read_27 : decode cX7_read 27 = .ok (.lconst 0, 1) := by decide +kernel
theorem dX7_read_28 : decode cX7_read 28 = .ok (.ldc2_w 227, 3) := by decide +kernel
theorem dX7_read_31 : decode cX7_read 31 = .ok (.invokestatic 56, 3) := by decide +kernel
theorem dX7_read_34 : decode cX7_read 34 = .ok (.ifCond .ne 5, 3) := by decide +kernel
theorem dX7_read_37 : decode cX7_read 37 = .ok (.iconst (-1), 1) := by decide +kernel
theorem dX7_read_38 : decode cX7_read 38 = .ok (.ireturn, 1) := by decide +kernel
theorem dX7_read_39 : decode cX7_read 39 = .ok (.aload_n 0, 1) := by decide +kernel
theorem dX7_read_40 : decode cX7_read 40 = .ok (.iconst 0, 1) := by decide +kernel
theorem dX7_read_41 : decode cX7_read 41 = .ok (.sipush 225, 3) := by decide +kernel
theorem dX7_read_44 : decode cX7_read 44 = .ok (.invokevirtual 193, 3) := by decide +kernel
theorem dX7_read_47 : decode cX7_read 47 = .ok (.iconst 0, 1) := by decide +kernel
theorem dX7_read_48 : decode cX7_read 48 = .ok (.istore 5, 2) := by decide +kernel
theorem dX7_read_50 : decode cX7_read 50 = .ok (.iconst 0, 1) := by decide +kernel
theorem dX7_read_51 : decode cX7_read 51 = .ok (.istore 6, 2) := by decide +kernel
theorem dX7_read_53 : decode cX7_read 53 = .ok (.iconst 0, 1) := by decide +kernel
theorem dX7_read_54 : decode cX7_read 54 = .ok (.istore 7, 2) := by decide +kernel
theorem dX7_read_56 : decode cX7_read 56 = .ok (.iload 7, 2) := by decide +kernel
theorem dX7_read_58 : decode cX7_read 58 = .ok (.iload 4, 2) := by decide +kernel
theorem dX7_read_60 : decode cX7_read 60 = .ok (.if_icmp .ge 119, 3) := by decide +kernel
theorem dX7_read_63 : decode cX7_read 63 = .ok (.iload 5, 2) := by decide +kernel
theorem dX7_read_65 : decode cX7_read 65 = .ok (.ifCond .ne 114, 3) := by decide +kernel
theorem dX7_read_68 : decode cX7_read 68 = .ok (.aload_n 0, 1) := by decide +kernel
theorem dX7_read_69 : decode cX7_read 69 = .ok (.getfield 45, 3) := by decide +kernel
theorem dX7_read_72 : decode cX7_read 72 = .ok (.iload_n 1, 1) := by decide +kernel
theorem dX7_read_73 : decode cX7_read 73 = .ok (.iaload, 1) := by decide +kernel
theorem dX7_read_74 : decode cX7_read 74 = .ok (.bipush (-4), 2) := by decide +kernel
theorem dX7_read_76 : decode cX7_read 76 = .ok (.if_icmp .ne 7, 3) := by decide +kernel
theorem dX7_read_79 : decode cX7_read 79 = .ok (.iconst 1, 1) := by decide +kernel
theorem dX7_read_80 : decode cX7_read 80 = .ok (.goto 44, 3) := by decide +kernel
theorem dX7_read_83 : decode cX7_read 83 = .ok (.aload_n 0, 1) := by decide +kernel
theorem dX7_read_84 : decode cX7_read 84 = .ok (.getfield 45, 3) := by decide +kernel
theorem dX7_read_87 : decode cX7_read 87 = .ok (.iload_n 1, 1) := by decide +kernel
theorem dX7_read_88 : decode cX7_read 88 = .ok (.iaload, 1) := by decide +kernel
theorem dX7_read_89 : decode cX7_read 89 = .ok (.iload_n 2, 1) := by decide +kernel
theorem dX7_read_90 : decode cX7_read 90 = .ok (.if_icmp .eq 7, 3) := by decide +kernel
theorem dX7_read_93 : decode cX7_read 93 = .ok (.iconst 3, 1) := by decide +kernel
theorem dX7_read_94 : decode cX7_read 94 = .ok (.goto 30, 3) := by decide +kernel
theorem dX7_read_97 : decode cX7_read 97 = .ok (.iload_n 3, 1) := by decide +kernel
theorem dX7_read_98 : decode cX7_read 98 = .ok (.i2l, 1) := by decide +kernel
theorem dX7_read_99 : decode cX7_read 99 = .ok (.iload 7, 2) := by decide +kernel
theorem dX7_read_101 : decode cX7_read 101 = .ok (.i2l, 1) := by decide +kernel
theorem dX7_read_102 : decode cX7_read 102 = .ok (.ladd, 1) := by decide +kernel
theorem dX7_read_103 : decode cX7_read 103 = .ok (.lconst 0, 1) := by decide +kernel
theorem dX7_read_104 : decode cX7_read 104 = .ok (.aload_n 0, 1) := by decide +kernel
theorem dX7_read_105 : decode cX7_read 105 = .ok (.getfield 48, 3) := by decide +kernel
theorem dX7_read_108 : decode cX7_read 108 = .ok (.iload_n 1, 1) := by decide +kernel
theorem dX7_read_109 : decode cX7_read 109 = .ok (.iaload, 1) := by decide +kernel
theorem dX7_read_110 : decode cX7_read 110 = .ok (.iconst 1, 1) := by decide +kernel
theorem dX7_read_111 : decode cX7_read 111 = .ok (.isub, 1) := by decide +kernel
theorem dX7_read_112 : decode cX7_read 112 = .ok (.i2l, 1) := by decide +kernel
theorem dX7_read_113 : decode cX7_read 113 = .ok (.invokestatic 56, 3) := by decide +kernel
theorem dX7_read_116 : decode cX7_read 116 = .ok (.ifCond .ne 7, 3) := by decide +kernel
theorem dX7_read_119 : decode cX7_read 119 = .ok (.iconst 2, 1) := by decide +kernel
theorem dX7_read_120 : decode cX7_read 120 = .ok (.goto 4, 3) := by decide +kernel
theorem dX7_read_123 : decode cX7_read 123 = .ok (.iconst 0, 1) := by decide +kernel
theorem dX7_read_124 : decode cX7_read 124 = .ok (.istore 5, 2) := by decide +kernel
theorem dX7_read_126 : decode cX7_read 126 = .ok (.iload 5, 2) := by decide +kernel
theorem dX7_read_128 : decode cX7_read 128 = .ok (.ifCond .ne 45, 3) := by decide +kernel
theorem dX7_read_131 : decode cX7_read 131 = .ok (.bipush 40, 2) := by decide +kernel
theorem dX7_read_133 : decode cX7_read 133 = .ok (.iload_n 1, 1) := by decide +kernel
theorem dX7_read_134 : decode cX7_read 134 = .ok (.imul, 1) := by decide +kernel
theorem dX7_read_135 : decode cX7_read 135 = .ok (.iload_n 3, 1) := by decide +kernel
theorem dX7_read_136 : decode cX7_read 136 = .ok (.iadd, 1) := by decide +kernel
theorem dX7_read_137 : decode cX7_read 137 = .ok (.iload 7, 2) := by decide +kernel
theorem dX7_read_139 : decode cX7_read 139 = .ok (.iadd, 1) := by decide +kernel
theorem dX7_read_140 : decode cX7_read 140 = .ok (.istore 8, 2) := by decide +kernel
theorem dX7_read_142 : decode cX7_read 142 = .ok (.aload_n 0, 1) := by decide +kernel
theorem dX7_read_143 : decode cX7_read 143 = .ok (.aload_n 0, 1) := by decide +kernel
theorem dX7_read_144 : decode cX7_read 144 = .ok (.getfield 51, 3) := by decide +kernel
theorem dX7_read_147 : decode cX7_read 147 = .ok (.iload 8, 2) := by decide +kernel
theorem dX7_read_149 : decode cX7_read 149 = .ok (.iaload, 1) := by decide +kernel
theorem dX7_read_150 : decode cX7_read 150 = .ok (.invokevirtual 178, 3) := by decide +kernel
theorem dX7_read_153 : decode cX7_read 153 = .ok (.ifCond .ge 17, 3) := by decide +kernel
theorem dX7_read_156 : decode cX7_read 156 = .ok (.aload_n 0, 1) := by decide +kernel
theorem dX7_read_157 : decode cX7_read 157 = .ok (.sipush 225, 3) := by decide +kernel
theorem dX7_read_160 : decode cX7_read 160 = .ok (.iconst 0, 1) := by decide +kernel
theorem dX7_read_161 : decode cX7_read 161 = .ok (.invokevirtual 193, 3) := by decide +kernel
theorem dX7_read_164 : decode cX7_read 164 = .ok (.bipush (-20), 2) := by decide +kernel
theorem dX7_read_166 : decode cX7_read 166 = .ok (.iload 6, 2) := by decide +kernel
theorem dX7_read_168 : decode cX7_read 168 = .ok (.isub, 1) := by decide +kernel
theorem dX7_read_169 : decode cX7_read 169 = .ok (.ireturn, 1) := by decide +kernel
theorem dX7_read_170 : decode cX7_read 170 = .ok (.iinc 6 1, 3) := by decide +kernel
theorem dX7_read_173 : decode cX7_read 173 = .ok (.iinc 7 1, 3) := by decide +kernel
theorem dX7_read_176 : decode cX7_read 176 = .ok (.goto (-120), 3) := by decide +kernel
theorem dX7_read_179 : decode cX7_read 179 = .ok (.aload_n 0, 1) := by decide +kernel
theorem dX7_read_180 : decode cX7_read 180 = .ok (.iload 5, 2) := by decide +kernel
theorem dX7_read_182 : decode cX7_read 182 = .ok (.putfield 241, 3) := by decide +kernel
theorem dX7_read_185 : decode cX7_read 185 = .ok (.iload 6, 2) := by decide +kernel
theorem dX7_read_187 : decode cX7_read 187 = .ok (.ireturn, 1) := by decide +kernel
theorem dX7_torn_0 : decode cX7_torn 0 = .ok (.aload_n 0, 1) := by decide +kernel
theorem dX7_torn_1 : decode cX7_torn 1 = .ok (.getfield 241, 3) := by decide +kernel
theorem dX7_torn_4 : decode cX7_torn 4 = .ok (.ireturn, 1) := by decide +kernel
theorem dX7_count_0 : decode cX7_count 0 = .ok (.iconst 0, 1) := by decide +kernel
theorem dX7_count_1 : decode cX7_count 1 = .ok (.istore_n 2, 1) := by decide +kernel
theorem dX7_count_2 : decode cX7_count 2 = .ok (.iconst 0, 1) := by decide +kernel
theorem dX7_count_3 : decode cX7_count 3 = .ok (.istore_n 3, 1) := by decide +kernel
theorem dX7_count_4 : decode cX7_count 4 = .ok (.iconst 0, 1) := by decide +kernel
theorem dX7_count_5 : decode cX7_count 5 = .ok (.istore 4, 2) := by decide +kernel
theorem dX7_count_7 : decode cX7_count 7 = .ok (.iload 4, 2) := by decide +kernel
theorem dX7_count_9 : decode cX7_count 9 = .ok (.aload_n 0, 1) := by decide +kernel
theorem dX7_count_10 : decode cX7_count 10 = .ok (.getfield 7, 3) := by decide +kernel
theorem dX7_count_13 : decode cX7_count 13 = .ok (.bipush 8, 2) := by decide +kernel
theorem dX7_count_15 : decode cX7_count 15 = .ok (.iaload, 1) := by decide +kernel
theorem dX7_count_16 : decode cX7_count 16 = .ok (.if_icmp .ge 21, 3) := by decide +kernel
theorem dX7_count_19 : decode cX7_count 19 = .ok (.iload_n 2, 1) := by decide +kernel
theorem dX7_count_20 : decode cX7_count 20 = .ok (.aload_n 0, 1) := by decide +kernel
theorem dX7_count_21 : decode cX7_count 21 = .ok (.getfield 7, 3) := by decide +kernel
theorem dX7_count_24 : decode cX7_count 24 = .ok (.iconst 4, 1) := by decide +kernel
theorem dX7_count_25 : decode cX7_count 25 = .ok (.iload 4, 2) := by decide +kernel
theorem dX7_count_27 : decode cX7_count 27 = .ok (.iadd, 1) := by decide +kernel
theorem dX7_count_28 : decode cX7_count 28 = .ok (.iaload, 1) := by decide +kernel
theorem dX7_count_29 : decode cX7_count 29 = .ok (.iadd, 1) := by decide +kernel
theorem dX7_count_30 : decode cX7_count 30 = .ok (.istore_n 2, 1) := by decide +kernel
theorem dX7_count_31 : decode cX7_count 31 = .ok (.iinc 4 1, 3) := by decide +kernel
theorem dX7_count_34 : decode cX7_count 34 = .ok (.goto (-27), 3) := by decide +kernel
theorem dX7_count_37 : decode cX7_count 37 = .ok (.iconst 0, 1) := by decide +kernel
theorem dX7_count_38 : decode cX7_count 38 = .ok (.istore 4, 2) := by decide +kernel
theorem dX7_count_40 : decode cX7_count 40 = .ok (.iload 4, 2) := by decide +kernel
theorem dX7_count_42 : decode cX7_count 42 = .ok (.aload_n 0, 1) := by decide +kernel
theorem dX7_count_43 : decode cX7_count 43 = .ok (.getfield 7, 3) := by decide +kernel
theorem dX7_count_46 : decode cX7_count 46 = .ok (.bipush 25, 2) := by decide +kernel
theorem dX7_count_48 : decode cX7_count 48 = .ok (.iaload, 1) := by decide +kernel
theorem dX7_count_49 : decode cX7_count 49 = .ok (.if_icmp .ge 22, 3) := by decide +kernel
theorem dX7_count_52 : decode cX7_count 52 = .ok (.iload_n 3, 1) := by decide +kernel
theorem dX7_count_53 : decode cX7_count 53 = .ok (.aload_n 0, 1) := by decide +kernel
theorem dX7_count_54 : decode cX7_count 54 = .ok (.getfield 7, 3) := by decide +kernel
theorem dX7_count_57 : decode cX7_count 57 = .ok (.bipush 9, 2) := by decide +kernel
theorem dX7_count_59 : decode cX7_count 59 = .ok (.iload 4, 2) := by decide +kernel
theorem dX7_count_61 : decode cX7_count 61 = .ok (.iadd, 1) := by decide +kernel
theorem dX7_count_62 : decode cX7_count 62 = .ok (.iaload, 1) := by decide +kernel
theorem dX7_count_63 : decode cX7_count 63 = .ok (.iadd, 1) := by decide +kernel
theorem dX7_count_64 : decode cX7_count 64 = .ok (.istore_n 3, 1) := by decide +kernel
theorem dX7_count_65 : decode cX7_count 65 = .ok (.iinc 4 1, 3) := by decide +kernel
theorem dX7_count_68 : decode cX7_count 68 = .ok (.goto (-28), 3) := by decide +kernel
theorem dX7_count_71 : decode cX7_count 71 = .ok (.iload_n 1, 1) := by decide +kernel
theorem dX7_count_72 : decode cX7_count 72 = .ok (.tableswitch 107 0 5 #[40, 45, 75, 80, 103, 105], 40) := by decide +kernel
theorem dX7_count_112 : decode cX7_count 112 = .ok (.aload_n 0, 1) := by decide +kernel
theorem dX7_count_113 : decode cX7_count 113 = .ok (.getfield 135, 3) := by decide +kernel
theorem dX7_count_116 : decode cX7_count 116 = .ok (.ireturn, 1) := by decide +kernel
theorem dX7_count_117 : decode cX7_count 117 = .ok (.aload_n 0, 1) := by decide +kernel
theorem dX7_count_118 : decode cX7_count 118 = .ok (.getfield 41, 3) := by decide +kernel
theorem dX7_count_121 : decode cX7_count 121 = .ok (.iconst 0, 1) := by decide +kernel
theorem dX7_count_122 : decode cX7_count 122 = .ok (.baload, 1) := by decide +kernel
theorem dX7_count_123 : decode cX7_count 123 = .ok (.ifCond .eq 7, 3) := by decide +kernel
theorem dX7_count_126 : decode cX7_count 126 = .ok (.iconst 1, 1) := by decide +kernel
theorem dX7_count_127 : decode cX7_count 127 = .ok (.goto 4, 3) := by decide +kernel
theorem dX7_count_130 : decode cX7_count 130 = .ok (.iconst 0, 1) := by decide +kernel
theorem dX7_count_131 : decode cX7_count 131 = .ok (.aload_n 0, 1) := by decide +kernel
theorem dX7_count_132 : decode cX7_count 132 = .ok (.getfield 41, 3) := by decide +kernel
theorem dX7_count_135 : decode cX7_count 135 = .ok (.iconst 1, 1) := by decide +kernel
theorem dX7_count_136 : decode cX7_count 136 = .ok (.baload, 1) := by decide +kernel
theorem dX7_count_137 : decode cX7_count 137 = .ok (.ifCond .eq 7, 3) := by decide +kernel
theorem dX7_count_140 : decode cX7_count 140 = .ok (.iconst 1, 1) := by decide +kernel
theorem dX7_count_141 : decode cX7_count 141 = .ok (.goto 4, 3) := by decide +kernel
theorem dX7_count_144 : decode cX7_count 144 = .ok (.iconst 0, 1) := by decide +kernel
theorem dX7_count_145 : decode cX7_count 145 = .ok (.iadd, 1) := by decide +kernel
theorem dX7_count_146 : decode cX7_count 146 = .ok (.ireturn, 1) := by decide +kernel
theorem dX7_count_147 : decode cX7_count 147 = .ok (.aload_n 0, 1) := by decide +kernel
theorem dX7_count_148 : decode cX7_count 148 = .ok (.getfield 60, 3) := by decide +kernel
theorem dX7_count_151 : decode cX7_count 151 = .ok (.ireturn, 1) := by decide +kernel
theorem dX7_count_152 : decode cX7_count 152 = .ok (.aload_n 0, 1) := by decide +kernel
theorem dX7_count_153 : decode cX7_count 153 = .ok (.getfield 45, 3) := by decide +kernel
theorem dX7_count_156 : decode cX7_count 156 = .ok (.iconst 0, 1) := by decide +kernel
theorem dX7_count_157 : decode cX7_count 157 = .ok (.iaload, 1) := by decide +kernel
theorem dX7_count_158 : decode cX7_count 158 = .ok (.bipush (-4), 2) := by decide +kernel
theorem dX7_count_160 : decode cX7_count 160 = .ok (.if_icmp .ne 8, 3) := by decide +kernel
theorem dX7_count_163 : decode cX7_count 163 = .ok (.bipush (-4), 2) := by decide +kernel
theorem dX7_count_165 : decode cX7_count 165 = .ok (.goto 9, 3) := by decide +kernel
theorem dX7_count_168 : decode cX7_count 168 = .ok (.aload_n 0, 1) := by decide +kernel
theorem dX7_count_169 : decode cX7_count 169 = .ok (.getfield 48, 3) := by decide +kernel
theorem dX7_count_172 : decode cX7_count 172 = .ok (.iconst 0, 1) := by decide +kernel
theorem dX7_count_173 : decode cX7_count 173 = .ok (.iaload, 1) := by decide +kernel
theorem dX7_count_174 : decode cX7_count 174 = .ok (.ireturn, 1) := by decide +kernel
theorem dX7_count_175 : decode cX7_count 175 = .ok (.iload_n 2, 1) := by decide +kernel
theorem dX7_count_176 : decode cX7_count 176 = .ok (.ireturn, 1) := by decide +kernel
end
section
theorem dX7_count_177 : decode cX7_count 177 = .ok (.iload_n 3, 1) := by decide +kernel
theorem dX7_count_178 : decode cX7_count 178 = .ok (.ireturn, 1) := by decide +kernel
theorem dX7_count_179 : decode cX7_count 179 = .ok (.iconst (-1), 1) := by decide +kernel
theorem dX7_count_180 : decode cX7_count 180 = .ok (.ireturn, 1) := by decide +kernel
theorem dJ6_bitCount_0f7a4_0 : decode cJ6_bitCount_0f7a4 0 = .ok (.iload_n 0, 1) := by decide +kernel
theorem dJ6_bitCount_0f7a4_1 : decode cJ6_bitCount_0f7a4 1 = .ok (.iload_n 0, 1) := by decide +kernel
theorem dJ6_bitCount_0f7a4_2 : decode cJ6_bitCount_0f7a4 2 = .ok (.iconst 1, 1) := by decide +kernel
theorem dJ6_bitCount_0f7a4_3 : decode cJ6_bitCount_0f7a4 3 = .ok (.iushr, 1) := by decide +kernel
theorem dJ6_bitCount_0f7a4_4 : decode cJ6_bitCount_0f7a4 4 = .ok (.ldc_w 265, 3) := by decide +kernel
theorem dJ6_bitCount_0f7a4_7 : decode cJ6_bitCount_0f7a4 7 = .ok (.iand, 1) := by decide +kernel
theorem dJ6_bitCount_0f7a4_8 : decode cJ6_bitCount_0f7a4 8 = .ok (.isub, 1) := by decide +kernel
theorem dJ6_bitCount_0f7a4_9 : decode cJ6_bitCount_0f7a4 9 = .ok (.istore_n 0, 1) := by decide +kernel
theorem dJ6_bitCount_0f7a4_10 : decode cJ6_bitCount_0f7a4 10 = .ok (.iload_n 0, 1) := by decide +kernel
theorem dJ6_bitCount_0f7a4_11 : decode cJ6_bitCount_0f7a4 11 = .ok (.ldc_w 266, 3) := by decide +kernel
theorem dJ6_bitCount_0f7a4_14 : decode cJ6_bitCount_0f7a4 14 = .ok (.iand, 1) := by decide +kernel
theorem dJ6_bitCount_0f7a4_15 : decode cJ6_bitCount_0f7a4 15 = .ok (.iload_n 0, 1) := by decide +kernel
theorem dJ6_bitCount_0f7a4_16 : decode cJ6_bitCount_0f7a4 16 = .ok (.iconst 2, 1) := by decide +kernel
theorem dJ6_bitCount_0f7a4_17 : decode cJ6_bitCount_0f7a4 17 = .ok (.iushr, 1) := by decide +kernel
theorem dJ6_bitCount_0f7a4_18 : decode cJ6_bitCount_0f7a4 18 = .ok (.ldc_w 266, 3) := by decide +kernel
theorem dJ6_bitCount_0f7a4_21 : decode cJ6_bitCount_0f7a4 21 = .ok (.iand, 1) := by decide +kernel
theorem dJ6_bitCount_0f7a4_22 : decode cJ6_bitCount_0f7a4 22 = .ok (.iadd, 1) := by decide +kernel
theorem dJ6_bitCount_0f7a4_23 : decode cJ6_bitCount_0f7a4 23 = .ok (.istore_n 0, 1) := by decide +kernel
theorem dJ6_bitCount_0f7a4_24 : decode cJ6_bitCount_0f7a4 24 = .ok (.iload_n 0, 1) := by decide +kernel
theorem dJ6_bitCount_0f7a4_25 : decode cJ6_bitCount_0f7a4 25 = .ok (.iload_n 0, 1) := by decide +kernel
theorem dJ6_bitCount_0f7a4_26 : decode cJ6_bitCount_0f7a4 26 = .ok (.iconst 4, 1) := by decide +kernel
theorem dJ6_bitCount_0f7a4_27 : decode cJ6_bitCount_0f7a4 27 = .ok (.iushr, 1) := by decide +kernel
theorem dJ6_bitCount_0f7a4_28 : decode cJ6_bitCount_0f7a4 28 = .ok (.iadd, 1) := by decide +kernel
theorem dJ6_bitCount_0f7a4_29 : decode cJ6_bitCount_0f7a4 29 = .ok (.ldc_w 267, 3) := by decide +kernel
theorem dJ6_bitCount_0f7a4_32 : decode cJ6_bitCount_0f7a4 32 = .ok (.iand, 1) := by decide +kernel
theorem dJ6_bitCount_0f7a4_33 : decode cJ6_bitCount_0f7a4 33 = .ok (.istore_n 0, 1) := by decide +kernel
theorem dJ6_bitCount_0f7a4_34 : decode cJ6_bitCount_0f7a4 34 = .ok (.iload_n 0, 1) := by decide +kernel
theorem dJ6_bitCount_0f7a4_35 : decode cJ6_bitCount_0f7a4 35 = .ok (.iload_n 0, 1) := by decide +kernel
theorem dJ6_bitCount_0f7a4_36 : decode cJ6_bitCount_0f7a4 36 = .ok (.bipush 8, 2) := by decide +kernel
theorem dJ6_bitCount_0f7a4_38 : decode cJ6_bitCount_0f7a4 38 = .ok (.iushr, 1) := by decide +kernel
theorem dJ6_bitCount_0f7a4_39 : decode cJ6_bitCount_0f7a4 39 = .ok (.iadd, 1) := by decide +kernel
theorem dJ6_bitCount_0f7a4_40 : decode cJ6_bitCount_0f7a4 40 = .ok (.istore_n 0, 1) := by decide +kernel
theorem dJ6_bitCount_0f7a4_41 : decode cJ6_bitCount_0f7a4 41 = .ok (.iload_n 0, 1) := by decide +kernel
theorem dJ6_bitCount_0f7a4_42 : decode cJ6_bitCount_0f7a4 42 = .ok (.iload_n 0, 1) := by decide +kernel
theorem dJ6_bitCount_0f7a4_43 : decode cJ6_bitCount_0f7a4 43 = .ok (.bipush 16, 2) := by decide +kernel
theorem dJ6_bitCount_0f7a4_45 : decode cJ6_bitCount_0f7a4 45 = .ok (.iushr, 1) := by decide +kernel
theorem dJ6_bitCount_0f7a4_46 : decode cJ6_bitCount_0f7a4 46 = .ok (.iadd, 1) := by decide +kernel
theorem dJ6_bitCount_0f7a4_47 : decode cJ6_bitCount_0f7a4 47 = .ok (.istore_n 0, 1) := by decide +kernel
theorem dJ6_bitCount_0f7a4_48 : decode cJ6_bitCount_0f7a4 48 = .ok (.iload_n 0, 1) := by decide +kernel
theorem dJ6_bitCount_0f7a4_49 : decode cJ6_bitCount_0f7a4 49 = .ok (.bipush 63, 2) := by decide +kernel
theorem dJ6_bitCount_0f7a4_51 : decode cJ6_bitCount_0f7a4 51 = .ok (.iand, 1) := by decide +kernel
theorem dJ6_bitCount_0f7a4_52 : decode cJ6_bitCount_0f7a4 52 = .ok (.ireturn, 1) := by decide +kernel
theorem dJ9_max_7cf53_0 : decode cJ9_max_7cf53 0 = .ok (.iload_n 0, 1) := by decide +kernel
theorem dJ9_max_7cf53_1 : decode cJ9_max_7cf53 1 = .ok (.iload_n 1, 1) := by decide +kernel
theorem dJ9_max_7cf53_2 : decode cJ9_max_7cf53 2 = .ok (.if_icmp .lt 7, 3) := by decide +kernel
theorem dJ9_max_7cf53_5 : decode cJ9_max_7cf53 5 = .ok (.iload_n 0, 1) := by decide +kernel
theorem dJ9_max_7cf53_6 : decode cJ9_max_7cf53 6 = .ok (.goto 4, 3) := by decide +kernel
theorem dJ9_max_7cf53_9 : decode cJ9_max_7cf53 9 = .ok (.iload_n 1, 1) := by decide +kernel
theorem dJ9_max_7cf53_10 : decode cJ9_max_7cf53 10 = .ok (.ireturn, 1) := by decide +kernel
theorem dJ9_min_7cf53_0 : decode cJ9_min_7cf53 0 = .ok (.iload_n 0, 1) := by decide +kernel
theorem dJ9_min_7cf53_1 : decode cJ9_min_7cf53 1 = .ok (.iload_n 1, 1) := by decide +kernel
theorem dJ9_min_7cf53_2 : decode cJ9_min_7cf53 2 = .ok (.if_icmp .gt 7, 3) := by decide +kernel
theorem dJ9_min_7cf53_5 : decode cJ9_min_7cf53 5 = .ok (.iload_n 0, 1) := by decide +kernel
theorem dJ9_min_7cf53_6 : decode cJ9_min_7cf53 6 = .ok (.goto 4, 3) := by decide +kernel
theorem dJ9_min_7cf53_9 : decode cJ9_min_7cf53 9 = .ok (.iload_n 1, 1) := by decide +kernel
theorem dJ9_min_7cf53_10 : decode cJ9_min_7cf53 10 = .ok (.ireturn, 1) := by decide +kernel
theorem dJ0_length_8abf5_0 : decode cJ0_length_8abf5 0 = .ok (.aload_n 0, 1) := by decide +kernel
theorem dJ0_length_8abf5_1 : decode cJ0_length_8abf5 1 = .ok (.getfield 9, 3) := by decide +kernel
theorem dJ0_length_8abf5_4 : decode cJ0_length_8abf5 4 = .ok (.arraylength, 1) := by decide +kernel
theorem dJ0_length_8abf5_5 : decode cJ0_length_8abf5 5 = .ok (.aload_n 0, 1) := by decide +kernel
theorem dJ0_length_8abf5_6 : decode cJ0_length_8abf5 6 = .ok (.invokevirtual 335, 3) := by decide +kernel
theorem dJ0_length_8abf5_9 : decode cJ0_length_8abf5 9 = .ok (.ishr, 1) := by decide +kernel
theorem dJ0_length_8abf5_10 : decode cJ0_length_8abf5 10 = .ok (.ireturn, 1) := by decide +kernel
theorem dJ0_charAt_5068e_0 : decode cJ0_charAt_5068e 0 = .ok (.aload_n 0, 1) := by decide +kernel
theorem dJ0_charAt_5068e_1 : decode cJ0_charAt_5068e 1 = .ok (.invokevirtual 492, 3) := by decide +kernel
theorem dJ0_charAt_5068e_4 : decode cJ0_charAt_5068e 4 = .ok (.ifCond .eq 12, 3) := by decide +kernel
theorem dJ0_charAt_5068e_7 : decode cJ0_charAt_5068e 7 = .ok (.aload_n 0, 1) := by decide +kernel
theorem dJ0_charAt_5068e_8 : decode cJ0_charAt_5068e 8 = .ok (.getfield 9, 3) := by decide +kernel
theorem dJ0_charAt_5068e_11 : decode cJ0_charAt_5068e 11 = .ok (.iload_n 1, 1) := by decide +kernel
theorem dJ0_charAt_5068e_12 : decode cJ0_charAt_5068e 12 = .ok (.invokestatic 495, 3) := by decide +kernel
theorem dJ0_charAt_5068e_15 : decode cJ0_charAt_5068e 15 = .ok (.ireturn, 1) := by decide +kernel
theorem dJ0_charAt_5068e_16 : decode cJ0_charAt_5068e 16 = .ok (.aload_n 0, 1) := by decide +kernel
theorem dJ0_charAt_5068e_17 : decode cJ0_charAt_5068e 17 = .ok (.getfield 9, 3) := by decide +kernel
theorem dJ0_charAt_5068e_20 : decode cJ0_charAt_5068e 20 = .ok (.iload_n 1, 1) := by decide +kernel
theorem dJ0_charAt_5068e_21 : decode cJ0_charAt_5068e 21 = .ok (.invokestatic 498, 3) := by decide +kernel
theorem dJ0_charAt_5068e_24 : decode cJ0_charAt_5068e 24 = .ok (.ireturn, 1) := by decide +kernel
theorem dJ0_coder_7d493_0 : decode cJ0_coder_7d493 0 = .ok (.getstatic 38, 3) := by decide +kernel
theorem dJ0_coder_7d493_3 : decode cJ0_coder_7d493 3 = .ok (.ifCond .eq 10, 3) := by decide +kernel
theorem dJ0_coder_7d493_6 : decode cJ0_coder_7d493 6 = .ok (.aload_n 0, 1) := by decide +kernel
theorem dJ0_coder_7d493_7 : decode cJ0_coder_7d493 7 = .ok (.getfield 15, 3) := by decide +kernel
theorem dJ0_coder_7d493_10 : decode cJ0_coder_7d493 10 = .ok (.goto 4, 3) := by decide +kernel
theorem dJ0_coder_7d493_13 : decode cJ0_coder_7d493 13 = .ok (.iconst 1, 1) := by decide +kernel
theorem dJ0_coder_7d493_14 : decode cJ0_coder_7d493 14 = .ok (.ireturn, 1) := by decide +kernel
theorem dJ0_isLatin1_aae02_0 : decode cJ0_isLatin1_aae02 0 = .ok (.getstatic 38, 3) := by decide +kernel
theorem dJ0_isLatin1_aae02_3 : decode cJ0_isLatin1_aae02 3 = .ok (.ifCond .eq 14, 3) := by decide +kernel
theorem dJ0_isLatin1_aae02_6 : decode cJ0_isLatin1_aae02 6 = .ok (.aload_n 0, 1) := by decide +kernel
theorem dJ0_isLatin1_aae02_7 : decode cJ0_isLatin1_aae02 7 = .ok (.getfield 15, 3) := by decide +kernel
theorem dJ0_isLatin1_aae02_10 : decode cJ0_isLatin1_aae02 10 = .ok (.ifCond .ne 7, 3) := by decide +kernel
theorem dJ0_isLatin1_aae02_13 : decode cJ0_isLatin1_aae02 13 = .ok (.iconst 1, 1) := by decide +kernel
theorem dJ0_isLatin1_aae02_14 : decode cJ0_isLatin1_aae02 14 = .ok (.goto 4, 3) := by decide +kernel
theorem dJ0_isLatin1_aae02_17 : decode cJ0_isLatin1_aae02 17 = .ok (.iconst 0, 1) := by decide +kernel
theorem dJ0_isLatin1_aae02_18 : decode cJ0_isLatin1_aae02 18 = .ok (.ireturn, 1) := by decide +kernel
theorem dJ0_checkIndex_df160_0 : decode cJ0_checkIndex_df160 0 = .ok (.iload_n 0, 1) := by decide +kernel
theorem dJ0_checkIndex_df160_1 : decode cJ0_checkIndex_df160 1 = .ok (.iload_n 1, 1) := by decide +kernel
theorem dJ0_checkIndex_df160_2 : decode cJ0_checkIndex_df160 2 = .ok (.getstatic 1053, 3) := by decide +kernel
theorem dJ0_checkIndex_df160_5 : decode cJ0_checkIndex_df160 5 = .ok (.invokestatic 1059, 3) := by decide +kernel
theorem dJ0_checkIndex_df160_8 : decode cJ0_checkIndex_df160 8 = .ok (.pop, 1) := by decide +kernel
theorem dJ0_checkIndex_df160_9 : decode cJ0_checkIndex_df160 9 = .ok (.return_, 1) := by decide +kernel
theorem dJ1_charAt_3b067_0 : decode cJ1_charAt_3b067 0 = .ok (.iload_n 1, 1) := by decide +kernel
theorem dJ1_charAt_3b067_1 : decode cJ1_charAt_3b067 1 = .ok (.aload_n 0, 1) := by decide +kernel
theorem dJ1_charAt_3b067_2 : decode cJ1_charAt_3b067 2 = .ok (.arraylength, 1) := by decide +kernel
theorem dJ1_charAt_3b067_3 : decode cJ1_charAt_3b067 3 = .ok (.invokestatic 9, 3) := by decide +kernel
theorem dJ1_charAt_3b067_6 : decode cJ1_charAt_3b067 6 = .ok (.aload_n 0, 1) := by decide +kernel
theorem dJ1_charAt_3b067_7 : decode cJ1_charAt_3b067 7 = .ok (.iload_n 1, 1) := by decide +kernel
theorem dJ1_charAt_3b067_8 : decode cJ1_charAt_3b067 8 = .ok (.baload, 1) := by decide +kernel
theorem dJ1_charAt_3b067_9 : decode cJ1_charAt_3b067 9 = .ok (.sipush 255, 3) := by decide +kernel
theorem dJ1_charAt_3b067_12 : decode cJ1_charAt_3b067 12 = .ok (.iand, 1) := by decide +kernel
theorem dJ1_charAt_3b067_13 : decode cJ1_charAt_3b067 13 = .ok (.i2c, 1) := by decide +kernel
theorem dJ1_charAt_3b067_14 : decode cJ1_charAt_3b067 14 = .ok (.ireturn, 1) := by decide +kernel
theorem dJ2_getChar_3b067_0 : decode cJ2_getChar_3b067 0 = .ok (.getstatic 44, 3) := by decide +kernel
theorem dJ2_getChar_3b067_3 : decode cJ2_getChar_3b067 3 = .ok (.ifCond .ne 25, 3) := by decide +kernel
theorem dJ2_getChar_3b067_6 : decode cJ2_getChar_3b067 6 = .ok (.iload_n 1, 1) := by decide +kernel
theorem dJ2_getChar_3b067_7 : decode cJ2_getChar_3b067 7 = .ok (.ifCond .lt 11, 3) := by decide +kernel
theorem dJ2_getChar_3b067_10 : decode cJ2_getChar_3b067 10 = .ok (.iload_n 1, 1) := by decide +kernel
theorem dJ2_getChar_3b067_11 : decode cJ2_getChar_3b067 11 = .ok (.aload_n 0, 1) := by decide +kernel
theorem dJ2_getChar_3b067_12 : decode cJ2_getChar_3b067 12 = .ok (.invokestatic 48, 3) := by decide +kernel
theorem dJ2_getChar_3b067_15 : decode cJ2_getChar_3b067 15 = .ok (.if_icmp .lt 13, 3) := by decide +kernel
theorem dJ2_getChar_3b067_18 : decode cJ2_getChar_3b067 18 = .ok (.new 52, 3) := by decide +kernel
theorem dJ2_getChar_3b067_21 : decode cJ2_getChar_3b067 21 = .ok (.dup, 1) := by decide +kernel
theorem dJ2_getChar_3b067_22 : decode cJ2_getChar_3b067 22 = .ok (.ldc 54, 2) := by decide +kernel
theorem dJ2_getChar_3b067_24 : decode cJ2_getChar_3b067 24 = .ok (.invokespecial 56, 3) := by decide +kernel
theorem dJ2_getChar_3b067_27 : decode cJ2_getChar_3b067 27 = .ok (.athrow, 1) := by decide +kernel
theorem dJ2_getChar_3b067_28 : decode cJ2_getChar_3b067 28 = .ok (.iload_n 1, 1) := by decide +kernel
theorem dJ2_getChar_3b067_29 : decode cJ2_getChar_3b067 29 = .ok (.iconst 1, 1) := by decide +kernel
theorem dJ2_getChar_3b067_30 : decode cJ2_getChar_3b067 30 = .ok (.ishl, 1) := by decide +kernel
theorem dJ2_getChar_3b067_31 : decode cJ2_getChar_3b067 31 = .ok (.istore_n 1, 1) := by decide +kernel
theorem dJ2_getChar_3b067_32 : decode cJ2_getChar_3b067 32 = .ok (.aload_n 0, 1) := by decide +kernel
theorem dJ2_getChar_3b067_33 : decode cJ2_getChar_3b067 33 = .ok (.iload_n 1, 1) := by decide +kernel
theorem dJ2_getChar_3b067_34 : decode cJ2_getChar_3b067 34 = .ok (.iinc 1 1, 3) := by decide +kernel
theorem dJ2_getChar_3b067_37 : decode cJ2_getChar_3b067 37 = .ok (.baload, 1) := by decide +kernel
theorem dJ2_getChar_3b067_38 : decode cJ2_getChar_3b067 38 = .ok (.sipush 255, 3) := by decide +kernel
theorem dJ2_getChar_3b067_41 : decode cJ2_getChar_3b067 41 = .ok (.iand, 1) := by decide +kernel
theorem dJ2_getChar_3b067_42 : decode cJ2_getChar_3b067 42 = .ok (.getstatic 59, 3) := by decide +kernel
theorem dJ2_getChar_3b067_45 : decode cJ2_getChar_3b067 45 = .ok (.ishl, 1) := by decide +kernel
theorem dJ2_getChar_3b067_46 : decode cJ2_getChar_3b067 46 = .ok (.aload_n 0, 1) := by decide +kernel
theorem dJ2_getChar_3b067_47 : decode cJ2_getChar_3b067 47 = .ok (.iload_n 1, 1) := by decide +kernel
theorem dJ2_getChar_3b067_48 : decode cJ2_getChar_3b067 48 = .ok (.baload, 1) := by decide +kernel
theorem dJ2_getChar_3b067_49 : decode cJ2_getChar_3b067 49 = .ok (.sipush 255, 3) := by decide +kernel
theorem dJ2_getChar_3b067_52 : decode cJ2_getChar_3b067 52 = .ok (.iand, 1) := by decide +kernel
theorem dJ2_getChar_3b067_53 : decode cJ2_getChar_3b067 53 = .ok (.getstatic 63, 3) := by decide +kernel
theorem dJ2_getChar_3b067_56 : decode cJ2_getChar_3b067 56 = .ok (.ishl, 1) := by decide +kernel
theorem dJ2_getChar_3b067_57 : decode cJ2_getChar_3b067 57 = .ok (.ior, 1) := by decide +kernel
theorem dJ2_getChar_3b067_58 : decode cJ2_getChar_3b067 58 = .ok (.i2c, 1) := by decide +kernel
theorem dJ2_getChar_3b067_59 : decode cJ2_getChar_3b067 59 = .ok (.ireturn, 1) := by decide +kernel
theorem dJ2_length_9d52b_0 : decode cJ2_length_9d52b 0 = .ok (.aload_n 0, 1) := by decide +kernel
theorem dJ2_length_9d52b_1 : decode cJ2_length_9d52b 1 = .ok (.arraylength, 1) := by decide +kernel
theorem dJ2_length_9d52b_2 : decode cJ2_length_9d52b 2 = .ok (.iconst 1, 1) := by decide +kernel
theorem dJ2_length_9d52b_3 : decode cJ2_length_9d52b 3 = .ok (.ishr, 1) := by decide +kernel
theorem dJ2_length_9d52b_4 : decode cJ2_length_9d52b 4 = .ok (.ireturn, 1) := by decide +kernel
theorem dJ2_charAt_3b067_0 : decode cJ2_charAt_3b067 0 = .ok (.iload_n 1, 1) := by decide +kernel
theorem dJ2_charAt_3b067_1 : decode cJ2_charAt_3b067 1 = .ok (.aload_n 0, 1) := by decide +kernel
theorem dJ2_charAt_3b067_2 : decode cJ2_charAt_3b067 2 = .ok (.invokestatic 67, 3) := by decide +kernel
theorem dJ2_charAt_3b067_5 : decode cJ2_charAt_3b067 5 = .ok (.aload_n 0, 1) := by decide +kernel
theorem dJ2_charAt_3b067_6 : decode cJ2_charAt_3b067 6 = .ok (.iload_n 1, 1) := by decide +kernel
theorem dJ2_charAt_3b067_7 : decode cJ2_charAt_3b067 7 = .ok (.invokestatic 71, 3) := by decide +kernel
theorem dJ2_charAt_3b067_10 : decode cJ2_charAt_3b067 10 = .ok (.ireturn, 1) := by decide +kernel
theorem dJ2_checkIndex_2214a_0 : decode cJ2_checkIndex_2214a 0 = .ok (.iload_n 0, 1) := by decide +kernel
theorem dJ2_checkIndex_2214a_1 : decode cJ2_checkIndex_2214a 1 = .ok (.aload_n 1, 1) := by decide +kernel
theorem dJ2_checkIndex_2214a_2 : decode cJ2_checkIndex_2214a 2 = .ok (.invokestatic 48, 3) := by decide +kernel
theorem dJ2_checkIndex_2214a_5 : decode cJ2_checkIndex_2214a 5 = .ok (.invokestatic 414, 3) := by decide +kernel
theorem dJ2_checkIndex_2214a_8 : decode cJ2_checkIndex_2214a 8 = .ok (.return_, 1) := by decide +kernel
theorem dJ3_checkIndex_8e157_0 : decode cJ3_checkIndex_8e157 0 = .ok (.iload_n 0, 1) := by decide +kernel
theorem dJ3_checkIndex_8e157_1 : decode cJ3_checkIndex_8e157 1 = .ok (.ifCond .lt 8, 3) := by decide +kernel
theorem dJ3_checkIndex_8e157_4 : decode cJ3_checkIndex_8e157 4 = .ok (.iload_n 0, 1) := by decide +kernel
theorem dJ3_checkIndex_8e157_5 : decode cJ3_checkIndex_8e157 5 = .ok (.iload_n 1, 1) := by decide +kernel
theorem dJ3_checkIndex_8e157_6 : decode cJ3_checkIndex_8e157 6 = .ok (.if_icmp .lt 10, 3) := by decide +kernel
theorem dJ3_checkIndex_8e157_9 : decode cJ3_checkIndex_8e157 9 = .ok (.aload_n 2, 1) := by decide +kernel
theorem dJ3_checkIndex_8e157_10 : decode cJ3_checkIndex_8e157 10 = .ok (.iload_n 0, 1) := by decide +kernel
theorem dJ3_checkIndex_8e157_11 : decode cJ3_checkIndex_8e157 11 = .ok (.iload_n 1, 1) := by decide +kernel
theorem dJ3_checkIndex_8e157_12 : decode cJ3_checkIndex_8e157 12 = .ok (.invokestatic 95, 3) := by decide +kernel
theorem dJ3_checkIndex_8e157_15 : decode cJ3_checkIndex_8e157 15 = .ok (.athrow, 1) := by decide +kernel
theorem dJ3_checkIndex_8e157_16 : decode cJ3_checkIndex_8e157 16 = .ok (.iload_n 0, 1) := by decide +kernel
theorem dJ3_checkIndex_8e157_17 : decode cJ3_checkIndex_8e157 17 = .ok (.ireturn, 1) := by decide +kernel
theorem dL_law_0 : decode cL_law 0 = .ok (.new 7, 3) := by decide +kernel
theorem dL_law_3 : decode cL_law 3 = .ok (.dup, 1) := by decide +kernel
theorem dL_law_4 : decode cL_law 4 = .ok (.invokespecial 9, 3) := by decide +kernel
theorem dL_law_7 : decode cL_law 7 = .ok (.astore_n 1, 1) := by decide +kernel
theorem dL_law_8 : decode cL_law 8 = .ok (.new 10, 3) := by decide +kernel
theorem dL_law_11 : decode cL_law 11 = .ok (.dup, 1) := by decide +kernel
theorem dL_law_12 : decode cL_law 12 = .ok (.invokespecial 12, 3) := by decide +kernel
theorem dL_law_15 : decode cL_law 15 = .ok (.astore_n 2, 1) := by decide +kernel
theorem dL_law_16 : decode cL_law 16 = .ok (.iconst 0, 1) := by decide +kernel
theorem dL_law_17 : decode cL_law 17 = .ok (.istore_n 3, 1) := by decide +kernel
theorem dL_law_18 : decode cL_law 18 = .ok (.iload_n 3, 1) := by decide +kernel
theorem dL_law_19 : decode cL_law 19 = .ok (.aload_n 0, 1) := by decide +kernel
theorem dL_law_20 : decode cL_law 20 = .ok (.arraylength, 1) := by decide +kernel
theorem dL_law_21 : decode cL_law 21 = .ok (.bipush 6, 2) := by decide +kernel
theorem dL_law_23 : decode cL_law 23 = .ok (.isub, 1) := by decide +kernel
theorem dL_law_24 : decode cL_law 24 = .ok (.if_icmp .gt 1486, 3) := by decide +kernel
theorem dL_law_27 : decode cL_law 27 = .ok (.aload_n 0, 1) := by decide +kernel
theorem dL_law_28 : decode cL_law 28 = .ok (.iload_n 3, 1) := by decide +kernel
theorem dL_law_29 : decode cL_law 29 = .ok (.iaload, 1) := by decide +kernel
theorem dL_law_30 : decode cL_law 30 = .ok (.bipush 63, 2) := by decide +kernel
theorem dL_law_32 : decode cL_law 32 = .ok (.iand, 1) := by decide +kernel
theorem dL_law_33 : decode cL_law 33 = .ok (.tableswitch 1471 0 41 #[183, 206, 229, 242, 255, 278, 311, 344, 367, 400, 423, 446, 489, 522, 545, 568, 591, 614, 647, 680, 723, 756, 769, 802, 845, 888, 921, 954, 1018, 1062, 1105, 1128, 1151, 1174, 1207, 1250, 1273, 1296, 1339, 1382, 1435, 1448], 183) := by decide +kernel
theorem dL_law_216 : decode cL_law 216 = .ok (.aload_n 1, 1) := by decide +kernel
theorem dL_law_217 : decode cL_law 217 = .ok (.aload_n 0, 1) := by decide +kernel
theorem dL_law_218 : decode cL_law 218 = .ok (.iload_n 3, 1) := by decide +kernel
theorem dL_law_219 : decode cL_law 219 = .ok (.iconst 1, 1) := by decide +kernel
theorem dL_law_220 : decode cL_law 220 = .ok (.iadd, 1) := by decide +kernel
theorem dL_law_221 : decode cL_law 221 = .ok (.iaload, 1) := by decide +kernel
theorem dL_law_222 : decode cL_law 222 = .ok (.invokevirtual 13, 3) := by decide +kernel
theorem dL_law_225 : decode cL_law 225 = .ok (.aload_n 2, 1) := by decide +kernel
theorem dL_law_226 : decode cL_law 226 = .ok (.aload_n 0, 1) := by decide +kernel
theorem dL_law_227 : decode cL_law 227 = .ok (.iload_n 3, 1) := by decide +kernel
theorem dL_law_228 : decode cL_law 228 = .ok (.iconst 1, 1) := by decide +kernel
theorem dL_law_229 : decode cL_law 229 = .ok (.iadd, 1) := by decide +kernel
theorem dL_law_230 : decode cL_law 230 = .ok (.iaload, 1) := by decide +kernel
theorem dL_law_231 : decode cL_law 231 = .ok (.invokevirtual 17, 3) := by decide +kernel
theorem dL_law_234 : decode cL_law 234 = .ok (.if_icmp .eq 1270, 3) := by decide +kernel
theorem dL_law_237 : decode cL_law 237 = .ok (.iconst 0, 1) := by decide +kernel
theorem dL_law_238 : decode cL_law 238 = .ok (.ireturn, 1) := by decide +kernel
theorem dL_law_239 : decode cL_law 239 = .ok (.aload_n 1, 1) := by decide +kernel
theorem dL_law_240 : decode cL_law 240 = .ok (.aload_n 0, 1) := by decide +kernel
theorem dL_law_241 : decode cL_law 241 = .ok (.iload_n 3, 1) := by decide +kernel
theorem dL_law_242 : decode cL_law 242 = .ok (.iconst 1, 1) := by decide +kernel
theorem dL_law_243 : decode cL_law 243 = .ok (.iadd, 1) := by decide +kernel
theorem dL_law_244 : decode cL_law 244 = .ok (.iaload, 1) := by decide +kernel
theorem dL_law_245 : decode cL_law 245 = .ok (.invokevirtual 18, 3) := by decide +kernel
theorem dL_law_248 : decode cL_law 248 = .ok (.aload_n 2, 1) := by decide +kernel
theorem dL_law_249 : decode cL_law 249 = .ok (.aload_n 0, 1) := by decide +kernel
theorem dL_law_250 : decode cL_law 250 = .ok (.iload_n 3, 1) := by decide +kernel
theorem dL_law_251 : decode cL_law 251 = .ok (.iconst 1, 1) := by decide +kernel
theorem dL_law_252 : decode cL_law 252 = .ok (.iadd, 1) := by decide +kernel
theorem dL_law_253 : decode cL_law 253 = .ok (.iaload, 1) := by decide +kernel
theorem dL_law_254 : decode cL_law 254 = .ok (.invokevirtual 21, 3) := by decide +kernel
theorem dL_law_257 : decode cL_law 257 = .ok (.if_icmp .eq 1247, 3) := by decide +kernel
theorem dL_law_260 : decode cL_law 260 = .ok (.iconst 0, 1) := by decide +kernel
theorem dL_law_261 : decode cL_law 261 = .ok (.ireturn, 1) := by decide +kernel
theorem dL_law_262 : decode cL_law 262 = .ok (.aload_n 1, 1) := by decide +kernel
theorem dL_law_263 : decode cL_law 263 = .ok (.invokevirtual 22, 3) := by decide +kernel
theorem dL_law_266 : decode cL_law 266 = .ok (.aload_n 2, 1) := by decide +kernel
theorem dL_law_267 : decode cL_law 267 = .ok (.invokevirtual 26, 3) := by decide +kernel
theorem dL_law_270 : decode cL_law 270 = .ok (.if_icmp .eq 1234, 3) := by decide +kernel
theorem dL_law_273 : decode cL_law 273 = .ok (.iconst 0, 1) := by decide +kernel
theorem dL_law_274 : decode cL_law 274 = .ok (.ireturn, 1) := by decide +kernel
theorem dL_law_275 : decode cL_law 275 = .ok (.aload_n 1, 1) := by decide +kernel
theorem dL_law_276 : decode cL_law 276 = .ok (.invokevirtual 27, 3) := by decide +kernel
theorem dL_law_279 : decode cL_law 279 = .ok (.aload_n 2, 1) := by decide +kernel
theorem dL_law_280 : decode cL_law 280 = .ok (.invokevirtual 30, 3) := by decide +kernel
theorem dL_law_283 : decode cL_law 283 = .ok (.if_icmp .eq 1221, 3) := by decide +kernel
theorem dL_law_286 : decode cL_law 286 = .ok (.iconst 0, 1) := by decide +kernel
theorem dL_law_287 : decode cL_law 287 = .ok (.ireturn, 1) := by decide +kernel
theorem dL_law_288 : decode cL_law 288 = .ok (.aload_n 1, 1) := by decide +kernel
theorem dL_law_289 : decode cL_law 289 = .ok (.aload_n 0, 1) := by decide +kernel
theorem dL_law_290 : decode cL_law 290 = .ok (.iload_n 3, 1) := by decide +kernel
theorem dL_law_291 : decode cL_law 291 = .ok (.iconst 1, 1) := by decide +kernel
theorem dL_law_292 : decode cL_law 292 = .ok (.iadd, 1) := by decide +kernel
theorem dL_law_293 : decode cL_law 293 = .ok (.iaload, 1) := by decide +kernel
theorem dL_law_294 : decode cL_law 294 = .ok (.invokevirtual 31, 3) := by decide +kernel
theorem dL_law_297 : decode cL_law 297 = .ok (.aload_n 2, 1) := by decide +kernel
theorem dL_law_298 : decode cL_law 298 = .ok (.aload_n 0, 1) := by decide +kernel
theorem dL_law_299 : decode cL_law 299 = .ok (.iload_n 3, 1) := by decide +kernel
theorem dL_law_300 : decode cL_law 300 = .ok (.iconst 1, 1) := by decide +kernel
theorem dL_law_301 : decode cL_law 301 = .ok (.iadd, 1) := by decide +kernel
theorem dL_law_302 : decode cL_law 302 = .ok (.iaload, 1) := by decide +kernel
theorem dL_law_303 : decode cL_law 303 = .ok (.invokevirtual 34, 3) := by decide +kernel
theorem dL_law_306 : decode cL_law 306 = .ok (.if_icmp .eq 1198, 3) := by decide +kernel
theorem dL_law_309 : decode cL_law 309 = .ok (.iconst 0, 1) := by decide +kernel
theorem dL_law_310 : decode cL_law 310 = .ok (.ireturn, 1) := by decide +kernel
theorem dL_law_311 : decode cL_law 311 = .ok (.aload_n 1, 1) := by decide +kernel
theorem dL_law_312 : decode cL_law 312 = .ok (.aload_n 0, 1) := by decide +kernel
theorem dL_law_313 : decode cL_law 313 = .ok (.iload_n 3, 1) := by decide +kernel
theorem dL_law_314 : decode cL_law 314 = .ok (.iconst 1, 1) := by decide +kernel
theorem dL_law_315 : decode cL_law 315 = .ok (.iadd, 1) := by decide +kernel
theorem dL_law_316 : decode cL_law 316 = .ok (.iaload, 1) := by decide +kernel
theorem dL_law_317 : decode cL_law 317 = .ok (.aload_n 0, 1) := by decide +kernel
theorem dL_law_318 : decode cL_law 318 = .ok (.iload_n 3, 1) := by decide +kernel
theorem dL_law_319 : decode cL_law 319 = .ok (.iconst 2, 1) := by decide +kernel
theorem dL_law_320 : decode cL_law 320 = .ok (.iadd, 1) := by decide +kernel
theorem dL_law_321 : decode cL_law 321 = .ok (.iaload, 1) := by decide +kernel
theorem dL_law_322 : decode cL_law 322 = .ok (.invokevirtual 35, 3) := by decide +kernel
theorem dL_law_325 : decode cL_law 325 = .ok (.aload_n 2, 1) := by decide +kernel
theorem dL_law_326 : decode cL_law 326 = .ok (.aload_n 0, 1) := by decide +kernel
theorem dL_law_327 : decode cL_law 327 = .ok (.iload_n 3, 1) := by decide +kernel
theorem dL_law_328 : decode cL_law 328 = .ok (.iconst 1, 1) := by decide +kernel
theorem dL_law_329 : decode cL_law 329 = .ok (.iadd, 1) := by decide +kernel
theorem dL_law_330 : decode cL_law 330 = .ok (.iaload, 1) := by decide +kernel
theorem dL_law_331 : decode cL_law 331 = .ok (.aload_n 0, 1) := by decide +kernel
theorem dL_law_332 : decode cL_law 332 = .ok (.iload_n 3, 1) := by decide +kernel
theorem dL_law_333 : decode cL_law 333 = .ok (.iconst 2, 1) := by decide +kernel
theorem dL_law_334 : decode cL_law 334 = .ok (.iadd, 1) := by decide +kernel
theorem dL_law_335 : decode cL_law 335 = .ok (.iaload, 1) := by decide +kernel
theorem dL_law_336 : decode cL_law 336 = .ok (.invokevirtual 39, 3) := by decide +kernel
theorem dL_law_339 : decode cL_law 339 = .ok (.if_icmp .eq 1165, 3) := by decide +kernel
theorem dL_law_342 : decode cL_law 342 = .ok (.iconst 0, 1) := by decide +kernel
theorem dL_law_343 : decode cL_law 343 = .ok (.ireturn, 1) := by decide +kernel
theorem dL_law_344 : decode cL_law 344 = .ok (.aload_n 1, 1) := by decide +kernel
theorem dL_law_345 : decode cL_law 345 = .ok (.aload_n 0, 1) := by decide +kernel
theorem dL_law_346 : decode cL_law 346 = .ok (.iload_n 3, 1) := by decide +kernel
theorem dL_law_347 : decode cL_law 347 = .ok (.iconst 1, 1) := by decide +kernel
theorem dL_law_348 : decode cL_law 348 = .ok (.iadd, 1) := by decide +kernel
theorem dL_law_349 : decode cL_law 349 = .ok (.iaload, 1) := by decide +kernel
theorem dL_law_350 : decode cL_law 350 = .ok (.aload_n 0, 1) := by decide +kernel
theorem dL_law_351 : decode cL_law 351 = .ok (.iload_n 3, 1) := by decide +kernel
theorem dL_law_352 : decode cL_law 352 = .ok (.iconst 2, 1) := by decide +kernel
theorem dL_law_353 : decode cL_law 353 = .ok (.iadd, 1) := by decide +kernel
theorem dL_law_354 : decode cL_law 354 = .ok (.iaload, 1) := by decide +kernel
theorem dL_law_355 : decode cL_law 355 = .ok (.invokevirtual 40, 3) := by decide +kernel
theorem dL_law_358 : decode cL_law 358 = .ok (.aload_n 2, 1) := by decide +kernel
theorem dL_law_359 : decode cL_law 359 = .ok (.aload_n 0, 1) := by decide +kernel
theorem dL_law_360 : decode cL_law 360 = .ok (.iload_n 3, 1) := by decide +kernel
theorem dL_law_361 : decode cL_law 361 = .ok (.iconst 1, 1) := by decide +kernel
theorem dL_law_362 : decode cL_law 362 = .ok (.iadd, 1) := by decide +kernel
theorem dL_law_363 : decode cL_law 363 = .ok (.iaload, 1) := by decide +kernel
theorem dL_law_364 : decode cL_law 364 = .ok (.aload_n 0, 1) := by decide +kernel
theorem dL_law_365 : decode cL_law 365 = .ok (.iload_n 3, 1) := by decide +kernel
theorem dL_law_366 : decode cL_law 366 = .ok (.iconst 2, 1) := by decide +kernel
theorem dL_law_367 : decode cL_law 367 = .ok (.iadd, 1) := by decide +kernel
theorem dL_law_368 : decode cL_law 368 = .ok (.iaload, 1) := by decide +kernel
theorem dL_law_369 : decode cL_law 369 = .ok (.invokevirtual 43, 3) := by decide +kernel
theorem dL_law_372 : decode cL_law 372 = .ok (.if_icmp .eq 1132, 3) := by decide +kernel
theorem dL_law_375 : decode cL_law 375 = .ok (.iconst 0, 1) := by decide +kernel
theorem dL_law_376 : decode cL_law 376 = .ok (.ireturn, 1) := by decide +kernel
theorem dL_law_377 : decode cL_law 377 = .ok (.aload_n 1, 1) := by decide +kernel
theorem dL_law_378 : decode cL_law 378 = .ok (.aload_n 0, 1) := by decide +kernel
theorem dL_law_379 : decode cL_law 379 = .ok (.iload_n 3, 1) := by decide +kernel
theorem dL_law_380 : decode cL_law 380 = .ok (.iconst 1, 1) := by decide +kernel
theorem dL_law_381 : decode cL_law 381 = .ok (.iadd, 1) := by decide +kernel
theorem dL_law_382 : decode cL_law 382 = .ok (.iaload, 1) := by decide +kernel
theorem dL_law_383 : decode cL_law 383 = .ok (.invokevirtual 44, 3) := by decide +kernel
theorem dL_law_386 : decode cL_law 386 = .ok (.aload_n 2, 1) := by decide +kernel
theorem dL_law_387 : decode cL_law 387 = .ok (.aload_n 0, 1) := by decide +kernel
theorem dL_law_388 : decode cL_law 388 = .ok (.iload_n 3, 1) := by decide +kernel
theorem dL_law_389 : decode cL_law 389 = .ok (.iconst 1, 1) := by decide +kernel
theorem dL_law_390 : decode cL_law 390 = .ok (.iadd, 1) := by decide +kernel
theorem dL_law_391 : decode cL_law 391 = .ok (.iaload, 1) := by decide +kernel
theorem dL_law_392 : decode cL_law 392 = .ok (.invokevirtual 47, 3) := by decide +kernel
theorem dL_law_395 : decode cL_law 395 = .ok (.if_icmp .eq 1109, 3) := by decide +kernel
theorem dL_law_398 : decode cL_law 398 = .ok (.iconst 0, 1) := by decide +kernel
theorem dL_law_399 : decode cL_law 399 = .ok (.ireturn, 1) := by decide +kernel
theorem dL_law_400 : decode cL_law 400 = .ok (.aload_n 1, 1) := by decide +kernel
theorem dL_law_401 : decode cL_law 401 = .ok (.aload_n 0, 1) := by decide +kernel
theorem dL_law_402 : decode cL_law 402 = .ok (.iload_n 3, 1) := by decide +kernel
theorem dL_law_403 : decode cL_law 403 = .ok (.iconst 1, 1) := by decide +kernel
theorem dL_law_404 : decode cL_law 404 = .ok (.iadd, 1) := by decide +kernel
theorem dL_law_405 : decode cL_law 405 = .ok (.iaload, 1) := by decide +kernel
theorem dL_law_406 : decode cL_law 406 = .ok (.aload_n 0, 1) := by decide +kernel
theorem dL_law_407 : decode cL_law 407 = .ok (.iload_n 3, 1) := by decide +kernel
theorem dL_law_408 : decode cL_law 408 = .ok (.iconst 2, 1) := by decide +kernel
theorem dL_law_409 : decode cL_law 409 = .ok (.iadd, 1) := by decide +kernel
theorem dL_law_410 : decode cL_law 410 = .ok (.iaload, 1) := by decide +kernel
theorem dL_law_411 : decode cL_law 411 = .ok (.invokevirtual 48, 3) := by decide +kernel
theorem dL_law_414 : decode cL_law 414 = .ok (.aload_n 2, 1) := by decide +kernel
theorem dL_law_415 : decode cL_law 415 = .ok (.aload_n 0, 1) := by decide +kernel
theorem dL_law_416 : decode cL_law 416 = .ok (.iload_n 3, 1) := by decide +kernel
theorem dL_law_417 : decode cL_law 417 = .ok (.iconst 1, 1) := by decide +kernel
theorem dL_law_418 : decode cL_law 418 = .ok (.iadd, 1) := by decide +kernel
theorem dL_law_419 : decode cL_law 419 = .ok (.iaload, 1) := by decide +kernel
theorem dL_law_420 : decode cL_law 420 = .ok (.aload_n 0, 1) := by decide +kernel
theorem dL_law_421 : decode cL_law 421 = .ok (.iload_n 3, 1) := by decide +kernel
theorem dL_law_422 : decode cL_law 422 = .ok (.iconst 2, 1) := by decide +kernel
theorem dL_law_423 : decode cL_law 423 = .ok (.iadd, 1) := by decide +kernel
theorem dL_law_424 : decode cL_law 424 = .ok (.iaload, 1) := by decide +kernel
theorem dL_law_425 : decode cL_law 425 = .ok (.invokevirtual 51, 3) := by decide +kernel
theorem dL_law_428 : decode cL_law 428 = .ok (.if_icmp .eq 1076, 3) := by decide +kernel
theorem dL_law_431 : decode cL_law 431 = .ok (.iconst 0, 1) := by decide +kernel
theorem dL_law_432 : decode cL_law 432 = .ok (.ireturn, 1) := by decide +kernel
theorem dL_law_433 : decode cL_law 433 = .ok (.aload_n 1, 1) := by decide +kernel
theorem dL_law_434 : decode cL_law 434 = .ok (.aload_n 0, 1) := by decide +kernel
theorem dL_law_435 : decode cL_law 435 = .ok (.iload_n 3, 1) := by decide +kernel
theorem dL_law_436 : decode cL_law 436 = .ok (.iconst 1, 1) := by decide +kernel
theorem dL_law_437 : decode cL_law 437 = .ok (.iadd, 1) := by decide +kernel
theorem dL_law_438 : decode cL_law 438 = .ok (.iaload, 1) := by decide +kernel
theorem dL_law_439 : decode cL_law 439 = .ok (.invokevirtual 52, 3) := by decide +kernel
theorem dL_law_442 : decode cL_law 442 = .ok (.aload_n 2, 1) := by decide +kernel
theorem dL_law_443 : decode cL_law 443 = .ok (.aload_n 0, 1) := by decide +kernel
theorem dL_law_444 : decode cL_law 444 = .ok (.iload_n 3, 1) := by decide +kernel
theorem dL_law_445 : decode cL_law 445 = .ok (.iconst 1, 1) := by decide +kernel
theorem dL_law_446 : decode cL_law 446 = .ok (.iadd, 1) := by decide +kernel
theorem dL_law_447 : decode cL_law 447 = .ok (.iaload, 1) := by decide +kernel
theorem dL_law_448 : decode cL_law 448 = .ok (.invokevirtual 55, 3) := by decide +kernel
theorem dL_law_451 : decode cL_law 451 = .ok (.if_icmp .eq 1053, 3) := by decide +kernel
theorem dL_law_454 : decode cL_law 454 = .ok (.iconst 0, 1) := by decide +kernel
theorem dL_law_455 : decode cL_law 455 = .ok (.ireturn, 1) := by decide +kernel
theorem dL_law_456 : decode cL_law 456 = .ok (.aload_n 1, 1) := by decide +kernel
theorem dL_law_457 : decode cL_law 457 = .ok (.aload_n 0, 1) := by decide +kernel
theorem dL_law_458 : decode cL_law 458 = .ok (.iload_n 3, 1) := by decide +kernel
theorem dL_law_459 : decode cL_law 459 = .ok (.iconst 1, 1) := by decide +kernel
theorem dL_law_460 : decode cL_law 460 = .ok (.iadd, 1) := by decide +kernel
theorem dL_law_461 : decode cL_law 461 = .ok (.iaload, 1) := by decide +kernel
theorem dL_law_462 : decode cL_law 462 = .ok (.invokevirtual 56, 3) := by decide +kernel
theorem dL_law_465 : decode cL_law 465 = .ok (.aload_n 2, 1) := by decide +kernel
theorem dL_law_466 : decode cL_law 466 = .ok (.aload_n 0, 1) := by decide +kernel
theorem dL_law_467 : decode cL_law 467 = .ok (.iload_n 3, 1) := by decide +kernel
theorem dL_law_468 : decode cL_law 468 = .ok (.iconst 1, 1) := by decide +kernel
theorem dL_law_469 : decode cL_law 469 = .ok (.iadd, 1) := by decide +kernel
theorem dL_law_470 : decode cL_law 470 = .ok (.iaload, 1) := by decide +kernel
theorem dL_law_471 : decode cL_law 471 = .ok (.invokevirtual 59, 3) := by decide +kernel
theorem dL_law_474 : decode cL_law 474 = .ok (.if_icmp .eq 1030, 3) := by decide +kernel
theorem dL_law_477 : decode cL_law 477 = .ok (.iconst 0, 1) := by decide +kernel
theorem dL_law_478 : decode cL_law 478 = .ok (.ireturn, 1) := by decide +kernel
theorem dL_law_479 : decode cL_law 479 = .ok (.aload_n 1, 1) := by decide +kernel
theorem dL_law_480 : decode cL_law 480 = .ok (.aload_n 0, 1) := by decide +kernel
theorem dL_law_481 : decode cL_law 481 = .ok (.iload_n 3, 1) := by decide +kernel
theorem dL_law_482 : decode cL_law 482 = .ok (.iconst 1, 1) := by decide +kernel
theorem dL_law_483 : decode cL_law 483 = .ok (.iadd, 1) := by decide +kernel
theorem dL_law_484 : decode cL_law 484 = .ok (.iaload, 1) := by decide +kernel
theorem dL_law_485 : decode cL_law 485 = .ok (.aload_n 0, 1) := by decide +kernel
theorem dL_law_486 : decode cL_law 486 = .ok (.iload_n 3, 1) := by decide +kernel
theorem dL_law_487 : decode cL_law 487 = .ok (.iconst 2, 1) := by decide +kernel
theorem dL_law_488 : decode cL_law 488 = .ok (.iadd, 1) := by decide +kernel
theorem dL_law_489 : decode cL_law 489 = .ok (.iaload, 1) := by decide +kernel
theorem dL_law_490 : decode cL_law 490 = .ok (.aload_n 0, 1) := by decide +kernel
theorem dL_law_491 : decode cL_law 491 = .ok (.iload_n 3, 1) := by decide +kernel
theorem dL_law_492 : decode cL_law 492 = .ok (.iconst 3, 1) := by decide +kernel
theorem dL_law_493 : decode cL_law 493 = .ok (.iadd, 1) := by decide +kernel
theorem dL_law_494 : decode cL_law 494 = .ok (.iaload, 1) := by decide +kernel
theorem dL_law_495 : decode cL_law 495 = .ok (.invokevirtual 60, 3) := by decide +kernel
theorem dL_law_498 : decode cL_law 498 = .ok (.aload_n 2, 1) := by decide +kernel
theorem dL_law_499 : decode cL_law 499 = .ok (.aload_n 0, 1) := by decide +kernel
theorem dL_law_500 : decode cL_law 500 = .ok (.iload_n 3, 1) := by decide +kernel
theorem dL_law_501 : decode cL_law 501 = .ok (.iconst 1, 1) := by decide +kernel
theorem dL_law_502 : decode cL_law 502 = .ok (.iadd, 1) := by decide +kernel
theorem dL_law_503 : decode cL_law 503 = .ok (.iaload, 1) := by decide +kernel
theorem dL_law_504 : decode cL_law 504 = .ok (.aload_n 0, 1) := by decide +kernel
theorem dL_law_505 : decode cL_law 505 = .ok (.iload_n 3, 1) := by decide +kernel
theorem dL_law_506 : decode cL_law 506 = .ok (.iconst 2, 1) := by decide +kernel
theorem dL_law_507 : decode cL_law 507 = .ok (.iadd, 1) := by decide +kernel
theorem dL_law_508 : decode cL_law 508 = .ok (.iaload, 1) := by decide +kernel
theorem dL_law_509 : decode cL_law 509 = .ok (.aload_n 0, 1) := by decide +kernel
theorem dL_law_510 : decode cL_law 510 = .ok (.iload_n 3, 1) := by decide +kernel
theorem dL_law_511 : decode cL_law 511 = .ok (.iconst 3, 1) := by decide +kernel
theorem dL_law_512 : decode cL_law 512 = .ok (.iadd, 1) := by decide +kernel
theorem dL_law_513 : decode cL_law 513 = .ok (.iaload, 1) := by decide +kernel
theorem dL_law_514 : decode cL_law 514 = .ok (.invokevirtual 64, 3) := by decide +kernel
theorem dL_law_517 : decode cL_law 517 = .ok (.if_icmp .eq 987, 3) := by decide +kernel
theorem dL_law_520 : decode cL_law 520 = .ok (.iconst 0, 1) := by decide +kernel
theorem dL_law_521 : decode cL_law 521 = .ok (.ireturn, 1) := by decide +kernel
theorem dL_law_522 : decode cL_law 522 = .ok (.aload_n 1, 1) := by decide +kernel
theorem dL_law_523 : decode cL_law 523 = .ok (.aload_n 0, 1) := by decide +kernel
theorem dL_law_524 : decode cL_law 524 = .ok (.iload_n 3, 1) := by decide +kernel
theorem dL_law_525 : decode cL_law 525 = .ok (.iconst 1, 1) := by decide +kernel
theorem dL_law_526 : decode cL_law 526 = .ok (.iadd, 1) := by decide +kernel
theorem dL_law_527 : decode cL_law 527 = .ok (.iaload, 1) := by decide +kernel
theorem dL_law_528 : decode cL_law 528 = .ok (.aload_n 0, 1) := by decide +kernel
theorem dL_law_529 : decode cL_law 529 = .ok (.iload_n 3, 1) := by decide +kernel
theorem dL_law_530 : decode cL_law 530 = .ok (.iconst 2, 1) := by decide +kernel
theorem dL_law_531 : decode cL_law 531 = .ok (.iadd, 1) := by decide +kernel
theorem dL_law_532 : decode cL_law 532 = .ok (.iaload, 1) := by decide +kernel
theorem dL_law_533 : decode cL_law 533 = .ok (.invokevirtual 65, 3) := by decide +kernel
theorem dL_law_536 : decode cL_law 536 = .ok (.aload_n 2, 1) := by decide +kernel
theorem dL_law_537 : decode cL_law 537 = .ok (.aload_n 0, 1) := by decide +kernel
theorem dL_law_538 : decode cL_law 538 = .ok (.iload_n 3, 1) := by decide +kernel
theorem dL_law_539 : decode cL_law 539 = .ok (.iconst 1, 1) := by decide +kernel
theorem dL_law_540 : decode cL_law 540 = .ok (.iadd, 1) := by decide +kernel
theorem dL_law_541 : decode cL_law 541 = .ok (.iaload, 1) := by decide +kernel
theorem dL_law_542 : decode cL_law 542 = .ok (.aload_n 0, 1) := by decide +kernel
theorem dL_law_543 : decode cL_law 543 = .ok (.iload_n 3, 1) := by decide +kernel
theorem dL_law_544 : decode cL_law 544 = .ok (.iconst 2, 1) := by decide +kernel
theorem dL_law_545 : decode cL_law 545 = .ok (.iadd, 1) := by decide +kernel
theorem dL_law_546 : decode cL_law 546 = .ok (.iaload, 1) := by decide +kernel
theorem dL_law_547 : decode cL_law 547 = .ok (.invokevirtual 68, 3) := by decide +kernel
theorem dL_law_550 : decode cL_law 550 = .ok (.if_icmp .eq 954, 3) := by decide +kernel
theorem dL_law_553 : decode cL_law 553 = .ok (.iconst 0, 1) := by decide +kernel
theorem dL_law_554 : decode cL_law 554 = .ok (.ireturn, 1) := by decide +kernel
theorem dL_law_555 : decode cL_law 555 = .ok (.aload_n 1, 1) := by decide +kernel
theorem dL_law_556 : decode cL_law 556 = .ok (.aload_n 0, 1) := by decide +kernel
theorem dL_law_557 : decode cL_law 557 = .ok (.iload_n 3, 1) := by decide +kernel
theorem dL_law_558 : decode cL_law 558 = .ok (.iconst 1, 1) := by decide +kernel
theorem dL_law_559 : decode cL_law 559 = .ok (.iadd, 1) := by decide +kernel
theorem dL_law_560 : decode cL_law 560 = .ok (.iaload, 1) := by decide +kernel
theorem dL_law_561 : decode cL_law 561 = .ok (.invokevirtual 69, 3) := by decide +kernel
theorem dL_law_564 : decode cL_law 564 = .ok (.aload_n 2, 1) := by decide +kernel
theorem dL_law_565 : decode cL_law 565 = .ok (.aload_n 0, 1) := by decide +kernel
theorem dL_law_566 : decode cL_law 566 = .ok (.iload_n 3, 1) := by decide +kernel
theorem dL_law_567 : decode cL_law 567 = .ok (.iconst 1, 1) := by decide +kernel
theorem dL_law_568 : decode cL_law 568 = .ok (.iadd, 1) := by decide +kernel
theorem dL_law_569 : decode cL_law 569 = .ok (.iaload, 1) := by decide +kernel
theorem dL_law_570 : decode cL_law 570 = .ok (.invokevirtual 72, 3) := by decide +kernel
theorem dL_law_573 : decode cL_law 573 = .ok (.if_icmp .eq 931, 3) := by decide +kernel
theorem dL_law_576 : decode cL_law 576 = .ok (.iconst 0, 1) := by decide +kernel
theorem dL_law_577 : decode cL_law 577 = .ok (.ireturn, 1) := by decide +kernel
theorem dL_law_578 : decode cL_law 578 = .ok (.aload_n 1, 1) := by decide +kernel
theorem dL_law_579 : decode cL_law 579 = .ok (.aload_n 0, 1) := by decide +kernel
theorem dL_law_580 : decode cL_law 580 = .ok (.iload_n 3, 1) := by decide +kernel
theorem dL_law_581 : decode cL_law 581 = .ok (.iconst 1, 1) := by decide +kernel
theorem dL_law_582 : decode cL_law 582 = .ok (.iadd, 1) := by decide +kernel
theorem dL_law_583 : decode cL_law 583 = .ok (.iaload, 1) := by decide +kernel
theorem dL_law_584 : decode cL_law 584 = .ok (.invokevirtual 73, 3) := by decide +kernel
theorem dL_law_587 : decode cL_law 587 = .ok (.aload_n 2, 1) := by decide +kernel
theorem dL_law_588 : decode cL_law 588 = .ok (.aload_n 0, 1) := by decide +kernel
theorem dL_law_589 : decode cL_law 589 = .ok (.iload_n 3, 1) := by decide +kernel
theorem dL_law_590 : decode cL_law 590 = .ok (.iconst 1, 1) := by decide +kernel
theorem dL_law_591 : decode cL_law 591 = .ok (.iadd, 1) := by decide +kernel
theorem dL_law_592 : decode cL_law 592 = .ok (.iaload, 1) := by decide +kernel
theorem dL_law_593 : decode cL_law 593 = .ok (.invokevirtual 76, 3) := by decide +kernel
theorem dL_law_596 : decode cL_law 596 = .ok (.if_icmp .eq 908, 3) := by decide +kernel
theorem dL_law_599 : decode cL_law 599 = .ok (.iconst 0, 1) := by decide +kernel
theorem dL_law_600 : decode cL_law 600 = .ok (.ireturn, 1) := by decide +kernel
theorem dL_law_601 : decode cL_law 601 = .ok (.aload_n 1, 1) := by decide +kernel
theorem dL_law_602 : decode cL_law 602 = .ok (.aload_n 0, 1) := by decide +kernel
theorem dL_law_603 : decode cL_law 603 = .ok (.iload_n 3, 1) := by decide +kernel
theorem dL_law_604 : decode cL_law 604 = .ok (.iconst 1, 1) := by decide +kernel
theorem dL_law_605 : decode cL_law 605 = .ok (.iadd, 1) := by decide +kernel
theorem dL_law_606 : decode cL_law 606 = .ok (.iaload, 1) := by decide +kernel
theorem dL_law_607 : decode cL_law 607 = .ok (.invokevirtual 77, 3) := by decide +kernel
theorem dL_law_610 : decode cL_law 610 = .ok (.aload_n 2, 1) := by decide +kernel
theorem dL_law_611 : decode cL_law 611 = .ok (.aload_n 0, 1) := by decide +kernel
theorem dL_law_612 : decode cL_law 612 = .ok (.iload_n 3, 1) := by decide +kernel
theorem dL_law_613 : decode cL_law 613 = .ok (.iconst 1, 1) := by decide +kernel
theorem dL_law_614 : decode cL_law 614 = .ok (.iadd, 1) := by decide +kernel
theorem dL_law_615 : decode cL_law 615 = .ok (.iaload, 1) := by decide +kernel
theorem dL_law_616 : decode cL_law 616 = .ok (.invokevirtual 80, 3) := by decide +kernel
theorem dL_law_619 : decode cL_law 619 = .ok (.if_icmp .eq 885, 3) := by decide +kernel
theorem dL_law_622 : decode cL_law 622 = .ok (.iconst 0, 1) := by decide +kernel
theorem dL_law_623 : decode cL_law 623 = .ok (.ireturn, 1) := by decide +kernel
theorem dL_law_624 : decode cL_law 624 = .ok (.aload_n 1, 1) := by decide +kernel
theorem dL_law_625 : decode cL_law 625 = .ok (.aload_n 0, 1) := by decide +kernel
theorem dL_law_626 : decode cL_law 626 = .ok (.iload_n 3, 1) := by decide +kernel
theorem dL_law_627 : decode cL_law 627 = .ok (.iconst 1, 1) := by decide +kernel
theorem dL_law_628 : decode cL_law 628 = .ok (.iadd, 1) := by decide +kernel
theorem dL_law_629 : decode cL_law 629 = .ok (.iaload, 1) := by decide +kernel
theorem dL_law_630 : decode cL_law 630 = .ok (.invokevirtual 81, 3) := by decide +kernel
theorem dL_law_633 : decode cL_law 633 = .ok (.aload_n 2, 1) := by decide +kernel
theorem dL_law_634 : decode cL_law 634 = .ok (.aload_n 0, 1) := by decide +kernel
theorem dL_law_635 : decode cL_law 635 = .ok (.iload_n 3, 1) := by decide +kernel
theorem dL_law_636 : decode cL_law 636 = .ok (.iconst 1, 1) := by decide +kernel
theorem dL_law_637 : decode cL_law 637 = .ok (.iadd, 1) := by decide +kernel
theorem dL_law_638 : decode cL_law 638 = .ok (.iaload, 1) := by decide +kernel
theorem dL_law_639 : decode cL_law 639 = .ok (.invokevirtual 84, 3) := by decide +kernel
theorem dL_law_642 : decode cL_law 642 = .ok (.if_icmp .eq 862, 3) := by decide +kernel
theorem dL_law_645 : decode cL_law 645 = .ok (.iconst 0, 1) := by decide +kernel
theorem dL_law_646 : decode cL_law 646 = .ok (.ireturn, 1) := by decide +kernel
theorem dL_law_647 : decode cL_law 647 = .ok (.aload_n 1, 1) := by decide +kernel
theorem dL_law_648 : decode cL_law 648 = .ok (.aload_n 0, 1) := by decide +kernel
theorem dL_law_649 : decode cL_law 649 = .ok (.iload_n 3, 1) := by decide +kernel
theorem dL_law_650 : decode cL_law 650 = .ok (.iconst 1, 1) := by decide +kernel
theorem dL_law_651 : decode cL_law 651 = .ok (.iadd, 1) := by decide +kernel
theorem dL_law_652 : decode cL_law 652 = .ok (.iaload, 1) := by decide +kernel
theorem dL_law_653 : decode cL_law 653 = .ok (.aload_n 0, 1) := by decide +kernel
theorem dL_law_654 : decode cL_law 654 = .ok (.iload_n 3, 1) := by decide +kernel
theorem dL_law_655 : decode cL_law 655 = .ok (.iconst 2, 1) := by decide +kernel
theorem dL_law_656 : decode cL_law 656 = .ok (.iadd, 1) := by decide +kernel
theorem dL_law_657 : decode cL_law 657 = .ok (.iaload, 1) := by decide +kernel
theorem dL_law_658 : decode cL_law 658 = .ok (.invokevirtual 85, 3) := by decide +kernel
theorem dL_law_661 : decode cL_law 661 = .ok (.aload_n 2, 1) := by decide +kernel
theorem dL_law_662 : decode cL_law 662 = .ok (.aload_n 0, 1) := by decide +kernel
theorem dL_law_663 : decode cL_law 663 = .ok (.iload_n 3, 1) := by decide +kernel
theorem dL_law_664 : decode cL_law 664 = .ok (.iconst 1, 1) := by decide +kernel
theorem dL_law_665 : decode cL_law 665 = .ok (.iadd, 1) := by decide +kernel
theorem dL_law_666 : decode cL_law 666 = .ok (.iaload, 1) := by decide +kernel
theorem dL_law_667 : decode cL_law 667 = .ok (.aload_n 0, 1) := by decide +kernel
theorem dL_law_668 : decode cL_law 668 = .ok (.iload_n 3, 1) := by decide +kernel
theorem dL_law_669 : decode cL_law 669 = .ok (.iconst 2, 1) := by decide +kernel
theorem dL_law_670 : decode cL_law 670 = .ok (.iadd, 1) := by decide +kernel
theorem dL_law_671 : decode cL_law 671 = .ok (.iaload, 1) := by decide +kernel
theorem dL_law_672 : decode cL_law 672 = .ok (.invokevirtual 88, 3) := by decide +kernel
theorem dL_law_675 : decode cL_law 675 = .ok (.if_icmp .eq 829, 3) := by decide +kernel
theorem dL_law_678 : decode cL_law 678 = .ok (.iconst 0, 1) := by decide +kernel
theorem dL_law_679 : decode cL_law 679 = .ok (.ireturn, 1) := by decide +kernel
theorem dL_law_680 : decode cL_law 680 = .ok (.aload_n 1, 1) := by decide +kernel
theorem dL_law_681 : decode cL_law 681 = .ok (.aload_n 0, 1) := by decide +kernel
theorem dL_law_682 : decode cL_law 682 = .ok (.iload_n 3, 1) := by decide +kernel
theorem dL_law_683 : decode cL_law 683 = .ok (.iconst 1, 1) := by decide +kernel
theorem dL_law_684 : decode cL_law 684 = .ok (.iadd, 1) := by decide +kernel
theorem dL_law_685 : decode cL_law 685 = .ok (.iaload, 1) := by decide +kernel
theorem dL_law_686 : decode cL_law 686 = .ok (.aload_n 0, 1) := by decide +kernel
theorem dL_law_687 : decode cL_law 687 = .ok (.iload_n 3, 1) := by decide +kernel
theorem dL_law_688 : decode cL_law 688 = .ok (.iconst 2, 1) := by decide +kernel
theorem dL_law_689 : decode cL_law 689 = .ok (.iadd, 1) := by decide +kernel
theorem dL_law_690 : decode cL_law 690 = .ok (.iaload, 1) := by decide +kernel
theorem dL_law_691 : decode cL_law 691 = .ok (.invokevirtual 89, 3) := by decide +kernel
theorem dL_law_694 : decode cL_law 694 = .ok (.aload_n 2, 1) := by decide +kernel
theorem dL_law_695 : decode cL_law 695 = .ok (.aload_n 0, 1) := by decide +kernel
theorem dL_law_696 : decode cL_law 696 = .ok (.iload_n 3, 1) := by decide +kernel
theorem dL_law_697 : decode cL_law 697 = .ok (.iconst 1, 1) := by decide +kernel
theorem dL_law_698 : decode cL_law 698 = .ok (.iadd, 1) := by decide +kernel
theorem dL_law_699 : decode cL_law 699 = .ok (.iaload, 1) := by decide +kernel
theorem dL_law_700 : decode cL_law 700 = .ok (.aload_n 0, 1) := by decide +kernel
theorem dL_law_701 : decode cL_law 701 = .ok (.iload_n 3, 1) := by decide +kernel
theorem dL_law_702 : decode cL_law 702 = .ok (.iconst 2, 1) := by decide +kernel
theorem dL_law_703 : decode cL_law 703 = .ok (.iadd, 1) := by decide +kernel
theorem dL_law_704 : decode cL_law 704 = .ok (.iaload, 1) := by decide +kernel
theorem dL_law_705 : decode cL_law 705 = .ok (.invokevirtual 92, 3) := by decide +kernel
theorem dL_law_708 : decode cL_law 708 = .ok (.if_icmp .eq 796, 3) := by decide +kernel
theorem dL_law_711 : decode cL_law 711 = .ok (.iconst 0, 1) := by decide +kernel
theorem dL_law_712 : decode cL_law 712 = .ok (.ireturn, 1) := by decide +kernel
theorem dL_law_713 : decode cL_law 713 = .ok (.aload_n 1, 1) := by decide +kernel
theorem dL_law_714 : decode cL_law 714 = .ok (.aload_n 0, 1) := by decide +kernel
theorem dL_law_715 : decode cL_law 715 = .ok (.iload_n 3, 1) := by decide +kernel
theorem dL_law_716 : decode cL_law 716 = .ok (.iconst 1, 1) := by decide +kernel
theorem dL_law_717 : decode cL_law 717 = .ok (.iadd, 1) := by decide +kernel
theorem dL_law_718 : decode cL_law 718 = .ok (.iaload, 1) := by decide +kernel
theorem dL_law_719 : decode cL_law 719 = .ok (.aload_n 0, 1) := by decide +kernel
theorem dL_law_720 : decode cL_law 720 = .ok (.iload_n 3, 1) := by decide +kernel
theorem dL_law_721 : decode cL_law 721 = .ok (.iconst 2, 1) := by decide +kernel
theorem dL_law_722 : decode cL_law 722 = .ok (.iadd, 1) := by decide +kernel
theorem dL_law_723 : decode cL_law 723 = .ok (.iaload, 1) := by decide +kernel
theorem dL_law_724 : decode cL_law 724 = .ok (.aload_n 0, 1) := by decide +kernel
theorem dL_law_725 : decode cL_law 725 = .ok (.iload_n 3, 1) := by decide +kernel
theorem dL_law_726 : decode cL_law 726 = .ok (.iconst 3, 1) := by decide +kernel
theorem dL_law_727 : decode cL_law 727 = .ok (.iadd, 1) := by decide +kernel
theorem dL_law_728 : decode cL_law 728 = .ok (.iaload, 1) := by decide +kernel
theorem dL_law_729 : decode cL_law 729 = .ok (.invokevirtual 93, 3) := by decide +kernel
theorem dL_law_732 : decode cL_law 732 = .ok (.aload_n 2, 1) := by decide +kernel
theorem dL_law_733 : decode cL_law 733 = .ok (.aload_n 0, 1) := by decide +kernel
theorem dL_law_734 : decode cL_law 734 = .ok (.iload_n 3, 1) := by decide +kernel
theorem dL_law_735 : decode cL_law 735 = .ok (.iconst 1, 1) := by decide +kernel
theorem dL_law_736 : decode cL_law 736 = .ok (.iadd, 1) := by decide +kernel
theorem dL_law_737 : decode cL_law 737 = .ok (.iaload, 1) := by decide +kernel
theorem dL_law_738 : decode cL_law 738 = .ok (.aload_n 0, 1) := by decide +kernel
theorem dL_law_739 : decode cL_law 739 = .ok (.iload_n 3, 1) := by decide +kernel
theorem dL_law_740 : decode cL_law 740 = .ok (.iconst 2, 1) := by decide +kernel
theorem dL_law_741 : decode cL_law 741 = .ok (.iadd, 1) := by decide +kernel
theorem dL_law_742 : decode cL_law 742 = .ok (.iaload, 1) := by decide +kernel
theorem dL_law_743 : decode cL_law 743 = .ok (.aload_n 0, 1) := by decide +kernel
theorem dL_law_744 : decode cL_law 744 = .ok (.iload_n 3, 1) := by decide +kernel
theorem dL_law_745 : decode cL_law 745 = .ok (.iconst 3, 1) := by decide +kernel
theorem dL_law_746 : decode cL_law 746 = .ok (.iadd, 1) := by decide +kernel
theorem dL_law_747 : decode cL_law 747 = .ok (.iaload, 1) := by decide +kernel
theorem dL_law_748 : decode cL_law 748 = .ok (.invokevirtual 96, 3) := by decide +kernel
theorem dL_law_751 : decode cL_law 751 = .ok (.if_icmp .eq 753, 3) := by decide +kernel
theorem dL_law_754 : decode cL_law 754 = .ok (.iconst 0, 1) := by decide +kernel
theorem dL_law_755 : decode cL_law 755 = .ok (.ireturn, 1) := by decide +kernel
theorem dL_law_756 : decode cL_law 756 = .ok (.aload_n 1, 1) := by decide +kernel
theorem dL_law_757 : decode cL_law 757 = .ok (.aload_n 0, 1) := by decide +kernel
theorem dL_law_758 : decode cL_law 758 = .ok (.iload_n 3, 1) := by decide +kernel
theorem dL_law_759 : decode cL_law 759 = .ok (.iconst 1, 1) := by decide +kernel
theorem dL_law_760 : decode cL_law 760 = .ok (.iadd, 1) := by decide +kernel
theorem dL_law_761 : decode cL_law 761 = .ok (.iaload, 1) := by decide +kernel
theorem dL_law_762 : decode cL_law 762 = .ok (.aload_n 0, 1) := by decide +kernel
theorem dL_law_763 : decode cL_law 763 = .ok (.iload_n 3, 1) := by decide +kernel
theorem dL_law_764 : decode cL_law 764 = .ok (.iconst 2, 1) := by decide +kernel
theorem dL_law_765 : decode cL_law 765 = .ok (.iadd, 1) := by decide +kernel
theorem dL_law_766 : decode cL_law 766 = .ok (.iaload, 1) := by decide +kernel
theorem dL_law_767 : decode cL_law 767 = .ok (.invokevirtual 97, 3) := by decide +kernel
theorem dL_law_770 : decode cL_law 770 = .ok (.aload_n 2, 1) := by decide +kernel
theorem dL_law_771 : decode cL_law 771 = .ok (.aload_n 0, 1) := by decide +kernel
theorem dL_law_772 : decode cL_law 772 = .ok (.iload_n 3, 1) := by decide +kernel
theorem dL_law_773 : decode cL_law 773 = .ok (.iconst 1, 1) := by decide +kernel
theorem dL_law_774 : decode cL_law 774 = .ok (.iadd, 1) := by decide +kernel
theorem dL_law_775 : decode cL_law 775 = .ok (.iaload, 1) := by decide +kernel
theorem dL_law_776 : decode cL_law 776 = .ok (.aload_n 0, 1) := by decide +kernel
theorem dL_law_777 : decode cL_law 777 = .ok (.iload_n 3, 1) := by decide +kernel
theorem dL_law_778 : decode cL_law 778 = .ok (.iconst 2, 1) := by decide +kernel
theorem dL_law_779 : decode cL_law 779 = .ok (.iadd, 1) := by decide +kernel
theorem dL_law_780 : decode cL_law 780 = .ok (.iaload, 1) := by decide +kernel
theorem dL_law_781 : decode cL_law 781 = .ok (.invokevirtual 100, 3) := by decide +kernel
theorem dL_law_784 : decode cL_law 784 = .ok (.if_icmp .eq 720, 3) := by decide +kernel
theorem dL_law_787 : decode cL_law 787 = .ok (.iconst 0, 1) := by decide +kernel
theorem dL_law_788 : decode cL_law 788 = .ok (.ireturn, 1) := by decide +kernel
theorem dL_law_789 : decode cL_law 789 = .ok (.aload_n 1, 1) := by decide +kernel
theorem dL_law_790 : decode cL_law 790 = .ok (.invokevirtual 101, 3) := by decide +kernel
theorem dL_law_793 : decode cL_law 793 = .ok (.aload_n 2, 1) := by decide +kernel
theorem dL_law_794 : decode cL_law 794 = .ok (.invokevirtual 104, 3) := by decide +kernel
theorem dL_law_797 : decode cL_law 797 = .ok (.if_icmp .eq 707, 3) := by decide +kernel
theorem dL_law_800 : decode cL_law 800 = .ok (.iconst 0, 1) := by decide +kernel
theorem dL_law_801 : decode cL_law 801 = .ok (.ireturn, 1) := by decide +kernel
theorem dL_law_802 : decode cL_law 802 = .ok (.aload_n 1, 1) := by decide +kernel
theorem dL_law_803 : decode cL_law 803 = .ok (.aload_n 0, 1) := by decide +kernel
theorem dL_law_804 : decode cL_law 804 = .ok (.iload_n 3, 1) := by decide +kernel
theorem dL_law_805 : decode cL_law 805 = .ok (.iconst 1, 1) := by decide +kernel
theorem dL_law_806 : decode cL_law 806 = .ok (.iadd, 1) := by decide +kernel
theorem dL_law_807 : decode cL_law 807 = .ok (.iaload, 1) := by decide +kernel
theorem dL_law_808 : decode cL_law 808 = .ok (.aload_n 0, 1) := by decide +kernel
theorem dL_law_809 : decode cL_law 809 = .ok (.iload_n 3, 1) := by decide +kernel
theorem dL_law_810 : decode cL_law 810 = .ok (.iconst 2, 1) := by decide +kernel
theorem dL_law_811 : decode cL_law 811 = .ok (.iadd, 1) := by decide +kernel
theorem dL_law_812 : decode cL_law 812 = .ok (.iaload, 1) := by decide +kernel
theorem dL_law_813 : decode cL_law 813 = .ok (.invokevirtual 105, 3) := by decide +kernel
theorem dL_law_816 : decode cL_law 816 = .ok (.aload_n 2, 1) := by decide +kernel
theorem dL_law_817 : decode cL_law 817 = .ok (.aload_n 0, 1) := by decide +kernel
theorem dL_law_818 : decode cL_law 818 = .ok (.iload_n 3, 1) := by decide +kernel
theorem dL_law_819 : decode cL_law 819 = .ok (.iconst 1, 1) := by decide +kernel
theorem dL_law_820 : decode cL_law 820 = .ok (.iadd, 1) := by decide +kernel
theorem dL_law_821 : decode cL_law 821 = .ok (.iaload, 1) := by decide +kernel
theorem dL_law_822 : decode cL_law 822 = .ok (.aload_n 0, 1) := by decide +kernel
theorem dL_law_823 : decode cL_law 823 = .ok (.iload_n 3, 1) := by decide +kernel
theorem dL_law_824 : decode cL_law 824 = .ok (.iconst 2, 1) := by decide +kernel
theorem dL_law_825 : decode cL_law 825 = .ok (.iadd, 1) := by decide +kernel
theorem dL_law_826 : decode cL_law 826 = .ok (.iaload, 1) := by decide +kernel
theorem dL_law_827 : decode cL_law 827 = .ok (.invokevirtual 108, 3) := by decide +kernel
theorem dL_law_830 : decode cL_law 830 = .ok (.if_icmp .eq 674, 3) := by decide +kernel
theorem dL_law_833 : decode cL_law 833 = .ok (.iconst 0, 1) := by decide +kernel
theorem dL_law_834 : decode cL_law 834 = .ok (.ireturn, 1) := by decide +kernel
theorem dL_law_835 : decode cL_law 835 = .ok (.aload_n 1, 1) := by decide +kernel
theorem dL_law_836 : decode cL_law 836 = .ok (.aload_n 0, 1) := by decide +kernel
theorem dL_law_837 : decode cL_law 837 = .ok (.iload_n 3, 1) := by decide +kernel
theorem dL_law_838 : decode cL_law 838 = .ok (.iconst 1, 1) := by decide +kernel
theorem dL_law_839 : decode cL_law 839 = .ok (.iadd, 1) := by decide +kernel
theorem dL_law_840 : decode cL_law 840 = .ok (.iaload, 1) := by decide +kernel
theorem dL_law_841 : decode cL_law 841 = .ok (.aload_n 0, 1) := by decide +kernel
theorem dL_law_842 : decode cL_law 842 = .ok (.iload_n 3, 1) := by decide +kernel
theorem dL_law_843 : decode cL_law 843 = .ok (.iconst 2, 1) := by decide +kernel
theorem dL_law_844 : decode cL_law 844 = .ok (.iadd, 1) := by decide +kernel
theorem dL_law_845 : decode cL_law 845 = .ok (.iaload, 1) := by decide +kernel
theorem dL_law_846 : decode cL_law 846 = .ok (.aload_n 0, 1) := by decide +kernel
theorem dL_law_847 : decode cL_law 847 = .ok (.iload_n 3, 1) := by decide +kernel
theorem dL_law_848 : decode cL_law 848 = .ok (.iconst 3, 1) := by decide +kernel
theorem dL_law_849 : decode cL_law 849 = .ok (.iadd, 1) := by decide +kernel
theorem dL_law_850 : decode cL_law 850 = .ok (.iaload, 1) := by decide +kernel
theorem dL_law_851 : decode cL_law 851 = .ok (.invokevirtual 109, 3) := by decide +kernel
theorem dL_law_854 : decode cL_law 854 = .ok (.aload_n 2, 1) := by decide +kernel
theorem dL_law_855 : decode cL_law 855 = .ok (.aload_n 0, 1) := by decide +kernel
theorem dL_law_856 : decode cL_law 856 = .ok (.iload_n 3, 1) := by decide +kernel
theorem dL_law_857 : decode cL_law 857 = .ok (.iconst 1, 1) := by decide +kernel
theorem dL_law_858 : decode cL_law 858 = .ok (.iadd, 1) := by decide +kernel
theorem dL_law_859 : decode cL_law 859 = .ok (.iaload, 1) := by decide +kernel
theorem dL_law_860 : decode cL_law 860 = .ok (.aload_n 0, 1) := by decide +kernel
theorem dL_law_861 : decode cL_law 861 = .ok (.iload_n 3, 1) := by decide +kernel
theorem dL_law_862 : decode cL_law 862 = .ok (.iconst 2, 1) := by decide +kernel
theorem dL_law_863 : decode cL_law 863 = .ok (.iadd, 1) := by decide +kernel
theorem dL_law_864 : decode cL_law 864 = .ok (.iaload, 1) := by decide +kernel
theorem dL_law_865 : decode cL_law 865 = .ok (.aload_n 0, 1) := by decide +kernel
theorem dL_law_866 : decode cL_law 866 = .ok (.iload_n 3, 1) := by decide +kernel
theorem dL_law_867 : decode cL_law 867 = .ok (.iconst 3, 1) := by decide +kernel
theorem dL_law_868 : decode cL_law 868 = .ok (.iadd, 1) := by decide +kernel
theorem dL_law_869 : decode cL_law 869 = .ok (.iaload, 1) := by decide +kernel
theorem dL_law_870 : decode cL_law 870 = .ok (.invokevirtual 112, 3) := by decide +kernel
theorem dL_law_873 : decode cL_law 873 = .ok (.if_icmp .eq 631, 3) := by decide +kernel
theorem dL_law_876 : decode cL_law 876 = .ok (.iconst 0, 1) := by decide +kernel
theorem dL_law_877 : decode cL_law 877 = .ok (.ireturn, 1) := by decide +kernel
theorem dL_law_878 : decode cL_law 878 = .ok (.aload_n 1, 1) := by decide +kernel
theorem dL_law_879 : decode cL_law 879 = .ok (.aload_n 0, 1) := by decide +kernel
theorem dL_law_880 : decode cL_law 880 = .ok (.iload_n 3, 1) := by decide +kernel
theorem dL_law_881 : decode cL_law 881 = .ok (.iconst 1, 1) := by decide +kernel
theorem dL_law_882 : decode cL_law 882 = .ok (.iadd, 1) := by decide +kernel
theorem dL_law_883 : decode cL_law 883 = .ok (.iaload, 1) := by decide +kernel
theorem dL_law_884 : decode cL_law 884 = .ok (.aload_n 0, 1) := by decide +kernel
theorem dL_law_885 : decode cL_law 885 = .ok (.iload_n 3, 1) := by decide +kernel
theorem dL_law_886 : decode cL_law 886 = .ok (.iconst 2, 1) := by decide +kernel
theorem dL_law_887 : decode cL_law 887 = .ok (.iadd, 1) := by decide +kernel
theorem dL_law_888 : decode cL_law 888 = .ok (.iaload, 1) := by decide +kernel
theorem dL_law_889 : decode cL_law 889 = .ok (.aload_n 0, 1) := by decide +kernel
theorem dL_law_890 : decode cL_law 890 = .ok (.iload_n 3, 1) := by decide +kernel
theorem dL_law_891 : decode cL_law 891 = .ok (.iconst 3, 1) := by decide +kernel
theorem dL_law_892 : decode cL_law 892 = .ok (.iadd, 1) := by decide +kernel
theorem dL_law_893 : decode cL_law 893 = .ok (.iaload, 1) := by decide +kernel
theorem dL_law_894 : decode cL_law 894 = .ok (.invokevirtual 113, 3) := by decide +kernel
theorem dL_law_897 : decode cL_law 897 = .ok (.aload_n 2, 1) := by decide +kernel
theorem dL_law_898 : decode cL_law 898 = .ok (.aload_n 0, 1) := by decide +kernel
theorem dL_law_899 : decode cL_law 899 = .ok (.iload_n 3, 1) := by decide +kernel
theorem dL_law_900 : decode cL_law 900 = .ok (.iconst 1, 1) := by decide +kernel
theorem dL_law_901 : decode cL_law 901 = .ok (.iadd, 1) := by decide +kernel
theorem dL_law_902 : decode cL_law 902 = .ok (.iaload, 1) := by decide +kernel
theorem dL_law_903 : decode cL_law 903 = .ok (.aload_n 0, 1) := by decide +kernel
theorem dL_law_904 : decode cL_law 904 = .ok (.iload_n 3, 1) := by decide +kernel
theorem dL_law_905 : decode cL_law 905 = .ok (.iconst 2, 1) := by decide +kernel
theorem dL_law_906 : decode cL_law 906 = .ok (.iadd, 1) := by decide +kernel
theorem dL_law_907 : decode cL_law 907 = .ok (.iaload, 1) := by decide +kernel
theorem dL_law_908 : decode cL_law 908 = .ok (.aload_n 0, 1) := by decide +kernel
theorem dL_law_909 : decode cL_law 909 = .ok (.iload_n 3, 1) := by decide +kernel
theorem dL_law_910 : decode cL_law 910 = .ok (.iconst 3, 1) := by decide +kernel
theorem dL_law_911 : decode cL_law 911 = .ok (.iadd, 1) := by decide +kernel
theorem dL_law_912 : decode cL_law 912 = .ok (.iaload, 1) := by decide +kernel
theorem dL_law_913 : decode cL_law 913 = .ok (.invokevirtual 116, 3) := by decide +kernel
theorem dL_law_916 : decode cL_law 916 = .ok (.if_icmp .eq 588, 3) := by decide +kernel
theorem dL_law_919 : decode cL_law 919 = .ok (.iconst 0, 1) := by decide +kernel
theorem dL_law_920 : decode cL_law 920 = .ok (.ireturn, 1) := by decide +kernel
theorem dL_law_921 : decode cL_law 921 = .ok (.aload_n 1, 1) := by decide +kernel
theorem dL_law_922 : decode cL_law 922 = .ok (.aload_n 0, 1) := by decide +kernel
theorem dL_law_923 : decode cL_law 923 = .ok (.iload_n 3, 1) := by decide +kernel
theorem dL_law_924 : decode cL_law 924 = .ok (.iconst 1, 1) := by decide +kernel
theorem dL_law_925 : decode cL_law 925 = .ok (.iadd, 1) := by decide +kernel
theorem dL_law_926 : decode cL_law 926 = .ok (.iaload, 1) := by decide +kernel
theorem dL_law_927 : decode cL_law 927 = .ok (.aload_n 0, 1) := by decide +kernel
theorem dL_law_928 : decode cL_law 928 = .ok (.iload_n 3, 1) := by decide +kernel
theorem dL_law_929 : decode cL_law 929 = .ok (.iconst 2, 1) := by decide +kernel
theorem dL_law_930 : decode cL_law 930 = .ok (.iadd, 1) := by decide +kernel
theorem dL_law_931 : decode cL_law 931 = .ok (.iaload, 1) := by decide +kernel
theorem dL_law_932 : decode cL_law 932 = .ok (.invokevirtual 117, 3) := by decide +kernel
theorem dL_law_935 : decode cL_law 935 = .ok (.aload_n 2, 1) := by decide +kernel
theorem dL_law_936 : decode cL_law 936 = .ok (.aload_n 0, 1) := by decide +kernel
theorem dL_law_937 : decode cL_law 937 = .ok (.iload_n 3, 1) := by decide +kernel
theorem dL_law_938 : decode cL_law 938 = .ok (.iconst 1, 1) := by decide +kernel
theorem dL_law_939 : decode cL_law 939 = .ok (.iadd, 1) := by decide +kernel
theorem dL_law_940 : decode cL_law 940 = .ok (.iaload, 1) := by decide +kernel
theorem dL_law_941 : decode cL_law 941 = .ok (.aload_n 0, 1) := by decide +kernel
theorem dL_law_942 : decode cL_law 942 = .ok (.iload_n 3, 1) := by decide +kernel
theorem dL_law_943 : decode cL_law 943 = .ok (.iconst 2, 1) := by decide +kernel
theorem dL_law_944 : decode cL_law 944 = .ok (.iadd, 1) := by decide +kernel
theorem dL_law_945 : decode cL_law 945 = .ok (.iaload, 1) := by decide +kernel
theorem dL_law_946 : decode cL_law 946 = .ok (.invokevirtual 120, 3) := by decide +kernel
theorem dL_law_949 : decode cL_law 949 = .ok (.if_icmp .eq 555, 3) := by decide +kernel
theorem dL_law_952 : decode cL_law 952 = .ok (.iconst 0, 1) := by decide +kernel
theorem dL_law_953 : decode cL_law 953 = .ok (.ireturn, 1) := by decide +kernel
theorem dL_law_954 : decode cL_law 954 = .ok (.aload_n 1, 1) := by decide +kernel
theorem dL_law_955 : decode cL_law 955 = .ok (.aload_n 0, 1) := by decide +kernel
theorem dL_law_956 : decode cL_law 956 = .ok (.iload_n 3, 1) := by decide +kernel
theorem dL_law_957 : decode cL_law 957 = .ok (.iconst 1, 1) := by decide +kernel
theorem dL_law_958 : decode cL_law 958 = .ok (.iadd, 1) := by decide +kernel
theorem dL_law_959 : decode cL_law 959 = .ok (.iaload, 1) := by decide +kernel
theorem dL_law_960 : decode cL_law 960 = .ok (.aload_n 0, 1) := by decide +kernel
theorem dL_law_961 : decode cL_law 961 = .ok (.iload_n 3, 1) := by decide +kernel
theorem dL_law_962 : decode cL_law 962 = .ok (.iconst 2, 1) := by decide +kernel
theorem dL_law_963 : decode cL_law 963 = .ok (.iadd, 1) := by decide +kernel
theorem dL_law_964 : decode cL_law 964 = .ok (.iaload, 1) := by decide +kernel
theorem dL_law_965 : decode cL_law 965 = .ok (.invokevirtual 121, 3) := by decide +kernel
theorem dL_law_968 : decode cL_law 968 = .ok (.aload_n 2, 1) := by decide +kernel
theorem dL_law_969 : decode cL_law 969 = .ok (.aload_n 0, 1) := by decide +kernel
theorem dL_law_970 : decode cL_law 970 = .ok (.iload_n 3, 1) := by decide +kernel
theorem dL_law_971 : decode cL_law 971 = .ok (.iconst 1, 1) := by decide +kernel
theorem dL_law_972 : decode cL_law 972 = .ok (.iadd, 1) := by decide +kernel
theorem dL_law_973 : decode cL_law 973 = .ok (.iaload, 1) := by decide +kernel
theorem dL_law_974 : decode cL_law 974 = .ok (.aload_n 0, 1) := by decide +kernel
theorem dL_law_975 : decode cL_law 975 = .ok (.iload_n 3, 1) := by decide +kernel
theorem dL_law_976 : decode cL_law 976 = .ok (.iconst 2, 1) := by decide +kernel
theorem dL_law_977 : decode cL_law 977 = .ok (.iadd, 1) := by decide +kernel
theorem dL_law_978 : decode cL_law 978 = .ok (.iaload, 1) := by decide +kernel
theorem dL_law_979 : decode cL_law 979 = .ok (.invokevirtual 124, 3) := by decide +kernel
theorem dL_law_982 : decode cL_law 982 = .ok (.if_icmp .eq 522, 3) := by decide +kernel
theorem dL_law_985 : decode cL_law 985 = .ok (.iconst 0, 1) := by decide +kernel
theorem dL_law_986 : decode cL_law 986 = .ok (.ireturn, 1) := by decide +kernel
theorem dL_law_987 : decode cL_law 987 = .ok (.aload_n 1, 1) := by decide +kernel
theorem dL_law_988 : decode cL_law 988 = .ok (.aload_n 0, 1) := by decide +kernel
theorem dL_law_989 : decode cL_law 989 = .ok (.iload_n 3, 1) := by decide +kernel
theorem dL_law_990 : decode cL_law 990 = .ok (.iconst 1, 1) := by decide +kernel
theorem dL_law_991 : decode cL_law 991 = .ok (.iadd, 1) := by decide +kernel
theorem dL_law_992 : decode cL_law 992 = .ok (.iaload, 1) := by decide +kernel
theorem dL_law_993 : decode cL_law 993 = .ok (.aload_n 0, 1) := by decide +kernel
theorem dL_law_994 : decode cL_law 994 = .ok (.iload_n 3, 1) := by decide +kernel
theorem dL_law_995 : decode cL_law 995 = .ok (.iconst 2, 1) := by decide +kernel
theorem dL_law_996 : decode cL_law 996 = .ok (.iadd, 1) := by decide +kernel
theorem dL_law_997 : decode cL_law 997 = .ok (.iaload, 1) := by decide +kernel
theorem dL_law_998 : decode cL_law 998 = .ok (.aload_n 0, 1) := by decide +kernel
theorem dL_law_999 : decode cL_law 999 = .ok (.iload_n 3, 1) := by decide +kernel
theorem dL_law_1000 : decode cL_law 1000 = .ok (.iconst 3, 1) := by decide +kernel
theorem dL_law_1001 : decode cL_law 1001 = .ok (.iadd, 1) := by decide +kernel
theorem dL_law_1002 : decode cL_law 1002 = .ok (.iaload, 1) := by decide +kernel
theorem dL_law_1003 : decode cL_law 1003 = .ok (.aload_n 0, 1) := by decide +kernel
theorem dL_law_1004 : decode cL_law 1004 = .ok (.iload_n 3, 1) := by decide +kernel
theorem dL_law_1005 : decode cL_law 1005 = .ok (.iconst 4, 1) := by decide +kernel
theorem dL_law_1006 : decode cL_law 1006 = .ok (.iadd, 1) := by decide +kernel
theorem dL_law_1007 : decode cL_law 1007 = .ok (.iaload, 1) := by decide +kernel
theorem dL_law_1008 : decode cL_law 1008 = .ok (.aload_n 0, 1) := by decide +kernel
theorem dL_law_1009 : decode cL_law 1009 = .ok (.iload_n 3, 1) := by decide +kernel
theorem dL_law_1010 : decode cL_law 1010 = .ok (.iconst 5, 1) := by decide +kernel
theorem dL_law_1011 : decode cL_law 1011 = .ok (.iadd, 1) := by decide +kernel
theorem dL_law_1012 : decode cL_law 1012 = .ok (.iaload, 1) := by decide +kernel
theorem dL_law_1013 : decode cL_law 1013 = .ok (.invokevirtual 125, 3) := by decide +kernel
theorem dL_law_1016 : decode cL_law 1016 = .ok (.aload_n 2, 1) := by decide +kernel
theorem dL_law_1017 : decode cL_law 1017 = .ok (.aload_n 0, 1) := by decide +kernel
theorem dL_law_1018 : decode cL_law 1018 = .ok (.iload_n 3, 1) := by decide +kernel
theorem dL_law_1019 : decode cL_law 1019 = .ok (.iconst 1, 1) := by decide +kernel
theorem dL_law_1020 : decode cL_law 1020 = .ok (.iadd, 1) := by decide +kernel
theorem dL_law_1021 : decode cL_law 1021 = .ok (.iaload, 1) := by decide +kernel
theorem dL_law_1022 : decode cL_law 1022 = .ok (.aload_n 0, 1) := by decide +kernel
theorem dL_law_1023 : decode cL_law 1023 = .ok (.iload_n 3, 1) := by decide +kernel
theorem dL_law_1024 : decode cL_law 1024 = .ok (.iconst 2, 1) := by decide +kernel
theorem dL_law_1025 : decode cL_law 1025 = .ok (.iadd, 1) := by decide +kernel
theorem dL_law_1026 : decode cL_law 1026 = .ok (.iaload, 1) := by decide +kernel
theorem dL_law_1027 : decode cL_law 1027 = .ok (.aload_n 0, 1) := by decide +kernel
theorem dL_law_1028 : decode cL_law 1028 = .ok (.iload_n 3, 1) := by decide +kernel
theorem dL_law_1029 : decode cL_law 1029 = .ok (.iconst 3, 1) := by decide +kernel
theorem dL_law_1030 : decode cL_law 1030 = .ok (.iadd, 1) := by decide +kernel
theorem dL_law_1031 : decode cL_law 1031 = .ok (.iaload, 1) := by decide +kernel
theorem dL_law_1032 : decode cL_law 1032 = .ok (.aload_n 0, 1) := by decide +kernel
theorem dL_law_1033 : decode cL_law 1033 = .ok (.iload_n 3, 1) := by decide +kernel
theorem dL_law_1034 : decode cL_law 1034 = .ok (.iconst 4, 1) := by decide +kernel
theorem dL_law_1035 : decode cL_law 1035 = .ok (.iadd, 1) := by decide +kernel
theorem dL_law_1036 : decode cL_law 1036 = .ok (.iaload, 1) := by decide +kernel
theorem dL_law_1037 : decode cL_law 1037 = .ok (.aload_n 0, 1) := by decide +kernel
theorem dL_law_1038 : decode cL_law 1038 = .ok (.iload_n 3, 1) := by decide +kernel
theorem dL_law_1039 : decode cL_law 1039 = .ok (.iconst 5, 1) := by decide +kernel
theorem dL_law_1040 : decode cL_law 1040 = .ok (.iadd, 1) := by decide +kernel
theorem dL_law_1041 : decode cL_law 1041 = .ok (.iaload, 1) := by decide +kernel
theorem dL_law_1042 : decode cL_law 1042 = .ok (.invokevirtual 129, 3) := by decide +kernel
theorem dL_law_1045 : decode cL_law 1045 = .ok (.lcmp, 1) := by decide +kernel
theorem dL_law_1046 : decode cL_law 1046 = .ok (.ifCond .eq 458, 3) := by decide +kernel
theorem dL_law_1049 : decode cL_law 1049 = .ok (.iconst 0, 1) := by decide +kernel
theorem dL_law_1050 : decode cL_law 1050 = .ok (.ireturn, 1) := by decide +kernel
theorem dL_law_1051 : decode cL_law 1051 = .ok (.aload_n 1, 1) := by decide +kernel
theorem dL_law_1052 : decode cL_law 1052 = .ok (.aload_n 0, 1) := by decide +kernel
theorem dL_law_1053 : decode cL_law 1053 = .ok (.iload_n 3, 1) := by decide +kernel
theorem dL_law_1054 : decode cL_law 1054 = .ok (.iconst 1, 1) := by decide +kernel
theorem dL_law_1055 : decode cL_law 1055 = .ok (.iadd, 1) := by decide +kernel
theorem dL_law_1056 : decode cL_law 1056 = .ok (.iaload, 1) := by decide +kernel
theorem dL_law_1057 : decode cL_law 1057 = .ok (.aload_n 0, 1) := by decide +kernel
theorem dL_law_1058 : decode cL_law 1058 = .ok (.iload_n 3, 1) := by decide +kernel
theorem dL_law_1059 : decode cL_law 1059 = .ok (.iconst 2, 1) := by decide +kernel
theorem dL_law_1060 : decode cL_law 1060 = .ok (.iadd, 1) := by decide +kernel
theorem dL_law_1061 : decode cL_law 1061 = .ok (.iaload, 1) := by decide +kernel
theorem dL_law_1062 : decode cL_law 1062 = .ok (.aload_n 0, 1) := by decide +kernel
theorem dL_law_1063 : decode cL_law 1063 = .ok (.iload_n 3, 1) := by decide +kernel
theorem dL_law_1064 : decode cL_law 1064 = .ok (.iconst 3, 1) := by decide +kernel
theorem dL_law_1065 : decode cL_law 1065 = .ok (.iadd, 1) := by decide +kernel
theorem dL_law_1066 : decode cL_law 1066 = .ok (.iaload, 1) := by decide +kernel
theorem dL_law_1067 : decode cL_law 1067 = .ok (.invokevirtual 130, 3) := by decide +kernel
theorem dL_law_1070 : decode cL_law 1070 = .ok (.aload_n 2, 1) := by decide +kernel
theorem dL_law_1071 : decode cL_law 1071 = .ok (.aload_n 0, 1) := by decide +kernel
theorem dL_law_1072 : decode cL_law 1072 = .ok (.iload_n 3, 1) := by decide +kernel
theorem dL_law_1073 : decode cL_law 1073 = .ok (.iconst 1, 1) := by decide +kernel
theorem dL_law_1074 : decode cL_law 1074 = .ok (.iadd, 1) := by decide +kernel
theorem dL_law_1075 : decode cL_law 1075 = .ok (.iaload, 1) := by decide +kernel
theorem dL_law_1076 : decode cL_law 1076 = .ok (.aload_n 0, 1) := by decide +kernel
theorem dL_law_1077 : decode cL_law 1077 = .ok (.iload_n 3, 1) := by decide +kernel
theorem dL_law_1078 : decode cL_law 1078 = .ok (.iconst 2, 1) := by decide +kernel
theorem dL_law_1079 : decode cL_law 1079 = .ok (.iadd, 1) := by decide +kernel
theorem dL_law_1080 : decode cL_law 1080 = .ok (.iaload, 1) := by decide +kernel
theorem dL_law_1081 : decode cL_law 1081 = .ok (.aload_n 0, 1) := by decide +kernel
theorem dL_law_1082 : decode cL_law 1082 = .ok (.iload_n 3, 1) := by decide +kernel
theorem dL_law_1083 : decode cL_law 1083 = .ok (.iconst 3, 1) := by decide +kernel
theorem dL_law_1084 : decode cL_law 1084 = .ok (.iadd, 1) := by decide +kernel
theorem dL_law_1085 : decode cL_law 1085 = .ok (.iaload, 1) := by decide +kernel
theorem dL_law_1086 : decode cL_law 1086 = .ok (.invokevirtual 134, 3) := by decide +kernel
theorem dL_law_1089 : decode cL_law 1089 = .ok (.lcmp, 1) := by decide +kernel
theorem dL_law_1090 : decode cL_law 1090 = .ok (.ifCond .eq 414, 3) := by decide +kernel
theorem dL_law_1093 : decode cL_law 1093 = .ok (.iconst 0, 1) := by decide +kernel
theorem dL_law_1094 : decode cL_law 1094 = .ok (.ireturn, 1) := by decide +kernel
theorem dL_law_1095 : decode cL_law 1095 = .ok (.aload_n 1, 1) := by decide +kernel
theorem dL_law_1096 : decode cL_law 1096 = .ok (.aload_n 0, 1) := by decide +kernel
theorem dL_law_1097 : decode cL_law 1097 = .ok (.iload_n 3, 1) := by decide +kernel
theorem dL_law_1098 : decode cL_law 1098 = .ok (.iconst 1, 1) := by decide +kernel
theorem dL_law_1099 : decode cL_law 1099 = .ok (.iadd, 1) := by decide +kernel
theorem dL_law_1100 : decode cL_law 1100 = .ok (.iaload, 1) := by decide +kernel
theorem dL_law_1101 : decode cL_law 1101 = .ok (.aload_n 0, 1) := by decide +kernel
theorem dL_law_1102 : decode cL_law 1102 = .ok (.iload_n 3, 1) := by decide +kernel
theorem dL_law_1103 : decode cL_law 1103 = .ok (.iconst 2, 1) := by decide +kernel
theorem dL_law_1104 : decode cL_law 1104 = .ok (.iadd, 1) := by decide +kernel
theorem dL_law_1105 : decode cL_law 1105 = .ok (.iaload, 1) := by decide +kernel
theorem dL_law_1106 : decode cL_law 1106 = .ok (.aload_n 0, 1) := by decide +kernel
theorem dL_law_1107 : decode cL_law 1107 = .ok (.iload_n 3, 1) := by decide +kernel
theorem dL_law_1108 : decode cL_law 1108 = .ok (.iconst 3, 1) := by decide +kernel
theorem dL_law_1109 : decode cL_law 1109 = .ok (.iadd, 1) := by decide +kernel
theorem dL_law_1110 : decode cL_law 1110 = .ok (.iaload, 1) := by decide +kernel
theorem dL_law_1111 : decode cL_law 1111 = .ok (.invokevirtual 135, 3) := by decide +kernel
theorem dL_law_1114 : decode cL_law 1114 = .ok (.aload_n 2, 1) := by decide +kernel
theorem dL_law_1115 : decode cL_law 1115 = .ok (.aload_n 0, 1) := by decide +kernel
theorem dL_law_1116 : decode cL_law 1116 = .ok (.iload_n 3, 1) := by decide +kernel
theorem dL_law_1117 : decode cL_law 1117 = .ok (.iconst 1, 1) := by decide +kernel
theorem dL_law_1118 : decode cL_law 1118 = .ok (.iadd, 1) := by decide +kernel
theorem dL_law_1119 : decode cL_law 1119 = .ok (.iaload, 1) := by decide +kernel
theorem dL_law_1120 : decode cL_law 1120 = .ok (.aload_n 0, 1) := by decide +kernel
theorem dL_law_1121 : decode cL_law 1121 = .ok (.iload_n 3, 1) := by decide +kernel
theorem dL_law_1122 : decode cL_law 1122 = .ok (.iconst 2, 1) := by decide +kernel
theorem dL_law_1123 : decode cL_law 1123 = .ok (.iadd, 1) := by decide +kernel
theorem dL_law_1124 : decode cL_law 1124 = .ok (.iaload, 1) := by decide +kernel
theorem dL_law_1125 : decode cL_law 1125 = .ok (.aload_n 0, 1) := by decide +kernel
theorem dL_law_1126 : decode cL_law 1126 = .ok (.iload_n 3, 1) := by decide +kernel
theorem dL_law_1127 : decode cL_law 1127 = .ok (.iconst 3, 1) := by decide +kernel
theorem dL_law_1128 : decode cL_law 1128 = .ok (.iadd, 1) := by decide +kernel
theorem dL_law_1129 : decode cL_law 1129 = .ok (.iaload, 1) := by decide +kernel
theorem dL_law_1130 : decode cL_law 1130 = .ok (.invokevirtual 138, 3) := by decide +kernel
theorem dL_law_1133 : decode cL_law 1133 = .ok (.if_icmp .eq 371, 3) := by decide +kernel
theorem dL_law_1136 : decode cL_law 1136 = .ok (.iconst 0, 1) := by decide +kernel
theorem dL_law_1137 : decode cL_law 1137 = .ok (.ireturn, 1) := by decide +kernel
theorem dL_law_1138 : decode cL_law 1138 = .ok (.aload_n 1, 1) := by decide +kernel
theorem dL_law_1139 : decode cL_law 1139 = .ok (.aload_n 0, 1) := by decide +kernel
theorem dL_law_1140 : decode cL_law 1140 = .ok (.iload_n 3, 1) := by decide +kernel
theorem dL_law_1141 : decode cL_law 1141 = .ok (.iconst 1, 1) := by decide +kernel
theorem dL_law_1142 : decode cL_law 1142 = .ok (.iadd, 1) := by decide +kernel
theorem dL_law_1143 : decode cL_law 1143 = .ok (.iaload, 1) := by decide +kernel
theorem dL_law_1144 : decode cL_law 1144 = .ok (.invokevirtual 139, 3) := by decide +kernel
theorem dL_law_1147 : decode cL_law 1147 = .ok (.aload_n 2, 1) := by decide +kernel
theorem dL_law_1148 : decode cL_law 1148 = .ok (.aload_n 0, 1) := by decide +kernel
theorem dL_law_1149 : decode cL_law 1149 = .ok (.iload_n 3, 1) := by decide +kernel
theorem dL_law_1150 : decode cL_law 1150 = .ok (.iconst 1, 1) := by decide +kernel
theorem dL_law_1151 : decode cL_law 1151 = .ok (.iadd, 1) := by decide +kernel
theorem dL_law_1152 : decode cL_law 1152 = .ok (.iaload, 1) := by decide +kernel
theorem dL_law_1153 : decode cL_law 1153 = .ok (.invokevirtual 142, 3) := by decide +kernel
theorem dL_law_1156 : decode cL_law 1156 = .ok (.if_icmp .eq 348, 3) := by decide +kernel
theorem dL_law_1159 : decode cL_law 1159 = .ok (.iconst 0, 1) := by decide +kernel
theorem dL_law_1160 : decode cL_law 1160 = .ok (.ireturn, 1) := by decide +kernel
theorem dL_law_1161 : decode cL_law 1161 = .ok (.aload_n 1, 1) := by decide +kernel
theorem dL_law_1162 : decode cL_law 1162 = .ok (.aload_n 0, 1) := by decide +kernel
theorem dL_law_1163 : decode cL_law 1163 = .ok (.iload_n 3, 1) := by decide +kernel
theorem dL_law_1164 : decode cL_law 1164 = .ok (.iconst 1, 1) := by decide +kernel
theorem dL_law_1165 : decode cL_law 1165 = .ok (.iadd, 1) := by decide +kernel
theorem dL_law_1166 : decode cL_law 1166 = .ok (.iaload, 1) := by decide +kernel
theorem dL_law_1167 : decode cL_law 1167 = .ok (.invokevirtual 143, 3) := by decide +kernel
theorem dL_law_1170 : decode cL_law 1170 = .ok (.aload_n 2, 1) := by decide +kernel
theorem dL_law_1171 : decode cL_law 1171 = .ok (.aload_n 0, 1) := by decide +kernel
theorem dL_law_1172 : decode cL_law 1172 = .ok (.iload_n 3, 1) := by decide +kernel
theorem dL_law_1173 : decode cL_law 1173 = .ok (.iconst 1, 1) := by decide +kernel
theorem dL_law_1174 : decode cL_law 1174 = .ok (.iadd, 1) := by decide +kernel
theorem dL_law_1175 : decode cL_law 1175 = .ok (.iaload, 1) := by decide +kernel
theorem dL_law_1176 : decode cL_law 1176 = .ok (.invokevirtual 146, 3) := by decide +kernel
theorem dL_law_1179 : decode cL_law 1179 = .ok (.if_icmp .eq 325, 3) := by decide +kernel
theorem dL_law_1182 : decode cL_law 1182 = .ok (.iconst 0, 1) := by decide +kernel
theorem dL_law_1183 : decode cL_law 1183 = .ok (.ireturn, 1) := by decide +kernel
theorem dL_law_1184 : decode cL_law 1184 = .ok (.aload_n 1, 1) := by decide +kernel
theorem dL_law_1185 : decode cL_law 1185 = .ok (.aload_n 0, 1) := by decide +kernel
theorem dL_law_1186 : decode cL_law 1186 = .ok (.iload_n 3, 1) := by decide +kernel
theorem dL_law_1187 : decode cL_law 1187 = .ok (.iconst 1, 1) := by decide +kernel
theorem dL_law_1188 : decode cL_law 1188 = .ok (.iadd, 1) := by decide +kernel
theorem dL_law_1189 : decode cL_law 1189 = .ok (.iaload, 1) := by decide +kernel
theorem dL_law_1190 : decode cL_law 1190 = .ok (.invokevirtual 147, 3) := by decide +kernel
theorem dL_law_1193 : decode cL_law 1193 = .ok (.aload_n 2, 1) := by decide +kernel
theorem dL_law_1194 : decode cL_law 1194 = .ok (.aload_n 0, 1) := by decide +kernel
theorem dL_law_1195 : decode cL_law 1195 = .ok (.iload_n 3, 1) := by decide +kernel
theorem dL_law_1196 : decode cL_law 1196 = .ok (.iconst 1, 1) := by decide +kernel
theorem dL_law_1197 : decode cL_law 1197 = .ok (.iadd, 1) := by decide +kernel
theorem dL_law_1198 : decode cL_law 1198 = .ok (.iaload, 1) := by decide +kernel
theorem dL_law_1199 : decode cL_law 1199 = .ok (.invokevirtual 150, 3) := by decide +kernel
theorem dL_law_1202 : decode cL_law 1202 = .ok (.if_icmp .eq 302, 3) := by decide +kernel
theorem dL_law_1205 : decode cL_law 1205 = .ok (.iconst 0, 1) := by decide +kernel
theorem dL_law_1206 : decode cL_law 1206 = .ok (.ireturn, 1) := by decide +kernel
theorem dL_law_1207 : decode cL_law 1207 = .ok (.aload_n 1, 1) := by decide +kernel
theorem dL_law_1208 : decode cL_law 1208 = .ok (.aload_n 0, 1) := by decide +kernel
theorem dL_law_1209 : decode cL_law 1209 = .ok (.iload_n 3, 1) := by decide +kernel
theorem dL_law_1210 : decode cL_law 1210 = .ok (.iconst 1, 1) := by decide +kernel
theorem dL_law_1211 : decode cL_law 1211 = .ok (.iadd, 1) := by decide +kernel
theorem dL_law_1212 : decode cL_law 1212 = .ok (.iaload, 1) := by decide +kernel
theorem dL_law_1213 : decode cL_law 1213 = .ok (.aload_n 0, 1) := by decide +kernel
theorem dL_law_1214 : decode cL_law 1214 = .ok (.iload_n 3, 1) := by decide +kernel
theorem dL_law_1215 : decode cL_law 1215 = .ok (.iconst 2, 1) := by decide +kernel
theorem dL_law_1216 : decode cL_law 1216 = .ok (.iadd, 1) := by decide +kernel
theorem dL_law_1217 : decode cL_law 1217 = .ok (.iaload, 1) := by decide +kernel
theorem dL_law_1218 : decode cL_law 1218 = .ok (.invokevirtual 151, 3) := by decide +kernel
theorem dL_law_1221 : decode cL_law 1221 = .ok (.aload_n 2, 1) := by decide +kernel
theorem dL_law_1222 : decode cL_law 1222 = .ok (.aload_n 0, 1) := by decide +kernel
theorem dL_law_1223 : decode cL_law 1223 = .ok (.iload_n 3, 1) := by decide +kernel
theorem dL_law_1224 : decode cL_law 1224 = .ok (.iconst 1, 1) := by decide +kernel
theorem dL_law_1225 : decode cL_law 1225 = .ok (.iadd, 1) := by decide +kernel
theorem dL_law_1226 : decode cL_law 1226 = .ok (.iaload, 1) := by decide +kernel
theorem dL_law_1227 : decode cL_law 1227 = .ok (.aload_n 0, 1) := by decide +kernel
theorem dL_law_1228 : decode cL_law 1228 = .ok (.iload_n 3, 1) := by decide +kernel
theorem dL_law_1229 : decode cL_law 1229 = .ok (.iconst 2, 1) := by decide +kernel
theorem dL_law_1230 : decode cL_law 1230 = .ok (.iadd, 1) := by decide +kernel
theorem dL_law_1231 : decode cL_law 1231 = .ok (.iaload, 1) := by decide +kernel
theorem dL_law_1232 : decode cL_law 1232 = .ok (.invokevirtual 154, 3) := by decide +kernel
theorem dL_law_1235 : decode cL_law 1235 = .ok (.if_icmp .eq 269, 3) := by decide +kernel
theorem dL_law_1238 : decode cL_law 1238 = .ok (.iconst 0, 1) := by decide +kernel
theorem dL_law_1239 : decode cL_law 1239 = .ok (.ireturn, 1) := by decide +kernel
theorem dL_law_1240 : decode cL_law 1240 = .ok (.aload_n 1, 1) := by decide +kernel
theorem dL_law_1241 : decode cL_law 1241 = .ok (.aload_n 0, 1) := by decide +kernel
theorem dL_law_1242 : decode cL_law 1242 = .ok (.iload_n 3, 1) := by decide +kernel
theorem dL_law_1243 : decode cL_law 1243 = .ok (.iconst 1, 1) := by decide +kernel
theorem dL_law_1244 : decode cL_law 1244 = .ok (.iadd, 1) := by decide +kernel
theorem dL_law_1245 : decode cL_law 1245 = .ok (.iaload, 1) := by decide +kernel
theorem dL_law_1246 : decode cL_law 1246 = .ok (.aload_n 0, 1) := by decide +kernel
theorem dL_law_1247 : decode cL_law 1247 = .ok (.iload_n 3, 1) := by decide +kernel
theorem dL_law_1248 : decode cL_law 1248 = .ok (.iconst 2, 1) := by decide +kernel
theorem dL_law_1249 : decode cL_law 1249 = .ok (.iadd, 1) := by decide +kernel
theorem dL_law_1250 : decode cL_law 1250 = .ok (.iaload, 1) := by decide +kernel
theorem dL_law_1251 : decode cL_law 1251 = .ok (.aload_n 0, 1) := by decide +kernel
theorem dL_law_1252 : decode cL_law 1252 = .ok (.iload_n 3, 1) := by decide +kernel
theorem dL_law_1253 : decode cL_law 1253 = .ok (.iconst 3, 1) := by decide +kernel
theorem dL_law_1254 : decode cL_law 1254 = .ok (.iadd, 1) := by decide +kernel
theorem dL_law_1255 : decode cL_law 1255 = .ok (.iaload, 1) := by decide +kernel
theorem dL_law_1256 : decode cL_law 1256 = .ok (.invokevirtual 155, 3) := by decide +kernel
theorem dL_law_1259 : decode cL_law 1259 = .ok (.aload_n 2, 1) := by decide +kernel
theorem dL_law_1260 : decode cL_law 1260 = .ok (.aload_n 0, 1) := by decide +kernel
theorem dL_law_1261 : decode cL_law 1261 = .ok (.iload_n 3, 1) := by decide +kernel
theorem dL_law_1262 : decode cL_law 1262 = .ok (.iconst 1, 1) := by decide +kernel
theorem dL_law_1263 : decode cL_law 1263 = .ok (.iadd, 1) := by decide +kernel
theorem dL_law_1264 : decode cL_law 1264 = .ok (.iaload, 1) := by decide +kernel
theorem dL_law_1265 : decode cL_law 1265 = .ok (.aload_n 0, 1) := by decide +kernel
theorem dL_law_1266 : decode cL_law 1266 = .ok (.iload_n 3, 1) := by decide +kernel
theorem dL_law_1267 : decode cL_law 1267 = .ok (.iconst 2, 1) := by decide +kernel
theorem dL_law_1268 : decode cL_law 1268 = .ok (.iadd, 1) := by decide +kernel
theorem dL_law_1269 : decode cL_law 1269 = .ok (.iaload, 1) := by decide +kernel
theorem dL_law_1270 : decode cL_law 1270 = .ok (.aload_n 0, 1) := by decide +kernel
theorem dL_law_1271 : decode cL_law 1271 = .ok (.iload_n 3, 1) := by decide +kernel
theorem dL_law_1272 : decode cL_law 1272 = .ok (.iconst 3, 1) := by decide +kernel
theorem dL_law_1273 : decode cL_law 1273 = .ok (.iadd, 1) := by decide +kernel
theorem dL_law_1274 : decode cL_law 1274 = .ok (.iaload, 1) := by decide +kernel
theorem dL_law_1275 : decode cL_law 1275 = .ok (.invokevirtual 158, 3) := by decide +kernel
theorem dL_law_1278 : decode cL_law 1278 = .ok (.if_icmp .eq 226, 3) := by decide +kernel
theorem dL_law_1281 : decode cL_law 1281 = .ok (.iconst 0, 1) := by decide +kernel
theorem dL_law_1282 : decode cL_law 1282 = .ok (.ireturn, 1) := by decide +kernel
theorem dL_law_1283 : decode cL_law 1283 = .ok (.aload_n 1, 1) := by decide +kernel
theorem dL_law_1284 : decode cL_law 1284 = .ok (.aload_n 0, 1) := by decide +kernel
theorem dL_law_1285 : decode cL_law 1285 = .ok (.iload_n 3, 1) := by decide +kernel
theorem dL_law_1286 : decode cL_law 1286 = .ok (.iconst 1, 1) := by decide +kernel
theorem dL_law_1287 : decode cL_law 1287 = .ok (.iadd, 1) := by decide +kernel
theorem dL_law_1288 : decode cL_law 1288 = .ok (.iaload, 1) := by decide +kernel
theorem dL_law_1289 : decode cL_law 1289 = .ok (.invokevirtual 159, 3) := by decide +kernel
theorem dL_law_1292 : decode cL_law 1292 = .ok (.aload_n 2, 1) := by decide +kernel
theorem dL_law_1293 : decode cL_law 1293 = .ok (.aload_n 0, 1) := by decide +kernel
theorem dL_law_1294 : decode cL_law 1294 = .ok (.iload_n 3, 1) := by decide +kernel
theorem dL_law_1295 : decode cL_law 1295 = .ok (.iconst 1, 1) := by decide +kernel
theorem dL_law_1296 : decode cL_law 1296 = .ok (.iadd, 1) := by decide +kernel
theorem dL_law_1297 : decode cL_law 1297 = .ok (.iaload, 1) := by decide +kernel
theorem dL_law_1298 : decode cL_law 1298 = .ok (.invokevirtual 162, 3) := by decide +kernel
theorem dL_law_1301 : decode cL_law 1301 = .ok (.if_icmp .eq 203, 3) := by decide +kernel
theorem dL_law_1304 : decode cL_law 1304 = .ok (.iconst 0, 1) := by decide +kernel
theorem dL_law_1305 : decode cL_law 1305 = .ok (.ireturn, 1) := by decide +kernel
theorem dL_law_1306 : decode cL_law 1306 = .ok (.aload_n 1, 1) := by decide +kernel
theorem dL_law_1307 : decode cL_law 1307 = .ok (.aload_n 0, 1) := by decide +kernel
theorem dL_law_1308 : decode cL_law 1308 = .ok (.iload_n 3, 1) := by decide +kernel
theorem dL_law_1309 : decode cL_law 1309 = .ok (.iconst 1, 1) := by decide +kernel
theorem dL_law_1310 : decode cL_law 1310 = .ok (.iadd, 1) := by decide +kernel
theorem dL_law_1311 : decode cL_law 1311 = .ok (.iaload, 1) := by decide +kernel
theorem dL_law_1312 : decode cL_law 1312 = .ok (.invokevirtual 163, 3) := by decide +kernel
theorem dL_law_1315 : decode cL_law 1315 = .ok (.aload_n 2, 1) := by decide +kernel
theorem dL_law_1316 : decode cL_law 1316 = .ok (.aload_n 0, 1) := by decide +kernel
theorem dL_law_1317 : decode cL_law 1317 = .ok (.iload_n 3, 1) := by decide +kernel
theorem dL_law_1318 : decode cL_law 1318 = .ok (.iconst 1, 1) := by decide +kernel
theorem dL_law_1319 : decode cL_law 1319 = .ok (.iadd, 1) := by decide +kernel
theorem dL_law_1320 : decode cL_law 1320 = .ok (.iaload, 1) := by decide +kernel
theorem dL_law_1321 : decode cL_law 1321 = .ok (.invokevirtual 166, 3) := by decide +kernel
theorem dL_law_1324 : decode cL_law 1324 = .ok (.if_icmp .eq 180, 3) := by decide +kernel
theorem dL_law_1327 : decode cL_law 1327 = .ok (.iconst 0, 1) := by decide +kernel
theorem dL_law_1328 : decode cL_law 1328 = .ok (.ireturn, 1) := by decide +kernel
theorem dL_law_1329 : decode cL_law 1329 = .ok (.aload_n 1, 1) := by decide +kernel
theorem dL_law_1330 : decode cL_law 1330 = .ok (.aload_n 0, 1) := by decide +kernel
theorem dL_law_1331 : decode cL_law 1331 = .ok (.iload_n 3, 1) := by decide +kernel
theorem dL_law_1332 : decode cL_law 1332 = .ok (.iconst 1, 1) := by decide +kernel
theorem dL_law_1333 : decode cL_law 1333 = .ok (.iadd, 1) := by decide +kernel
theorem dL_law_1334 : decode cL_law 1334 = .ok (.iaload, 1) := by decide +kernel
theorem dL_law_1335 : decode cL_law 1335 = .ok (.aload_n 0, 1) := by decide +kernel
theorem dL_law_1336 : decode cL_law 1336 = .ok (.iload_n 3, 1) := by decide +kernel
theorem dL_law_1337 : decode cL_law 1337 = .ok (.iconst 2, 1) := by decide +kernel
theorem dL_law_1338 : decode cL_law 1338 = .ok (.iadd, 1) := by decide +kernel
theorem dL_law_1339 : decode cL_law 1339 = .ok (.iaload, 1) := by decide +kernel
theorem dL_law_1340 : decode cL_law 1340 = .ok (.aload_n 0, 1) := by decide +kernel
theorem dL_law_1341 : decode cL_law 1341 = .ok (.iload_n 3, 1) := by decide +kernel
theorem dL_law_1342 : decode cL_law 1342 = .ok (.iconst 3, 1) := by decide +kernel
theorem dL_law_1343 : decode cL_law 1343 = .ok (.iadd, 1) := by decide +kernel
theorem dL_law_1344 : decode cL_law 1344 = .ok (.iaload, 1) := by decide +kernel
theorem dL_law_1345 : decode cL_law 1345 = .ok (.invokevirtual 167, 3) := by decide +kernel
theorem dL_law_1348 : decode cL_law 1348 = .ok (.aload_n 2, 1) := by decide +kernel
theorem dL_law_1349 : decode cL_law 1349 = .ok (.aload_n 0, 1) := by decide +kernel
theorem dL_law_1350 : decode cL_law 1350 = .ok (.iload_n 3, 1) := by decide +kernel
theorem dL_law_1351 : decode cL_law 1351 = .ok (.iconst 1, 1) := by decide +kernel
theorem dL_law_1352 : decode cL_law 1352 = .ok (.iadd, 1) := by decide +kernel
theorem dL_law_1353 : decode cL_law 1353 = .ok (.iaload, 1) := by decide +kernel
theorem dL_law_1354 : decode cL_law 1354 = .ok (.aload_n 0, 1) := by decide +kernel
theorem dL_law_1355 : decode cL_law 1355 = .ok (.iload_n 3, 1) := by decide +kernel
theorem dL_law_1356 : decode cL_law 1356 = .ok (.iconst 2, 1) := by decide +kernel
theorem dL_law_1357 : decode cL_law 1357 = .ok (.iadd, 1) := by decide +kernel
theorem dL_law_1358 : decode cL_law 1358 = .ok (.iaload, 1) := by decide +kernel
theorem dL_law_1359 : decode cL_law 1359 = .ok (.aload_n 0, 1) := by decide +kernel
theorem dL_law_1360 : decode cL_law 1360 = .ok (.iload_n 3, 1) := by decide +kernel
theorem dL_law_1361 : decode cL_law 1361 = .ok (.iconst 3, 1) := by decide +kernel
theorem dL_law_1362 : decode cL_law 1362 = .ok (.iadd, 1) := by decide +kernel
theorem dL_law_1363 : decode cL_law 1363 = .ok (.iaload, 1) := by decide +kernel
theorem dL_law_1364 : decode cL_law 1364 = .ok (.invokevirtual 170, 3) := by decide +kernel
theorem dL_law_1367 : decode cL_law 1367 = .ok (.if_icmp .eq 137, 3) := by decide +kernel
theorem dL_law_1370 : decode cL_law 1370 = .ok (.iconst 0, 1) := by decide +kernel
theorem dL_law_1371 : decode cL_law 1371 = .ok (.ireturn, 1) := by decide +kernel
theorem dL_law_1372 : decode cL_law 1372 = .ok (.aload_n 1, 1) := by decide +kernel
theorem dL_law_1373 : decode cL_law 1373 = .ok (.aload_n 0, 1) := by decide +kernel
theorem dL_law_1374 : decode cL_law 1374 = .ok (.iload_n 3, 1) := by decide +kernel
theorem dL_law_1375 : decode cL_law 1375 = .ok (.iconst 1, 1) := by decide +kernel
theorem dL_law_1376 : decode cL_law 1376 = .ok (.iadd, 1) := by decide +kernel
theorem dL_law_1377 : decode cL_law 1377 = .ok (.iaload, 1) := by decide +kernel
theorem dL_law_1378 : decode cL_law 1378 = .ok (.aload_n 0, 1) := by decide +kernel
theorem dL_law_1379 : decode cL_law 1379 = .ok (.iload_n 3, 1) := by decide +kernel
theorem dL_law_1380 : decode cL_law 1380 = .ok (.iconst 2, 1) := by decide +kernel
theorem dL_law_1381 : decode cL_law 1381 = .ok (.iadd, 1) := by decide +kernel
theorem dL_law_1382 : decode cL_law 1382 = .ok (.iaload, 1) := by decide +kernel
theorem dL_law_1383 : decode cL_law 1383 = .ok (.aload_n 0, 1) := by decide +kernel
theorem dL_law_1384 : decode cL_law 1384 = .ok (.iload_n 3, 1) := by decide +kernel
theorem dL_law_1385 : decode cL_law 1385 = .ok (.iconst 3, 1) := by decide +kernel
theorem dL_law_1386 : decode cL_law 1386 = .ok (.iadd, 1) := by decide +kernel
theorem dL_law_1387 : decode cL_law 1387 = .ok (.iaload, 1) := by decide +kernel
theorem dL_law_1388 : decode cL_law 1388 = .ok (.invokevirtual 171, 3) := by decide +kernel
theorem dL_law_1391 : decode cL_law 1391 = .ok (.aload_n 2, 1) := by decide +kernel
theorem dL_law_1392 : decode cL_law 1392 = .ok (.aload_n 0, 1) := by decide +kernel
theorem dL_law_1393 : decode cL_law 1393 = .ok (.iload_n 3, 1) := by decide +kernel
theorem dL_law_1394 : decode cL_law 1394 = .ok (.iconst 1, 1) := by decide +kernel
theorem dL_law_1395 : decode cL_law 1395 = .ok (.iadd, 1) := by decide +kernel
theorem dL_law_1396 : decode cL_law 1396 = .ok (.iaload, 1) := by decide +kernel
theorem dL_law_1397 : decode cL_law 1397 = .ok (.aload_n 0, 1) := by decide +kernel
theorem dL_law_1398 : decode cL_law 1398 = .ok (.iload_n 3, 1) := by decide +kernel
theorem dL_law_1399 : decode cL_law 1399 = .ok (.iconst 2, 1) := by decide +kernel
theorem dL_law_1400 : decode cL_law 1400 = .ok (.iadd, 1) := by decide +kernel
theorem dL_law_1401 : decode cL_law 1401 = .ok (.iaload, 1) := by decide +kernel
theorem dL_law_1402 : decode cL_law 1402 = .ok (.aload_n 0, 1) := by decide +kernel
theorem dL_law_1403 : decode cL_law 1403 = .ok (.iload_n 3, 1) := by decide +kernel
theorem dL_law_1404 : decode cL_law 1404 = .ok (.iconst 3, 1) := by decide +kernel
theorem dL_law_1405 : decode cL_law 1405 = .ok (.iadd, 1) := by decide +kernel
theorem dL_law_1406 : decode cL_law 1406 = .ok (.iaload, 1) := by decide +kernel
theorem dL_law_1407 : decode cL_law 1407 = .ok (.invokevirtual 174, 3) := by decide +kernel
theorem dL_law_1410 : decode cL_law 1410 = .ok (.if_icmp .eq 94, 3) := by decide +kernel
theorem dL_law_1413 : decode cL_law 1413 = .ok (.iconst 0, 1) := by decide +kernel
theorem dL_law_1414 : decode cL_law 1414 = .ok (.ireturn, 1) := by decide +kernel
theorem dL_law_1415 : decode cL_law 1415 = .ok (.aload_n 1, 1) := by decide +kernel
theorem dL_law_1416 : decode cL_law 1416 = .ok (.aload_n 0, 1) := by decide +kernel
theorem dL_law_1417 : decode cL_law 1417 = .ok (.iload_n 3, 1) := by decide +kernel
theorem dL_law_1418 : decode cL_law 1418 = .ok (.iconst 1, 1) := by decide +kernel
theorem dL_law_1419 : decode cL_law 1419 = .ok (.iadd, 1) := by decide +kernel
theorem dL_law_1420 : decode cL_law 1420 = .ok (.iaload, 1) := by decide +kernel
theorem dL_law_1421 : decode cL_law 1421 = .ok (.aload_n 0, 1) := by decide +kernel
theorem dL_law_1422 : decode cL_law 1422 = .ok (.iload_n 3, 1) := by decide +kernel
theorem dL_law_1423 : decode cL_law 1423 = .ok (.iconst 2, 1) := by decide +kernel
theorem dL_law_1424 : decode cL_law 1424 = .ok (.iadd, 1) := by decide +kernel
theorem dL_law_1425 : decode cL_law 1425 = .ok (.iaload, 1) := by decide +kernel
theorem dL_law_1426 : decode cL_law 1426 = .ok (.aload_n 0, 1) := by decide +kernel
theorem dL_law_1427 : decode cL_law 1427 = .ok (.iload_n 3, 1) := by decide +kernel
theorem dL_law_1428 : decode cL_law 1428 = .ok (.iconst 3, 1) := by decide +kernel
theorem dL_law_1429 : decode cL_law 1429 = .ok (.iadd, 1) := by decide +kernel
theorem dL_law_1430 : decode cL_law 1430 = .ok (.iaload, 1) := by decide +kernel
theorem dL_law_1431 : decode cL_law 1431 = .ok (.aload_n 0, 1) := by decide +kernel
theorem dL_law_1432 : decode cL_law 1432 = .ok (.iload_n 3, 1) := by decide +kernel
theorem dL_law_1433 : decode cL_law 1433 = .ok (.iconst 4, 1) := by decide +kernel
theorem dL_law_1434 : decode cL_law 1434 = .ok (.iadd, 1) := by decide +kernel
theorem dL_law_1435 : decode cL_law 1435 = .ok (.iaload, 1) := by decide +kernel
theorem dL_law_1436 : decode cL_law 1436 = .ok (.invokevirtual 175, 3) := by decide +kernel
theorem dL_law_1439 : decode cL_law 1439 = .ok (.aload_n 2, 1) := by decide +kernel
theorem dL_law_1440 : decode cL_law 1440 = .ok (.aload_n 0, 1) := by decide +kernel
theorem dL_law_1441 : decode cL_law 1441 = .ok (.iload_n 3, 1) := by decide +kernel
theorem dL_law_1442 : decode cL_law 1442 = .ok (.iconst 1, 1) := by decide +kernel
theorem dL_law_1443 : decode cL_law 1443 = .ok (.iadd, 1) := by decide +kernel
theorem dL_law_1444 : decode cL_law 1444 = .ok (.iaload, 1) := by decide +kernel
theorem dL_law_1445 : decode cL_law 1445 = .ok (.aload_n 0, 1) := by decide +kernel
theorem dL_law_1446 : decode cL_law 1446 = .ok (.iload_n 3, 1) := by decide +kernel
theorem dL_law_1447 : decode cL_law 1447 = .ok (.iconst 2, 1) := by decide +kernel
theorem dL_law_1448 : decode cL_law 1448 = .ok (.iadd, 1) := by decide +kernel
theorem dL_law_1449 : decode cL_law 1449 = .ok (.iaload, 1) := by decide +kernel
theorem dL_law_1450 : decode cL_law 1450 = .ok (.aload_n 0, 1) := by decide +kernel
theorem dL_law_1451 : decode cL_law 1451 = .ok (.iload_n 3, 1) := by decide +kernel
theorem dL_law_1452 : decode cL_law 1452 = .ok (.iconst 3, 1) := by decide +kernel
theorem dL_law_1453 : decode cL_law 1453 = .ok (.iadd, 1) := by decide +kernel
theorem dL_law_1454 : decode cL_law 1454 = .ok (.iaload, 1) := by decide +kernel
theorem dL_law_1455 : decode cL_law 1455 = .ok (.aload_n 0, 1) := by decide +kernel
theorem dL_law_1456 : decode cL_law 1456 = .ok (.iload_n 3, 1) := by decide +kernel
theorem dL_law_1457 : decode cL_law 1457 = .ok (.iconst 4, 1) := by decide +kernel
theorem dL_law_1458 : decode cL_law 1458 = .ok (.iadd, 1) := by decide +kernel
theorem dL_law_1459 : decode cL_law 1459 = .ok (.iaload, 1) := by decide +kernel
theorem dL_law_1460 : decode cL_law 1460 = .ok (.invokevirtual 179, 3) := by decide +kernel
theorem dL_law_1463 : decode cL_law 1463 = .ok (.if_icmp .eq 41, 3) := by decide +kernel
theorem dL_law_1466 : decode cL_law 1466 = .ok (.iconst 0, 1) := by decide +kernel
theorem dL_law_1467 : decode cL_law 1467 = .ok (.ireturn, 1) := by decide +kernel
theorem dL_law_1468 : decode cL_law 1468 = .ok (.aload_n 1, 1) := by decide +kernel
theorem dL_law_1469 : decode cL_law 1469 = .ok (.invokevirtual 180, 3) := by decide +kernel
theorem dL_law_1472 : decode cL_law 1472 = .ok (.aload_n 2, 1) := by decide +kernel
theorem dL_law_1473 : decode cL_law 1473 = .ok (.invokevirtual 183, 3) := by decide +kernel
theorem dL_law_1476 : decode cL_law 1476 = .ok (.if_icmp .eq 28, 3) := by decide +kernel
theorem dL_law_1479 : decode cL_law 1479 = .ok (.iconst 0, 1) := by decide +kernel
theorem dL_law_1480 : decode cL_law 1480 = .ok (.ireturn, 1) := by decide +kernel
theorem dL_law_1481 : decode cL_law 1481 = .ok (.aload_n 1, 1) := by decide +kernel
theorem dL_law_1482 : decode cL_law 1482 = .ok (.aload_n 0, 1) := by decide +kernel
theorem dL_law_1483 : decode cL_law 1483 = .ok (.iload_n 3, 1) := by decide +kernel
theorem dL_law_1484 : decode cL_law 1484 = .ok (.iconst 1, 1) := by decide +kernel
theorem dL_law_1485 : decode cL_law 1485 = .ok (.iadd, 1) := by decide +kernel
theorem dL_law_1486 : decode cL_law 1486 = .ok (.iaload, 1) := by decide +kernel
theorem dL_law_1487 : decode cL_law 1487 = .ok (.invokevirtual 184, 3) := by decide +kernel
theorem dL_law_1490 : decode cL_law 1490 = .ok (.aload_n 2, 1) := by decide +kernel
theorem dL_law_1491 : decode cL_law 1491 = .ok (.aload_n 0, 1) := by decide +kernel
theorem dL_law_1492 : decode cL_law 1492 = .ok (.iload_n 3, 1) := by decide +kernel
theorem dL_law_1493 : decode cL_law 1493 = .ok (.iconst 1, 1) := by decide +kernel
theorem dL_law_1494 : decode cL_law 1494 = .ok (.iadd, 1) := by decide +kernel
theorem dL_law_1495 : decode cL_law 1495 = .ok (.iaload, 1) := by decide +kernel
theorem dL_law_1496 : decode cL_law 1496 = .ok (.invokevirtual 187, 3) := by decide +kernel
theorem dL_law_1499 : decode cL_law 1499 = .ok (.if_icmp .eq 5, 3) := by decide +kernel
theorem dL_law_1502 : decode cL_law 1502 = .ok (.iconst 0, 1) := by decide +kernel
theorem dL_law_1503 : decode cL_law 1503 = .ok (.ireturn, 1) := by decide +kernel
theorem dL_law_1504 : decode cL_law 1504 = .ok (.iinc 3 6, 3) := by decide +kernel
theorem dL_law_1507 : decode cL_law 1507 = .ok (.goto (-1489), 3) := by decide +kernel
theorem dL_law_1510 : decode cL_law 1510 = .ok (.iconst 1, 1) := by decide +kernel
theorem dL_law_1511 : decode cL_law 1511 = .ok (.ireturn, 1) := by decide +kernel
end
section
/-! THE MACHINE'S WORLD BY NUMBERS: cell k of a memory lies at the address b + k; references are such numbers (a String constant is written as a float, by its place; so is the script) -/
abbrev AC : Type := (Nat × Nat × ((Nat → Int32) ⊕ (Nat → Option Nat))) ⊕ (Nat × List Value)
abbrev Mem : Type := (Nat × Nat) × (Nat → Option AC)
/-- base, the Strings' addresses, their rows' addresses, the classes' numbers and slots, the array classes by tags -/
abbrev WG : Type := Nat × (Nat → Nat) × (Nat → Nat) × va_G × (Nat → ClassId)
def ma_tv (G : WG) : Value → Value
  | .ref k => .ref (G.1 + k)
  | .float i => .ref (G.2.1 i.toNat)
  | v => v
def ma_te (G : WG) : AC → va_E
  | .inl (t, n, .inl f) => .inl (G.2.2.2.2 t, n, .inl f)
  | .inl (t, n, .inr g) => .inl (G.2.2.2.2 t, n, .inr (.inr (.inr (.inr (fun j => (g j).map (fun k => G.1 + k))))))
  | .inr (c, fs) => .inr (c, fs.map (ma_tv G))
def ma_lm (G : WG) (M : Mem) : va_W := (List.range M.1.1).map fun k => (G.1 + k, ma_te G ((M.2 k).getD (.inr (0, []))))
def ma_put (M : Mem) (k : Nat) (c : AC) : Mem := (M.1, va_up M.2 k (some c))
def ma_new (M : Mem) (n : Nat) (c : AC) : Mem := ((M.1.1 + 1, M.1.2 + n), va_up M.2 M.1.1 (some c))
def ma_wf (M : Mem) : Prop := ∀ k c, M.2 k = some c → k < M.1.1
def ma_tys (cA : Nat → ClassId) : List (ClassId × FieldType) := [(cA 0, .int), (cA 1, .byte), (cA 2, .boolean), (cA 3, .object RX0), (cA 4, .object RX3), (cA 5, .object RX4)]
abbrev ma_A (G : WG) : Nat → Prop := fun q => G.1 ≤ q
theorem ma_cat (G : WG) (v : Value) : (ma_tv G v).category = v.category := by cases v <;> rfl
theorem ma_lm_get {G : WG} {M : Mem} {k : Nat} {c : AC} (h : M.2 k = some c) (hw : ma_wf M) : (ma_lm G M)[k]? = some (G.1 + k, ma_te G c) := by
  have hk := hw k c h
  simp [ma_lm, hk, h]
theorem ma_lm_at {G : WG} {M : Mem} {k : Nat} {q : Nat × va_E} (h : (ma_lm G M)[k]? = some q) : q.1 = G.1 + k := by
  simp only [ma_lm, List.getElem?_map] at h
  cases hk : (List.range M.1.1)[k]? with
  | none => rw [hk] at h; cases h
  | some j =>
    rw [hk] at h
    have hj : j = k := by
      have := (List.getElem?_eq_some_iff.mp hk).2
      simpa using this.symm
    subst hj
    cases h
    rfl
theorem ma_lm_D {G : WG} {M : Mem} : va_D (ma_A G) (ma_lm G M) := by
  refine ⟨fun i j p q hp hq e => ?_, fun k q hq => ?_⟩
  · have h1 := ma_lm_at hp
    have h2 := ma_lm_at hq
    omega
  · have h1 := ma_lm_at hq
    show G.1 ≤ q.1
    omega
theorem ma_lm_put {G : WG} {M : Mem} {k : Nat} {c : AC} (hk : k < M.1.1) : (ma_lm G M).set k (G.1 + k, ma_te G c) = ma_lm G (ma_put M k c) := by
  apply List.ext_getElem?
  intro i
  by_cases hi : i = k
  · subst hi
    simp [ma_lm, ma_put, va_up, hk]
  · rw [List.getElem?_set_ne (fun e => hi e.symm)]
    simp only [ma_lm, ma_put, List.getElem?_map]
    cases hr : (List.range M.1.1)[i]? with
    | none => rfl
    | some j =>
      have hj : j = i := by
        have := (List.getElem?_eq_some_iff.mp hr).2
        simpa using this.symm
      subst hj
      simp [va_up, hi]
theorem ma_lm_new {G : WG} {M : Mem} {n : Nat} {c : AC} : ma_lm G M ++ [(G.1 + M.1.1, ma_te G c)] = ma_lm G (ma_new M n c) := by
  simp only [ma_lm, ma_new, List.range_succ, List.map_append, List.map_cons, List.map_nil]
  congr 1
  · apply List.map_congr_left
    intro k hk
    have hk := List.mem_range.mp hk
    have : k ≠ M.1.1 := by omega
    simp [va_up, this]
  · simp [va_up]
theorem ma_wf_put {M : Mem} {k : Nat} {c : AC} (h : ma_wf M) (hk : k < M.1.1) : ma_wf (ma_put M k c) := by
  intro j d hj
  by_cases e : j = k
  · subst e; exact hk
  · exact h j d (by simpa [ma_put, va_up, e] using hj)
theorem ma_wf_new {M : Mem} {n : Nat} {c : AC} (h : ma_wf M) : ma_wf (ma_new M n c) := by
  intro j d hj
  show j < M.1.1 + 1
  by_cases e : j = M.1.1
  · omega
  · have := h j d (by simpa [ma_new, va_up, e] using hj)
    omega
/-- the words that stay, of the tables -/
def ma_tbl : List Cond := lw_tbl.filter goodWord
theorem ma_mem {w : Cond} (i : Nat) (h : lw_tbl[i]? = some w) (hg : goodWord w = true) : w ∈ ma_tbl := List.mem_filter.mpr ⟨List.mem_of_getElem? h, hg⟩
theorem ma_good {w : Cond} (hw : w ∈ ma_tbl) : GoodIn ma_tbl (w :: ma_tbl) := fun v hv => by
  rcases List.mem_cons.mp hv with rfl | hv
  · exact ⟨hw, good_of_word (List.mem_filter.mp hw).2⟩
  · exact ⟨hv, good_of_word (List.mem_filter.mp hv).2⟩
/-- the classes by numbers -/
def Rn : Nat → String := fun i => match i with | 0 => RX0 | 1 => RX1 | 2 => RX2 | 3 => RX3 | 4 => RX4 | 5 => RX5 | 6 => RX6 | _ => RX7
def Tn : Nat → u_T := fun i => match i with | 0 => TX0 | 1 => TX1 | 2 => TX2 | 3 => TX3 | 4 => TX4 | 5 => TX5 | 6 => TX6 | _ => TX7
def Nn : Nat → Nat := fun i => match i with | 0 => 6 | 1 => 2 | 2 => 4 | 3 => 3 | 4 => 4 | 5 => 9 | 6 => 12 | _ => 29
def tyn : Nat → Nat → FieldType := fun i => match i with | 0 => tyX0 | 1 => tyX1 | 2 => tyX2 | 3 => tyX3 | 4 => tyX4 | 5 => tyX5 | 6 => tyX6 | _ => tyX7
theorem ma_cl {i : Nat} (h : i < 8) : vwCl[i]? = some (Rn i, Tn i, Nn i) := by
  match i, h with
  | 0, _ => rfl
  | 1, _ => rfl
  | 2, _ => rfl
  | 3, _ => rfl
  | 4, _ => rfl
  | 5, _ => rfl
  | 6, _ => rfl
  | 7, _ => rfl
theorem ma_tyn {i : Nat} (h : i < 8) : ∀ k, k < Nn i → parseFieldDescriptor (Tn i k).2.2.1 = some (tyn i k) := by
  match i, h with
  | 0, _ => exact tyX0_ok
  | 1, _ => exact tyX1_ok
  | 2, _ => exact tyX2_ok
  | 3, _ => exact tyX3_ok
  | 4, _ => exact tyX4_ok
  | 5, _ => exact tyX5_ok
  | 6, _ => exact tyX6_ok
  | 7, _ => exact tyX7_ok
theorem ma_nmn {i : Nat} (h : i < 8) : ∀ a, a < Nn i → ∀ b, b < Nn i → a ≠ b → (Tn i a).2.1 ≠ (Tn i b).2.1 := by
  match i, h with
  | 0, _ => exact nmX0
  | 1, _ => exact nmX1
  | 2, _ => exact nmX2
  | 3, _ => exact nmX3
  | 4, _ => exact nmX4
  | 5, _ => exact nmX5
  | 6, _ => exact nmX6
  | 7, _ => exact nmX7
theorem ma_in0 : ∀ i, i < 8 → ∀ w ∈ u_ws (Rn i) (Tn i) (Nn i), w ∈ ma_tbl := by decide +kernel
theorem ma_in1 : ∀ i, i < 8 → ∀ k, k < Nn i → (Tn i k).1 = Rn i := by decide +kernel
/-- Strings, the nest's words, the arrays' words -/
def ma_str : List (Nat × String) := [(55, "books"), (64, "want"), (98, "stay"), (100, "step"), (102, "front"), (104, "often")]
def ma_len : List Nat := [5, 4, 4, 4, 5, 5]
def ma_byt : List (List Int32) := [[98, 111, 111, 107, 115], [119, 97, 110, 116], [115, 116, 97, 121], [115, 116, 101, 112], [102, 114, 111, 110, 116], [111, 102, 116, 101, 110]]
def ma_nest : List (Nat × MethodName) := [(29, yX5_init), (36, yX2_init), (49, yX1_init), (68, yX3_init)]
def ma_S (G : WG) (U : State) (H : Heap) : Prop :=
  va_K G.2.2.2.1 vwCl (ma_tys G.2.2.2.2) U ∧ (va_AO RX0 U ∧ va_AO RX3 U ∧ va_AO RX4 U) ∧ (∀ q ∈ ma_nest, va_Nw (.methodLinkNest RX6 q.1 q.2 RX6) U) ∧
  vk_S 6 ma_len ma_byt G.2.1 G.2.2.1 (ma_A G) U H ∧ (∀ i (h : i < ma_str.length), vk_R RX5 (ma_str[i]).1 (ma_str[i]).2 (G.2.1 i) U) ∧
  va_Z "java/lang/String" "COMPACT_STRINGS" "Z" (.int 1) (ma_A G) U H ∧ va_Zq "jdk/internal/util/Preconditions" "SIOOBE_FORMATTER" "Ljava/util/function/BiFunction;" (ma_A G) U H
theorem ma_S.warm {G : WG} {s U : State} {H H1 : Heap} (h : ma_S G s H) (hW : s.WarmedH U.vm) (hq : ∀ a : Nat, a < H.size → ¬ ma_A G a → H1[a]? = H[a]?) : ma_S G U H1 := by
  obtain ⟨h1, ⟨h2, h3, h4⟩, h5, h6, h7, h8, h9⟩ := h
  have ha := hW.alike
  exact ⟨va_K.moved ha h1, ⟨va_AO.moved ha h2, va_AO.moved ha h3, va_AO.moved ha h4⟩, fun q hq => va_Nw.warmM hW (h5 q hq), (vk_S.moved ha h6).kept hq, fun i hi => vk_R.warm hW (h7 i hi), (va_Z.moved ha h8).kept hq, (va_Zq.moved ha h9).kept hq⟩
theorem ma_S.same {G : WG} {s U : State} {H : Heap} (h : ma_S G s H) (hv : s.vm = U.vm) : ma_S G U H := by
  obtain ⟨h1, ⟨h2, h3, h4⟩, h5, h6, h7, h8, h9⟩ := h
  have ha : s.vm.Alike U.vm := by rw [hv]; exact Vm.Alike.refl U.vm
  exact ⟨va_K.moved ha h1, ⟨va_AO.moved ha h2, va_AO.moved ha h3, va_AO.moved ha h4⟩, fun q hq => va_Nw.same rfl hv (h5 q hq), vk_S.moved ha h6, fun i hi => vk_R.same hv.symm (h7 i hi), va_Z.moved ha h8, va_Zq.moved ha h9⟩
def ma_W (G : WG) (M : Mem) (U : State) : Prop := U.heap.size = G.1 + M.1.1 ∧ va_P G.2.2.2.1 vwCl (ma_lm G M) U.heap ∧ ma_wf M
abbrev MT : Type := MethodName × ByteArray × Nat × Option FieldType
def ma_Q (G : WG) (r : Option Value) (M : Mem) : Array Value → State → Outcome → State → Prop := fun _ st oc t =>
  (oc = .returned (r.map (ma_tv G)) ∧ t.heap.size = G.1 + M.1.1 ∧ va_P G.2.2.2.1 vwCl (ma_lm G M) t.heap ∧ ma_wf M) ∧ va_F (ma_A G) st t
/-- a method's CONTRACT over memories: with d frames below it, from these arguments and this memory it answers r and leaves that memory -/
def Cl (d : Nat) (y : MT) (args : List Value) (M : Mem) (r : Option Value) (M' : Mem) : Prop :=
  M.1.1 ≤ M'.1.1 ∧ M.1.2 ≤ M'.1.2 ∧ ∀ (l : Launch) (G : WG), Met l y.1 (.code y.1 y.2.1 y.2.2.1 y.2.2.2 :: ma_tbl) { frames := d, cells := M'.1.1 - M.1.1, slots := M'.1.2 - M.1.2, locals := 36 * d }
    (va_Pc (args.map (ma_tv G)) (fun U => ma_W G M U ∧ ma_S G U U.heap)) (ma_Q G r M') (M'.1.1 - M.1.1) (M'.1.2 - M.1.2) (ma_A G)
/-- the locals -/
def ma_L (G : WG) (nL : Nat) (ls : List Value) (rl : Array Slot) : Prop := rl.size = nL ∧ lv_wf rl ∧ ls.length = nL ∧ ∀ (i : Nat) (v : Value), ls[i]? = some v → v ≠ .null → rl[i]? = some (.val (ma_tv G v))
def ma_VC (B : ByteArray) (nL : Nat) (o : String) (it : Bool) (d : Nat) (ret : Option FieldType) (X : Option (Nat × (Nat → Int32))) (G : WG) (p : Program) (R : Room) (s : State) (m : MethodId) (args : Array Value) (meth : Method) (c : Code) : Prop :=
  p.tables.exec = Jvm.exec ∧ c.code = B ∧ c.maxLocals = nL ∧ s.vm.findClass o = some m.cls ∧ (∀ w ∈ ma_tbl, w.before args s = true) ∧ ma_S G s s.heap ∧ (d ≤ R.frames ∧ 36 * d ≤ R.locals) ∧ meth.sig.returnType = ret ∧ meth.locks = false ∧ (it = true → meth.name = "<init>") ∧ G.1 ≤ s.heap.size ∧
  (∀ q, X = some q → va_X (G.2.1 1000) q.1 q.2 s s.heap ∧ G.2.1 1000 < G.1)
def ma_R (G : WG) (s : State) (z0 w0 : Nat) (M : Mem) (H : Heap) (locs : List Loc) : Prop :=
  z0 ≤ M.1.1 ∧ w0 ≤ M.1.2 ∧ H.size = G.1 + M.1.1 ∧ va_P G.2.2.2.1 vwCl (ma_lm G M) H ∧ ma_wf M ∧ va_S (ma_A G) s.heap H locs
def ma_VR (B : ByteArray) (ret : Option FieldType) (pc : Nat) : Option Value → Prop
  | none => ret = none ∧ decode B pc = .ok (.return_, 1)
  | some (.int v) => (∃ ty, ret = some ty ∧ narrow ty (.int v) = .int v) ∧ decode B pc = .ok (.ireturn, 1)
  | some (.long _) => ret = some .long ∧ decode B pc = .ok (.lreturn, 1)
  | _ => False
/-- the machine at pc, with these locals and this stack and memory, comes to its end with Q -/
def V (B : ByteArray) (nL : Nat) (o : String) (it : Bool) (d : Nat) (ret : Option FieldType) (X : Option (Nat × (Nat → Int32))) (zm wm : Nat) (pc : Nat) (ls st : List Value) (M : Mem) (Q : Option Value → Mem → Prop) : Prop :=
  ∀ (G : WG) (p : Program) (l : Launch) (e : Env) (R : Room) (s : State) (m : MethodId) (args : Array Value) (below : List Frame) (meth : Method) (c : Code) (z0 w0 : Nat) (Z : State → Prop),
    ma_VC B nL o it d ret X G p R s m args meth c → zm - z0 ≤ R.cells → wm - w0 ≤ R.slots →
    (∀ (r : Option Value) (M' : Mem) (H' : Heap) (locs' : List Loc) (pc' : Nat) (rl' : Array Slot), ma_R G s z0 w0 M' H' locs' → Q r M' → ma_VR B ret pc' r → W p l e R s m args below meth c H' locs' (M'.1.1 - z0) (M'.1.2 - w0) Z (F0 m pc' rl' (r.toList.map (ma_tv G)))) →
    ∀ (H : Heap) (locs : List Loc) (rl : Array Slot), ma_R G s z0 w0 M H locs → ma_L G nL ls rl → W p l e R s m args below meth c H locs (M.1.1 - z0) (M.1.2 - w0) Z (F0 m pc rl (st.map (ma_tv G)))
end
section
/-! THE RULES: one for each instruction, over memories -/
def ma_al (G : WG) (ls : List Value) : List (Nat × Value) := (List.range ls.length).filterMap fun j => match ls[j]? with
  | some v => if v = .null then none else some (j, ma_tv G v)
  | none => none
theorem ma_al_mem {G : WG} {ls : List Value} {q : Nat × Value} : q ∈ ma_al G ls ↔ ∃ v, ls[q.1]? = some v ∧ v ≠ .null ∧ q.2 = ma_tv G v := by
  constructor
  · intro h
    obtain ⟨j, hj, he⟩ := List.mem_filterMap.mp h
    cases hl : ls[j]? with
    | none => simp [hl] at he
    | some v =>
      by_cases hv : v = .null
      · simp [hl, hv] at he
      · simp [hl, hv] at he
        subst he
        exact ⟨v, hl, hv, rfl⟩
  · rintro ⟨v, h1, h2, h3⟩
    refine List.mem_filterMap.mpr ⟨q.1, List.mem_range.mpr (List.getElem?_eq_some_iff.mp h1).1, ?_⟩
    simp [h1, h2, ← h3]
theorem ma_L.has {G : WG} {nL : Nat} {ls : List Value} {rl : Array Slot} (h : ma_L G nL ls rl) : lv_has rl nL (ma_al G ls) := by
  refine ⟨h.1, h.2.1, fun q hq => ?_⟩
  obtain ⟨v, h1, h2, h3⟩ := ma_al_mem.mp hq
  rw [h3]
  exact h.2.2.2 _ _ h1 h2
def ma_okS (ls : List Value) (i : Nat) : Bool := match i with
  | 0 => true
  | j + 1 => match ls[j]? with
    | some v => v.category != 2
    | none => true
theorem ma_okS_ne {ls : List Value} {i j : Nat} {v : Value} (h : ma_okS ls i = true) (hj : j + 1 = i) (hv : ls[j]? = some v) : ¬ v.category = 2 := by
  subst hj
  simp [ma_okS, hv] at h
  exact h
theorem ma_L.set1 {G : WG} {nL i : Nat} {ls : List Value} {rl rl' : Array Slot} {v w : Value} (h : ma_L G nL ls rl) (hok : ma_okS ls i = true) (hw : w = ma_tv G v)
    (h' : lv_has rl' nL ((i, w) :: (ma_al G ls).filter (fun q => !(q.1 == i) && !(q.1 + 1 == i && q.2.category == 2)))) : ma_L G nL (ls.set i v) rl' := by
  refine ⟨h'.1, h'.2.1, by rw [List.length_set]; exact h.2.2.1, fun j u hj hu => ?_⟩
  by_cases e : j = i
  · subst e
    have h1 := h'.2.2 (j, w) List.mem_cons_self
    have h2 : u = v := by
      rw [List.getElem?_set] at hj
      simp at hj
      exact hj.2.symm
    rw [h2, ← hw]
    exact h1
  · rw [List.getElem?_set_ne (fun z => e z.symm)] at hj
    refine h'.2.2 (j, ma_tv G u) (List.mem_cons_of_mem _ (List.mem_filter.mpr ⟨ma_al_mem.mpr ⟨u, hj, hu, rfl⟩, ?_⟩))
    by_cases e2 : j + 1 = i
    · have := ma_okS_ne hok e2 hj
      simp [e, ma_cat, this]
    · simp [e, e2]
theorem ma_L.set2 {G : WG} {nL i : Nat} {ls : List Value} {rl rl' : Array Slot} {v w : Value} (h : ma_L G nL ls rl) (hok : ma_okS ls i = true) (hw : w = ma_tv G v)
    (h' : lv_has rl' nL ((i, w) :: (ma_al G ls).filter (fun q => !(q.1 == i) && (!(q.1 == i + 1) && !(q.1 + 1 == i && q.2.category == 2))))) : ma_L G nL ((ls.set i v).set (i + 1) .null) rl' := by
  refine ⟨h'.1, h'.2.1, by rw [List.length_set, List.length_set]; exact h.2.2.1, fun j u hj hu => ?_⟩
  by_cases e1 : j = i + 1
  · subst e1
    rw [List.getElem?_set] at hj
    simp at hj
    exact absurd hj.2.symm hu
  · rw [List.getElem?_set_ne (fun z => e1 z.symm)] at hj
    by_cases e : j = i
    · subst e
      have h1 := h'.2.2 (j, w) List.mem_cons_self
      have h2 : u = v := by
        rw [List.getElem?_set] at hj
        simp at hj
        exact hj.2.symm
      rw [h2, ← hw]
      exact h1
    · rw [List.getElem?_set_ne (fun z => e z.symm)] at hj
      refine h'.2.2 (j, ma_tv G u) (List.mem_cons_of_mem _ (List.mem_filter.mpr ⟨ma_al_mem.mpr ⟨u, hj, hu, rfl⟩, ?_⟩))
      by_cases e2 : j + 1 = i
      · have := ma_okS_ne hok e2 hj
        simp [e, e1, ma_cat, this]
      · simp [e, e1, e2]
section RULES
variable {B : ByteArray} {nL : Nat} {o : String} {it : Bool} {d : Nat} {ret : Option FieldType} {X : Option (Nat × (Nat → Int32))} {zm wm pc q : Nat} {ls st : List Value} {M : Mem} {Q : Option Value → Mem → Prop}
theorem V_iconst {n : Int} {v : Int32} (hd : decode B pc = .ok (.iconst n, 1)) (hv : Int32.ofInt n = v) (hq : pc + 1 = q) (h : V B nL o it d ret X zm wm q ls (.int v :: st) M Q) : V B nL o it d ret X zm wm pc ls (st) M Q := by
  intro G p l e R s m args below meth c z0 w0 Z C hz hw hr H locs rl hR hL
  subst hq
  exact lv_iconst C.1 C.2.1 hd hv (h G p l e R s m args below meth c z0 w0 Z C hz hw hr H locs rl hR hL)
theorem V_bipush {n : Int} {v : Int32} (hd : decode B pc = .ok (.bipush n, 2)) (hv : (Int8.ofInt n).toInt32 = v) (hq : pc + 2 = q) (h : V B nL o it d ret X zm wm q ls (.int v :: st) M Q) : V B nL o it d ret X zm wm pc ls (st) M Q := by
  intro G p l e R s m args below meth c z0 w0 Z C hz hw hr H locs rl hR hL
  subst hq
  exact lv_bipush C.1 C.2.1 hd hv (h G p l e R s m args below meth c z0 w0 Z C hz hw hr H locs rl hR hL)
theorem V_sipush {n : Int} {v : Int32} (hd : decode B pc = .ok (.sipush n, 3)) (hv : (Int16.ofInt n).toInt32 = v) (hq : pc + 3 = q) (h : V B nL o it d ret X zm wm q ls (.int v :: st) M Q) : V B nL o it d ret X zm wm pc ls (st) M Q := by
  intro G p l e R s m args below meth c z0 w0 Z C hz hw hr H locs rl hR hL
  subst hq
  exact lv_sipush C.1 C.2.1 hd hv (h G p l e R s m args below meth c z0 w0 Z C hz hw hr H locs rl hR hL)
theorem V_lconst {n : Fin 2} {v : Int64} (hd : decode B pc = .ok (.lconst n, 1)) (hv : Int64.ofNat (n : Nat) = v) (hq : pc + 1 = q) (h : V B nL o it d ret X zm wm q ls (.long v :: st) M Q) : V B nL o it d ret X zm wm pc ls (st) M Q := by
  intro G p l e R s m args below meth c z0 w0 Z C hz hw hr H locs rl hR hL
  subst hq
  exact lv_lconst C.1 C.2.1 hd hv (h G p l e R s m args below meth c z0 w0 Z C hz hw hr H locs rl hR hL)
theorem V_iload_n {k : Fin 4} {i : Nat} {x : Int32} (hd : decode B pc = .ok (.iload_n k, 1)) (hk : (k : Nat) = i) (hl : ls[i]? = some (.int x)) (hq : pc + 1 = q) (h : V B nL o it d ret X zm wm q ls (.int x :: st) M Q) : V B nL o it d ret X zm wm pc ls (st) M Q := by
  intro G p l e R s m args below meth c z0 w0 Z C hz hw hr H locs rl hR hL
  subst hq
  exact lv_iload_n C.1 C.2.1 hd hk (hL.2.2.2 i _ hl (fun e => by cases e)) (h G p l e R s m args below meth c z0 w0 Z C hz hw hr H locs rl hR hL)
theorem V_iload {i : Nat} {x : Int32} (hd : decode B pc = .ok (.iload i, 2)) (hl : ls[i]? = some (.int x)) (hq : pc + 2 = q) (h : V B nL o it d ret X zm wm q ls (.int x :: st) M Q) : V B nL o it d ret X zm wm pc ls (st) M Q := by
  intro G p l e R s m args below meth c z0 w0 Z C hz hw hr H locs rl hR hL
  subst hq
  exact lv_iload C.1 C.2.1 hd (hL.2.2.2 i _ hl (fun e => by cases e)) (h G p l e R s m args below meth c z0 w0 Z C hz hw hr H locs rl hR hL)
theorem V_lload_n {k : Fin 4} {i : Nat} {x : Int64} (hd : decode B pc = .ok (.lload_n k, 1)) (hk : (k : Nat) = i) (hl : ls[i]? = some (.long x)) (hq : pc + 1 = q) (h : V B nL o it d ret X zm wm q ls (.long x :: st) M Q) : V B nL o it d ret X zm wm pc ls (st) M Q := by
  intro G p l e R s m args below meth c z0 w0 Z C hz hw hr H locs rl hR hL
  subst hq
  exact lv_lload_n C.1 C.2.1 hd hk (hL.2.2.2 i _ hl (fun e => by cases e)) (h G p l e R s m args below meth c z0 w0 Z C hz hw hr H locs rl hR hL)
theorem V_lload {i : Nat} {x : Int64} (hd : decode B pc = .ok (.lload i, 2)) (hl : ls[i]? = some (.long x)) (hq : pc + 2 = q) (h : V B nL o it d ret X zm wm q ls (.long x :: st) M Q) : V B nL o it d ret X zm wm pc ls (st) M Q := by
  intro G p l e R s m args below meth c z0 w0 Z C hz hw hr H locs rl hR hL
  subst hq
  exact lv_lload C.1 C.2.1 hd (hL.2.2.2 i _ hl (fun e => by cases e)) (h G p l e R s m args below meth c z0 w0 Z C hz hw hr H locs rl hR hL)
theorem V_aload_n {k : Fin 4} {i : Nat} {x : Nat} (hd : decode B pc = .ok (.aload_n k, 1)) (hk : (k : Nat) = i) (hl : ls[i]? = some (.ref x)) (hq : pc + 1 = q) (h : V B nL o it d ret X zm wm q ls (.ref x :: st) M Q) : V B nL o it d ret X zm wm pc ls (st) M Q := by
  intro G p l e R s m args below meth c z0 w0 Z C hz hw hr H locs rl hR hL
  subst hq
  exact lv_aload_n C.1 C.2.1 hd hk (hL.2.2.2 i _ hl (fun e => by cases e)) (h G p l e R s m args below meth c z0 w0 Z C hz hw hr H locs rl hR hL)
theorem V_aload {i : Nat} {x : Nat} (hd : decode B pc = .ok (.aload i, 2)) (hl : ls[i]? = some (.ref x)) (hq : pc + 2 = q) (h : V B nL o it d ret X zm wm q ls (.ref x :: st) M Q) : V B nL o it d ret X zm wm pc ls (st) M Q := by
  intro G p l e R s m args below meth c z0 w0 Z C hz hw hr H locs rl hR hL
  subst hq
  exact lv_aload C.1 C.2.1 hd (hL.2.2.2 i _ hl (fun e => by cases e)) (h G p l e R s m args below meth c z0 w0 Z C hz hw hr H locs rl hR hL)
theorem V_sload_n {k : Fin 4} {i : Nat} {x : UInt32} (hd : decode B pc = .ok (.aload_n k, 1)) (hk : (k : Nat) = i) (hl : ls[i]? = some (.float x)) (hq : pc + 1 = q) (h : V B nL o it d ret X zm wm q ls (.float x :: st) M Q) : V B nL o it d ret X zm wm pc ls (st) M Q := by
  intro G p l e R s m args below meth c z0 w0 Z C hz hw hr H locs rl hR hL
  subst hq
  exact lv_aload_n (x := G.2.1 x.toNat) C.1 C.2.1 hd hk (hL.2.2.2 i _ hl (fun e => by cases e)) (h G p l e R s m args below meth c z0 w0 Z C hz hw hr H locs rl hR hL)
theorem V_istore_n {k : Fin 4} {i : Nat} {x : Int32} (hd : decode B pc = .ok (.istore_n k, 1)) (hk : (k : Nat) = i) (hi : i < nL) (hok : ma_okS ls i = true) {ls' : List Value} (hs : ls.set i (.int x) = ls') (hq : pc + 1 = q) (h : V B nL o it d ret X zm wm q ls' st M Q) : V B nL o it d ret X zm wm pc ls (.int x :: st) M Q := by
  intro G p l e R s m args below meth c z0 w0 Z C hz hw hr H locs rl hR hL
  subst hq
  subst hs
  exact lv_istore_n C.1 C.2.1 hd hk hL.has hi rfl (fun rl' h' => h G p l e R s m args below meth c z0 w0 Z C hz hw hr H locs rl' hR (hL.set1 (v := .int x) hok rfl h'))
theorem V_istore {i : Nat} {x : Int32} (hd : decode B pc = .ok (.istore i, 2)) (hi : i < nL) (hok : ma_okS ls i = true) {ls' : List Value} (hs : ls.set i (.int x) = ls') (hq : pc + 2 = q) (h : V B nL o it d ret X zm wm q ls' st M Q) : V B nL o it d ret X zm wm pc ls (.int x :: st) M Q := by
  intro G p l e R s m args below meth c z0 w0 Z C hz hw hr H locs rl hR hL
  subst hq
  subst hs
  exact lv_istore C.1 C.2.1 hd hL.has hi rfl (fun rl' h' => h G p l e R s m args below meth c z0 w0 Z C hz hw hr H locs rl' hR (hL.set1 (v := .int x) hok rfl h'))
theorem V_astore_n {k : Fin 4} {i : Nat} {x : Nat} (hd : decode B pc = .ok (.astore_n k, 1)) (hk : (k : Nat) = i) (hi : i < nL) (hok : ma_okS ls i = true) {ls' : List Value} (hs : ls.set i (.ref x) = ls') (hq : pc + 1 = q) (h : V B nL o it d ret X zm wm q ls' st M Q) : V B nL o it d ret X zm wm pc ls (.ref x :: st) M Q := by
  intro G p l e R s m args below meth c z0 w0 Z C hz hw hr H locs rl hR hL
  subst hq
  subst hs
  exact lv_astore_n C.1 C.2.1 hd hk hL.has hi rfl (fun rl' h' => h G p l e R s m args below meth c z0 w0 Z C hz hw hr H locs rl' hR (hL.set1 (v := .ref x) hok rfl h'))
theorem V_astore {i : Nat} {x : Nat} (hd : decode B pc = .ok (.astore i, 2)) (hi : i < nL) (hok : ma_okS ls i = true) {ls' : List Value} (hs : ls.set i (.ref x) = ls') (hq : pc + 2 = q) (h : V B nL o it d ret X zm wm q ls' st M Q) : V B nL o it d ret X zm wm pc ls (.ref x :: st) M Q := by
  intro G p l e R s m args below meth c z0 w0 Z C hz hw hr H locs rl hR hL
  subst hq
  subst hs
  exact lv_astore C.1 C.2.1 hd hL.has hi rfl (fun rl' h' => h G p l e R s m args below meth c z0 w0 Z C hz hw hr H locs rl' hR (hL.set1 (v := .ref x) hok rfl h'))
theorem V_lstore_n {k : Fin 4} {i : Nat} {x : Int64} (hd : decode B pc = .ok (.lstore_n k, 1)) (hk : (k : Nat) = i) (hi : i + 1 < nL) (hok : ma_okS ls i = true) {ls' : List Value} (hs : (ls.set i (.long x)).set (i + 1) .null = ls') (hq : pc + 1 = q) (h : V B nL o it d ret X zm wm q ls' st M Q) : V B nL o it d ret X zm wm pc ls (.long x :: st) M Q := by
  intro G p l e R s m args below meth c z0 w0 Z C hz hw hr H locs rl hR hL
  subst hq
  subst hs
  exact lv_lstore_n C.1 C.2.1 hd hk hL.has hi rfl (fun rl' h' => h G p l e R s m args below meth c z0 w0 Z C hz hw hr H locs rl' hR (hL.set2 (v := .long x) hok rfl h'))
theorem V_lstore {i : Nat} {x : Int64} (hd : decode B pc = .ok (.lstore i, 2)) (hi : i + 1 < nL) (hok : ma_okS ls i = true) {ls' : List Value} (hs : (ls.set i (.long x)).set (i + 1) .null = ls') (hq : pc + 2 = q) (h : V B nL o it d ret X zm wm q ls' st M Q) : V B nL o it d ret X zm wm pc ls (.long x :: st) M Q := by
  intro G p l e R s m args below meth c z0 w0 Z C hz hw hr H locs rl hR hL
  subst hq
  subst hs
  exact lv_lstore C.1 C.2.1 hd hL.has hi rfl (fun rl' h' => h G p l e R s m args below meth c z0 w0 Z C hz hw hr H locs rl' hR (hL.set2 (v := .long x) hok rfl h'))
theorem V_iinc {i : Nat} {n : Int} {x v : Int32} (hd : decode B pc = .ok (.iinc i n, 3)) (hl : ls[i]? = some (.int x)) (hv : x + Int32.ofInt n = v) (hok : ma_okS ls i = true) {ls' : List Value} (hs : ls.set i (.int v) = ls') (hq : pc + 3 = q) (h : V B nL o it d ret X zm wm q ls' st M Q) : V B nL o it d ret X zm wm pc ls st M Q := by
  intro G p l e R s m args below meth c z0 w0 Z C hz hw hr H locs rl hR hL
  subst hq
  subst hs
  have hi : i < nL := by rw [← hL.2.2.1]; exact (List.getElem?_eq_some_iff.mp hl).1
  have hm : (i, Value.int x) ∈ ma_al G ls := ma_al_mem.mpr ⟨.int x, hl, (fun e => by cases e), rfl⟩
  obtain ⟨k, hk⟩ := List.getElem?_of_mem hm
  exact lv_iinc C.1 C.2.1 hd hL.has hk hv hi rfl (fun rl' h' => h G p l e R s m args below meth c z0 w0 Z C hz hw hr H locs rl' hR (hL.set1 (v := .int v) hok rfl h'))
theorem V_iadd {x y : Int32} (hd : decode B pc = .ok (.iadd, 1)) (hq : pc + 1 = q) (h : V B nL o it d ret X zm wm q ls (.int (x + y) :: st) M Q) : V B nL o it d ret X zm wm pc ls (.int y :: .int x :: st) M Q := by
  intro G p l e R s m args below meth c z0 w0 Z C hz hw hr H locs rl hR hL
  subst hq
  exact lv_iadd C.1 C.2.1 hd (h G p l e R s m args below meth c z0 w0 Z C hz hw hr H locs rl hR hL)
theorem V_isub {x y : Int32} (hd : decode B pc = .ok (.isub, 1)) (hq : pc + 1 = q) (h : V B nL o it d ret X zm wm q ls (.int (x - y) :: st) M Q) : V B nL o it d ret X zm wm pc ls (.int y :: .int x :: st) M Q := by
  intro G p l e R s m args below meth c z0 w0 Z C hz hw hr H locs rl hR hL
  subst hq
  exact lv_isub C.1 C.2.1 hd (h G p l e R s m args below meth c z0 w0 Z C hz hw hr H locs rl hR hL)
theorem V_imul {x y : Int32} (hd : decode B pc = .ok (.imul, 1)) (hq : pc + 1 = q) (h : V B nL o it d ret X zm wm q ls (.int (x * y) :: st) M Q) : V B nL o it d ret X zm wm pc ls (.int y :: .int x :: st) M Q := by
  intro G p l e R s m args below meth c z0 w0 Z C hz hw hr H locs rl hR hL
  subst hq
  exact lv_imul C.1 C.2.1 hd (h G p l e R s m args below meth c z0 w0 Z C hz hw hr H locs rl hR hL)
theorem V_iand {x y : Int32} (hd : decode B pc = .ok (.iand, 1)) (hq : pc + 1 = q) (h : V B nL o it d ret X zm wm q ls (.int (x &&& y) :: st) M Q) : V B nL o it d ret X zm wm pc ls (.int y :: .int x :: st) M Q := by
  intro G p l e R s m args below meth c z0 w0 Z C hz hw hr H locs rl hR hL
  subst hq
  exact lv_iand C.1 C.2.1 hd (h G p l e R s m args below meth c z0 w0 Z C hz hw hr H locs rl hR hL)
theorem V_ior {x y : Int32} (hd : decode B pc = .ok (.ior, 1)) (hq : pc + 1 = q) (h : V B nL o it d ret X zm wm q ls (.int (x ||| y) :: st) M Q) : V B nL o it d ret X zm wm pc ls (.int y :: .int x :: st) M Q := by
  intro G p l e R s m args below meth c z0 w0 Z C hz hw hr H locs rl hR hL
  subst hq
  exact lv_ior C.1 C.2.1 hd (h G p l e R s m args below meth c z0 w0 Z C hz hw hr H locs rl hR hL)
theorem V_ishl {x y : Int32} (hd : decode B pc = .ok (.ishl, 1)) (hq : pc + 1 = q) (h : V B nL o it d ret X zm wm q ls (.int (x <<< (y &&& 31)) :: st) M Q) : V B nL o it d ret X zm wm pc ls (.int y :: .int x :: st) M Q := by
  intro G p l e R s m args below meth c z0 w0 Z C hz hw hr H locs rl hR hL
  subst hq
  exact lv_ishl C.1 C.2.1 hd (h G p l e R s m args below meth c z0 w0 Z C hz hw hr H locs rl hR hL)
theorem V_ishr {x y : Int32} (hd : decode B pc = .ok (.ishr, 1)) (hq : pc + 1 = q) (h : V B nL o it d ret X zm wm q ls (.int (x >>> (y &&& 31)) :: st) M Q) : V B nL o it d ret X zm wm pc ls (.int y :: .int x :: st) M Q := by
  intro G p l e R s m args below meth c z0 w0 Z C hz hw hr H locs rl hR hL
  subst hq
  exact lv_ishr C.1 C.2.1 hd (h G p l e R s m args below meth c z0 w0 Z C hz hw hr H locs rl hR hL)
theorem V_iushr {x y : Int32} (hd : decode B pc = .ok (.iushr, 1)) (hq : pc + 1 = q) (h : V B nL o it d ret X zm wm q ls (.int (x.toUInt32 >>> (y.toUInt32 &&& Int32.toUInt32 31)).toInt32 :: st) M Q) : V B nL o it d ret X zm wm pc ls (.int y :: .int x :: st) M Q := by
  intro G p l e R s m args below meth c z0 w0 Z C hz hw hr H locs rl hR hL
  subst hq
  exact lv_iushr C.1 C.2.1 hd rfl (h G p l e R s m args below meth c z0 w0 Z C hz hw hr H locs rl hR hL)
theorem V_idiv {x y : Int32} (hd : decode B pc = .ok (.idiv, 1)) (hne : ¬ y = 0) (hq : pc + 1 = q) (h : V B nL o it d ret X zm wm q ls (.int (x / y) :: st) M Q) : V B nL o it d ret X zm wm pc ls (.int y :: .int x :: st) M Q := by
  intro G p l e R s m args below meth c z0 w0 Z C hz hw hr H locs rl hR hL
  subst hq
  exact lv_idiv C.1 C.2.1 hd hne (h G p l e R s m args below meth c z0 w0 Z C hz hw hr H locs rl hR hL)
theorem V_irem {x y : Int32} (hd : decode B pc = .ok (.irem, 1)) (hne : ¬ y = 0) (hq : pc + 1 = q) (h : V B nL o it d ret X zm wm q ls (.int (x - x / y * y) :: st) M Q) : V B nL o it d ret X zm wm pc ls (.int y :: .int x :: st) M Q := by
  intro G p l e R s m args below meth c z0 w0 Z C hz hw hr H locs rl hR hL
  subst hq
  exact lv_irem C.1 C.2.1 hd hne (h G p l e R s m args below meth c z0 w0 Z C hz hw hr H locs rl hR hL)
theorem V_ladd {x y : Int64} (hd : decode B pc = .ok (.ladd, 1)) (hq : pc + 1 = q) (h : V B nL o it d ret X zm wm q ls (.long (x + y) :: st) M Q) : V B nL o it d ret X zm wm pc ls (.long y :: .long x :: st) M Q := by
  intro G p l e R s m args below meth c z0 w0 Z C hz hw hr H locs rl hR hL
  subst hq
  exact lv_ladd C.1 C.2.1 hd (h G p l e R s m args below meth c z0 w0 Z C hz hw hr H locs rl hR hL)
theorem V_lmul {x y : Int64} (hd : decode B pc = .ok (.lmul, 1)) (hq : pc + 1 = q) (h : V B nL o it d ret X zm wm q ls (.long (x * y) :: st) M Q) : V B nL o it d ret X zm wm pc ls (.long y :: .long x :: st) M Q := by
  intro G p l e R s m args below meth c z0 w0 Z C hz hw hr H locs rl hR hL
  subst hq
  exact lv_lmul C.1 C.2.1 hd (h G p l e R s m args below meth c z0 w0 Z C hz hw hr H locs rl hR hL)
theorem V_ldiv {x y : Int64} (hd : decode B pc = .ok (.ldiv, 1)) (hne : ¬ y = 0) (hq : pc + 1 = q) (h : V B nL o it d ret X zm wm q ls (.long (x / y) :: st) M Q) : V B nL o it d ret X zm wm pc ls (.long y :: .long x :: st) M Q := by
  intro G p l e R s m args below meth c z0 w0 Z C hz hw hr H locs rl hR hL
  subst hq
  exact lv_ldiv C.1 C.2.1 hd hne (h G p l e R s m args below meth c z0 w0 Z C hz hw hr H locs rl hR hL)
theorem V_lrem {x y : Int64} (hd : decode B pc = .ok (.lrem, 1)) (hne : ¬ y = 0) (hq : pc + 1 = q) (h : V B nL o it d ret X zm wm q ls (.long (x - x / y * y) :: st) M Q) : V B nL o it d ret X zm wm pc ls (.long y :: .long x :: st) M Q := by
  intro G p l e R s m args below meth c z0 w0 Z C hz hw hr H locs rl hR hL
  subst hq
  exact lv_lrem C.1 C.2.1 hd hne (h G p l e R s m args below meth c z0 w0 Z C hz hw hr H locs rl hR hL)
theorem V_lcmp {x y : Int64} (hd : decode B pc = .ok (.lcmp, 1)) (hq : pc + 1 = q) (h : V B nL o it d ret X zm wm q ls (.int (lg_cmp x y) :: st) M Q) : V B nL o it d ret X zm wm pc ls (.long y :: .long x :: st) M Q := by
  intro G p l e R s m args below meth c z0 w0 Z C hz hw hr H locs rl hR hL
  subst hq
  exact W.lcmp C.1 C.2.1 hd (h G p l e R s m args below meth c z0 w0 Z C hz hw hr H locs rl hR hL)
theorem V_i2l {x : Int32} (hd : decode B pc = .ok (.i2l, 1)) (hq : pc + 1 = q) (h : V B nL o it d ret X zm wm q ls (.long x.toInt64 :: st) M Q) : V B nL o it d ret X zm wm pc ls (.int x :: st) M Q := by
  intro G p l e R s m args below meth c z0 w0 Z C hz hw hr H locs rl hR hL
  subst hq
  exact lv_i2l C.1 C.2.1 hd rfl (h G p l e R s m args below meth c z0 w0 Z C hz hw hr H locs rl hR hL)
theorem V_i2b {x : Int32} (hd : decode B pc = .ok (.i2b, 1)) (hq : pc + 1 = q) (h : V B nL o it d ret X zm wm q ls (.int x.toInt8.toInt32 :: st) M Q) : V B nL o it d ret X zm wm pc ls (.int x :: st) M Q := by
  intro G p l e R s m args below meth c z0 w0 Z C hz hw hr H locs rl hR hL
  subst hq
  exact lv_i2b C.1 C.2.1 hd rfl (h G p l e R s m args below meth c z0 w0 Z C hz hw hr H locs rl hR hL)
theorem V_i2s {x : Int32} (hd : decode B pc = .ok (.i2s, 1)) (hq : pc + 1 = q) (h : V B nL o it d ret X zm wm q ls (.int x.toInt16.toInt32 :: st) M Q) : V B nL o it d ret X zm wm pc ls (.int x :: st) M Q := by
  intro G p l e R s m args below meth c z0 w0 Z C hz hw hr H locs rl hR hL
  subst hq
  exact lv_i2s C.1 C.2.1 hd rfl (h G p l e R s m args below meth c z0 w0 Z C hz hw hr H locs rl hR hL)
theorem V_dup {v : Value} (hd : decode B pc = .ok (.dup, 1)) (hv : v.category = 1) (hq : pc + 1 = q) (h : V B nL o it d ret X zm wm q ls (v :: v :: st) M Q) : V B nL o it d ret X zm wm pc ls (v :: st) M Q := by
  intro G p l e R s m args below meth c z0 w0 Z C hz hw hr H locs rl hR hL
  subst hq
  exact lv_dup C.1 C.2.1 hd (by rw [ma_cat]; exact hv) (h G p l e R s m args below meth c z0 w0 Z C hz hw hr H locs rl hR hL)
theorem V_pop {v : Value} (hd : decode B pc = .ok (.pop, 1)) (hv : v.category = 1) (hq : pc + 1 = q) (h : V B nL o it d ret X zm wm q ls (st) M Q) : V B nL o it d ret X zm wm pc ls (v :: st) M Q := by
  intro G p l e R s m args below meth c z0 w0 Z C hz hw hr H locs rl hR hL
  subst hq
  exact lv_pop C.1 C.2.1 hd (by rw [ma_cat]; exact hv) (h G p l e R s m args below meth c z0 w0 Z C hz hw hr H locs rl hR hL)
theorem V_dup2 {v w : Value} (hd : decode B pc = .ok (.dup2, 1)) (hv : v.category = 1) (hw1 : w.category = 1) (hq : pc + 1 = q) (h : V B nL o it d ret X zm wm q ls (v :: w :: v :: w :: st) M Q) : V B nL o it d ret X zm wm pc ls (v :: w :: st) M Q := by
  intro G p l e R s m args below meth c z0 w0 Z C hz hw hr H locs rl hR hL
  subst hq
  exact lv_dup2_11 C.1 C.2.1 hd (by rw [ma_cat]; exact hv) (by rw [ma_cat]; exact hw1) (h G p l e R s m args below meth c z0 w0 Z C hz hw hr H locs rl hR hL)
theorem V_if_eq {x : Int32} {off : Int} {tgt : Nat} (hd : decode B pc = .ok (.ifCond .eq off, 3)) (ht : (pc : Int) + off = (tgt : Int)) (hq : pc + 3 = q) (h1 : x = 0 → V B nL o it d ret X zm wm tgt ls st M Q) (h2 : ¬ x = 0 → V B nL o it d ret X zm wm q ls st M Q) : V B nL o it d ret X zm wm pc ls (.int x :: st) M Q := by
  intro G p l e R s m args below meth c z0 w0 Z C hz hw hr H locs rl hR hL
  subst hq
  exact lv_if_eq C.1 C.2.1 hd ht (fun z => h1 z G p l e R s m args below meth c z0 w0 Z C hz hw hr H locs rl hR hL) (fun z => h2 z G p l e R s m args below meth c z0 w0 Z C hz hw hr H locs rl hR hL)
theorem V_if_ne {x : Int32} {off : Int} {tgt : Nat} (hd : decode B pc = .ok (.ifCond .ne off, 3)) (ht : (pc : Int) + off = (tgt : Int)) (hq : pc + 3 = q) (h1 : ¬ x = 0 → V B nL o it d ret X zm wm tgt ls st M Q) (h2 : x = 0 → V B nL o it d ret X zm wm q ls st M Q) : V B nL o it d ret X zm wm pc ls (.int x :: st) M Q := by
  intro G p l e R s m args below meth c z0 w0 Z C hz hw hr H locs rl hR hL
  subst hq
  exact lv_if_ne C.1 C.2.1 hd ht (fun z => h1 z G p l e R s m args below meth c z0 w0 Z C hz hw hr H locs rl hR hL) (fun z => h2 z G p l e R s m args below meth c z0 w0 Z C hz hw hr H locs rl hR hL)
theorem V_if_lt {x : Int32} {off : Int} {tgt : Nat} (hd : decode B pc = .ok (.ifCond .lt off, 3)) (ht : (pc : Int) + off = (tgt : Int)) (hq : pc + 3 = q) (h1 : x < 0 → V B nL o it d ret X zm wm tgt ls st M Q) (h2 : ¬ x < 0 → V B nL o it d ret X zm wm q ls st M Q) : V B nL o it d ret X zm wm pc ls (.int x :: st) M Q := by
  intro G p l e R s m args below meth c z0 w0 Z C hz hw hr H locs rl hR hL
  subst hq
  exact lv_if_lt C.1 C.2.1 hd ht (fun z => h1 z G p l e R s m args below meth c z0 w0 Z C hz hw hr H locs rl hR hL) (fun z => h2 z G p l e R s m args below meth c z0 w0 Z C hz hw hr H locs rl hR hL)
theorem V_if_ge {x : Int32} {off : Int} {tgt : Nat} (hd : decode B pc = .ok (.ifCond .ge off, 3)) (ht : (pc : Int) + off = (tgt : Int)) (hq : pc + 3 = q) (h1 : 0 ≤ x → V B nL o it d ret X zm wm tgt ls st M Q) (h2 : ¬ 0 ≤ x → V B nL o it d ret X zm wm q ls st M Q) : V B nL o it d ret X zm wm pc ls (.int x :: st) M Q := by
  intro G p l e R s m args below meth c z0 w0 Z C hz hw hr H locs rl hR hL
  subst hq
  exact lv_if_ge C.1 C.2.1 hd ht (fun z => h1 z G p l e R s m args below meth c z0 w0 Z C hz hw hr H locs rl hR hL) (fun z => h2 z G p l e R s m args below meth c z0 w0 Z C hz hw hr H locs rl hR hL)
theorem V_if_gt {x : Int32} {off : Int} {tgt : Nat} (hd : decode B pc = .ok (.ifCond .gt off, 3)) (ht : (pc : Int) + off = (tgt : Int)) (hq : pc + 3 = q) (h1 : 0 < x → V B nL o it d ret X zm wm tgt ls st M Q) (h2 : ¬ 0 < x → V B nL o it d ret X zm wm q ls st M Q) : V B nL o it d ret X zm wm pc ls (.int x :: st) M Q := by
  intro G p l e R s m args below meth c z0 w0 Z C hz hw hr H locs rl hR hL
  subst hq
  exact lv_if_gt C.1 C.2.1 hd ht (fun z => h1 z G p l e R s m args below meth c z0 w0 Z C hz hw hr H locs rl hR hL) (fun z => h2 z G p l e R s m args below meth c z0 w0 Z C hz hw hr H locs rl hR hL)
theorem V_if_le {x : Int32} {off : Int} {tgt : Nat} (hd : decode B pc = .ok (.ifCond .le off, 3)) (ht : (pc : Int) + off = (tgt : Int)) (hq : pc + 3 = q) (h1 : x ≤ 0 → V B nL o it d ret X zm wm tgt ls st M Q) (h2 : ¬ x ≤ 0 → V B nL o it d ret X zm wm q ls st M Q) : V B nL o it d ret X zm wm pc ls (.int x :: st) M Q := by
  intro G p l e R s m args below meth c z0 w0 Z C hz hw hr H locs rl hR hL
  subst hq
  exact lv_if_le C.1 C.2.1 hd ht (fun z => h1 z G p l e R s m args below meth c z0 w0 Z C hz hw hr H locs rl hR hL) (fun z => h2 z G p l e R s m args below meth c z0 w0 Z C hz hw hr H locs rl hR hL)
theorem V_icmp_eq {x y : Int32} {off : Int} {tgt : Nat} (hd : decode B pc = .ok (.if_icmp .eq off, 3)) (ht : (pc : Int) + off = (tgt : Int)) (hq : pc + 3 = q) (h1 : x = y → V B nL o it d ret X zm wm tgt ls st M Q) (h2 : ¬ x = y → V B nL o it d ret X zm wm q ls st M Q) : V B nL o it d ret X zm wm pc ls (.int y :: .int x :: st) M Q := by
  intro G p l e R s m args below meth c z0 w0 Z C hz hw hr H locs rl hR hL
  subst hq
  exact lv_icmp_eq C.1 C.2.1 hd ht (fun z => h1 z G p l e R s m args below meth c z0 w0 Z C hz hw hr H locs rl hR hL) (fun z => h2 z G p l e R s m args below meth c z0 w0 Z C hz hw hr H locs rl hR hL)
theorem V_icmp_ne {x y : Int32} {off : Int} {tgt : Nat} (hd : decode B pc = .ok (.if_icmp .ne off, 3)) (ht : (pc : Int) + off = (tgt : Int)) (hq : pc + 3 = q) (h1 : ¬ x = y → V B nL o it d ret X zm wm tgt ls st M Q) (h2 : x = y → V B nL o it d ret X zm wm q ls st M Q) : V B nL o it d ret X zm wm pc ls (.int y :: .int x :: st) M Q := by
  intro G p l e R s m args below meth c z0 w0 Z C hz hw hr H locs rl hR hL
  subst hq
  exact lv_icmp_ne C.1 C.2.1 hd ht (fun z => h1 z G p l e R s m args below meth c z0 w0 Z C hz hw hr H locs rl hR hL) (fun z => h2 z G p l e R s m args below meth c z0 w0 Z C hz hw hr H locs rl hR hL)
theorem V_icmp_lt {x y : Int32} {off : Int} {tgt : Nat} (hd : decode B pc = .ok (.if_icmp .lt off, 3)) (ht : (pc : Int) + off = (tgt : Int)) (hq : pc + 3 = q) (h1 : x < y → V B nL o it d ret X zm wm tgt ls st M Q) (h2 : ¬ x < y → V B nL o it d ret X zm wm q ls st M Q) : V B nL o it d ret X zm wm pc ls (.int y :: .int x :: st) M Q := by
  intro G p l e R s m args below meth c z0 w0 Z C hz hw hr H locs rl hR hL
  subst hq
  exact lv_icmp_lt C.1 C.2.1 hd ht (fun z => h1 z G p l e R s m args below meth c z0 w0 Z C hz hw hr H locs rl hR hL) (fun z => h2 z G p l e R s m args below meth c z0 w0 Z C hz hw hr H locs rl hR hL)
theorem V_icmp_ge {x y : Int32} {off : Int} {tgt : Nat} (hd : decode B pc = .ok (.if_icmp .ge off, 3)) (ht : (pc : Int) + off = (tgt : Int)) (hq : pc + 3 = q) (h1 : y ≤ x → V B nL o it d ret X zm wm tgt ls st M Q) (h2 : ¬ y ≤ x → V B nL o it d ret X zm wm q ls st M Q) : V B nL o it d ret X zm wm pc ls (.int y :: .int x :: st) M Q := by
  intro G p l e R s m args below meth c z0 w0 Z C hz hw hr H locs rl hR hL
  subst hq
  exact lv_icmp_ge C.1 C.2.1 hd ht (fun z => h1 z G p l e R s m args below meth c z0 w0 Z C hz hw hr H locs rl hR hL) (fun z => h2 z G p l e R s m args below meth c z0 w0 Z C hz hw hr H locs rl hR hL)
theorem V_icmp_gt {x y : Int32} {off : Int} {tgt : Nat} (hd : decode B pc = .ok (.if_icmp .gt off, 3)) (ht : (pc : Int) + off = (tgt : Int)) (hq : pc + 3 = q) (h1 : y < x → V B nL o it d ret X zm wm tgt ls st M Q) (h2 : ¬ y < x → V B nL o it d ret X zm wm q ls st M Q) : V B nL o it d ret X zm wm pc ls (.int y :: .int x :: st) M Q := by
  intro G p l e R s m args below meth c z0 w0 Z C hz hw hr H locs rl hR hL
  subst hq
  exact lv_icmp_gt C.1 C.2.1 hd ht (fun z => h1 z G p l e R s m args below meth c z0 w0 Z C hz hw hr H locs rl hR hL) (fun z => h2 z G p l e R s m args below meth c z0 w0 Z C hz hw hr H locs rl hR hL)
theorem V_icmp_le {x y : Int32} {off : Int} {tgt : Nat} (hd : decode B pc = .ok (.if_icmp .le off, 3)) (ht : (pc : Int) + off = (tgt : Int)) (hq : pc + 3 = q) (h1 : x ≤ y → V B nL o it d ret X zm wm tgt ls st M Q) (h2 : ¬ x ≤ y → V B nL o it d ret X zm wm q ls st M Q) : V B nL o it d ret X zm wm pc ls (.int y :: .int x :: st) M Q := by
  intro G p l e R s m args below meth c z0 w0 Z C hz hw hr H locs rl hR hL
  subst hq
  exact lv_icmp_le C.1 C.2.1 hd ht (fun z => h1 z G p l e R s m args below meth c z0 w0 Z C hz hw hr H locs rl hR hL) (fun z => h2 z G p l e R s m args below meth c z0 w0 Z C hz hw hr H locs rl hR hL)
theorem V_goto {off : Int} {tgt : Nat} (hd : decode B pc = .ok (.goto off, 3)) (ht : (pc : Int) + off = (tgt : Int)) (h : V B nL o it d ret X zm wm tgt ls st M Q) : V B nL o it d ret X zm wm pc ls st M Q := by
  intro G p l e R s m args below meth c z0 w0 Z C hz hw hr H locs rl hR hL
  exact lv_goto C.1 C.2.1 hd ht (h G p l e R s m args below meth c z0 w0 Z C hz hw hr H locs rl hR hL)
theorem V_tableOut {dflt lo hi : Int} {offs : Array Int} {len tgt : Nat} {x : Int32} (hd : decode B pc = .ok (.tableswitch dflt lo hi offs, len)) (hx : x.toInt < lo ∨ hi < x.toInt) (ht : (pc : Int) + dflt = (tgt : Int)) (h : V B nL o it d ret X zm wm tgt ls st M Q) : V B nL o it d ret X zm wm pc ls (.int x :: st) M Q := by
  intro G p l e R s m args below meth c z0 w0 Z C hz hw hr H locs rl hR hL
  exact lv_tableOut C.1 C.2.1 hd hx ht (h G p l e R s m args below meth c z0 w0 Z C hz hw hr H locs rl hR hL)
theorem V_tableIn {dflt lo hi off : Int} {offs : Array Int} {len tgt : Nat} {x : Int32} (hd : decode B pc = .ok (.tableswitch dflt lo hi offs, len)) (h1 : ¬ x.toInt < lo) (h2 : ¬ hi < x.toInt) (ho : offs[(x.toInt - lo).toNat]? = some off) (ht : (pc : Int) + off = (tgt : Int)) (h : V B nL o it d ret X zm wm tgt ls st M Q) : V B nL o it d ret X zm wm pc ls (.int x :: st) M Q := by
  intro G p l e R s m args below meth c z0 w0 Z C hz hw hr H locs rl hR hL
  exact lv_tableIn C.1 C.2.1 hd h1 h2 ho ht (h G p l e R s m args below meth c z0 w0 Z C hz hw hr H locs rl hR hL)
theorem V_lookup {dflt off : Int} {ps : Array (Int × Int)} {len tgt : Nat} {x : Int32} (hd : decode B pc = .ok (.lookupswitch dflt ps, len)) (hp : (ps.toList.zip (ps.toList.drop 1)).all (fun (a, next) => a.1 < next.1) = true) (ho : Op.lookupswitch.offset ps.toList dflt x.toInt = off) (ht : (pc : Int) + off = (tgt : Int)) (h : V B nL o it d ret X zm wm tgt ls st M Q) : V B nL o it d ret X zm wm pc ls (.int x :: st) M Q := by
  intro G p l e R s m args below meth c z0 w0 Z C hz hw hr H locs rl hR hL
  exact lv_lookup C.1 C.2.1 hd hp ho ht (h G p l e R s m args below meth c z0 w0 Z C hz hw hr H locs rl hR hL)
theorem V_top {x y : Int32} (e : x = y) (h : V B nL o it d ret X zm wm pc ls (.int y :: st) M Q) : V B nL o it d ret X zm wm pc ls (.int x :: st) M Q := by
  rw [e]; exact h
theorem V_ret (r : Option Value) {st' : List Value} (hs : r.toList = st') (hv : ma_VR B ret pc r) (h : Q r M) : V B nL o it d ret X zm wm pc ls st' M Q := by
  intro G p l e R s m args below meth c z0 w0 Z C hz hw hr H locs rl hR hL
  subst hs
  exact hr r M H locs pc rl hR h hv
theorem V_ireturn {v : Int32} (hd : decode B pc = .ok (.ireturn, 1)) (hi : ret = some .int) (h : Q (some (.int v)) M) : V B nL o it d ret X zm wm pc ls [.int v] M Q := V_ret (some (.int v)) rfl ⟨⟨_, hi, rfl⟩, hd⟩ h
theorem V_zreturn {v : Int32} (hd : decode B pc = .ok (.ireturn, 1)) (hi : ret = some .boolean) (hv : v = 0 ∨ v = 1) (h : Q (some (.int v)) M) : V B nL o it d ret X zm wm pc ls [.int v] M Q := V_ret (some (.int v)) rfl ⟨⟨_, hi, by rcases hv with rfl | rfl <;> rfl⟩, hd⟩ h
theorem V_lreturn {v : Int64} (hd : decode B pc = .ok (.lreturn, 1)) (hi : ret = some .long) (h : Q (some (.long v)) M) : V B nL o it d ret X zm wm pc ls [.long v] M Q := V_ret (some (.long v)) rfl ⟨hi, hd⟩ h
theorem V_return (hd : decode B pc = .ok (.return_, 1)) (hi : ret = none) (h : Q none M) : V B nL o it d ret X zm wm pc ls [] M Q := V_ret none rfl ⟨hi, hd⟩ h
theorem V_ldc {index : Nat} {v : Int32} (hd : decode B pc = .ok (.ldc index, 2)) (hm : Cond.constant o index v ∈ ma_tbl) (hq : pc + 2 = q) (h : V B nL o it d ret X zm wm q ls (.int v :: st) M Q) : V B nL o it d ret X zm wm pc ls st M Q := by
  intro G p l e R s m args below meth c z0 w0 Z C hz hw hr H locs rl hR hL
  subst hq
  exact lv_ldc C.1 C.2.1 C.2.2.2.1 (C.2.2.2.2.1 _ hm) hd (h G p l e R s m args below meth c z0 w0 Z C hz hw hr H locs rl hR hL)
theorem V_ldcw {index : Nat} {v : Int32} (hd : decode B pc = .ok (.ldc_w index, 3)) (hm : Cond.constant o index v ∈ ma_tbl) (hq : pc + 3 = q) (h : V B nL o it d ret X zm wm q ls (.int v :: st) M Q) : V B nL o it d ret X zm wm pc ls st M Q := by
  intro G p l e R s m args below meth c z0 w0 Z C hz hw hr H locs rl hR hL
  subst hq
  exact lv_ldcw C.1 C.2.1 C.2.2.2.1 (C.2.2.2.2.1 _ hm) hd (h G p l e R s m args below meth c z0 w0 Z C hz hw hr H locs rl hR hL)
theorem V_ldc2 {index : Nat} {v : Int64} (hd : decode B pc = .ok (.ldc2_w index, 3)) (hm : Cond.constantLong o index v ∈ ma_tbl) (hq : pc + 3 = q) (h : V B nL o it d ret X zm wm q ls (.long v :: st) M Q) : V B nL o it d ret X zm wm pc ls st M Q := by
  intro G p l e R s m args below meth c z0 w0 Z C hz hw hr H locs rl hR hL
  subst hq
  exact lv_ldc2 C.1 C.2.1 C.2.2.2.1 (C.2.2.2.2.1 _ hm) hd (h G p l e R s m args below meth c z0 w0 Z C hz hw hr H locs rl hR hL)
theorem V_ldcS {index i : Nat} {tx : String} (hd : decode B pc = .ok (.ldc index, 2)) (ho : o = RX5) (hs : ma_str[i]? = some (index, tx)) (hi : (UInt32.ofNat i).toNat = i) (hq : pc + 2 = q) (h : V B nL o it d ret X zm wm q ls (.float (UInt32.ofNat i) :: st) M Q) : V B nL o it d ret X zm wm pc ls st M Q := by
  intro G p l e R s m args below meth c z0 w0 Z C hz hw hr H locs rl hR hL
  subst hq
  obtain ⟨hlt, he⟩ := List.getElem?_eq_some_iff.mp hs
  have hzS := C.2.2.2.2.2.1.2.2.2.2.1 i hlt
  rw [he] at hzS
  have k := h G p l e R s m args below meth c z0 w0 Z C hz hw hr H locs rl hR hL
  simp only [List.map_cons, ma_tv, hi] at k
  exact va_ldcS C.1 C.2.1 (own := RX5) (by rw [← ho]; exact C.2.2.2.1) hzS hd k
end RULES
end
section
/-! THE RULES OF THE MEMORY: fields, rows, new cells, calls -/
/-- a field by its number: the link's word -/
def FL (o : String) (idx ci k : Nat) : Prop := ci < 8 ∧ k < Nn ci ∧ Cond.fieldLink o idx (Rn ci) (Tn ci k).2.1 (Tn ci k).2.2.1 ∈ ma_tbl
theorem ma_same {s : State} {ci k : Nat} (hc : ci < 8) (hk : k < Nn ci) : ∀ x, s.fieldFound? (Tn ci k).1 (Tn ci k).2.1 (Tn ci k).2.2.1 = some x → s.fieldFound? (Rn ci) (Tn ci k).2.1 (Tn ci k).2.2.1 = some x := by
  intro x h
  rw [← ma_in1 ci hc k hk]
  exact h
theorem ma_te_o {G : WG} {c : Nat} {fs : List Value} : ma_te G (.inr (c, fs)) = .inr (c, fs.map (ma_tv G)) := rfl
theorem ma_te_i {G : WG} {t n : Nat} {f : Nat → Int32} : ma_te G (.inl (t, n, .inl f)) = .inl (G.2.2.2.2 t, n, .inl f) := rfl
theorem ma_te_r {G : WG} {t n : Nat} {f : Nat → Option Nat} : ma_te G (.inl (t, n, .inr f)) = .inl (G.2.2.2.2 t, n, .inr (.inr (.inr (.inr (fun j => (f j).map (fun k => G.1 + k)))))) := rfl
theorem ma_R.put {G : WG} {s : State} {z0 w0 k : Nat} {M : Mem} {c : AC} {H H1 : Heap} {locs locs1 : List Loc} {e0 : va_E} (hR : ma_R G s z0 w0 M H locs) (hk : k < M.1.1) (he : e0 = ma_te G c) (hP : va_P G.2.2.2.1 vwCl ((ma_lm G M).set k (G.1 + k, e0)) H1) (hS : va_S (ma_A G) s.heap H1 locs1) (hz : H1.size = H.size) : ma_R G s z0 w0 (ma_put M k c) H1 locs1 := by
  obtain ⟨h1, h2, h3, h4, h5, h6⟩ := hR
  rw [he, ma_lm_put hk] at hP
  exact ⟨h1, h2, by rw [hz]; exact h3, hP, ma_wf_put h5 hk, hS⟩
theorem ma_R.new {G : WG} {s : State} {z0 w0 n : Nat} {M : Mem} {c : AC} {H H1 : Heap} {locs : List Loc} (hR : ma_R G s z0 w0 M H locs) (hz : H1.size = H.size + 1) (ho : ∀ q, q < H.size → H1[q]? = H[q]?) (he : va_at G.2.2.2.1 vwCl (H.size, ma_te G c) H1) : ma_R G s z0 w0 (ma_new M n c) H1 locs := by
  obtain ⟨h1, h2, h3, h4, h5, h6⟩ := hR
  have hk : ∀ (k : Nat) (x : Nat × va_E), (ma_lm G M)[k]? = some x → H1[x.1]? = H[x.1]? := fun k x hx => ho x.1 ((h4 k x hx).lt)
  refine ⟨Nat.le_succ_of_le h1, Nat.le_trans h2 (Nat.le_add_right _ _), ?_, ?_, ma_wf_new h5, ⟨Nat.le_trans h6.1 (by omega), fun x g1 g2 => (ho x (Nat.lt_of_lt_of_le g1 h6.1)).trans (h6.2.1 x g1 g2), h6.2.2⟩⟩
  · rw [hz, h3]; rfl
  · rw [← ma_lm_new, ← h3]
    refine (h4.kept hk).app (fun k x hx => ?_)
    have hz : k < 1 := (List.getElem?_eq_some_iff.mp hx).1
    rw [show k = 0 by omega] at hx
    cases hx
    exact he
theorem ma_sum (G : WG) (st : List Value) : ((st.map (ma_tv G)).map fun v => v.category).sum = (st.map fun v => v.category).sum := by
  rw [List.map_map]
  congr 1
  apply List.map_congr_left
  intro v _
  exact ma_cat G v
section MRULES
variable {B : ByteArray} {nL : Nat} {o : String} {it : Bool} {d : Nat} {ret : Option FieldType} {X : Option (Nat × (Nat → Int32))} {zm wm pc q : Nat} {ls st : List Value} {M : Mem} {Q : Option Value → Mem → Prop}
theorem V_getf {idx ci k a : Nat} {fs : List Value} {v : Value} (hd : decode B pc = .ok (.getfield idx, 3)) (hf : FL o idx ci k) (hc : M.2 a = some (.inr (ci, fs))) (hv : fs[k]? = some v) (hq : pc + 3 = q) (h : V B nL o it d ret X zm wm q ls (v :: st) M Q) : V B nL o it d ret X zm wm pc ls (.ref a :: st) M Q := by
  intro G p l e R s m args below meth c z0 w0 Z C hz hw hr H locs rl hR hL
  subst hq
  obtain ⟨h1, h2, h3, h4, h5, h6⟩ := id hR
  exact va_get C.1 C.2.1 C.2.2.2.2.1 (ma_in0 ci hf.1) C.2.2.2.1 C.2.2.2.2.2.1.1 h4 a (ma_lm_get hc h5) (ma_cl hf.1) k hf.2.1 (C.2.2.2.2.1 _ hf.2.2) (ma_same hf.1 hf.2.1) (v := ma_tv G v) (by rw [List.getElem?_map, hv]; rfl) hd (h G p l e R s m args below meth c z0 w0 Z C hz hw hr H locs rl hR hL)
theorem V_putI {idx ci k a : Nat} {fs : List Value} {x : Int32} (hd : decode B pc = .ok (.putfield idx, 3)) (hf : FL o idx ci k) (hn : (Tn ci k).2.2.2 = false) (hty : tyn ci k = .int ∨ (tyn ci k = .boolean ∧ (x = 0 ∨ x = 1))) (hc : M.2 a = some (.inr (ci, fs))) (hl : k < fs.length) (hq : pc + 3 = q) (h : V B nL o it d ret X zm wm q ls st (ma_put M a (.inr (ci, fs.set k (.int x)))) Q) : V B nL o it d ret X zm wm pc ls (.int x :: .ref a :: st) M Q := by
  intro G p l e R s m args below meth c z0 w0 Z C hz hw hr H locs rl hR hL
  subst hq
  obtain ⟨h1, h2, h3, h4, h5, h6⟩ := id hR
  have hK := C.2.2.2.2.2.1.1
  have hts := C.2.2.2.2.1
  have hin := ma_in0 ci hf.1
  have hclq := ma_cl hf.1
  have hap := va_apart (own := o) hts hin (tyn ci) (ma_tyn hf.1) (ma_nmn hf.1) hK hclq
  have he := ma_lm_get (G := G) hc h5
  obtain ⟨r, g1, cell, q1, q2, q3, q4⟩ := h4 a _ he
  have hr' : r = (Rn ci, Tn ci, Nn ci) := Option.some.inj (g1.symm.trans hclq)
  subst hr'
  obtain ⟨hS, hfc, kC, hkC, hkind⟩ := hK.1 ci _ hclq
  obtain ⟨cf, kf, fi, f, hi, hsl⟩ := hS k hf.2.1
  have hlay := hts _ (hin _ (u_in_lay hf.2.1))
  unfold u_lay at hlay
  rw [if_neg (by rw [hn]; decide)] at hlay
  have hst := (u_facts hfc hkC (u_lays hts hin hf.2.1) hi).1
  have hnf : narrow (tyn ci k) (.int x) = .int x ∧ fits (tyn ci k) (.int x) = true := by
    rcases hty with e1 | ⟨e1, rfl | rfl⟩ <;> rw [e1] <;> exact ⟨rfl, rfl⟩
  have h6' := u_store hfc hkC hkind hlay hi (ma_tyn hf.1 k hf.2.1) hnf.1 hnf.2
  refine W.putK C.1 C.2.1 (f := f) ⟨C.2.2.2.1, hts _ hf.2.2, ⟨_, _, _, ma_same hf.1 hf.2.1 _ hi⟩, hst⟩ (by rw [q2]; exact h6') q1 q3 (by rw [hsl]; exact k2_hasslot (q4 k hf.2.1)) rfl rfl hd fun H' e1 e2 e3 => ?_
  rw [hsl] at e1 ⊢
  have hP' := h4.set ma_lm_D he (e := .inr (ci, (fs.map (ma_tv G)).set k (.int x))) ⟨_, hclq, t_OB.to (V := updV (vp_V (fs.map (ma_tv G))) k (.int x)) ⟨_, e1, q2, q3, t_set q4 hap hf.2.1 _⟩ (fun j _ => vp_updV_set (by rw [List.length_map]; exact hl) _ j)⟩ e3
  exact h G p l e R s m args below meth c z0 w0 Z C hz hw hr H' _ rl (hR.put (c := .inr (ci, fs.set k (.int x))) (h5 a _ hc) (by rw [ma_te_o, List.map_set]; rfl) hP' (h6.put e2 e3 (Nat.le_add_right _ _)) e2) hL
theorem V_putF {idx ci k a b : Nat} {fs : List Value} (hd : decode B pc = .ok (.putfield idx, 3)) (hf : FL o idx ci k) (hit : it = true) (ho : o = Rn ci) (hn : (Tn ci k).2.2.2 = true) (hty : (∃ n, tyn ci k = .object n) ∨ ∃ t, tyn ci k = .array t) (hc : M.2 a = some (.inr (ci, fs))) (hl : k < fs.length) (hq : pc + 3 = q) (h : V B nL o it d ret X zm wm q ls st (ma_put M a (.inr (ci, fs.set k (.ref b)))) Q) : V B nL o it d ret X zm wm pc ls (.ref b :: .ref a :: st) M Q := by
  intro G p l e R s m args below meth c z0 w0 Z C hz hw hr H locs rl hR hL
  subst hq
  obtain ⟨h1, h2, h3, h4, h5, h6⟩ := id hR
  have hK := C.2.2.2.2.2.1.1
  have hts := C.2.2.2.2.1
  have hown := C.2.2.2.1
  have hin := ma_in0 ci hf.1
  have hclq := ma_cl hf.1
  have hap := va_apart (own := o) hts hin (tyn ci) (ma_tyn hf.1) (ma_nmn hf.1) hK hclq
  have he := ma_lm_get (G := G) hc h5
  obtain ⟨r, g1, cell, q1, q2, q3, q4⟩ := h4 a _ he
  have hr' : r = (Rn ci, Tn ci, Nn ci) := Option.some.inj (g1.symm.trans hclq)
  subst hr'
  obtain ⟨hS, hfc, kC, hkC, hkind⟩ := hK.1 ci _ hclq
  obtain ⟨cf, kf, fi, f, hi, hsl⟩ := hS k hf.2.1
  have hlay := hts _ (hin _ (u_in_lay hf.2.1))
  unfold u_lay at hlay
  rw [if_pos hn] at hlay
  have hst := (u_facts hfc hkC (u_lays hts hin hf.2.1) hi).1
  have hcf : m.cls = cf := by
    obtain ⟨_, _, c', _, _, _, -, -, hf', -, -, -, hown2, -⟩ := Cond.laysFinal_spec hlay
    have e1 : c' = cf := by have := hi.symm.trans hf'; simp at this; exact this.1.symm
    rw [ma_in1 ci hf.1 k hf.2.1, ← ho] at hown2
    rw [← e1]; exact Option.some.inj (hown.symm.trans hown2)
  have hnf : narrow (tyn ci k) (.ref (G.1 + b)) = .ref (G.1 + b) ∧ fits (tyn ci k) (.ref (G.1 + b)) = true := by
    rcases hty with ⟨n, e1⟩ | ⟨n, e1⟩ <;> rw [e1] <;> exact ⟨rfl, rfl⟩
  have h6' := u_fits hfc hkC hkind (Or.inr hlay) hi (ma_tyn hf.1 k hf.2.1) hnf.1 hnf.2
  refine W.putFinK C.1 C.2.1 hown (hts _ hf.2.2) (ma_same hf.1 hf.2.1 _ hi) hst hcf (C.2.2.2.2.2.2.2.2.2.1 hit) (by rw [q2]; exact h6') q1 q3 (by rw [hsl]; exact k2_hasslot (q4 k hf.2.1)) rfl rfl hd fun H' e1 e2 e3 => ?_
  rw [hsl] at e1 ⊢
  have hP' := h4.set ma_lm_D he (e := .inr (ci, (fs.map (ma_tv G)).set k (.ref (G.1 + b)))) ⟨_, hclq, t_OB.to (V := updV (vp_V (fs.map (ma_tv G))) k (.ref (G.1 + b))) ⟨_, e1, q2, q3, t_set q4 hap hf.2.1 _⟩ (fun j _ => vp_updV_set (by rw [List.length_map]; exact hl) _ j)⟩ e3
  exact h G p l e R s m args below meth c z0 w0 Z C hz hw hr H' _ rl (hR.put (c := .inr (ci, fs.set k (.ref b))) (h5 a _ hc) (by rw [ma_te_o, List.map_set]; rfl) hP' (h6.put e2 e3 (Nat.le_add_right _ _)) e2) hL
theorem V_iald {a n j : Nat} {f : Nat → Int32} {i : Int32} (hd : decode B pc = .ok (.iaload, 1)) (hc : M.2 a = some (.inl (0, n, .inl f))) (hi : i = nI j) (hj : j < n) (hn : n < 2 ^ 31) (hq : pc + 1 = q) (h : V B nL o it d ret X zm wm q ls (.int (f j) :: st) M Q) : V B nL o it d ret X zm wm pc ls (.int i :: .ref a :: st) M Q := by
  intro G p l e R s m args below meth c z0 w0 Z C hz hw hr H locs rl hR hL
  subst hq
  subst hi
  obtain ⟨h1, h2, h3, h4, h5, h6⟩ := id hR
  have k := h G p l e R s m args below meth c z0 w0 Z C hz hw hr H locs rl hR hL
  rw [← nI_clamp (n := j) (by omega)] at k
  exact va_iald C.1 C.2.1 C.2.2.2.2.2.1.1 h4 a 0 (ma_lm_get hc h5) rfl (vp_in_nI hj hn) hd k
theorem V_bald {a n j : Nat} {f : Nat → Int32} {i : Int32} (hd : decode B pc = .ok (.baload, 1)) (hc : M.2 a = some (.inl (1, n, .inl f))) (hi : i = nI j) (hj : j < n) (hn : n < 2 ^ 31) (hq : pc + 1 = q) (h : V B nL o it d ret X zm wm q ls (.int (f j) :: st) M Q) : V B nL o it d ret X zm wm pc ls (.int i :: .ref a :: st) M Q := by
  intro G p l e R s m args below meth c z0 w0 Z C hz hw hr H locs rl hR hL
  subst hq
  subst hi
  obtain ⟨h1, h2, h3, h4, h5, h6⟩ := id hR
  have k := h G p l e R s m args below meth c z0 w0 Z C hz hw hr H locs rl hR hL
  rw [← nI_clamp (n := j) (by omega)] at k
  exact va_bald C.1 C.2.1 C.2.2.2.2.2.1.1 h4 a 1 (ma_lm_get hc h5) rfl (vp_in_nI hj hn) hd k
theorem V_zald {a n j : Nat} {f : Nat → Int32} {i : Int32} (hd : decode B pc = .ok (.baload, 1)) (hc : M.2 a = some (.inl (2, n, .inl f))) (hi : i = nI j) (hj : j < n) (hn : n < 2 ^ 31) (hq : pc + 1 = q) (h : V B nL o it d ret X zm wm q ls (.int (f j) :: st) M Q) : V B nL o it d ret X zm wm pc ls (.int i :: .ref a :: st) M Q := by
  intro G p l e R s m args below meth c z0 w0 Z C hz hw hr H locs rl hR hL
  subst hq
  subst hi
  obtain ⟨h1, h2, h3, h4, h5, h6⟩ := id hR
  have k := h G p l e R s m args below meth c z0 w0 Z C hz hw hr H locs rl hR hL
  rw [← nI_clamp (n := j) (by omega)] at k
  exact va_zald C.1 C.2.1 C.2.2.2.2.2.1.1 h4 a 2 (ma_lm_get hc h5) rfl (vp_in_nI hj hn) hd k
theorem V_aald {a n j t b : Nat} {f : Nat → Option Nat} {i : Int32} (hd : decode B pc = .ok (.aaload, 1)) (hc : M.2 a = some (.inl (t, n, .inr f))) (ht : t = 3 ∨ t = 4 ∨ t = 5) (hi : i = nI j) (hj : j < n) (hn : n < 2 ^ 31) (hb : f j = some b) (hq : pc + 1 = q) (h : V B nL o it d ret X zm wm q ls (.ref b :: st) M Q) : V B nL o it d ret X zm wm pc ls (.int i :: .ref a :: st) M Q := by
  intro G p l e R s m args below meth c z0 w0 Z C hz hw hr H locs rl hR hL
  subst hq
  subst hi
  obtain ⟨h1, h2, h3, h4, h5, h6⟩ := id hR
  have k := h G p l e R s m args below meth c z0 w0 Z C hz hw hr H locs rl hR hL
  have e0 : ma_tv G (.ref b) = va_rf ((fun j => (f j).map (fun k => G.1 + k)) (nI j).toNatClampNeg) := by
    rw [nI_clamp (n := j) (by omega)]
    simp [hb, va_rf, ma_tv]
  rw [List.map_cons, e0] at k
  rcases ht with rfl | rfl | rfl
  · exact va_aldq C.1 C.2.1 C.2.2.2.2.2.1.1 h4 a 3 (ma_lm_get hc h5) rfl (vp_in_nI hj hn) hd k
  · exact va_aldq C.1 C.2.1 C.2.2.2.2.2.1.1 h4 a 4 (ma_lm_get hc h5) rfl (vp_in_nI hj hn) hd k
  · exact va_aldq C.1 C.2.1 C.2.2.2.2.2.1.1 h4 a 5 (ma_lm_get hc h5) rfl (vp_in_nI hj hn) hd k
theorem V_alen {a n t : Nat} {f : (Nat → Int32) ⊕ (Nat → Option Nat)} (hd : decode B pc = .ok (.arraylength, 1)) (hc : M.2 a = some (.inl (t, n, f))) (ht : t < 6) (hq : pc + 1 = q) (h : V B nL o it d ret X zm wm q ls (.int (nI n) :: st) M Q) : V B nL o it d ret X zm wm pc ls (.ref a :: st) M Q := by
  intro G p l e R s m args below meth c z0 w0 Z C hz hw hr H locs rl hR hL
  subst hq
  obtain ⟨h1, h2, h3, h4, h5, h6⟩ := id hR
  have k := h G p l e R s m args below meth c z0 w0 Z C hz hw hr H locs rl hR hL
  have ht2 : ∃ ty, (ma_tys G.2.2.2.2)[t]? = some (G.2.2.2.2 t, ty) := by
    match t, ht with
    | 0, _ => exact ⟨_, rfl⟩
    | 1, _ => exact ⟨_, rfl⟩
    | 2, _ => exact ⟨_, rfl⟩
    | 3, _ => exact ⟨_, rfl⟩
    | 4, _ => exact ⟨_, rfl⟩
    | 5, _ => exact ⟨_, rfl⟩
  obtain ⟨ty, ht2⟩ := ht2
  cases f with
  | inl f => exact va_alen C.1 C.2.1 C.2.2.2.2.2.1.1 h4 a t (ma_lm_get hc h5) ht2 rfl hd k
  | inr f => exact va_alen C.1 C.2.1 C.2.2.2.2.2.1.1 h4 a t (ma_lm_get hc h5) ht2 rfl hd k
theorem ma_cellset {cA : ClassId} {n j : Nat} {f : Nat → Int32} {x : Int32} : (vp_cell cA (n, .inl f)).setSlot j (.int x) = vp_cell cA (n, .inl (upd f j x)) := by
  rw [vp_cell_i, vp_cell_i, arrV_store]
  congr 1
  funext q
  by_cases hq : q = j
  · subst hq
    simp [updV, upd]
  · simp [updV, upd, hq]
theorem V_iast {a n j : Nat} {f : Nat → Int32} {i x : Int32} (hd : decode B pc = .ok (.iastore, 1)) (hc : M.2 a = some (.inl (0, n, .inl f))) (hi : i = nI j) (hj : j < n) (hn : n < 2 ^ 31) (hq : pc + 1 = q) (h : V B nL o it d ret X zm wm q ls st (ma_put M a (.inl (0, n, .inl (upd f j x)))) Q) : V B nL o it d ret X zm wm pc ls (.int x :: .int i :: .ref a :: st) M Q := by
  intro G p l e R s m args below meth c z0 w0 Z C hz hw hr H locs rl hR hL
  subst hq
  subst hi
  obtain ⟨h1, h2, h3, h4, h5, h6⟩ := id hR
  have hK := C.2.2.2.2.2.1.1
  have he := ma_lm_get (G := G) hc h5
  refine W.iast C.1 C.2.1 (h4 a _ he) ((hK.2 0 _ rfl).1 n (fun j => .int (f j))) (fun q => by cases q) (by show ¬ (nI j < 0 ∨ (arrV _ _ _).slots.size ≤ _); rw [arrV_size]; exact vp_in_nI hj hn) rfl rfl hd fun H1 e1 z1 oq => ?_
  rw [nI_clamp (n := j) (by omega)] at e1 ⊢
  rw [ma_cellset] at e1
  exact h G p l e R s m args below meth c z0 w0 Z C hz hw hr H1 _ rl (hR.put (c := .inl (0, n, .inl (upd f j x))) (h5 a _ hc) rfl (h4.set ma_lm_D he e1 oq) (h6.put z1 oq (Nat.le_add_right _ _)) z1) hL
theorem V_bast {a n j : Nat} {f : Nat → Int32} {i x : Int32} (hd : decode B pc = .ok (.bastore, 1)) (hc : M.2 a = some (.inl (1, n, .inl f))) (hi : i = nI j) (hj : j < n) (hn : n < 2 ^ 31) (hq : pc + 1 = q) (h : V B nL o it d ret X zm wm q ls st (ma_put M a (.inl (1, n, .inl (upd f j x.toInt8.toInt32)))) Q) : V B nL o it d ret X zm wm pc ls (.int x :: .int i :: .ref a :: st) M Q := by
  intro G p l e R s m args below meth c z0 w0 Z C hz hw hr H locs rl hR hL
  subst hq
  subst hi
  obtain ⟨h1, h2, h3, h4, h5, h6⟩ := id hR
  have hK := C.2.2.2.2.2.1.1
  have he := ma_lm_get (G := G) hc h5
  refine W.bast C.1 C.2.1 (h4 a _ he) ((hK.2 1 _ rfl).1 n (fun j => .int (f j))) (fun q => by cases q) (by show ¬ (nI j < 0 ∨ (arrV _ _ _).slots.size ≤ _); rw [arrV_size]; exact vp_in_nI hj hn) rfl rfl hd fun H1 e1 z1 oq => ?_
  rw [nI_clamp (n := j) (by omega)] at e1 ⊢
  have e2 : narrow .byte (.int x) = .int x.toInt8.toInt32 := rfl
  rw [e2, ma_cellset] at e1
  exact h G p l e R s m args below meth c z0 w0 Z C hz hw hr H1 _ rl (hR.put (c := .inl (1, n, .inl (upd f j x.toInt8.toInt32))) (h5 a _ hc) rfl (h4.set ma_lm_D he e1 oq) (h6.put z1 oq (Nat.le_add_right _ _)) z1) hL
theorem V_zast {a n j : Nat} {f : Nat → Int32} {i x : Int32} (hd : decode B pc = .ok (.bastore, 1)) (hc : M.2 a = some (.inl (2, n, .inl f))) (hx : x = 0 ∨ x = 1) (hi : i = nI j) (hj : j < n) (hn : n < 2 ^ 31) (hq : pc + 1 = q) (h : V B nL o it d ret X zm wm q ls st (ma_put M a (.inl (2, n, .inl (upd f j x)))) Q) : V B nL o it d ret X zm wm pc ls (.int x :: .int i :: .ref a :: st) M Q := by
  intro G p l e R s m args below meth c z0 w0 Z C hz hw hr H locs rl hR hL
  subst hq
  subst hi
  obtain ⟨h1, h2, h3, h4, h5, h6⟩ := id hR
  have hK := C.2.2.2.2.2.1.1
  have he := ma_lm_get (G := G) hc h5
  refine W.zast C.1 C.2.1 (h4 a _ he) ((hK.2 2 _ rfl).1 n (fun j => .int (f j))) (fun q => by cases q) (by show ¬ (nI j < 0 ∨ (arrV _ _ _).slots.size ≤ _); rw [arrV_size]; exact vp_in_nI hj hn) rfl rfl hd fun H1 e1 z1 oq => ?_
  rw [nI_clamp (n := j) (by omega)] at e1 ⊢
  have e2 : narrow .boolean (.int x) = .int x := by rcases hx with rfl | rfl <;> rfl
  rw [e2, ma_cellset] at e1
  exact h G p l e R s m args below meth c z0 w0 Z C hz hw hr H1 _ rl (hR.put (c := .inl (2, n, .inl (upd f j x))) (h5 a _ hc) rfl (h4.set ma_lm_D he e1 oq) (h6.put z1 oq (Nat.le_add_right _ _)) z1) hL
end MRULES
end
section
/-! NEW CELLS, CALLS, THE ENTRY -/
def ma_df (ci : Nat) : List Value := (List.range (Nn ci)).map fun j => defaultValue (tyn ci j)
/-- a method of the tables by its words: a call from class o at entry idx, n arguments -/
def CB (o : String) (idx : Nat) (y : MT) (n : Nat) : Prop :=
  (y.1.cls ≠ "java/lang/invoke/MethodHandle" ∧ y.1.cls ≠ "java/lang/invoke/VarHandle" ∧ (parseMethodDescriptor y.1.desc).map (fun d => d.parameters.length) = some n) ∧ y.2.2.1 ≤ 17 ∧ Cond.methodLink o idx y.1 ∈ ma_tbl ∧ Cond.initialized y.1.cls ∈ ma_tbl ∧ Cond.code y.1 y.2.1 y.2.2.1 y.2.2.2 ∈ ma_tbl
def CV (o : String) (idx : Nat) (y : MT) (n : Nat) : Prop := CB o idx y n ∧ Cond.instanceMethod y.1 ∈ ma_tbl ∧ Cond.selects y.1.cls y.1 y.1 ∈ ma_tbl
def CS (o : String) (idx : Nat) (y : MT) (n : Nat) : Prop := CB o idx y n ∧ Cond.static y.1 ∈ ma_tbl
def CI (o : String) (idx : Nat) (y : MT) (n : Nat) : Prop := CB o idx y n ∧ y.1.name = "<init>" ∧ y.2.2.2 = none ∧ Cond.instanceMethod y.1 ∈ ma_tbl
def CN (o : String) (idx : Nat) (y : MT) (n : Nat) : Prop := (y.1.cls ≠ "java/lang/invoke/MethodHandle" ∧ y.1.cls ≠ "java/lang/invoke/VarHandle" ∧ (parseMethodDescriptor y.1.desc).map (fun d => d.parameters.length) = some n) ∧ y.2.2.1 ≤ 17 ∧ (o = RX6 ∧ (idx, y.1) ∈ ma_nest) ∧ Cond.initialized y.1.cls ∈ ma_tbl ∧ Cond.code y.1 y.2.1 y.2.2.1 y.2.2.2 ∈ ma_tbl ∧ y.1.name = "<init>" ∧ y.2.2.2 = none ∧ Cond.instanceMethod y.1 ∈ ma_tbl
section CALLS
variable {B : ByteArray} {nL : Nat} {o : String} {it : Bool} {d : Nat} {ret : Option FieldType} {X : Option (Nat × (Nat → Int32))} {zm wm pc q : Nat} {ls st : List Value} {M : Mem} {Q : Option Value → Mem → Prop}
theorem V_new {idx ci : Nat} (hd : decode B pc = .ok (.new idx, 3)) (hci : ci < 8) (hl : Cond.classLink o idx (Rn ci) ∈ ma_tbl) (hins : Cond.instantiable (Rn ci) (Nn ci) ∈ ma_tbl) (hini : Cond.initialized (Rn ci) ∈ ma_tbl) (hfs : (ma_df ci).all (fun v => v != .ref 0) = true) (hz1 : M.1.1 + 1 ≤ zm) (hw1 : M.1.2 + Nn ci ≤ wm) (hq : pc + 3 = q) (h : V B nL o it d ret X zm wm q ls (.ref M.1.1 :: st) (ma_new M (Nn ci) (.inr (ci, ma_df ci))) Q) (htv : ∀ G, (ma_df ci).map (ma_tv G) = ma_df ci) : V B nL o it d ret X zm wm pc ls st M Q := by
  intro G p l e R s m args below meth c z0 w0 Z C hz hw hr H locs rl hR hL
  subst hq
  obtain ⟨h1, h2, h3, h4, h5, h6⟩ := id hR
  have hK := C.2.2.2.2.2.1.1
  have hts := C.2.2.2.2.1
  have hclq := ma_cl hci
  have hKn := hK.1 ci _ hclq
  refine W.newcK C.1 C.2.1 C.2.2.2.1 (hts _ hl) (hts _ hins) (hts _ hini) rfl hd (by omega) (by omega) hKn.2.1 rfl fun H1 kC hkC e1 z1 o1 => ?_
  have hfs2 : ∀ j, j < Nn ci → defaultValue (tyn ci j) = vp_V (ma_df ci) j := fun j hj => by
    simp [vp_V, ma_df, hj]
  have k := h G p l e R s m args below meth c z0 w0 Z C hz hw hr H1 locs rl (hR.new (n := Nn ci) (c := .inr (ci, ma_df ci)) z1 o1 (by rw [ma_te_o, htv G]; exact ⟨_, hclq, (u_born (tyn ci) hts (ma_in0 ci hci) hKn hkC e1 (ma_tyn hci)).to hfs2⟩)) hL
  have e2 : (ma_new M (Nn ci) (.inr (ci, ma_df ci))).1.1 - z0 = M.1.1 - z0 + 1 := by show M.1.1 + 1 - z0 = _; omega
  have e3 : (ma_new M (Nn ci) (.inr (ci, ma_df ci))).1.2 - w0 = M.1.2 - w0 + Nn ci := by show M.1.2 + Nn ci - w0 = _; omega
  rw [e2, e3] at k
  have e4 : (List.map (ma_tv G) (.ref M.1.1 :: st)) = .ref H.size :: st.map (ma_tv G) := by rw [h3]; rfl
  rw [e4] at k
  exact k
theorem V_newa {at0 : ArrayType} {t N : Nat} {ty : FieldType} {n : Int32} (hd : decode B pc = .ok (.newarray at0, 2)) (hty : newarray.typeOf at0 = ty) (ht : (t = 0 ∧ ty = .int) ∨ (t = 1 ∧ ty = .byte) ∨ (t = 2 ∧ ty = .boolean)) (hm : Cond.arrayClass ty ∈ ma_tbl) (hn : n = nI N) (hN : N < 2 ^ 20) (hz1 : M.1.1 + 1 ≤ zm) (hw1 : M.1.2 + N ≤ wm) (hq : pc + 2 = q) (h : V B nL o it d ret X zm wm q ls (.ref M.1.1 :: st) (ma_new M N (.inl (t, N, .inl (fun _ => 0)))) Q) : V B nL o it d ret X zm wm pc ls (.int n :: st) M Q := by
  intro G p l e R s m args below meth c z0 w0 Z C hz hw hr H locs rl hR hL
  subst hq
  subst hn
  subst hty
  obtain ⟨h1, h2, h3, h4, h5, h6⟩ := id hR
  have hK := C.2.2.2.2.2.1.1
  have hts := C.2.2.2.2.1
  refine va_newaK C.1 C.2.1 (hts _ hm) rfl hd rfl (nI_pos (by omega)) (nI_clamp (by omega)) (by
    have : componentBytes (newarray.typeOf at0) ≤ 8 := by cases at0 <;> decide
    have := Nat.mul_le_mul (Nat.le_of_lt hN) this
    omega) (by omega) (by omega) rfl fun H1 cA e1 z1 o1 hAr hNm => ?_
  have hcell : cA = G.2.2.2.2 t ∧ (fun _ : Nat => defaultValue (newarray.typeOf at0)) = fun _ => Value.int 0 := by
    rcases ht with ⟨rfl, e⟩ | ⟨rfl, e⟩ | ⟨rfl, e⟩
    · have g := (hK.2 0 _ rfl).2
      rw [e] at hNm ⊢
      exact ⟨Option.some.inj (hNm.symm.trans g), rfl⟩
    · have g := (hK.2 1 _ rfl).2
      rw [e] at hNm ⊢
      exact ⟨Option.some.inj (hNm.symm.trans g), rfl⟩
    · have g := (hK.2 2 _ rfl).2
      rw [e] at hNm ⊢
      exact ⟨Option.some.inj (hNm.symm.trans g), rfl⟩
  rw [hcell.1, hcell.2] at e1
  have k := h G p l e R s m args below meth c z0 w0 Z C hz hw hr H1 locs rl (hR.new (n := N) (c := .inl (t, N, .inl (fun _ => 0))) z1 o1 e1) hL
  have e2 : (ma_new M N (.inl (t, N, .inl (fun _ => 0)))).1.1 - z0 = M.1.1 - z0 + 1 := by show M.1.1 + 1 - z0 = _; omega
  have e3 : (ma_new M N (.inl (t, N, .inl (fun _ => 0)))).1.2 - w0 = M.1.2 - w0 + N := by show M.1.2 + N - w0 = _; omega
  rw [e2, e3] at k
  have e4 : (List.map (ma_tv G) (.ref M.1.1 :: st)) = .ref H.size :: st.map (ma_tv G) := by rw [h3]; rfl
  rw [e4] at k
  exact k
theorem V_anew {idx ci t N : Nat} {n : Int32} (hd : decode B pc = .ok (.anewarray idx, 3)) (ht : (t = 3 ∧ ci = 0) ∨ (t = 4 ∧ ci = 3) ∨ (t = 5 ∧ ci = 4)) (hl : Cond.classLink o idx (Rn ci) ∈ ma_tbl) (hn : n = nI N) (hN : N < 2 ^ 20) (hz1 : M.1.1 + 1 ≤ zm) (hw1 : M.1.2 + N ≤ wm) (hq : pc + 3 = q) (h : V B nL o it d ret X zm wm q ls (.ref M.1.1 :: st) (ma_new M N (.inl (t, N, .inr (fun _ => none)))) Q) : V B nL o it d ret X zm wm pc ls (.int n :: st) M Q := by
  intro G p l e R s m args below meth c z0 w0 Z C hz hw hr H locs rl hR hL
  subst hq
  subst hn
  obtain ⟨h1, h2, h3, h4, h5, h6⟩ := id hR
  have hK := C.2.2.2.2.2.1.1
  have hts := C.2.2.2.2.1
  have hao := C.2.2.2.2.2.1.2.1
  have hov : va_AO (Rn ci) s := by
    rcases ht with ⟨-, rfl⟩ | ⟨-, rfl⟩ | ⟨-, rfl⟩
    · exact hao.1
    · exact hao.2.1
    · exact hao.2.2
  have hcl : (nI N).toNatClampNeg = N := nI_clamp (by omega)
  refine W.anew C.1 C.2.1 C.2.2.2.1 (hts _ hl) (va_AO.use hov) rfl hd rfl (nI_pos (by omega)) (by rw [hcl]; omega) (by omega) (by rw [hcl]; omega) fun cA kA comp f1 f2 f3 f4 => ?_
  rw [hcl]
  generalize hH1 : H.push ({ cls := cA, slots := Array.replicate N .null, vm := .none } : Cell) = H1
  have z1 : H1.size = H.size + 1 := by rw [← hH1, Array.size_push]
  have e1 : H1[H.size]? = some (arrV cA N (fun _ => .null)) := by rw [← hH1, Array.getElem?_push_size, ← arrV_new]
  have o1 : ∀ q : Nat, q < H.size → H1[q]? = H[q]? := fun q hq => by rw [← hH1, Array.getElem?_push, if_neg (Nat.ne_of_lt hq)]
  have hcell : cA = G.2.2.2.2 t := by
    rcases ht with ⟨rfl, rfl⟩ | ⟨rfl, rfl⟩ | ⟨rfl, rfl⟩
    · obtain ⟨_, _, -, -, -, g⟩ := (hK.2 3 _ rfl).2
      exact Option.some.inj (f1.symm.trans g)
    · obtain ⟨_, _, -, -, -, g⟩ := (hK.2 4 _ rfl).2
      exact Option.some.inj (f1.symm.trans g)
    · obtain ⟨_, _, -, -, -, g⟩ := (hK.2 5 _ rfl).2
      exact Option.some.inj (f1.symm.trans g)
  rw [hcell] at e1
  have k := h G p l e R s m args below meth c z0 w0 Z C hz hw hr H1 locs rl (hR.new (n := N) (c := .inl (t, N, .inr (fun _ => none))) z1 o1 e1) hL
  have e2 : (ma_new M N (.inl (t, N, .inr (fun _ => none)))).1.1 - z0 = M.1.1 - z0 + 1 := by show M.1.1 + 1 - z0 = _; omega
  have e3 : (ma_new M N (.inl (t, N, .inr (fun _ => none)))).1.2 - w0 = M.1.2 - w0 + N := by show M.1.2 + N - w0 = _; omega
  rw [e2, e3] at k
  have e4 : (List.map (ma_tv G) (.ref M.1.1 :: st)) = .ref H.size :: st.map (ma_tv G) := by rw [h3]; rfl
  rw [e4] at k
  exact k
theorem V_aast {a b n j t ci : Nat} {fs : List Value} {f : Nat → Option Nat} {i : Int32} (hd : decode B pc = .ok (.aastore, 1)) (hc : M.2 a = some (.inl (t, n, .inr f))) (hb : M.2 b = some (.inr (ci, fs))) (ht : (t = 3 ∧ ci = 0) ∨ (t = 4 ∧ ci = 3) ∨ (t = 5 ∧ ci = 4)) (hi : i = nI j) (hj : j < n) (hn : n < 2 ^ 31) (hq : pc + 1 = q) (h : V B nL o it d ret X zm wm q ls st (ma_put M a (.inl (t, n, .inr (va_up f j (some b))))) Q) : V B nL o it d ret X zm wm pc ls (.ref b :: .int i :: .ref a :: st) M Q := by
  intro G p l e R s m args below meth c z0 w0 Z C hz hw hr H locs rl hR hL
  subst hq
  subst hi
  obtain ⟨h1, h2, h3, h4, h5, h6⟩ := id hR
  have hK := C.2.2.2.2.2.1.1
  have he := ma_lm_get (G := G) hc h5
  have heb := ma_lm_get (G := G) hb h5
  have hci : ci < 8 := by omega
  have hclq := ma_cl hci
  have ht2 : (ma_tys G.2.2.2.2)[t]? = some (G.2.2.2.2 t, .object (Rn ci)) := by
    rcases ht with ⟨rfl, rfl⟩ | ⟨rfl, rfl⟩ | ⟨rfl, rfl⟩ <;> rfl
  obtain ⟨r', hr', cellV, g1, g2, g3, -⟩ := h4 b _ heb
  have hcls := (hK.1 ci _ hclq).2
  obtain ⟨kA, comp, k1, k2, k3, -⟩ := (hK.2 t _ ht2).2
  have hcomp : comp = G.2.2.2.1.1 ci := Option.some.inj (k3.symm.trans hcls.1)
  subst hcomp
  obtain ⟨kC, hkC, -⟩ := hcls.2
  refine W.aast C.1 C.2.1 (h4 a _ he) (fun q h => by cases h) (fun h => by cases h) k1 k2 rfl hkC ⟨nI_pos (by omega), by show _ < (arrV _ _ _).slots.size; rw [arrV_size, nI_clamp (by omega)]; exact hj⟩ g1 (fun q h => by rw [g3] at h; cases h) (by rw [g2]; exact hkC) (by rw [g2]; exact va_assign hcls) rfl rfl hd fun H1 e1 z1 oq => ?_
  rw [nI_clamp (n := j) (by omega)] at e1 ⊢
  have ecell : (vp_cell (G.2.2.2.2 t) (n, .inr (.inr (.inr (.inr (fun j => (f j).map (fun k => G.1 + k))))))).setSlot j (.ref (G.1 + b)) = vp_cell (G.2.2.2.2 t) (n, .inr (.inr (.inr (.inr (fun j' => (va_up f j (some b) j').map (fun k => G.1 + k)))))) := by
    rw [vp_cell_q, vp_cell_q, arrV_store]
    congr 1
    funext x
    by_cases hx : x = j
    · subst hx
      simp [updV, va_up, va_rf]
    · simp [updV, va_up, hx]
  have e2 := e1.trans (congrArg some ecell)
  exact h G p l e R s m args below meth c z0 w0 Z C hz hw hr H1 _ rl (hR.put (c := .inl (t, n, .inr (va_up f j (some b)))) (h5 a _ hc) rfl (h4.set ma_lm_D he e2 oq) (h6.put z1 oq (Nat.le_add_right _ _)) z1) hL
theorem V_objInit {idx a : Nat} (hd : decode B pc = .ok (.invokespecial idx, 3)) (hl : Cond.methodLink o idx Lib.objectInit ∈ ma_tbl) (h1 : Cond.instanceMethod Lib.objectInit ∈ ma_tbl) (h2 : Cond.code Lib.objectInit ⟨#[0xb1]⟩ 1 none ∈ ma_tbl) (hst : (st.map fun v => v.category).sum ≤ 8) (hq : pc + 3 = q) (h : V B nL o it (d + 1) ret X zm wm q ls st M Q) : V B nL o it (d + 1) ret X zm wm pc ls (.ref a :: st) M Q := by
  intro G p l e R s m args below meth c z0 w0 Z C hz hw hr H locs rl hR hL
  subst hq
  have hts := C.2.2.2.2.1
  have hro := C.2.2.2.2.2.2.1
  exact W.objInit C.1 C.2.1 C.2.2.2.1 (hts _ hl) (hts _ h1) (hts _ h2) rfl (by rw [C.2.2.1]; exact hL.1) rfl hd (by omega) (by
    have e1 := ma_sum G st
    show 2 * 0 + _ + 12 ≤ _
    omega) (h G p l e R s m args below meth c z0 w0 Z C hz hw hr H locs rl hR hL)
/-- behind a call -/
theorem ma_after {G : WG} {p : Program} {l : Launch} {e : Env} {R : Room} {s : State} {m : MethodId} {args : Array Value} {below : List Frame} {meth : Method} {c : Code} {z0 w0 : Nat} {Z : State → Prop} {H : Heap} {locs : List Loc} {rl : Array Slot} {M' : Mem} {r : Option Value} {av : Array Value} {st0 : List Value}
    (hR : ma_R G s z0 w0 M H locs) (hz2 : M.1.1 ≤ M'.1.1) (hw2 : M.1.2 ≤ M'.1.2)
    (hrun : va_Run p l e R s m args below meth c H locs (M.1.1 - z0) (M.1.2 - w0) (M'.1.1 - M.1.1) (M'.1.2 - M.1.2) (F0 m pc rl st0) (st.map (ma_tv G)) (ma_Q G r M' av) (ma_A G))
    (k : ∀ (H1 : Heap) (locs1 : List Loc), ma_R G s z0 w0 M' H1 locs1 → W p l e R s m args below meth c H1 locs1 (M'.1.1 - z0) (M'.1.2 - w0) Z (F0 m (pc + 3) rl ((r.toList ++ st).map (ma_tv G)))) : W p l e R s m args below meth c H locs (M.1.1 - z0) (M.1.2 - w0) Z (F0 m pc rl st0) := by
  intro T hT Y
  obtain ⟨h1, h2, h3, h4, h5, h6⟩ := hR
  obtain ⟨v, st₀, t, T', L, e0, Y', hL', e1, e2, ⟨⟨hv, hsz, hP, hwf⟩, hF⟩, hgo⟩ := hrun T hT Y
  have hv' : v = r.map (ma_tv G) := by cases hv; rfl
  subst hv'
  obtain ⟨f1, f2⟩ := hF
  rw [e0] at f1 f2
  have c1 : M.1.1 - z0 + (M'.1.1 - M.1.1) = M'.1.1 - z0 := by omega
  have c2 : M.1.2 - w0 + (M'.1.2 - M.1.2) = M'.1.2 - w0 := by omega
  rw [c1, c2] at Y'
  have kk := k T'.heap (locs ++ L) ⟨Nat.le_trans h1 hz2, Nat.le_trans h2 hw2, by rw [e1]; exact hsz, by rw [e1]; exact hP, hwf, ⟨Nat.le_trans h6.1 (by rw [e1]; exact f1), fun x g1 g2 => by rw [e1, f2 x (Nat.lt_of_lt_of_le g1 h6.1) g2]; exact h6.2.1 x g1 g2, fun x hx => by
    rcases List.mem_append.mp hx with hx | hx
    · exact h6.2.2 x hx
    · exact hL' x hx⟩⟩
  have e3 : (r.toList ++ st).map (ma_tv G) = (r.map (ma_tv G)).toList ++ st.map (ma_tv G) := by cases r <;> rfl
  rw [e3] at kk
  obtain ⟨t2, a1, b1⟩ := kk T' rfl Y'
  exact ⟨t2, hgo t2 a1, b1⟩
theorem ma_pre {G : WG} {s : State} {z0 w0 : Nat} {H : Heap} {locs : List Loc} {As : List Value} (hR : ma_R G s z0 w0 M H locs) (hS : ma_S G s s.heap) : PreS s H (va_Pc (As.map (ma_tv G)) (fun U => ma_W G M U ∧ ma_S G U U.heap)) (As.map (ma_tv G)) := by
  obtain ⟨h1, h2, h3, h4, h5, h6⟩ := hR
  refine ⟨fun a U g mk q => ⟨q.1, q.2.1, ma_S.same q.2.2 rfl⟩, fun U hU hW => ⟨rfl, ⟨by rw [hU]; exact h3, by rw [hU]; exact h4, h5⟩, hS.warm hW (fun x g1 g2 => by rw [hU]; exact h6.2.1 x g1 g2)⟩⟩
theorem ma_callB {G : WG} {R : Room} {s : State} {args : Array Value} {idx n : Nat} {y : MT} {M' : Mem} (hts : ∀ w ∈ ma_tbl, w.before args s = true) (hc : CB o idx y n) (hro : d + 1 ≤ R.frames ∧ 36 * (d + 1) ≤ R.locals) : CallB R s args o idx y.1 y.2.1 y.2.2.1 y.2.2.2 (.code y.1 y.2.1 y.2.2.1 y.2.2.2 :: ma_tbl) { frames := d, cells := M'.1.1 - M.1.1, slots := M'.1.2 - M.1.2, locals := 36 * d } (M'.1.1 - M.1.1) (M'.1.2 - M.1.2) n :=
  callB_of n hts (ma_good hc.2.2.2.2) rfl rfl rfl (hts _ hc.2.2.2.1) (hts _ hc.2.2.1) hc.1 ⟨hro.1, by show 8 + (y.2.2.1 + 11) + 36 * d ≤ R.locals; have := hc.2.1; have := hro.2; omega⟩
theorem V_callV {idx n ci a : Nat} {y : MT} {As fs st0 : List Value} {r : Option Value} {M' : Mem} (hd : decode B pc = .ok (.invokevirtual idx, 3)) (hf : CV o idx y n) (hc : M.2 a = some (.inr (ci, fs))) (hci : ci < 8) (hcl : Rn ci = y.1.cls) (hM : Cl d y (.ref a :: As) M r M') (hn : As.length = n) (hs : st0 = As.reverse ++ .ref a :: st) (hst : (st.map fun v => v.category).sum ≤ 8) (hz1 : M'.1.1 ≤ zm) (hw1 : M'.1.2 ≤ wm) (hq : pc + 3 = q) (h : V B nL o it (d + 1) ret X zm wm q ls (r.toList ++ st) M' Q) : V B nL o it (d + 1) ret X zm wm pc ls st0 M Q := by
  intro G p l e R s m args below meth c z0 w0 Z C hz hw hr H locs rl hR hL
  subst hq
  subst hs
  have hts := C.2.2.2.2.1
  have hS := C.2.2.2.2.2.1
  obtain ⟨g1, g2, g3, g4, g5, g6⟩ := id hR
  have hm1 := hM.1
  have hm2 := hM.2.1
  have hp := ma_pre (As := .ref a :: As) hR hS
  refine ma_after (r := r) (M' := M') hR hM.1 hM.2.1 (av := ((Value.ref a :: As).map (ma_tv G)).toArray) ?_ (fun H1 locs1 hR1 => h G p l e R s m args below meth c z0 w0 Z C hz hw hr H1 locs1 rl hR1 hL)
  exact va_runV (C := y.1.cls) (b := G.1 + a) (As := As.map (ma_tv G)) ⟨C.1, C.2.1, C.2.2.1, C.2.2.2.1, hts⟩ (hM.2.2 l G) ⟨ma_callB (G := G) hts hf.1 C.2.2.2.2.2.2.1, hts _ hf.2.1, hts _ hf.2.2⟩ ⟨hp.1, by rw [← hcl]; exact va_recv hS.1 g4 (ma_cl hci) (ma_lm_get hc g5), hp.2⟩ rfl (by rw [List.length_map]; exact hn) hL.1 (by simp [ma_tv]) (lv_room (by rw [ma_sum]; exact hst)) hd ⟨by omega, by omega⟩
theorem V_callS {idx n : Nat} {y : MT} {As st0 : List Value} {r : Option Value} {M' : Mem} (hd : decode B pc = .ok (.invokestatic idx, 3)) (hf : CS o idx y n) (hM : Cl d y As M r M') (hn : As.length = n) (hs : st0 = As.reverse ++ st) (hst : (st.map fun v => v.category).sum ≤ 8) (hz1 : M'.1.1 ≤ zm) (hw1 : M'.1.2 ≤ wm) (hq : pc + 3 = q) (h : V B nL o it (d + 1) ret X zm wm q ls (r.toList ++ st) M' Q) : V B nL o it (d + 1) ret X zm wm pc ls st0 M Q := by
  intro G p l e R s m args below meth c z0 w0 Z C hz hw hr H locs rl hR hL
  subst hq
  subst hs
  have hts := C.2.2.2.2.1
  have hS := C.2.2.2.2.2.1
  obtain ⟨g1, g2, g3, g4, g5, g6⟩ := id hR
  have hm1 := hM.1
  have hm2 := hM.2.1
  refine ma_after (r := r) (M' := M') hR hM.1 hM.2.1 (av := (As.map (ma_tv G)).toArray) ?_ (fun H1 locs1 hR1 => h G p l e R s m args below meth c z0 w0 Z C hz hw hr H1 locs1 rl hR1 hL)
  exact va_runS (As := As.map (ma_tv G)) ⟨C.1, C.2.1, C.2.2.1, C.2.2.2.1, hts⟩ (hM.2.2 l G) ⟨ma_callB (G := G) hts hf.1 C.2.2.2.2.2.2.1, hts _ hf.2⟩ (ma_pre hR hS) rfl (by rw [List.length_map]; exact hn) hL.1 (by simp) (lv_room (by rw [ma_sum]; exact hst)) hd ⟨by omega, by omega⟩
theorem V_callI {idx n a : Nat} {y : MT} {As st0 : List Value} {M' : Mem} (hd : decode B pc = .ok (.invokespecial idx, 3)) (hf : CI o idx y n) (hM : Cl d y (.ref a :: As) M none M') (hn : As.length = n) (hs : st0 = As.reverse ++ .ref a :: st) (hst : (st.map fun v => v.category).sum ≤ 8) (hz1 : M'.1.1 ≤ zm) (hw1 : M'.1.2 ≤ wm) (hq : pc + 3 = q) (h : V B nL o it (d + 1) ret X zm wm q ls st M' Q) : V B nL o it (d + 1) ret X zm wm pc ls st0 M Q := by
  intro G p l e R s m args below meth c z0 w0 Z C hz hw hr H locs rl hR hL
  subst hq
  subst hs
  have hts := C.2.2.2.2.1
  have hS := C.2.2.2.2.2.1
  obtain ⟨g1, g2, g3, g4, g5, g6⟩ := id hR
  have hm1 := hM.1
  have hm2 := hM.2.1
  obtain ⟨⟨y1, y2, y3, y4⟩, hyy⟩ : ∃ z : MT, y = z := ⟨y, rfl⟩
  subst hyy
  obtain ⟨hf1, hf2, hf3, hf4⟩ := hf
  cases (show y4 = none from hf3)
  refine ma_after (r := none) (M' := M') hR hM.1 hM.2.1 (av := ((Value.ref a :: As).map (ma_tv G)).toArray) ?_ (fun H1 locs1 hR1 => h G p l e R s m args below meth c z0 w0 Z C hz hw hr H1 locs1 rl hR1 hL)
  exact va_runI (b := G.1 + a) (As := As.map (ma_tv G)) ⟨C.1, C.2.1, C.2.2.1, C.2.2.2.1, hts⟩ (hM.2.2 l G) ⟨ma_callB (G := G) hts hf1 C.2.2.2.2.2.2.1, hf2, hts _ hf4⟩ (ma_pre (As := .ref a :: As) hR hS) rfl (by rw [List.length_map]; exact hn) hL.1 (by simp [ma_tv]) (lv_room (by rw [ma_sum]; exact hst)) hd ⟨by omega, by omega⟩
theorem V_callN {idx n a : Nat} {y : MT} {As st0 : List Value} {M' : Mem} (hd : decode B pc = .ok (.invokespecial idx, 3)) (hf : CN o idx y n) (hM : Cl d y (.ref a :: As) M none M') (hn : As.length = n) (hs : st0 = As.reverse ++ .ref a :: st) (hst : (st.map fun v => v.category).sum ≤ 8) (hz1 : M'.1.1 ≤ zm) (hw1 : M'.1.2 ≤ wm) (hq : pc + 3 = q) (h : V B nL o it (d + 1) ret X zm wm q ls st M' Q) : V B nL o it (d + 1) ret X zm wm pc ls st0 M Q := by
  intro G p l e R s m args below meth c z0 w0 Z C hz hw hr H locs rl hR hL
  subst hq
  subst hs
  have hts := C.2.2.2.2.1
  have hS := C.2.2.2.2.2.1
  obtain ⟨g1, g2, g3, g4, g5, g6⟩ := id hR
  have hm1 := hM.1
  have hm2 := hM.2.1
  obtain ⟨⟨y1, y2, y3, y4⟩, hyy⟩ : ∃ z : MT, y = z := ⟨y, rfl⟩
  subst hyy
  obtain ⟨hf1, hf2, ⟨hf3, hf4⟩, hf5, hf6, hf7, hf8, hf9⟩ := hf
  subst hf3
  cases (show y4 = none from hf8)
  have hro := C.2.2.2.2.2.2.1
  refine ma_after (r := none) (M' := M') hR hM.1 hM.2.1 (av := ((Value.ref a :: As).map (ma_tv G)).toArray) ?_ (fun H1 locs1 hR1 => h G p l e R s m args below meth c z0 w0 Z C hz hw hr H1 locs1 rl hR1 hL)
  exact va_runIN (b := G.1 + a) (As := As.map (ma_tv G)) ⟨C.1, C.2.1, C.2.2.1, C.2.2.2.1, hts⟩ (hM.2.2 l G) ⟨va_cnB n hts (ma_good hf6) rfl rfl rfl (hS.2.2.1 _ hf4) (hts _ hf5) hf1 ⟨hro.1, by show 8 + (y3 + 11) + 36 * d ≤ R.locals; have h9 : y3 ≤ 17 := hf2; have := hro.2; omega⟩, hf7, hts _ hf9⟩ (ma_pre (As := .ref a :: As) hR hS) rfl (by rw [List.length_map]; exact hn) hL.1 (by simp [ma_tv]) (lv_room (by rw [ma_sum]; exact hst)) hd ⟨by omega, by omega⟩
theorem V_sld {L j : Nat} {xs : Nat → Int32} {i : Int32} (hX : X = some (L, xs)) (hd : decode B pc = .ok (.iaload, 1)) (hi : i = nI j) (hj : j < L) (hn : L < 2 ^ 31) (hq : pc + 1 = q) (h : V B nL o it d ret X zm wm q ls (.int (xs j) :: st) M Q) : V B nL o it d ret X zm wm pc ls (.int i :: .float 1000 :: st) M Q := by
  intro G p l e R s m args below meth c z0 w0 Z C hz hw hr H locs rl hR hL
  subst hq
  subst hi
  obtain ⟨h1, h2, h3, h4, h5, h6⟩ := id hR
  obtain ⟨hx, hb⟩ := C.2.2.2.2.2.2.2.2.2.2.2 _ hX
  have hG := C.2.2.2.2.2.2.2.2.2.2.1
  have k := h G p l e R s m args below meth c z0 w0 Z C hz hw hr H locs rl hR hL
  rw [← nI_clamp (n := j) (by omega)] at k
  exact va_sld (A := ma_A G) (b := G.2.1 1000) C.1 C.2.1 hx (by omega) (by show ¬ G.1 ≤ _; omega) h6 (vp_in_nI hj hn) hd k
theorem V_slen {L : Nat} {xs : Nat → Int32} (hX : X = some (L, xs)) (hd : decode B pc = .ok (.arraylength, 1)) (hq : pc + 1 = q) (h : V B nL o it d ret X zm wm q ls (.int (nI L) :: st) M Q) : V B nL o it d ret X zm wm pc ls (.float 1000 :: st) M Q := by
  intro G p l e R s m args below meth c z0 w0 Z C hz hw hr H locs rl hR hL
  subst hq
  obtain ⟨h1, h2, h3, h4, h5, h6⟩ := id hR
  obtain ⟨hx, hb⟩ := C.2.2.2.2.2.2.2.2.2.2.2 _ hX
  have hG := C.2.2.2.2.2.2.2.2.2.2.1
  exact va_slen (A := ma_A G) (b := G.2.1 1000) C.1 C.2.1 hx (by omega) (by show ¬ G.1 ≤ _; omega) h6 hd (h G p l e R s m args below meth c z0 w0 Z C hz hw hr H locs rl hR hL)
end CALLS
end
section
/-! THE ENTRY: a walk from pc 0 gives the contract -/
def ma_fl (args : List Value) : List Value := args.flatMap fun v => if v.category = 2 then [v, .null] else [v]
def ma_ent (nL : Nat) (args : List Value) : List Value := ma_fl args ++ List.replicate (nL - (ma_fl args).length) .null
theorem ma_fl_len (G : WG) : ∀ args : List Value, (lg_sl (args.map (ma_tv G))).length = (ma_fl args).length
  | [] => rfl
  | v :: args => by
    have ih := ma_fl_len G args
    simp only [lg_sl, ma_fl, List.map_cons, List.flatMap_cons, List.length_append, ma_cat] at ih ⊢
    by_cases hc : v.category = 2
    · simp only [hc, if_true, List.length_cons, List.length_nil]
      omega
    · simp only [hc, if_false, List.length_cons, List.length_nil]
      omega
theorem ma_fl_at (G : WG) : ∀ (args : List Value) (i : Nat) (v : Value), (ma_fl args)[i]? = some v → v ≠ .null → (lg_sl (args.map (ma_tv G)))[i]? = some (.val (ma_tv G v))
  | [], i, v => by simp [ma_fl]
  | a :: args, i, v => by
    have ih := ma_fl_at G args
    intro h hv
    have e1 : ma_fl (a :: args) = (if a.category = 2 then [a, .null] else [a]) ++ ma_fl args := by simp [ma_fl]
    have e2 : lg_sl ((a :: args).map (ma_tv G)) = (if a.category = 2 then [.val (ma_tv G a), .second] else [.val (ma_tv G a)]) ++ lg_sl (args.map (ma_tv G)) := by simp [lg_sl, ma_cat]
    rw [e1] at h
    rw [e2]
    by_cases hc : a.category = 2
    · rw [if_pos hc] at h ⊢
      match i with
      | 0 =>
        simp at h
        simp [h]
      | 1 =>
        simp at h
        exact absurd h.symm hv
      | i + 2 =>
        simp at h
        simpa using ih i v h hv
    · rw [if_neg hc] at h ⊢
      match i with
      | 0 =>
        simp at h
        simp [h]
      | i + 1 =>
        simp at h
        simpa using ih i v h hv
theorem ma_L_ent {G : WG} {nL : Nat} {args : List Value} (hfit : (ma_fl args).length ≤ nL) : ma_L G nL (ma_ent nL args) ((lg_sl (args.map (ma_tv G)) ++ List.replicate (nL - (lg_sl (args.map (ma_tv G))).length) Slot.unset).toArray) := by
  have hl := lv_entry (args.map (ma_tv G)) (n := nL) (by rw [ma_fl_len]; exact hfit)
  refine ⟨hl.1, hl.2.1, ?_, fun i v h hv => ?_⟩
  · simp [ma_ent]
    omega
  · simp only [List.getElem?_toArray]
    by_cases hi : i < (ma_fl args).length
    · rw [List.getElem?_append_left (by rw [ma_fl_len]; exact hi)]
      rw [ma_ent, List.getElem?_append_left hi] at h
      exact ma_fl_at G args i v h hv
    · rw [ma_ent, List.getElem?_append_right (by omega)] at h
      have := List.getElem?_eq_some_iff.mp h
      obtain ⟨h1, h2⟩ := this
      simp at h2
      exact absurd h2.symm hv
theorem Cl_of_V {d : Nat} {y : MT} {it : Bool} {args : List Value} {M M' : Mem} {r : Option Value} (hy : plainName y.1.cls = true) (hit : it = true → y.1.name = "<init>") (hfit : (ma_fl args).length ≤ y.2.2.1) (hz : M.1.1 ≤ M'.1.1) (hw : M.1.2 ≤ M'.1.2)
    (h : V y.2.1 y.2.2.1 y.1.cls it d y.2.2.2 none M'.1.1 M'.1.2 0 (ma_ent y.2.2.1 args) [] M (fun r' M'' => r' = r ∧ M'' = M')) : Cl d y args M r M' := by
  refine ⟨hz, hw, fun l G => ?_⟩
  refine Met.ofW (cc := y.2.1) (maxL := y.2.2.1) (ret := y.2.2.2) hy rfl ?_
  intro p e s m args' below meth c s₁ Bd hml hv
  obtain ⟨rfl, ⟨hW1, hW2, hW3⟩, hS⟩ := hv
  have hts := atoms_spec (ws := .code y.1 y.2.1 y.2.2.1 y.2.2.2 :: ma_tbl) Bd.pre
  have hown : s.vm.findClass y.1.cls = some m.cls := findClass_of_methodNamed Bd.named
  have hlocks := Bd.notSynchronized
  have hname : meth.name = y.1.name := (name_of_methodNamed Bd.named Bd.method).1
  rw [lg_entry_eq]
  have key := h G p l e { frames := d, cells := M'.1.1 - M.1.1, slots := M'.1.2 - M.1.2, locals := 36 * d } s m ((args.map (ma_tv G)).toArray) below meth c M.1.1 M.1.2 (MQ below (ma_Q G r M') ((args.map (ma_tv G)).toArray) s (M'.1.1 - M.1.1) (M'.1.2 - M.1.2) (ma_A G))
    ⟨Bd.exec, Bd.bytes, hml, hown, fun w hw => hts w (List.mem_cons_of_mem _ hw), hS, ⟨Nat.le_refl _, Nat.le_refl _⟩, Bd.returns, hlocks, fun e => hname.trans (hit e), by rw [hW1]; exact Nat.le_add_right _ _, fun _ e => by cases e⟩ (Nat.le_refl _) (Nat.le_refl _)
    (fun r' M2 H' locs' pc' rl' hR hQ hV => by
      obtain ⟨rfl, rfl⟩ := hQ
      obtain ⟨g1, g2, g3, g4, g5, g6⟩ := hR
      match r', hV with
      | none, hV => exact W.vret Bd.exec Bd.bytes (Bd.returns.trans hV.1) (fun t ht hWm => ⟨⟨rfl, by rw [ht]; exact g3, by rw [ht]; exact g4, g5⟩, g6.F ht⟩) g6.2.2 hV.2 hlocks
      | some (.int v), hV =>
        obtain ⟨⟨ty, e1, e2⟩, e3⟩ := hV
        exact W.zret Bd.exec Bd.bytes (Bd.returns.trans e1) e2 (fun t ht hWm => ⟨⟨rfl, by rw [ht]; exact g3, by rw [ht]; exact g4, g5⟩, g6.F ht⟩) g6.2.2 e3 hlocks
      | some (.long v), hV => exact W.lret Bd.exec Bd.bytes (Bd.returns.trans hV.1) (fun t ht hWm => ⟨⟨rfl, by rw [ht]; exact g3, by rw [ht]; exact g4, g5⟩, g6.F ht⟩) g6.2.2 hV.2 hlocks)
    s.heap [] _ ⟨Nat.le_refl _, Nat.le_refl _, hW1, hW2, hW3, va_S.rf⟩ (ma_L_ent hfit)
  rw [Nat.sub_self, Nat.sub_self] at key
  exact key
/-- System.arraycopy of rows of ints -/
theorem V_copy {B : ByteArray} {nL : Nat} {o : String} {it : Bool} {d : Nat} {ret : Option FieldType} {X : Option (Nat × (Nat → Int32))} {zm wm pc q : Nat} {ls st : List Value} {M : Mem} {Q : Option Value → Mem → Prop} {idx a0 a n0 n1 N : Nat} {f g : Nat → Int32} {n sp dp : Int32} (hd : decode B pc = .ok (.invokestatic idx, 3)) (hl : Cond.methodLink o idx arraycopyName ∈ ma_tbl) (hl2 : Cond.native arraycopyName ∈ ma_tbl) (hl3 : Cond.static arraycopyName ∈ ma_tbl) (hl4 : Cond.initialized "java/lang/System" ∈ ma_tbl)
    (hc0 : M.2 a0 = some (.inl (0, n0, .inl f))) (hc1 : M.2 a = some (.inl (0, n1, .inl g))) (hsp : sp = 0) (hdp : dp = 0) (hn : n = nI N) (hN : N ≤ n0 ∧ N ≤ n1 ∧ N < 2 ^ 31) (hst : st = []) (hq : pc + 3 = q) (h : V B nL o it (d + 1) ret X zm wm q ls [] (ma_put M a (.inl (0, n1, .inl (va_cpy f g 0 0 N)))) Q) : V B nL o it (d + 1) ret X zm wm pc ls (.int n :: .int dp :: .ref a :: .int sp :: .ref a0 :: st) M Q := by
  intro G p l e R s m args below meth c z0 w0 Z C hz hw hr H locs rl hR hL
  subst hq
  subst hst
  subst hsp
  subst hdp
  subst hn
  obtain ⟨h1, h2, h3, h4, h5, h6⟩ := id hR
  have hK := C.2.2.2.2.2.1.1
  have hts := C.2.2.2.2.1
  have hro := C.2.2.2.2.2.2.1
  have he0 := ma_lm_get (G := G) hc0 h5
  have he1 := ma_lm_get (G := G) hc1 h5
  have hcl : (nI N).toNatClampNeg = N := nI_clamp (by omega)
  have hcl0 : (0 : Int32).toNatClampNeg = 0 := by decide
  intro T hT Y
  have hb0 : H[G.1 + a0]? = some (vp_cell (G.2.2.2.2 0) (n0, .inl f)) := h4 a0 _ he0
  have hb1 : H[G.1 + a]? = some (vp_cell (G.2.2.2.2 0) (n1, .inl g)) := h4 a _ he1
  obtain ⟨-, k0, hk0, cm0, hkk0⟩ := (hK.2 0 _ rfl).1 n0 (fun j => .int (f j))
  obtain ⟨-, k1, hk1, cm1, hkk1⟩ := (hK.2 0 _ rfl).1 n1 (fun j => .int (g j))
  obtain ⟨vm', Y', step⟩ := Y.arraycopy C.1 C.2.2.2.1 (hts _ hl) (hts _ hl2) (hts _ hl3) (hts _ hl4) (src := G.1 + a0) (dst := G.1 + a) (cs := vp_cell (G.2.2.2.2 0) (n0, .inl f)) (cd := vp_cell (G.2.2.2.2 0) (n1, .inl g)) (srcPos := 0) (destPos := 0) (n := nI N) (by rw [hT]; exact hb0) (by rw [hT]; exact hb1)
    (fun _ h => by cases h) (fun _ h => by cases h) (fun h => by cases h) (fun h => by cases h) hk0 hk1 hkk0 hkk1 rfl (by decide) (by decide) (nI_pos (by omega))
    (by rw [nI_toInt (by omega)]; show ¬ _ > ((arrV (G.2.2.2.2 0) n0 (fun j => .int (f j))).slots.size : Int); rw [arrV_size]; show ¬ (0 : Int) + (N : Int) > _; omega)
    (by rw [nI_toInt (by omega)]; show ¬ _ > ((arrV (G.2.2.2.2 0) n1 (fun j => .int (g j))).slots.size : Int); rw [arrV_size]; show ¬ (0 : Int) + (N : Int) > _; omega)
    (fun vm₁ _ i hi => by
      have e : (vp_cell (G.2.2.2.2 0) (n0, .inl f)).slots.getD ((0 : Int32).toNatClampNeg + i) .null = .int (f ((0 : Int32).toNatClampNeg + i)) := by
        show (arrV (G.2.2.2.2 0) n0 (fun j => .int (f j))).slots.getD _ _ = _
        rw [Array.getD_eq_getD_getElem?, arrV_read _ _ (by rw [hcl0]; rw [hcl] at hi; omega)]
        rfl
      refine ⟨?_, ?_⟩
      · rw [e]
        rfl
      · rw [e]
        exact trivial)
    (g := F0 m pc rl (.int (nI N) :: .int 0 :: .ref (G.1 + a) :: .int 0 :: .ref (G.1 + a0) :: [])) rfl (by rw [C.2.2.1]; exact hL.1) (rest := []) rfl (by rw [C.2.1]; exact hd) (by omega) (by
      have : nativeFrameWords "java/lang/System" "arraycopy" 5 = 7 := by decide
      show 2 * 0 + 0 + _ ≤ _
      omega)
  have e1 : copied (vp_cell (G.2.2.2.2 0) (n0, .inl f)) (vp_cell (G.2.2.2.2 0) (n1, .inl g)) 0 0 (nI N) = vp_cell (G.2.2.2.2 0) (n1, .inl (va_cpy f g (0 : Int32).toNatClampNeg (0 : Int32).toNatClampNeg (nI N).toNatClampNeg)) := va_copied (fun z => .int z) _ _ f g (by rw [hcl0, hcl]; omega)
  rw [hcl, hcl0] at e1
  rw [e1] at Y' step
  have hlt : G.1 + a < H.size := (Array.getElem?_eq_some_iff.mp hb1).1
  have hheap : ((T.setVm vm').setCell (G.1 + a) (vp_cell (G.2.2.2.2 0) (n1, .inl (va_cpy f g 0 0 N)))).heap = H.setIfInBounds (G.1 + a) (vp_cell (G.2.2.2.2 0) (n1, .inl (va_cpy f g 0 0 N))) := by rw [← hT]; rfl
  have oq : ∀ q : Nat, q ≠ G.1 + a → (H.setIfInBounds (G.1 + a) (vp_cell (G.2.2.2.2 0) (n1, .inl (va_cpy f g 0 0 N))))[q]? = H[q]? := fun q hq => by simp [Array.getElem?_setIfInBounds, Ne.symm hq]
  have hsz : (H.setIfInBounds (G.1 + a) (vp_cell (G.2.2.2.2 0) (n1, .inl (va_cpy f g 0 0 N)))).size = H.size := by simp
  obtain ⟨t, a1, b1⟩ := h G p l e R s m args below meth c z0 w0 Z C hz hw hr _ _ rl (hR.put (c := .inl (0, n1, .inl (va_cpy f g 0 0 N))) (h5 a _ hc1) rfl (h4.set ma_lm_D he1 (show (H.setIfInBounds (G.1 + a) _)[G.1 + a]? = some _ by simp [Array.getElem?_setIfInBounds, hlt]) oq) ⟨by rw [hsz]; exact h6.1, fun x g1 g2 => by
      rw [oq x (fun e => g2 (by rw [e]; exact Nat.le_add_right _ _))]
      exact h6.2.1 x g1 g2, fun x hx => by
      rcases List.mem_append.mp hx with hx | hx
      · exact h6.2.2 x hx
      · obtain ⟨z, -, hz⟩ := List.mem_map.mp hx
        rw [← hz]
        exact Nat.le_add_right _ _⟩ hsz) hL _ hheap Y'
  exact ⟨t, step t a1, b1⟩
end
section
/-! THE MEMORY BEHIND THE CONSTRUCTORS: a fixed layout, and all that changes as one table of ints: F a k is slot k of cell a -/
abbrev SH : Type := (Nat × List (Option Nat)) ⊕ (Nat × Nat) ⊕ (Nat × List Nat)
abbrev FF : Type := Nat → Nat → Int32
def layL : List SH := [
  .inl (6, [some 1, some 16, some 31, some 32, some 33, some 35, some 39, some 40, some 41, some 42, some 43, none]),
  .inl (0, [none, none, none, none, some 2, some 3]),
  .inr (.inr (5, [4, 7, 10, 13])),
  .inr (.inl (0, 16)),
  .inl (4, [none, none, some 5, some 6]),
  .inr (.inl (0, 6)),
  .inr (.inl (0, 6)),
  .inl (4, [none, none, some 8, some 9]),
  .inr (.inl (0, 6)),
  .inr (.inl (0, 6)),
  .inl (4, [none, none, some 11, some 12]),
  .inr (.inl (0, 6)),
  .inr (.inl (0, 6)),
  .inl (4, [none, none, some 14, some 15]),
  .inr (.inl (0, 6)),
  .inr (.inl (0, 6)),
  .inl (0, [none, none, none, none, some 17, some 18]),
  .inr (.inr (5, [19, 22, 25, 28])),
  .inr (.inl (0, 16)),
  .inl (4, [none, none, some 20, some 21]),
  .inr (.inl (0, 6)),
  .inr (.inl (0, 6)),
  .inl (4, [none, none, some 23, some 24]),
  .inr (.inl (0, 6)),
  .inr (.inl (0, 6)),
  .inl (4, [none, none, some 26, some 27]),
  .inr (.inl (0, 6)),
  .inr (.inl (0, 6)),
  .inl (4, [none, none, some 29, some 30]),
  .inr (.inl (0, 6)),
  .inr (.inl (0, 6)),
  .inr (.inr (3, [44, 59])),
  .inr (.inl (2, 2)),
  .inl (5, [some 34, none, none, none, none, none, none, none, none]),
  .inr (.inl (1, 160)),
  .inl (2, [none, some 36, some 37, some 38]),
  .inr (.inl (0, 6)),
  .inr (.inl (0, 6)),
  .inr (.inl (0, 6)),
  .inr (.inr (4, [74, 76, 78, 80])),
  .inl (1, [none, none]),
  .inr (.inl (0, 6)),
  .inr (.inl (0, 6)),
  .inr (.inl (0, 164)),
  .inl (0, [none, none, none, none, some 45, some 46]),
  .inr (.inr (5, [47, 50, 53, 56])),
  .inr (.inl (0, 16)),
  .inl (4, [none, none, some 48, some 49]),
  .inr (.inl (0, 6)),
  .inr (.inl (0, 6)),
  .inl (4, [none, none, some 51, some 52]),
  .inr (.inl (0, 6)),
  .inr (.inl (0, 6)),
  .inl (4, [none, none, some 54, some 55]),
  .inr (.inl (0, 6)),
  .inr (.inl (0, 6)),
  .inl (4, [none, none, some 57, some 58]),
  .inr (.inl (0, 6)),
  .inr (.inl (0, 6)),
  .inl (0, [none, none, none, none, some 60, some 61]),
  .inr (.inr (5, [62, 65, 68, 71])),
  .inr (.inl (0, 16)),
  .inl (4, [none, none, some 63, some 64]),
  .inr (.inl (0, 6)),
  .inr (.inl (0, 6)),
  .inl (4, [none, none, some 66, some 67]),
  .inr (.inl (0, 6)),
  .inr (.inl (0, 6)),
  .inl (4, [none, none, some 69, some 70]),
  .inr (.inl (0, 6)),
  .inr (.inl (0, 6)),
  .inl (4, [none, none, some 72, some 73]),
  .inr (.inl (0, 6)),
  .inr (.inl (0, 6)),
  .inl (3, [none, none, some 75]),
  .inr (.inl (0, 40)),
  .inl (3, [none, none, some 77]),
  .inr (.inl (0, 40)),
  .inl (3, [none, none, some 79]),
  .inr (.inl (0, 40)),
  .inl (3, [none, none, some 81]),
  .inr (.inl (0, 40)),
  .inl (7, [some 83, none, some 84, none, none, none, some 85, none, none, none, none, none, none, none, none, some 86, some 87, some 88, none, none, none, some 89, none, some 90, some 91, some 92, some 93, some 94, none]),
  .inr (.inl (0, 450)),
  .inr (.inl (0, 75)),
  .inr (.inl (0, 160)),
  .inr (.inl (0, 7)),
  .inr (.inl (0, 27)),
  .inr (.inl (0, 4)),
  .inr (.inl (0, 18)),
  .inr (.inl (0, 984)),
  .inr (.inl (2, 2)),
  .inr (.inl (0, 4)),
  .inr (.inl (0, 4)),
  .inr (.inl (0, 160))]
def lay (a : Nat) : Option SH := layL[a]?
def fcell (F : FF) (a : Nat) : SH → AC
  | .inl (ci, fs) => .inr (ci, fs.mapIdx (fun k r => match r with | none => .int (F a k) | some r => .ref r))
  | .inr (.inl (t, n)) => .inl (t, n, .inl (F a))
  | .inr (.inr (t, rs)) => .inl (t, rs.length, .inr (fun j => rs[j]?))
def mem (F : FF) : Mem := ((95, 2845), fun a => (lay a).map (fcell F a))
def fput (F : FF) (a k : Nat) (x : Int32) : FF := va_up F a (upd (F a) k x)
theorem fput_s {F : FF} {a k : Nat} {x : Int32} : fput F a k x a k = x := by simp [fput, va_up, upd]
theorem fput_k {F : FF} {a k k' : Nat} {x : Int32} (h : k' ≠ k) : fput F a k x a k' = F a k' := by simp [fput, va_up, upd, h]
theorem fput_a {F : FF} {a a' k : Nat} {x : Int32} (h : a' ≠ a) : fput F a k x a' = F a' := by simp [fput, va_up, h]
theorem fput_e {F : FF} {a a' k k' : Nat} {x : Int32} : fput F a k x a' k' = if a' = a ∧ k' = k then x else F a' k' := by
  by_cases h : a' = a
  · subst h
    by_cases h2 : k' = k
    · subst h2; simp [fput_s]
    · simp [fput_k h2, h2]
  · rw [fput_a h]; simp [h]
theorem mem_at {F : FF} {a : Nat} {c : SH} (h : lay a = some c) : (mem F).2 a = some (fcell F a c) := by simp [mem, h]
theorem mem_wf (F : FF) : ma_wf (mem F) := by
  intro k c h
  cases hl : lay k with
  | none => simp [mem, hl] at h
  | some s =>
    have := (List.getElem?_eq_some_iff.mp hl).1
    exact this
theorem mem_put {F : FF} {a k : Nat} {x : Int32} {c : SH} {e : AC} (h : lay a = some c) (he : e = fcell (fput F a k x) a c) : ma_put (mem F) a e = mem (fput F a k x) := by
  unfold ma_put mem
  congr 1
  funext b
  by_cases hb : b = a
  · subst hb
    simp [va_up, h, he]
  · simp only [va_up, hb, if_false]
    cases hl : lay b with
    | none => rfl
    | some s =>
      simp only [Option.map_some]
      congr 1
      match s with
      | .inl (ci, fs) => simp only [fcell, fput_a hb]
      | .inr (.inl (t, n)) => simp only [fcell, fput_a hb]
      | .inr (.inr (t, rs)) => rfl
theorem mem_row {F : FF} {a t n : Nat} {f : Nat → Int32} (h : lay a = some (.inr (.inl (t, n)))) : ma_put (mem F) a (.inl (t, n, .inl f)) = mem (va_up F a f) := by
  unfold ma_put mem
  congr 1
  funext b
  by_cases hb : b = a
  · subst hb
    simp [va_up, h, fcell]
  · simp only [va_up, hb, if_false]
    cases hl : lay b with
    | none => rfl
    | some s =>
      simp only [Option.map_some]
      congr 1
      have e9 : va_up F a f b = F b := by simp [va_up, hb]
      match s with
      | .inl (ci, fs) => simp only [fcell, e9]
      | .inr (.inl (t, n)) => simp only [fcell, e9]
      | .inr (.inr (t, rs)) => rfl
/-- the machine over tables -/
abbrev FV (B : ByteArray) (nL : Nat) (o : String) (d : Nat) (ret : Option FieldType) (X : Option (Nat × (Nat → Int32))) (pc : Nat) (ls st : List Value) (F : FF) (Q : Option Value → FF → Prop) : Prop := V B nL o false d ret X 95 2845 pc ls st (mem F) (fun r M' => ∃ F', M' = mem F' ∧ Q r F')
/-- a CONTRACT over tables: the answer and the table behind it are as Post says -/
def CP (d : Nat) (y : MT) (args : List Value) (F : FF) (Post : Option Value → FF → Prop) : Prop :=
  ∀ (l : Launch) (G : WG), Met l y.1 (.code y.1 y.2.1 y.2.2.1 y.2.2.2 :: ma_tbl) { frames := d, cells := 0, slots := 0, locals := 36 * d }
    (va_Pc (args.map (ma_tv G)) (fun U => ma_W G (mem F) U ∧ ma_S G U U.heap)) (fun av st oc t => ∃ r F', Post r F' ∧ ma_Q G r (mem F') av st oc t) 0 0 (ma_A G)
theorem CP_of_V {d : Nat} {y : MT} {args : List Value} {F : FF} {Post : Option Value → FF → Prop} (hy : plainName y.1.cls = true) (hfit : (ma_fl args).length ≤ y.2.2.1)
    (h : FV y.2.1 y.2.2.1 y.1.cls d y.2.2.2 none 0 (ma_ent y.2.2.1 args) [] F Post) : CP d y args F Post := by
  intro l G
  refine Met.ofW (cc := y.2.1) (maxL := y.2.2.1) (ret := y.2.2.2) hy rfl ?_
  intro p e s m args' below meth c s₁ Bd hml hv
  obtain ⟨rfl, ⟨hW1, hW2, hW3⟩, hS⟩ := hv
  have hts := atoms_spec (ws := .code y.1 y.2.1 y.2.2.1 y.2.2.2 :: ma_tbl) Bd.pre
  have hown : s.vm.findClass y.1.cls = some m.cls := findClass_of_methodNamed Bd.named
  have hlocks := Bd.notSynchronized
  rw [lg_entry_eq]
  have key := h G p l e { frames := d, cells := 0, slots := 0, locals := 36 * d } s m ((args.map (ma_tv G)).toArray) below meth c 95 2845 (MQ below (fun av st oc t => ∃ r F', Post r F' ∧ ma_Q G r (mem F') av st oc t) ((args.map (ma_tv G)).toArray) s 0 0 (ma_A G))
    ⟨Bd.exec, Bd.bytes, hml, hown, fun w hw => hts w (List.mem_cons_of_mem _ hw), hS, ⟨Nat.le_refl _, Nat.le_refl _⟩, Bd.returns, hlocks, (fun e => by cases e), (by rw [hW1]; exact Nat.le_add_right _ _), (fun _ e => by cases e)⟩ (Nat.le_refl _) (Nat.le_refl _)
    (fun r' M2 H' locs' pc' rl' hR hQ hV => by
      obtain ⟨F2, rfl, hPo⟩ := hQ
      obtain ⟨g1, g2, g3, g4, g5, g6⟩ := hR
      rw [show (mem F2).1.1 - 95 = 0 from Nat.sub_self 95, show (mem F2).1.2 - 2845 = 0 from Nat.sub_self 2845]
      match r', hV, hPo with
      | none, hV, hPo => exact W.vret Bd.exec Bd.bytes (Bd.returns.trans hV.1) (fun t ht hWm => ⟨none, F2, hPo, ⟨rfl, by rw [ht]; exact g3, by rw [ht]; exact g4, g5⟩, g6.F ht⟩) g6.2.2 hV.2 hlocks
      | some (.int v), hV, hPo =>
        obtain ⟨⟨ty, e1, e2⟩, e3⟩ := hV
        exact W.zret Bd.exec Bd.bytes (Bd.returns.trans e1) e2 (fun t ht hWm => ⟨some (.int v), F2, hPo, ⟨rfl, by rw [ht]; exact g3, by rw [ht]; exact g4, g5⟩, g6.F ht⟩) g6.2.2 e3 hlocks
      | some (.long v), hV, hPo => exact W.lret Bd.exec Bd.bytes (Bd.returns.trans hV.1) (fun t ht hWm => ⟨some (.long v), F2, hPo, ⟨rfl, by rw [ht]; exact g3, by rw [ht]; exact g4, g5⟩, g6.F ht⟩) g6.2.2 hV.2 hlocks)
    s.heap [] _ ⟨Nat.le_refl _, Nat.le_refl _, hW1, hW2, hW3, va_S.rf⟩ (ma_L_ent hfit)
  rw [show (mem F).1.1 - 95 = 0 from Nat.sub_self 95, show (mem F).1.2 - 2845 = 0 from Nat.sub_self 2845] at key
  exact key
theorem CP.mono {d : Nat} {y : MT} {args : List Value} {F : FF} {P1 P2 : Option Value → FF → Prop} (h : CP d y args F P1) (hp : ∀ r F', P1 r F' → P2 r F') : CP d y args F P2 := by
  intro l G p e ha hc hk s m args' below hf h1 h2 h3
  obtain ⟨k, o, g1, g2, g3, ⟨⟨r, F', g4, g5⟩, g6⟩⟩ := h l G p e ha hc hk s m args' below hf h1 h2 h3
  exact ⟨k, o, g1, g2, g3, ⟨⟨r, F', hp r F' g4, g5⟩, g6⟩⟩
section FRULES
variable {B : ByteArray} {nL : Nat} {o : String} {it : Bool} {d : Nat} {ret : Option FieldType} {X : Option (Nat × (Nat → Int32))} {zm wm pc q : Nat} {ls st : List Value} {F : FF} {Q : Option Value → Mem → Prop}
theorem fcell_int {F : FF} {a ci k : Nat} {fs : List (Option Nat)} (hk : fs[k]? = some none) : (fs.mapIdx (fun k r => match r with | none => Value.int (F a k) | some r => .ref r))[k]? = some (.int (F a k)) := by
  rw [List.getElem?_mapIdx, hk]; rfl
theorem F_getI {idx ci k a : Nat} {fs : List (Option Nat)} (hd : decode B pc = .ok (.getfield idx, 3)) (hf : FL o idx ci k) (hl : lay a = some (.inl (ci, fs))) (hk : fs[k]? = some none) (hq : pc + 3 = q) (h : V B nL o it d ret X zm wm q ls (.int (F a k) :: st) (mem F) Q) : V B nL o it d ret X zm wm pc ls (.ref a :: st) (mem F) Q :=
  V_getf hd hf (mem_at hl) (fcell_int (ci := ci) hk) hq h
theorem F_getR {idx ci k a b : Nat} {fs : List (Option Nat)} (hd : decode B pc = .ok (.getfield idx, 3)) (hf : FL o idx ci k) (hl : lay a = some (.inl (ci, fs))) (hk : fs[k]? = some (some b)) (hq : pc + 3 = q) (h : V B nL o it d ret X zm wm q ls (.ref b :: st) (mem F) Q) : V B nL o it d ret X zm wm pc ls (.ref a :: st) (mem F) Q :=
  V_getf hd hf (mem_at hl) (by rw [List.getElem?_mapIdx, hk]; rfl) hq h
theorem F_putI {idx ci k a : Nat} {fs : List (Option Nat)} {x : Int32} (hd : decode B pc = .ok (.putfield idx, 3)) (hf : FL o idx ci k) (hn : (Tn ci k).2.2.2 = false) (hty : tyn ci k = .int ∨ (tyn ci k = .boolean ∧ (x = 0 ∨ x = 1))) (hl : lay a = some (.inl (ci, fs))) (hk : fs[k]? = some none) (hq : pc + 3 = q) (h : V B nL o it d ret X zm wm q ls st (mem (fput F a k x)) Q) : V B nL o it d ret X zm wm pc ls (.int x :: .ref a :: st) (mem F) Q := by
  have hkl : k < fs.length := (List.getElem?_eq_some_iff.mp hk).1
  refine V_putI hd hf hn hty (mem_at hl) (by rw [List.length_mapIdx]; exact hkl) hq ?_
  rw [mem_put (k := k) (x := x) hl]
  · exact h
  · simp only [fcell]
    congr 2
    apply List.ext_getElem?
    intro j
    by_cases hj : j = k
    · subst hj
      rw [List.getElem?_set_self (by rw [List.length_mapIdx]; exact hkl), List.getElem?_mapIdx, hk]
      simp [fput_s]
    · rw [List.getElem?_set_ne (fun e => hj e.symm), List.getElem?_mapIdx, List.getElem?_mapIdx]
      cases fs[j]? with
      | none => rfl
      | some r =>
        cases r with
        | none => simp [fput_k hj]
        | some r => rfl
theorem F_iald {a n j : Nat} {i : Int32} (hd : decode B pc = .ok (.iaload, 1)) (hl : lay a = some (.inr (.inl (0, n)))) (hi : i = nI j) (hj : j < n) (hn : n < 2 ^ 31) (hq : pc + 1 = q) (h : V B nL o it d ret X zm wm q ls (.int (F a j) :: st) (mem F) Q) : V B nL o it d ret X zm wm pc ls (.int i :: .ref a :: st) (mem F) Q := V_iald hd (mem_at hl) hi hj hn hq h
theorem F_bald {a n j : Nat} {i : Int32} (hd : decode B pc = .ok (.baload, 1)) (hl : lay a = some (.inr (.inl (1, n)))) (hi : i = nI j) (hj : j < n) (hn : n < 2 ^ 31) (hq : pc + 1 = q) (h : V B nL o it d ret X zm wm q ls (.int (F a j) :: st) (mem F) Q) : V B nL o it d ret X zm wm pc ls (.int i :: .ref a :: st) (mem F) Q := V_bald hd (mem_at hl) hi hj hn hq h
theorem F_zald {a n j : Nat} {i : Int32} (hd : decode B pc = .ok (.baload, 1)) (hl : lay a = some (.inr (.inl (2, n)))) (hi : i = nI j) (hj : j < n) (hn : n < 2 ^ 31) (hq : pc + 1 = q) (h : V B nL o it d ret X zm wm q ls (.int (F a j) :: st) (mem F) Q) : V B nL o it d ret X zm wm pc ls (.int i :: .ref a :: st) (mem F) Q := V_zald hd (mem_at hl) hi hj hn hq h
theorem F_aald {a j t b : Nat} {rs : List Nat} {i : Int32} (hd : decode B pc = .ok (.aaload, 1)) (hl : lay a = some (.inr (.inr (t, rs)))) (ht : t = 3 ∨ t = 4 ∨ t = 5) (hi : i = nI j) (hb : rs[j]? = some b) (hn : rs.length < 2 ^ 31) (hq : pc + 1 = q) (h : V B nL o it d ret X zm wm q ls (.ref b :: st) (mem F) Q) : V B nL o it d ret X zm wm pc ls (.int i :: .ref a :: st) (mem F) Q := V_aald hd (mem_at hl) ht hi (List.getElem?_eq_some_iff.mp hb).1 hn hb hq h
theorem F_alen {a n t : Nat} (hd : decode B pc = .ok (.arraylength, 1)) (hl : lay a = some (.inr (.inl (t, n)))) (ht : t < 6) (hq : pc + 1 = q) (h : V B nL o it d ret X zm wm q ls (.int (nI n) :: st) (mem F) Q) : V B nL o it d ret X zm wm pc ls (.ref a :: st) (mem F) Q := V_alen hd (mem_at hl) ht hq h
theorem F_iast {a n j : Nat} {i x : Int32} (hd : decode B pc = .ok (.iastore, 1)) (hl : lay a = some (.inr (.inl (0, n)))) (hi : i = nI j) (hj : j < n) (hn : n < 2 ^ 31) (hq : pc + 1 = q) (h : V B nL o it d ret X zm wm q ls st (mem (fput F a j x)) Q) : V B nL o it d ret X zm wm pc ls (.int x :: .int i :: .ref a :: st) (mem F) Q := V_iast hd (mem_at hl) hi hj hn hq (by rw [mem_row hl]; exact h)
theorem F_bast {a n j : Nat} {i x : Int32} (hd : decode B pc = .ok (.bastore, 1)) (hl : lay a = some (.inr (.inl (1, n)))) (hi : i = nI j) (hj : j < n) (hn : n < 2 ^ 31) (hq : pc + 1 = q) (h : V B nL o it d ret X zm wm q ls st (mem (fput F a j x.toInt8.toInt32)) Q) : V B nL o it d ret X zm wm pc ls (.int x :: .int i :: .ref a :: st) (mem F) Q := V_bast hd (mem_at hl) hi hj hn hq (by rw [mem_row hl]; exact h)
theorem F_zast {a n j : Nat} {i x : Int32} (hd : decode B pc = .ok (.bastore, 1)) (hl : lay a = some (.inr (.inl (2, n)))) (hx : x = 0 ∨ x = 1) (hi : i = nI j) (hj : j < n) (hn : n < 2 ^ 31) (hq : pc + 1 = q) (h : V B nL o it d ret X zm wm q ls st (mem (fput F a j x)) Q) : V B nL o it d ret X zm wm pc ls (.int x :: .int i :: .ref a :: st) (mem F) Q := V_zast hd (mem_at hl) hx hi hj hn hq (by rw [mem_row hl]; exact h)
theorem F_copy {idx a0 a n0 n1 N : Nat} {n sp dp : Int32} (hd : decode B pc = .ok (.invokestatic idx, 3)) (hl : Cond.methodLink o idx arraycopyName ∈ ma_tbl) (hl2 : Cond.native arraycopyName ∈ ma_tbl) (hl3 : Cond.static arraycopyName ∈ ma_tbl) (hl4 : Cond.initialized "java/lang/System" ∈ ma_tbl)
    (hc0 : lay a0 = some (.inr (.inl (0, n0)))) (hc1 : lay a = some (.inr (.inl (0, n1)))) (hsp : sp = 0) (hdp : dp = 0) (hn : n = nI N) (hN : N ≤ n0 ∧ N ≤ n1 ∧ N < 2 ^ 31) (hst : st = []) (hq : pc + 3 = q) (h : V B nL o it (d + 1) ret X zm wm q ls [] (mem (va_up F a (va_cpy (F a0) (F a) 0 0 N))) Q) : V B nL o it (d + 1) ret X zm wm pc ls (.int n :: .int dp :: .ref a :: .int sp :: .ref a0 :: st) (mem F) Q :=
  V_copy hd hl hl2 hl3 hl4 (mem_at hc0) (mem_at hc1) hsp hdp hn hN hst hq (by rw [mem_row hc1]; exact h)
/-- behind a call, over tables -/
theorem ma_afterP {G : WG} {p : Program} {l : Launch} {e : Env} {R : Room} {s : State} {m : MethodId} {args : Array Value} {below : List Frame} {meth : Method} {c : Code} {z0 w0 : Nat} {Z : State → Prop} {H : Heap} {locs : List Loc} {rl : Array Slot} {av : Array Value} {st0 : List Value} {Post : Option Value → FF → Prop}
    (hR : ma_R G s z0 w0 (mem F) H locs)
    (hrun : va_Run p l e R s m args below meth c H locs (95 - z0) (2845 - w0) 0 0 (F0 m pc rl st0) (st.map (ma_tv G)) ((fun av st oc t => ∃ r F', Post r F' ∧ ma_Q G r (mem F') av st oc t) av) (ma_A G))
    (k : ∀ (r : Option Value) (F' : FF), Post r F' → ∀ (H1 : Heap) (locs1 : List Loc), ma_R G s z0 w0 (mem F') H1 locs1 → W p l e R s m args below meth c H1 locs1 (95 - z0) (2845 - w0) Z (F0 m (pc + 3) rl ((r.toList ++ st).map (ma_tv G)))) : W p l e R s m args below meth c H locs (95 - z0) (2845 - w0) Z (F0 m pc rl st0) := by
  intro T hT Y
  obtain ⟨h1, h2, h3, h4, h5, h6⟩ := hR
  obtain ⟨v, st₀, t, T', L, e0, Y', hL', e1, e2, ⟨r, F', hPo, ⟨hv, hsz, hP, hwf⟩, hF⟩, hgo⟩ := hrun T hT Y
  have hv' : v = r.map (ma_tv G) := by cases hv; rfl
  subst hv'
  obtain ⟨f1, f2⟩ := hF
  rw [e0] at f1 f2
  have kk := k r F' hPo T'.heap (locs ++ L) ⟨h1, h2, by rw [e1]; exact hsz, by rw [e1]; exact hP, hwf, ⟨Nat.le_trans h6.1 (by rw [e1]; exact f1), fun x g1 g2 => by rw [e1, f2 x (Nat.lt_of_lt_of_le g1 h6.1) g2]; exact h6.2.1 x g1 g2, fun x hx => by
    rcases List.mem_append.mp hx with hx | hx
    · exact h6.2.2 x hx
    · exact hL' x hx⟩⟩
  have e3 : (r.toList ++ st).map (ma_tv G) = (r.map (ma_tv G)).toList ++ st.map (ma_tv G) := by cases r <;> rfl
  rw [e3] at kk
  obtain ⟨t2, a1, b1⟩ := kk T' rfl Y'
  exact ⟨t2, hgo t2 a1, b1⟩
theorem ma_callP {R : Room} {s : State} {args : Array Value} {idx n : Nat} {y : MT} (hts : ∀ w ∈ ma_tbl, w.before args s = true) (hc : CB o idx y n) (hro : d + 1 ≤ R.frames ∧ 36 * (d + 1) ≤ R.locals) : CallB R s args o idx y.1 y.2.1 y.2.2.1 y.2.2.2 (.code y.1 y.2.1 y.2.2.1 y.2.2.2 :: ma_tbl) { frames := d, cells := 0, slots := 0, locals := 36 * d } 0 0 n :=
  callB_of n hts (ma_good hc.2.2.2.2) rfl rfl rfl (hts _ hc.2.2.2.1) (hts _ hc.2.2.1) hc.1 ⟨hro.1, by show 8 + (y.2.2.1 + 11) + 36 * d ≤ R.locals; have := hc.2.1; have := hro.2; omega⟩
theorem F_callV {idx n ci a : Nat} {y : MT} {As st0 : List Value} {fs : List (Option Nat)} {Post : Option Value → FF → Prop} (hd : decode B pc = .ok (.invokevirtual idx, 3)) (hf : CV o idx y n) (hc : lay a = some (.inl (ci, fs))) (hci : ci < 8) (hcl : Rn ci = y.1.cls) (hM : CP d y (.ref a :: As) F Post) (hn : As.length = n) (hs : st0 = As.reverse ++ .ref a :: st) (hst : (st.map fun v => v.category).sum ≤ 8) (hq : pc + 3 = q) (h : ∀ r F', Post r F' → V B nL o it (d + 1) ret X 95 2845 q ls (r.toList ++ st) (mem F') Q) : V B nL o it (d + 1) ret X 95 2845 pc ls st0 (mem F) Q := by
  intro G p l e R s m args below meth c z0 w0 Z C hz hw hr H locs rl hR hL
  subst hq
  subst hs
  have hts := C.2.2.2.2.1
  have hS := C.2.2.2.2.2.1
  obtain ⟨g1, g2, g3, g4, g5, g6⟩ := id hR
  have g1 : z0 ≤ 95 := g1
  have g2 : w0 ≤ 2845 := g2
  have hp := ma_pre (As := .ref a :: As) hR hS
  refine ma_afterP (Post := Post) (F := F) hR (av := ((Value.ref a :: As).map (ma_tv G)).toArray) ?_ (fun r F' hPo H1 locs1 hR1 => h r F' hPo G p l e R s m args below meth c z0 w0 Z C hz hw hr H1 locs1 rl hR1 hL)
  exact va_runV (C := y.1.cls) (b := G.1 + a) (As := As.map (ma_tv G)) ⟨C.1, C.2.1, C.2.2.1, C.2.2.2.1, hts⟩ (hM l G) ⟨ma_callP hts hf.1 C.2.2.2.2.2.2.1, hts _ hf.2.1, hts _ hf.2.2⟩ ⟨hp.1, by rw [← hcl]; exact va_recv hS.1 g4 (ma_cl hci) (ma_lm_get (mem_at hc) g5), hp.2⟩ rfl (by rw [List.length_map]; exact hn) hL.1 (by simp [ma_tv]) (lv_room (by rw [ma_sum]; exact hst)) hd ⟨by omega, by omega⟩
theorem F_callS {idx n : Nat} {y : MT} {As st0 : List Value} {Post : Option Value → FF → Prop} (hd : decode B pc = .ok (.invokestatic idx, 3)) (hf : CS o idx y n) (hM : CP d y As F Post) (hn : As.length = n) (hs : st0 = As.reverse ++ st) (hst : (st.map fun v => v.category).sum ≤ 8) (hq : pc + 3 = q) (h : ∀ r F', Post r F' → V B nL o it (d + 1) ret X 95 2845 q ls (r.toList ++ st) (mem F') Q) : V B nL o it (d + 1) ret X 95 2845 pc ls st0 (mem F) Q := by
  intro G p l e R s m args below meth c z0 w0 Z C hz hw hr H locs rl hR hL
  subst hq
  subst hs
  have hts := C.2.2.2.2.1
  have hS := C.2.2.2.2.2.1
  obtain ⟨g1, g2, g3, g4, g5, g6⟩ := id hR
  have g1 : z0 ≤ 95 := g1
  have g2 : w0 ≤ 2845 := g2
  refine ma_afterP (Post := Post) (F := F) hR (av := (As.map (ma_tv G)).toArray) ?_ (fun r F' hPo H1 locs1 hR1 => h r F' hPo G p l e R s m args below meth c z0 w0 Z C hz hw hr H1 locs1 rl hR1 hL)
  exact va_runS (As := As.map (ma_tv G)) ⟨C.1, C.2.1, C.2.2.1, C.2.2.2.1, hts⟩ (hM l G) ⟨ma_callP hts hf.1 C.2.2.2.2.2.2.1, hts _ hf.2⟩ (ma_pre hR hS) rfl (by rw [List.length_map]; exact hn) hL.1 (by simp) (lv_room (by rw [ma_sum]; exact hst)) hd ⟨by omega, by omega⟩
theorem F_ret (r : Option Value) {st' : List Value} {Post : Option Value → FF → Prop} (hs : r.toList = st') (hv : ma_VR B ret pc r) (h : Post r F) : FV B nL o d ret X pc ls st' F Post := V_ret r hs hv ⟨F, rfl, h⟩
theorem F_ireturn {v : Int32} {Post : Option Value → FF → Prop} (hd : decode B pc = .ok (.ireturn, 1)) (hi : ret = some .int) (h : Post (some (.int v)) F) : FV B nL o d ret X pc ls [.int v] F Post := V_ireturn hd hi ⟨F, rfl, h⟩
theorem F_zreturn {v : Int32} {Post : Option Value → FF → Prop} (hd : decode B pc = .ok (.ireturn, 1)) (hi : ret = some .boolean) (hv : v = 0 ∨ v = 1) (h : Post (some (.int v)) F) : FV B nL o d ret X pc ls [.int v] F Post := V_zreturn hd hi hv ⟨F, rfl, h⟩
theorem F_lreturn {v : Int64} {Post : Option Value → FF → Prop} (hd : decode B pc = .ok (.lreturn, 1)) (hi : ret = some .long) (h : Post (some (.long v)) F) : FV B nL o d ret X pc ls [.long v] F Post := V_lreturn hd hi ⟨F, rfl, h⟩
theorem F_return {Post : Option Value → FF → Prop} (hd : decode B pc = .ok (.return_, 1)) (hi : ret = none) (h : Post none F) : FV B nL o d ret X pc ls [] F Post := V_return hd hi ⟨F, rfl, h⟩
end FRULES
end
section
/-! THE WORDS: methods, links of fields and of methods, constants -/
abbrev mX6_init : MT := (yX6_init, cX6_init, 2, none)
abbrev mX0_init : MT := (yX0_init, cX0_init, 2, none)
abbrev mX4_init : MT := (yX4_init, cX4_init, 1, none)
abbrev mX4_begin : MT := (yX4_begin, cX4_begin, 3, none)
abbrev mX0_empty : MT := (yX0_empty, cX0_empty, 1, none)
abbrev mX5_init : MT := (yX5_init, cX5_init, 1, none)
abbrev mX2_init : MT := (yX2_init, cX2_init, 1, none)
abbrev mX1_init : MT := (yX1_init, cX1_init, 1, none)
abbrev mX3_init : MT := (yX3_init, cX3_init, 1, none)
abbrev mX6_feed : MT := (yX6_feed, cX6_feed, 2, some .int)
abbrev mX6_within : MT := (yX6_within, cX6_within, 3, some .boolean)
abbrev mX6_end : MT := (yX6_end, cX6_end, 3, some .int)
abbrev mX6_text : MT := (yX6_text, cX6_text, 3, some .int)
abbrev mX5_tellTo : MT := (yX5_tellTo, cX5_tellTo, 3, some .int)
abbrev mX5_takeLine : MT := (yX5_takeLine, cX5_takeLine, 3, some .boolean)
abbrev mX5_scan : MT := (yX5_scan, cX5_scan, 1, none)
abbrev mX5_isLetter : MT := (yX5_isLetter, cX5_isLetter, 1, some .boolean)
abbrev mX5_scanName : MT := (yX5_scanName, cX5_scanName, 1, none)
abbrev mX5_isFigure : MT := (yX5_isFigure, cX5_isFigure, 1, some .boolean)
abbrev mX5_scanNumber : MT := (yX5_scanNumber, cX5_scanNumber, 1, none)
abbrev mX5_refuse : MT := (yX5_refuse, cX5_refuse, 2, some .boolean)
abbrev mX5_isNamed : MT := (yX5_isNamed, cX5_isNamed, 3, some .boolean)
abbrev mJ0_length_8abf5 : MT := (yJ0_length_8abf5, cJ0_length_8abf5, 1, some .int)
abbrev mJ0_coder_7d493 : MT := (yJ0_coder_7d493, cJ0_coder_7d493, 1, some .byte)
abbrev mJ0_charAt_5068e : MT := (yJ0_charAt_5068e, cJ0_charAt_5068e, 2, some .char)
abbrev mJ0_isLatin1_aae02 : MT := (yJ0_isLatin1_aae02, cJ0_isLatin1_aae02, 1, some .boolean)
abbrev mJ1_charAt_3b067 : MT := (yJ1_charAt_3b067, cJ1_charAt_3b067, 2, some .char)
abbrev mJ0_checkIndex_df160 : MT := (yJ0_checkIndex_df160, cJ0_checkIndex_df160, 2, none)
abbrev mJ3_checkIndex_8e157 : MT := (yJ3_checkIndex_8e157, cJ3_checkIndex_8e157, 3, some .int)
abbrev mJ2_charAt_3b067 : MT := (yJ2_charAt_3b067, cJ2_charAt_3b067, 2, some .char)
abbrev mJ2_checkIndex_2214a : MT := (yJ2_checkIndex_2214a, cJ2_checkIndex_2214a, 2, none)
abbrev mJ2_length_9d52b : MT := (yJ2_length_9d52b, cJ2_length_9d52b, 1, some .int)
abbrev mJ2_getChar_3b067 : MT := (yJ2_getChar_3b067, cJ2_getChar_3b067, 2, some .char)
abbrev mX5_takeBooks : MT := (yX5_takeBooks, cX5_takeBooks, 2, some .boolean)
abbrev mX5_takeSemicolon : MT := (yX5_takeSemicolon, cX5_takeSemicolon, 1, some .boolean)
abbrev mX5_takeWants : MT := (yX5_takeWants, cX5_takeWants, 3, some .boolean)
abbrev mX0_addWant : MT := (yX0_addWant, cX0_addWant, 2, some .boolean)
abbrev mX5_kindNamed : MT := (yX5_kindNamed, cX5_kindNamed, 1, some .int)
abbrev mX5_takeShelf : MT := (yX5_takeShelf, cX5_takeShelf, 3, some .boolean)
abbrev mX0_addShelf : MT := (yX0_addShelf, cX0_addShelf, 2, some .boolean)
abbrev mX0_wantsNoSuchBook : MT := (yX0_wantsNoSuchBook, cX0_wantsNoSuchBook, 2, some .boolean)
abbrev mX0_hasBook : MT := (yX0_hasBook, cX0_hasBook, 2, some .boolean)
abbrev mX0_copy : MT := (yX0_copy, cX0_copy, 3, none)
abbrev mX4_copy : MT := (yX4_copy, cX4_copy, 2, none)
abbrev mX6_fault : MT := (yX6_fault, cX6_fault, 1, some .int)
abbrev mX6_rule : MT := (yX6_rule, cX6_rule, 2, some .int)
abbrev mX0_turn : MT := (yX0_turn, cX0_turn, 2, some .int)
abbrev mX6_leastCost : MT := (yX6_leastCost, cX6_leastCost, 2, some .int)
abbrev mX1_reset : MT := (yX1_reset, cX1_reset, 2, none)
abbrev mX1_offer : MT := (yX1_offer, cX1_offer, 3, none)
abbrev mX6_shelf : MT := (yX6_shelf, cX6_shelf, 4, some .int)
abbrev mX0_hasShelf : MT := (yX0_hasShelf, cX0_hasShelf, 2, some .boolean)
abbrev mX6_place : MT := (yX6_place, cX6_place, 3, some .int)
abbrev mX4_find : MT := (yX4_find, cX4_find, 3, some .int)
abbrev mX6_want : MT := (yX6_want, cX6_want, 2, some .int)
abbrev mX0_hasWant : MT := (yX0_hasWant, cX0_hasWant, 2, some .boolean)
abbrev mX6_alter : MT := (yX6_alter, cX6_alter, 4, some .int)
abbrev mX6_put : MT := (yX6_put, cX6_put, 2, some .int)
abbrev mX6_cut : MT := (yX6_cut, cX6_cut, 3, some .int)
abbrev mX6_stand : MT := (yX6_stand, cX6_stand, 5, some .int)
abbrev mX4_shift : MT := (yX4_shift, cX4_shift, 5, none)
abbrev mX6_set : MT := (yX6_set, cX6_set, 4, some .int)
abbrev mX6_add : MT := (yX6_add, cX6_add, 2, some .int)
abbrev mX6_drop : MT := (yX6_drop, cX6_drop, 3, some .int)
abbrev mX6_take : MT := (yX6_take, cX6_take, 2, some .int)
abbrev mX0_serveAll : MT := (yX0_serveAll, cX0_serveAll, 4, some .int)
abbrev mX4_serve : MT := (yX4_serve, cX4_serve, 4, some .int)
abbrev mX4_payFor : MT := (yX4_payFor, cX4_payFor, 2, some .int)
abbrev mJ9_min_7cf53 : MT := (yJ9_min_7cf53, cJ9_min_7cf53, 2, some .int)
abbrev mX4_goalOf : MT := (yX4_goalOf, cX4_goalOf, 4, some .int)
abbrev mX6_steps : MT := (yX6_steps, cX6_steps, 4, some .int)
abbrev mX0_stepOn : MT := (yX0_stepOn, cX0_stepOn, 2, some .int)
abbrev mX6_runs : MT := (yX6_runs, cX6_runs, 3, some .int)
abbrev mX0_paidByAll : MT := (yX0_paidByAll, cX0_paidByAll, 5, some .int)
abbrev mX0_paidBy : MT := (yX0_paidBy, cX0_paidBy, 6, some .int)
abbrev mX0_serveTurn : MT := (yX0_serveTurn, cX0_serveTurn, 4, some .int)
abbrev mX6_cheapestIn : MT := (yX6_cheapestIn, cX6_cheapestIn, 3, some .int)
abbrev mX0_dearestPay : MT := (yX0_dearestPay, cX0_dearestPay, 5, some .int)
abbrev mJ9_max_7cf53 : MT := (yJ9_max_7cf53, cJ9_max_7cf53, 2, some .int)
abbrev mX0_movesIn : MT := (yX0_movesIn, cX0_movesIn, 7, some .int)
abbrev mX6_paid : MT := (yX6_paid, cX6_paid, 3, some .int)
abbrev mX6_ahead : MT := (yX6_ahead, cX6_ahead, 4, some .int)
abbrev mX6_when : MT := (yX6_when, cX6_when, 4, some .int)
abbrev mX6_again : MT := (yX6_again, cX6_again, 2, some .int)
abbrev mX0_standsAs : MT := (yX0_standsAs, cX0_standsAs, 3, some .boolean)
abbrev mX4_standsAs : MT := (yX4_standsAs, cX4_standsAs, 3, some .boolean)
abbrev mX6_order : MT := (yX6_order, cX6_order, 5, some .int)
abbrev mX6_findBestRow : MT := (yX6_findBestRow, cX6_findBestRow, 7, some .int)
abbrev mX6_nextRow : MT := (yX6_nextRow, cX6_nextRow, 6, some .boolean)
abbrev mX6_exchange : MT := (yX6_exchange, cX6_exchange, 4, none)
abbrev mX6_kind : MT := (yX6_kind, cX6_kind, 5, some .int)
abbrev mX1_answer : MT := (yX1_answer, cX1_answer, 2, some .int)
abbrev mX6_first : MT := (yX6_first, cX6_first, 6, some .int)
abbrev mX6_swap : MT := (yX6_swap, cX6_swap, 5, some .int)
abbrev mX6_resetToPaidNow : MT := (yX6_resetToPaidNow, cX6_resetToPaidNow, 2, none)
abbrev mX6_lose : MT := (yX6_lose, cX6_lose, 4, some .int)
abbrev mX6_luck : MT := (yX6_luck, cX6_luck, 11, some .long)
abbrev mX6_areOdds : MT := (yX6_areOdds, cX6_areOdds, 3, some .boolean)
abbrev mX6_weightOf : MT := (yX6_weightOf, cX6_weightOf, 4, some .long)
abbrev mJ6_bitCount_0f7a4 : MT := (yJ6_bitCount_0f7a4, cJ6_bitCount_0f7a4, 1, some .int)
abbrev mX6_power : MT := (yX6_power, cX6_power, 5, some .long)
abbrev mX0_paidWithout : MT := (yX0_paidWithout, cX0_paidWithout, 6, some .int)
abbrev mX6_inLowestTerms : MT := (yX6_inLowestTerms, cX6_inLowestTerms, 12, some .long)
abbrev mX6_mean : MT := (yX6_mean, cX6_mean, 10, some .long)
abbrev mX6_see : MT := (yX6_see, cX6_see, 4, some .int)
abbrev mX2_note : MT := (yX2_note, cX2_note, 4, some .boolean)
abbrev mX6_forget : MT := (yX6_forget, cX6_forget, 3, some .int)
abbrev mX6_kinds : MT := (yX6_kinds, cX6_kinds, 4, some .int)
abbrev mX2_isSoIn : MT := (yX2_isSoIn, cX2_isSoIn, 4, some .boolean)
abbrev mX2_latest : MT := (yX2_latest, cX2_latest, 3, some .int)
abbrev mX2_isSoBehind : MT := (yX2_isSoBehind, cX2_isSoBehind, 5, some .boolean)
abbrev mX6_books : MT := (yX6_books, cX6_books, 2, some .int)
abbrev mX6_candidates : MT := (yX6_candidates, cX6_candidates, 4, some .int)
abbrev mX6_ask : MT := (yX6_ask, cX6_ask, 6, some .int)
abbrev mX6_countLooks : MT := (yX6_countLooks, cX6_countLooks, 4, none)
abbrev mX6_countLooksOfTrial : MT := (yX6_countLooksOfTrial, cX6_countLooksOfTrial, 3, none)
abbrev mX6_mostShowingOne : MT := (yX6_mostShowingOne, cX6_mostShowingOne, 3, some .int)
abbrev mX6_drift : MT := (yX6_drift, cX6_drift, 7, some .int)
abbrev mX6_paidBySeed : MT := (yX6_paidBySeed, cX6_paidBySeed, 8, some .int)
abbrev mX6_keep : MT := (yX6_keep, cX6_keep, 3, some .int)
abbrev mX6_back : MT := (yX6_back, cX6_back, 2, some .int)
abbrev mX6_sheet : MT := (yX6_sheet, cX6_sheet, 4, some .int)
abbrev mX3_begin : MT := (yX3_begin, cX3_begin, 4, none)
abbrev mX6_lay : MT := (yX6_lay, cX6_lay, 5, some .int)
abbrev mX3_faultOf : MT := (yX3_faultOf, cX3_faultOf, 3, some .int)
abbrev mX3_write : MT := (yX3_write, cX3_write, 3, none)
abbrev mX6_read : MT := (yX6_read, cX6_read, 9, some .int)
abbrev mX6_torn : MT := (yX6_torn, cX6_torn, 1, some .int)
abbrev mX6_count : MT := (yX6_count, cX6_count, 2, some .int)
abbrev mX6_imagesKept : MT := (yX6_imagesKept, cX6_imagesKept, 3, some .int)
abbrev mX0_costOfAll : MT := (yX0_costOfAll, cX0_costOfAll, 3, some .int)
abbrev mX0_wantsSummed : MT := (yX0_wantsSummed, cX0_wantsSummed, 3, some .int)
abbrev mX7_init : MT := (yX7_init, cX7_init, 1, none)
abbrev mX7_feed : MT := (yX7_feed, cX7_feed, 2, some .int)
abbrev mX7_in : MT := (yX7_in, cX7_in, 6, some .boolean)
abbrev mX7_end : MT := (yX7_end, cX7_end, 3, some .int)
abbrev mX7_text : MT := (yX7_text, cX7_text, 3, some .int)
abbrev mX7_readsOn : MT := (yX7_readsOn, cX7_readsOn, 2, none)
abbrev mX7_byteAt : MT := (yX7_byteAt, cX7_byteAt, 2, some .int)
abbrev mX7_fails : MT := (yX7_fails, cX7_fails, 2, none)
abbrev mX7_readLine : MT := (yX7_readLine, cX7_readLine, 2, none)
abbrev mX7_nameHere : MT := (yX7_nameHere, cX7_nameHere, 4, some .int)
abbrev mX7_readMore : MT := (yX7_readMore, cX7_readMore, 2, none)
abbrev mX7_number : MT := (yX7_number, cX7_number, 4, some .int)
abbrev mX7_readWants : MT := (yX7_readWants, cX7_readWants, 3, none)
abbrev mX7_ordersFirst : MT := (yX7_ordersFirst, cX7_ordersFirst, 3, none)
abbrev mX7_fault : MT := (yX7_fault, cX7_fault, 1, some .int)
abbrev mX7_rule : MT := (yX7_rule, cX7_rule, 4, some .int)
abbrev mX7_turnOn : MT := (yX7_turnOn, cX7_turnOn, 2, some .int)
abbrev mX7_shelf : MT := (yX7_shelf, cX7_shelf, 3, some .int)
abbrev mX7_isShelf : MT := (yX7_isShelf, cX7_isShelf, 2, some .boolean)
abbrev mX7_isBook : MT := (yX7_isBook, cX7_isBook, 2, some .boolean)
abbrev mX7_place : MT := (yX7_place, cX7_place, 3, some .int)
abbrev mX7_placeOn : MT := (yX7_placeOn, cX7_placeOn, 6, some .int)
abbrev mX7_want : MT := (yX7_want, cX7_want, 2, some .int)
abbrev mX7_isWant : MT := (yX7_isWant, cX7_isWant, 2, some .boolean)
abbrev mX7_alter : MT := (yX7_alter, cX7_alter, 3, some .int)
abbrev mX7_puts : MT := (yX7_puts, cX7_puts, 5, some .int)
abbrev mX7_put : MT := (yX7_put, cX7_put, 3, some .int)
abbrev mX7_cut : MT := (yX7_cut, cX7_cut, 2, some .int)
abbrev mX7_stand : MT := (yX7_stand, cX7_stand, 5, some .int)
abbrev mX7_standsOn : MT := (yX7_standsOn, cX7_standsOn, 8, none)
abbrev mX7_set : MT := (yX7_set, cX7_set, 3, some .int)
abbrev mX7_add : MT := (yX7_add, cX7_add, 2, some .int)
abbrev mX7_adds : MT := (yX7_adds, cX7_adds, 2, some .int)
abbrev mX7_drop : MT := (yX7_drop, cX7_drop, 2, some .int)
abbrev mX7_take : MT := (yX7_take, cX7_take, 2, some .int)
abbrev mX7_asksOn : MT := (yX7_asksOn, cX7_asksOn, 10, some .int)
abbrev mX7_goalOn : MT := (yX7_goalOn, cX7_goalOn, 8, some .int)
abbrev mX7_steps : MT := (yX7_steps, cX7_steps, 3, some .int)
abbrev mX7_starts : MT := (yX7_starts, cX7_starts, 2, none)
abbrev mX7_stepOn : MT := (yX7_stepOn, cX7_stepOn, 4, none)
abbrev mX7_paidAll : MT := (yX7_paidAll, cX7_paidAll, 3, some .int)
abbrev mX7_runs : MT := (yX7_runs, cX7_runs, 4, some .int)
abbrev mX7_stepsGo : MT := (yX7_stepsGo, cX7_stepsGo, 4, some .int)
abbrev mX7_copies : MT := (yX7_copies, cX7_copies, 4, none)
abbrev mX7_cheapest : MT := (yX7_cheapest, cX7_cheapest, 3, some .int)
abbrev mX7_paid : MT := (yX7_paid, cX7_paid, 3, some .int)
abbrev mX7_ahead : MT := (yX7_ahead, cX7_ahead, 4, some .int)
abbrev mX7_when : MT := (yX7_when, cX7_when, 4, some .int)
abbrev mX7_again : MT := (yX7_again, cX7_again, 7, some .int)
abbrev mX7_order : MT := (yX7_order, cX7_order, 7, some .int)
abbrev mX7_isRow : MT := (yX7_isRow, cX7_isRow, 5, some .boolean)
abbrev mX7_ordered : MT := (yX7_ordered, cX7_ordered, 6, some .boolean)
abbrev mX7_kind : MT := (yX7_kind, cX7_kind, 7, some .int)
abbrev mX7_first : MT := (yX7_first, cX7_first, 7, some .int)
abbrev mX7_swap : MT := (yX7_swap, cX7_swap, 8, some .int)
abbrev mX7_lose : MT := (yX7_lose, cX7_lose, 7, some .int)
abbrev mX7_luck : MT := (yX7_luck, cX7_luck, 6, some .long)
abbrev mX7_byNothing : MT := (yX7_byNothing, cX7_byNothing, 15, some .long)
abbrev mX7_lowest : MT := (yX7_lowest, cX7_lowest, 11, some .long)
abbrev mX7_mean : MT := (yX7_mean, cX7_mean, 4, some .long)
abbrev mX7_see : MT := (yX7_see, cX7_see, 4, some .int)
abbrev mX7_forget : MT := (yX7_forget, cX7_forget, 3, some .int)
abbrev mX7_kinds : MT := (yX7_kinds, cX7_kinds, 2, some .int)
abbrev mX7_numbersAt : MT := (yX7_numbersAt, cX7_numbersAt, 6, some .int)
abbrev mX7_isAsSeen : MT := (yX7_isAsSeen, cX7_isAsSeen, 7, some .boolean)
abbrev mX7_books : MT := (yX7_books, cX7_books, 2, some .int)
abbrev mX7_ask : MT := (yX7_ask, cX7_ask, 9, some .int)
abbrev mX7_worstAt : MT := (yX7_worstAt, cX7_worstAt, 7, some .int)
abbrev mX7_drift : MT := (yX7_drift, cX7_drift, 6, some .int)
abbrev mX7_keep : MT := (yX7_keep, cX7_keep, 3, some .int)
abbrev mX7_back : MT := (yX7_back, cX7_back, 2, some .int)
abbrev mX7_sheet : MT := (yX7_sheet, cX7_sheet, 5, some .int)
abbrev mX7_lay : MT := (yX7_lay, cX7_lay, 4, some .int)
abbrev mX7_read : MT := (yX7_read, cX7_read, 9, some .int)
abbrev mX7_torn : MT := (yX7_torn, cX7_torn, 1, some .int)
abbrev mX7_count : MT := (yX7_count, cX7_count, 5, some .int)
theorem fl_X4_22 : FL RX4 22 4 0 := ⟨by decide, by decide, ma_mem 96 (by decide +kernel) rfl⟩
theorem fl_X6_142 : FL RX6 142 4 0 := ⟨by decide, by decide, ma_mem 97 (by decide +kernel) rfl⟩
theorem fl_X4_26 : FL RX4 26 4 1 := ⟨by decide, by decide, ma_mem 98 (by decide +kernel) rfl⟩
theorem fl_X6_126 : FL RX6 126 4 1 := ⟨by decide, by decide, ma_mem 99 (by decide +kernel) rfl⟩
theorem fl_X0_86 : FL RX0 86 4 1 := ⟨by decide, by decide, ma_mem 100 (by decide +kernel) rfl⟩
theorem fl_X4_9 : FL RX4 9 4 2 := ⟨by decide, by decide, ma_mem 101 (by decide +kernel) rfl⟩
theorem fl_X2_52 : FL RX2 52 4 2 := ⟨by decide, by decide, ma_mem 102 (by decide +kernel) rfl⟩
theorem fl_X6_145 : FL RX6 145 4 2 := ⟨by decide, by decide, ma_mem 103 (by decide +kernel) rfl⟩
theorem fl_X4_15 : FL RX4 15 4 3 := ⟨by decide, by decide, ma_mem 104 (by decide +kernel) rfl⟩
theorem fl_X6_148 : FL RX6 148 4 3 := ⟨by decide, by decide, ma_mem 105 (by decide +kernel) rfl⟩
theorem fl_X0_25 : FL RX0 25 0 0 := ⟨by decide, by decide, ma_mem 120 (by decide +kernel) rfl⟩
theorem fl_X5_86 : FL RX5 86 0 0 := ⟨by decide, by decide, ma_mem 121 (by decide +kernel) rfl⟩
theorem fl_X6_97 : FL RX6 97 0 0 := ⟨by decide, by decide, ma_mem 122 (by decide +kernel) rfl⟩
theorem fl_X0_29 : FL RX0 29 0 1 := ⟨by decide, by decide, ma_mem 123 (by decide +kernel) rfl⟩
theorem fl_X6_100 : FL RX6 100 0 1 := ⟨by decide, by decide, ma_mem 124 (by decide +kernel) rfl⟩
theorem fl_X0_32 : FL RX0 32 0 2 := ⟨by decide, by decide, ma_mem 125 (by decide +kernel) rfl⟩
theorem fl_X5_89 : FL RX5 89 0 2 := ⟨by decide, by decide, ma_mem 126 (by decide +kernel) rfl⟩
theorem fl_X6_103 : FL RX6 103 0 2 := ⟨by decide, by decide, ma_mem 127 (by decide +kernel) rfl⟩
theorem fl_X0_35 : FL RX0 35 0 3 := ⟨by decide, by decide, ma_mem 128 (by decide +kernel) rfl⟩
theorem fl_X6_106 : FL RX6 106 0 3 := ⟨by decide, by decide, ma_mem 129 (by decide +kernel) rfl⟩
theorem fl_X0_11 : FL RX0 11 0 4 := ⟨by decide, by decide, ma_mem 130 (by decide +kernel) rfl⟩
theorem fl_X2_48 : FL RX2 48 0 4 := ⟨by decide, by decide, ma_mem 131 (by decide +kernel) rfl⟩
theorem fl_X6_122 : FL RX6 122 0 4 := ⟨by decide, by decide, ma_mem 132 (by decide +kernel) rfl⟩
theorem fl_X0_17 : FL RX0 17 0 5 := ⟨by decide, by decide, ma_mem 133 (by decide +kernel) rfl⟩
theorem fl_X6_160 : FL RX6 160 0 5 := ⟨by decide, by decide, ma_mem 134 (by decide +kernel) rfl⟩
theorem fl_X5_9 : FL RX5 9 5 0 := ⟨by decide, by decide, ma_mem 155 (by decide +kernel) rfl⟩
theorem fl_X6_76 : FL RX6 76 5 0 := ⟨by decide, by decide, ma_mem 156 (by decide +kernel) rfl⟩
theorem fl_X6_73 : FL RX6 73 5 1 := ⟨by decide, by decide, ma_mem 157 (by decide +kernel) rfl⟩
theorem fl_X5_34 : FL RX5 34 5 1 := ⟨by decide, by decide, ma_mem 158 (by decide +kernel) rfl⟩
theorem fl_X5_24 : FL RX5 24 5 2 := ⟨by decide, by decide, ma_mem 159 (by decide +kernel) rfl⟩
theorem fl_X6_84 : FL RX6 84 5 2 := ⟨by decide, by decide, ma_mem 160 (by decide +kernel) rfl⟩
theorem fl_X5_27 : FL RX5 27 5 3 := ⟨by decide, by decide, ma_mem 161 (by decide +kernel) rfl⟩
theorem fl_X6_87 : FL RX6 87 5 3 := ⟨by decide, by decide, ma_mem 162 (by decide +kernel) rfl⟩
theorem fl_X5_20 : FL RX5 20 5 4 := ⟨by decide, by decide, ma_mem 163 (by decide +kernel) rfl⟩
theorem fl_X5_95 : FL RX5 95 5 5 := ⟨by decide, by decide, ma_mem 164 (by decide +kernel) rfl⟩
theorem fl_X5_52 : FL RX5 52 5 6 := ⟨by decide, by decide, ma_mem 165 (by decide +kernel) rfl⟩
theorem fl_X5_83 : FL RX5 83 5 7 := ⟨by decide, by decide, ma_mem 166 (by decide +kernel) rfl⟩
theorem fl_X5_30 : FL RX5 30 5 8 := ⟨by decide, by decide, ma_mem 167 (by decide +kernel) rfl⟩
theorem fl_X2_21 : FL RX2 21 2 0 := ⟨by decide, by decide, ma_mem 195 (by decide +kernel) rfl⟩
theorem fl_X6_94 : FL RX6 94 2 0 := ⟨by decide, by decide, ma_mem 196 (by decide +kernel) rfl⟩
theorem fl_X2_9 : FL RX2 9 2 1 := ⟨by decide, by decide, ma_mem 197 (by decide +kernel) rfl⟩
theorem fl_X2_15 : FL RX2 15 2 2 := ⟨by decide, by decide, ma_mem 198 (by decide +kernel) rfl⟩
theorem fl_X2_18 : FL RX2 18 2 3 := ⟨by decide, by decide, ma_mem 199 (by decide +kernel) rfl⟩
theorem fl_X1_9 : FL RX1 9 1 0 := ⟨by decide, by decide, ma_mem 217 (by decide +kernel) rfl⟩
theorem fl_X6_135 : FL RX6 135 1 0 := ⟨by decide, by decide, ma_mem 218 (by decide +kernel) rfl⟩
theorem fl_X1_15 : FL RX1 15 1 1 := ⟨by decide, by decide, ma_mem 219 (by decide +kernel) rfl⟩
theorem fl_X6_222 : FL RX6 222 1 1 := ⟨by decide, by decide, ma_mem 220 (by decide +kernel) rfl⟩
theorem fl_X3_9 : FL RX3 9 3 0 := ⟨by decide, by decide, ma_mem 231 (by decide +kernel) rfl⟩
theorem fl_X6_290 : FL RX6 290 3 0 := ⟨by decide, by decide, ma_mem 232 (by decide +kernel) rfl⟩
theorem fl_X3_19 : FL RX3 19 3 1 := ⟨by decide, by decide, ma_mem 233 (by decide +kernel) rfl⟩
theorem fl_X6_308 : FL RX6 308 3 1 := ⟨by decide, by decide, ma_mem 234 (by decide +kernel) rfl⟩
theorem fl_X3_15 : FL RX3 15 3 2 := ⟨by decide, by decide, ma_mem 235 (by decide +kernel) rfl⟩
theorem fl_X6_299 : FL RX6 299 3 2 := ⟨by decide, by decide, ma_mem 236 (by decide +kernel) rfl⟩
theorem fl_X6_10 : FL RX6 10 6 0 := ⟨by decide, by decide, ma_mem 244 (by decide +kernel) rfl⟩
theorem fl_X6_16 : FL RX6 16 6 1 := ⟨by decide, by decide, ma_mem 245 (by decide +kernel) rfl⟩
theorem fl_X6_19 : FL RX6 19 6 2 := ⟨by decide, by decide, ma_mem 246 (by decide +kernel) rfl⟩
theorem fl_X6_23 : FL RX6 23 6 3 := ⟨by decide, by decide, ma_mem 247 (by decide +kernel) rfl⟩
theorem fl_X6_30 : FL RX6 30 6 4 := ⟨by decide, by decide, ma_mem 248 (by decide +kernel) rfl⟩
theorem fl_X6_37 : FL RX6 37 6 5 := ⟨by decide, by decide, ma_mem 249 (by decide +kernel) rfl⟩
theorem fl_X6_43 : FL RX6 43 6 6 := ⟨by decide, by decide, ma_mem 250 (by decide +kernel) rfl⟩
theorem fl_X6_50 : FL RX6 50 6 7 := ⟨by decide, by decide, ma_mem 251 (by decide +kernel) rfl⟩
theorem fl_X6_54 : FL RX6 54 6 8 := ⟨by decide, by decide, ma_mem 252 (by decide +kernel) rfl⟩
theorem fl_X6_58 : FL RX6 58 6 9 := ⟨by decide, by decide, ma_mem 253 (by decide +kernel) rfl⟩
theorem fl_X6_61 : FL RX6 61 6 10 := ⟨by decide, by decide, ma_mem 254 (by decide +kernel) rfl⟩
theorem fl_X6_64 : FL RX6 64 6 11 := ⟨by decide, by decide, ma_mem 255 (by decide +kernel) rfl⟩
theorem fl_X7_7 : FL RX7 7 7 0 := ⟨by decide, by decide, ma_mem 807 (by decide +kernel) rfl⟩
theorem fl_X7_13 : FL RX7 13 7 1 := ⟨by decide, by decide, ma_mem 808 (by decide +kernel) rfl⟩
theorem fl_X7_17 : FL RX7 17 7 2 := ⟨by decide, by decide, ma_mem 809 (by decide +kernel) rfl⟩
theorem fl_X7_107 : FL RX7 107 7 3 := ⟨by decide, by decide, ma_mem 810 (by decide +kernel) rfl⟩
theorem fl_X7_119 : FL RX7 119 7 4 := ⟨by decide, by decide, ma_mem 811 (by decide +kernel) rfl⟩
theorem fl_X7_104 : FL RX7 104 7 5 := ⟨by decide, by decide, ma_mem 812 (by decide +kernel) rfl⟩
theorem fl_X7_20 : FL RX7 20 7 6 := ⟨by decide, by decide, ma_mem 813 (by decide +kernel) rfl⟩
theorem fl_X7_60 : FL RX7 60 7 7 := ⟨by decide, by decide, ma_mem 814 (by decide +kernel) rfl⟩
theorem fl_X7_129 : FL RX7 129 7 8 := ⟨by decide, by decide, ma_mem 815 (by decide +kernel) rfl⟩
theorem fl_X7_63 : FL RX7 63 7 9 := ⟨by decide, by decide, ma_mem 816 (by decide +kernel) rfl⟩
theorem fl_X7_69 : FL RX7 69 7 10 := ⟨by decide, by decide, ma_mem 817 (by decide +kernel) rfl⟩
theorem fl_X7_75 : FL RX7 75 7 11 := ⟨by decide, by decide, ma_mem 818 (by decide +kernel) rfl⟩
theorem fl_X7_66 : FL RX7 66 7 12 := ⟨by decide, by decide, ma_mem 819 (by decide +kernel) rfl⟩
theorem fl_X7_72 : FL RX7 72 7 13 := ⟨by decide, by decide, ma_mem 820 (by decide +kernel) rfl⟩
theorem fl_X7_82 : FL RX7 82 7 14 := ⟨by decide, by decide, ma_mem 821 (by decide +kernel) rfl⟩
theorem fl_X7_23 : FL RX7 23 7 15 := ⟨by decide, by decide, ma_mem 822 (by decide +kernel) rfl⟩
theorem fl_X7_26 : FL RX7 26 7 16 := ⟨by decide, by decide, ma_mem 823 (by decide +kernel) rfl⟩
theorem fl_X7_29 : FL RX7 29 7 17 := ⟨by decide, by decide, ma_mem 824 (by decide +kernel) rfl⟩
theorem fl_X7_138 : FL RX7 138 7 18 := ⟨by decide, by decide, ma_mem 825 (by decide +kernel) rfl⟩
theorem fl_X7_141 : FL RX7 141 7 19 := ⟨by decide, by decide, ma_mem 826 (by decide +kernel) rfl⟩
theorem fl_X7_32 : FL RX7 32 7 20 := ⟨by decide, by decide, ma_mem 827 (by decide +kernel) rfl⟩
theorem fl_X7_35 : FL RX7 35 7 21 := ⟨by decide, by decide, ma_mem 828 (by decide +kernel) rfl⟩
theorem fl_X7_135 : FL RX7 135 7 22 := ⟨by decide, by decide, ma_mem 829 (by decide +kernel) rfl⟩
theorem fl_X7_38 : FL RX7 38 7 23 := ⟨by decide, by decide, ma_mem 830 (by decide +kernel) rfl⟩
theorem fl_X7_41 : FL RX7 41 7 24 := ⟨by decide, by decide, ma_mem 831 (by decide +kernel) rfl⟩
theorem fl_X7_45 : FL RX7 45 7 25 := ⟨by decide, by decide, ma_mem 832 (by decide +kernel) rfl⟩
theorem fl_X7_48 : FL RX7 48 7 26 := ⟨by decide, by decide, ma_mem 833 (by decide +kernel) rfl⟩
theorem fl_X7_51 : FL RX7 51 7 27 := ⟨by decide, by decide, ma_mem 834 (by decide +kernel) rfl⟩
theorem fl_X7_241 : FL RX7 241 7 28 := ⟨by decide, by decide, ma_mem 835 (by decide +kernel) rfl⟩
theorem nw_L_7 : Cond.classLink RL 7 (Rn 6) ∈ ma_tbl := ma_mem 71 (by decide +kernel) rfl
theorem nk_6 : Cond.instantiable (Rn 6) (Nn 6) ∈ ma_tbl := ma_mem 72 (by decide +kernel) rfl
theorem ni_6 : Cond.initialized (Rn 6) ∈ ma_tbl := ma_mem 56 (by decide +kernel) rfl
theorem cl_L_9 : CI RL 9 mX6_init 0 := ⟨⟨⟨by decide +kernel, by decide +kernel, by decide +kernel⟩, by decide, ma_mem 73 (by decide +kernel) rfl, ma_mem 56 (by decide +kernel) rfl, ma_mem 75 (by decide +kernel) rfl⟩, rfl, rfl, ma_mem 74 (by decide +kernel) rfl⟩
theorem nw_X6_7 : Cond.classLink RX6 7 (Rn 0) ∈ ma_tbl := ma_mem 79 (by decide +kernel) rfl
theorem nk_0 : Cond.instantiable (Rn 0) (Nn 0) ∈ ma_tbl := ma_mem 80 (by decide +kernel) rfl
theorem ni_0 : Cond.initialized (Rn 0) ∈ ma_tbl := ma_mem 57 (by decide +kernel) rfl
theorem cl_X6_9 : CI RX6 9 mX0_init 0 := ⟨⟨⟨by decide +kernel, by decide +kernel, by decide +kernel⟩, by decide, ma_mem 81 (by decide +kernel) rfl, ma_mem 57 (by decide +kernel) rfl, ma_mem 83 (by decide +kernel) rfl⟩, rfl, rfl, ma_mem 82 (by decide +kernel) rfl⟩
theorem nw_X0_9 : Cond.classLink RX0 9 (Rn 4) ∈ ma_tbl := ma_mem 85 (by decide +kernel) rfl
theorem nk_4 : Cond.instantiable (Rn 4) (Nn 4) ∈ ma_tbl := ma_mem 87 (by decide +kernel) rfl
theorem ni_4 : Cond.initialized (Rn 4) ∈ ma_tbl := ma_mem 58 (by decide +kernel) rfl
theorem cl_X0_21 : CI RX0 21 mX4_init 0 := ⟨⟨⟨by decide +kernel, by decide +kernel, by decide +kernel⟩, by decide, ma_mem 88 (by decide +kernel) rfl, ma_mem 58 (by decide +kernel) rfl, ma_mem 90 (by decide +kernel) rfl⟩, rfl, rfl, ma_mem 89 (by decide +kernel) rfl⟩
theorem cl_X4_18 : CV RX4 18 mX4_begin 1 := ⟨⟨⟨by decide +kernel, by decide +kernel, by decide +kernel⟩, by decide, ma_mem 92 (by decide +kernel) rfl, ma_mem 58 (by decide +kernel) rfl, ma_mem 95 (by decide +kernel) rfl⟩, ma_mem 93 (by decide +kernel) rfl, ma_mem 94 (by decide +kernel) rfl⟩
theorem na_int : Cond.arrayClass .int ∈ ma_tbl := ma_mem 115 (by decide +kernel) rfl
theorem cl_X0_22 : CV RX0 22 mX0_empty 0 := ⟨⟨⟨by decide +kernel, by decide +kernel, by decide +kernel⟩, by decide, ma_mem 116 (by decide +kernel) rfl, ma_mem 57 (by decide +kernel) rfl, ma_mem 119 (by decide +kernel) rfl⟩, ma_mem 117 (by decide +kernel) rfl, ma_mem 118 (by decide +kernel) rfl⟩
theorem nw_X6_27 : Cond.classLink RX6 27 (Rn 5) ∈ ma_tbl := ma_mem 149 (by decide +kernel) rfl
theorem nk_5 : Cond.instantiable (Rn 5) (Nn 5) ∈ ma_tbl := ma_mem 150 (by decide +kernel) rfl
theorem ni_5 : Cond.initialized (Rn 5) ∈ ma_tbl := ma_mem 59 (by decide +kernel) rfl
theorem cl_X6_29 : CN RX6 29 mX5_init 0 := ⟨⟨by decide +kernel, by decide +kernel, by decide +kernel⟩, by decide, ⟨rfl, by decide +kernel⟩, ma_mem 59 (by decide +kernel) rfl, ma_mem 153 (by decide +kernel) rfl, rfl, rfl, ma_mem 152 (by decide +kernel) rfl⟩
theorem na_boolean : Cond.arrayClass .boolean ∈ ma_tbl := ma_mem 187 (by decide +kernel) rfl
theorem na_byte : Cond.arrayClass .byte ∈ ma_tbl := ma_mem 188 (by decide +kernel) rfl
theorem nw_X6_34 : Cond.classLink RX6 34 (Rn 2) ∈ ma_tbl := ma_mem 189 (by decide +kernel) rfl
theorem nk_2 : Cond.instantiable (Rn 2) (Nn 2) ∈ ma_tbl := ma_mem 190 (by decide +kernel) rfl
theorem ni_2 : Cond.initialized (Rn 2) ∈ ma_tbl := ma_mem 60 (by decide +kernel) rfl
theorem cl_X6_36 : CN RX6 36 mX2_init 0 := ⟨⟨by decide +kernel, by decide +kernel, by decide +kernel⟩, by decide, ⟨rfl, by decide +kernel⟩, ma_mem 60 (by decide +kernel) rfl, ma_mem 193 (by decide +kernel) rfl, rfl, rfl, ma_mem 192 (by decide +kernel) rfl⟩
theorem nw_X6_41 : Cond.classLink RX6 41 (Rn 3) ∈ ma_tbl := ma_mem 209 (by decide +kernel) rfl
theorem nw_X6_47 : Cond.classLink RX6 47 (Rn 1) ∈ ma_tbl := ma_mem 211 (by decide +kernel) rfl
theorem nk_1 : Cond.instantiable (Rn 1) (Nn 1) ∈ ma_tbl := ma_mem 212 (by decide +kernel) rfl
theorem ni_1 : Cond.initialized (Rn 1) ∈ ma_tbl := ma_mem 61 (by decide +kernel) rfl
theorem cl_X6_49 : CN RX6 49 mX1_init 0 := ⟨⟨by decide +kernel, by decide +kernel, by decide +kernel⟩, by decide, ⟨rfl, by decide +kernel⟩, ma_mem 61 (by decide +kernel) rfl, ma_mem 215 (by decide +kernel) rfl, rfl, rfl, ma_mem 214 (by decide +kernel) rfl⟩
theorem nk_3 : Cond.instantiable (Rn 3) (Nn 3) ∈ ma_tbl := ma_mem 226 (by decide +kernel) rfl
theorem ni_3 : Cond.initialized (Rn 3) ∈ ma_tbl := ma_mem 62 (by decide +kernel) rfl
theorem cl_X6_68 : CN RX6 68 mX3_init 0 := ⟨⟨by decide +kernel, by decide +kernel, by decide +kernel⟩, by decide, ⟨rfl, by decide +kernel⟩, ma_mem 62 (by decide +kernel) rfl, ma_mem 229 (by decide +kernel) rfl, rfl, rfl, ma_mem 228 (by decide +kernel) rfl⟩
theorem cl_L_13 : CV RL 13 mX6_feed 1 := ⟨⟨⟨by decide +kernel, by decide +kernel, by decide +kernel⟩, by decide, ma_mem 281 (by decide +kernel) rfl, ma_mem 56 (by decide +kernel) rfl, ma_mem 284 (by decide +kernel) rfl⟩, ma_mem 282 (by decide +kernel) rfl, ma_mem 283 (by decide +kernel) rfl⟩
theorem cl_X6_69 : CS RX6 69 mX6_within 3 := ⟨⟨⟨by decide +kernel, by decide +kernel, by decide +kernel⟩, by decide, ma_mem 285 (by decide +kernel) rfl, ma_mem 56 (by decide +kernel) rfl, ma_mem 287 (by decide +kernel) rfl⟩, ma_mem 286 (by decide +kernel) rfl⟩
theorem cl_L_18 : CV RL 18 mX6_end 1 := ⟨⟨⟨by decide +kernel, by decide +kernel, by decide +kernel⟩, by decide, ma_mem 288 (by decide +kernel) rfl, ma_mem 56 (by decide +kernel) rfl, ma_mem 291 (by decide +kernel) rfl⟩, ma_mem 289 (by decide +kernel) rfl, ma_mem 290 (by decide +kernel) rfl⟩
theorem cl_L_22 : CV RL 22 mX6_text 0 := ⟨⟨⟨by decide +kernel, by decide +kernel, by decide +kernel⟩, by decide, ma_mem 292 (by decide +kernel) rfl, ma_mem 56 (by decide +kernel) rfl, ma_mem 295 (by decide +kernel) rfl⟩, ma_mem 293 (by decide +kernel) rfl, ma_mem 294 (by decide +kernel) rfl⟩
theorem cl_X6_80 : CV RX6 80 mX5_tellTo 1 := ⟨⟨⟨by decide +kernel, by decide +kernel, by decide +kernel⟩, by decide, ma_mem 296 (by decide +kernel) rfl, ma_mem 59 (by decide +kernel) rfl, ma_mem 299 (by decide +kernel) rfl⟩, ma_mem 297 (by decide +kernel) rfl, ma_mem 298 (by decide +kernel) rfl⟩
theorem cl_X5_15 : CV RX5 15 mX0_empty 0 := ⟨⟨⟨by decide +kernel, by decide +kernel, by decide +kernel⟩, by decide, ma_mem 300 (by decide +kernel) rfl, ma_mem 57 (by decide +kernel) rfl, ma_mem 119 (by decide +kernel) rfl⟩, ma_mem 117 (by decide +kernel) rfl, ma_mem 118 (by decide +kernel) rfl⟩
theorem cl_X5_37 : CV RX5 37 mX5_takeLine 1 := ⟨⟨⟨by decide +kernel, by decide +kernel, by decide +kernel⟩, by decide, ma_mem 301 (by decide +kernel) rfl, ma_mem 59 (by decide +kernel) rfl, ma_mem 304 (by decide +kernel) rfl⟩, ma_mem 303 (by decide +kernel) rfl, ma_mem 0 (by decide +kernel) rfl⟩
theorem cl_X5_49 : CV RX5 49 mX5_scan 0 := ⟨⟨⟨by decide +kernel, by decide +kernel, by decide +kernel⟩, by decide, ma_mem 305 (by decide +kernel) rfl, ma_mem 59 (by decide +kernel) rfl, ma_mem 308 (by decide +kernel) rfl⟩, ma_mem 307 (by decide +kernel) rfl, ma_mem 1 (by decide +kernel) rfl⟩
theorem cl_X5_114 : CS RX5 114 mX5_isLetter 1 := ⟨⟨⟨by decide +kernel, by decide +kernel, by decide +kernel⟩, by decide, ma_mem 309 (by decide +kernel) rfl, ma_mem 59 (by decide +kernel) rfl, ma_mem 311 (by decide +kernel) rfl⟩, ma_mem 310 (by decide +kernel) rfl⟩
theorem cl_X5_117 : CV RX5 117 mX5_scanName 0 := ⟨⟨⟨by decide +kernel, by decide +kernel, by decide +kernel⟩, by decide, ma_mem 312 (by decide +kernel) rfl, ma_mem 59 (by decide +kernel) rfl, ma_mem 315 (by decide +kernel) rfl⟩, ma_mem 314 (by decide +kernel) rfl, ma_mem 2 (by decide +kernel) rfl⟩
theorem cl_X5_120 : CS RX5 120 mX5_isFigure 1 := ⟨⟨⟨by decide +kernel, by decide +kernel, by decide +kernel⟩, by decide, ma_mem 316 (by decide +kernel) rfl, ma_mem 59 (by decide +kernel) rfl, ma_mem 318 (by decide +kernel) rfl⟩, ma_mem 317 (by decide +kernel) rfl⟩
theorem cl_X5_123 : CV RX5 123 mX5_scanNumber 0 := ⟨⟨⟨by decide +kernel, by decide +kernel, by decide +kernel⟩, by decide, ma_mem 319 (by decide +kernel) rfl, ma_mem 59 (by decide +kernel) rfl, ma_mem 322 (by decide +kernel) rfl⟩, ma_mem 321 (by decide +kernel) rfl, ma_mem 3 (by decide +kernel) rfl⟩
theorem cl_X5_45 : CV RX5 45 mX5_refuse 1 := ⟨⟨⟨by decide +kernel, by decide +kernel, by decide +kernel⟩, by decide, ma_mem 323 (by decide +kernel) rfl, ma_mem 59 (by decide +kernel) rfl, ma_mem 326 (by decide +kernel) rfl⟩, ma_mem 325 (by decide +kernel) rfl, ma_mem 4 (by decide +kernel) rfl⟩
theorem cl_X5_57 : CV RX5 57 mX5_isNamed 1 := ⟨⟨⟨by decide +kernel, by decide +kernel, by decide +kernel⟩, by decide, ma_mem 328 (by decide +kernel) rfl, ma_mem 59 (by decide +kernel) rfl, ma_mem 331 (by decide +kernel) rfl⟩, ma_mem 330 (by decide +kernel) rfl, ma_mem 5 (by decide +kernel) rfl⟩
theorem cl_X5_106 : CV RX5 106 mJ0_length_8abf5 0 := ⟨⟨⟨by decide +kernel, by decide +kernel, by decide +kernel⟩, by decide, ma_mem 332 (by decide +kernel) rfl, ma_mem 64 (by decide +kernel) rfl, ma_mem 335 (by decide +kernel) rfl⟩, ma_mem 333 (by decide +kernel) rfl, ma_mem 334 (by decide +kernel) rfl⟩
theorem cl_X5_110 : CV RX5 110 mJ0_charAt_5068e 1 := ⟨⟨⟨by decide +kernel, by decide +kernel, by decide +kernel⟩, by decide, ma_mem 342 (by decide +kernel) rfl, ma_mem 64 (by decide +kernel) rfl, ma_mem 345 (by decide +kernel) rfl⟩, ma_mem 343 (by decide +kernel) rfl, ma_mem 344 (by decide +kernel) rfl⟩
theorem cl_X5_61 : CV RX5 61 mX5_takeBooks 1 := ⟨⟨⟨by decide +kernel, by decide +kernel, by decide +kernel⟩, by decide, ma_mem 380 (by decide +kernel) rfl, ma_mem 59 (by decide +kernel) rfl, ma_mem 383 (by decide +kernel) rfl⟩, ma_mem 382 (by decide +kernel) rfl, ma_mem 6 (by decide +kernel) rfl⟩
theorem cl_X5_80 : CV RX5 80 mX5_takeSemicolon 0 := ⟨⟨⟨by decide +kernel, by decide +kernel, by decide +kernel⟩, by decide, ma_mem 384 (by decide +kernel) rfl, ma_mem 59 (by decide +kernel) rfl, ma_mem 387 (by decide +kernel) rfl⟩, ma_mem 386 (by decide +kernel) rfl, ma_mem 7 (by decide +kernel) rfl⟩
theorem cl_X5_66 : CV RX5 66 mX5_takeWants 1 := ⟨⟨⟨by decide +kernel, by decide +kernel, by decide +kernel⟩, by decide, ma_mem 389 (by decide +kernel) rfl, ma_mem 59 (by decide +kernel) rfl, ma_mem 392 (by decide +kernel) rfl⟩, ma_mem 391 (by decide +kernel) rfl, ma_mem 8 (by decide +kernel) rfl⟩
theorem cl_X5_92 : CV RX5 92 mX0_addWant 1 := ⟨⟨⟨by decide +kernel, by decide +kernel, by decide +kernel⟩, by decide, ma_mem 393 (by decide +kernel) rfl, ma_mem 57 (by decide +kernel) rfl, ma_mem 396 (by decide +kernel) rfl⟩, ma_mem 394 (by decide +kernel) rfl, ma_mem 395 (by decide +kernel) rfl⟩
theorem cl_X5_69 : CV RX5 69 mX5_kindNamed 0 := ⟨⟨⟨by decide +kernel, by decide +kernel, by decide +kernel⟩, by decide, ma_mem 397 (by decide +kernel) rfl, ma_mem 59 (by decide +kernel) rfl, ma_mem 400 (by decide +kernel) rfl⟩, ma_mem 399 (by decide +kernel) rfl, ma_mem 9 (by decide +kernel) rfl⟩
theorem cl_X5_73 : CV RX5 73 mX5_takeShelf 2 := ⟨⟨⟨by decide +kernel, by decide +kernel, by decide +kernel⟩, by decide, ma_mem 405 (by decide +kernel) rfl, ma_mem 59 (by decide +kernel) rfl, ma_mem 408 (by decide +kernel) rfl⟩, ma_mem 407 (by decide +kernel) rfl, ma_mem 10 (by decide +kernel) rfl⟩
theorem cl_X5_77 : CV RX5 77 mX0_addShelf 1 := ⟨⟨⟨by decide +kernel, by decide +kernel, by decide +kernel⟩, by decide, ma_mem 409 (by decide +kernel) rfl, ma_mem 57 (by decide +kernel) rfl, ma_mem 412 (by decide +kernel) rfl⟩, ma_mem 410 (by decide +kernel) rfl, ma_mem 411 (by decide +kernel) rfl⟩
theorem cl_X0_48 : CV RX0 48 mX4_begin 1 := ⟨⟨⟨by decide +kernel, by decide +kernel, by decide +kernel⟩, by decide, ma_mem 413 (by decide +kernel) rfl, ma_mem 58 (by decide +kernel) rfl, ma_mem 95 (by decide +kernel) rfl⟩, ma_mem 93 (by decide +kernel) rfl, ma_mem 94 (by decide +kernel) rfl⟩
theorem cl_X5_41 : CV RX5 41 mX0_wantsNoSuchBook 0 := ⟨⟨⟨by decide +kernel, by decide +kernel, by decide +kernel⟩, by decide, ma_mem 414 (by decide +kernel) rfl, ma_mem 57 (by decide +kernel) rfl, ma_mem 417 (by decide +kernel) rfl⟩, ma_mem 415 (by decide +kernel) rfl, ma_mem 416 (by decide +kernel) rfl⟩
theorem cl_X0_52 : CV RX0 52 mX0_hasBook 1 := ⟨⟨⟨by decide +kernel, by decide +kernel, by decide +kernel⟩, by decide, ma_mem 418 (by decide +kernel) rfl, ma_mem 57 (by decide +kernel) rfl, ma_mem 421 (by decide +kernel) rfl⟩, ma_mem 419 (by decide +kernel) rfl, ma_mem 420 (by decide +kernel) rfl⟩
theorem cl_X6_90 : CV RX6 90 mX0_copy 1 := ⟨⟨⟨by decide +kernel, by decide +kernel, by decide +kernel⟩, by decide, ma_mem 422 (by decide +kernel) rfl, ma_mem 57 (by decide +kernel) rfl, ma_mem 425 (by decide +kernel) rfl⟩, ma_mem 423 (by decide +kernel) rfl, ma_mem 424 (by decide +kernel) rfl⟩
theorem cl_X0_38 : CV RX0 38 mX4_copy 1 := ⟨⟨⟨by decide +kernel, by decide +kernel, by decide +kernel⟩, by decide, ma_mem 426 (by decide +kernel) rfl, ma_mem 58 (by decide +kernel) rfl, ma_mem 429 (by decide +kernel) rfl⟩, ma_mem 427 (by decide +kernel) rfl, ma_mem 428 (by decide +kernel) rfl⟩
theorem ac_sta : Cond.static arraycopyName ∈ ma_tbl := ma_mem 431 (by decide +kernel) rfl
theorem ac_nat : Cond.native arraycopyName ∈ ma_tbl := ma_mem 432 (by decide +kernel) rfl
theorem cl_L_27 : CV RL 27 mX6_fault 0 := ⟨⟨⟨by decide +kernel, by decide +kernel, by decide +kernel⟩, by decide, ma_mem 434 (by decide +kernel) rfl, ma_mem 56 (by decide +kernel) rfl, ma_mem 437 (by decide +kernel) rfl⟩, ma_mem 435 (by decide +kernel) rfl, ma_mem 436 (by decide +kernel) rfl⟩
theorem cl_L_31 : CV RL 31 mX6_rule 1 := ⟨⟨⟨by decide +kernel, by decide +kernel, by decide +kernel⟩, by decide, ma_mem 438 (by decide +kernel) rfl, ma_mem 56 (by decide +kernel) rfl, ma_mem 441 (by decide +kernel) rfl⟩, ma_mem 439 (by decide +kernel) rfl, ma_mem 440 (by decide +kernel) rfl⟩
theorem cl_X6_109 : CV RX6 109 mX0_turn 1 := ⟨⟨⟨by decide +kernel, by decide +kernel, by decide +kernel⟩, by decide, ma_mem 442 (by decide +kernel) rfl, ma_mem 57 (by decide +kernel) rfl, ma_mem 445 (by decide +kernel) rfl⟩, ma_mem 443 (by decide +kernel) rfl, ma_mem 444 (by decide +kernel) rfl⟩
theorem cl_X6_113 : CV RX6 113 mX6_leastCost 0 := ⟨⟨⟨by decide +kernel, by decide +kernel, by decide +kernel⟩, by decide, ma_mem 446 (by decide +kernel) rfl, ma_mem 56 (by decide +kernel) rfl, ma_mem 449 (by decide +kernel) rfl⟩, ma_mem 448 (by decide +kernel) rfl, ma_mem 11 (by decide +kernel) rfl⟩
theorem kc_X6_117 : Cond.constant RX6 117 (1000000000) ∈ ma_tbl := ma_mem 450 (by decide +kernel) rfl
theorem cl_X6_118 : CV RX6 118 mX1_reset 1 := ⟨⟨⟨by decide +kernel, by decide +kernel, by decide +kernel⟩, by decide, ma_mem 451 (by decide +kernel) rfl, ma_mem 61 (by decide +kernel) rfl, ma_mem 454 (by decide +kernel) rfl⟩, ma_mem 452 (by decide +kernel) rfl, ma_mem 453 (by decide +kernel) rfl⟩
theorem cl_X6_131 : CV RX6 131 mX1_offer 2 := ⟨⟨⟨by decide +kernel, by decide +kernel, by decide +kernel⟩, by decide, ma_mem 455 (by decide +kernel) rfl, ma_mem 61 (by decide +kernel) rfl, ma_mem 458 (by decide +kernel) rfl⟩, ma_mem 456 (by decide +kernel) rfl, ma_mem 457 (by decide +kernel) rfl⟩
theorem cl_L_35 : CV RL 35 mX6_shelf 2 := ⟨⟨⟨by decide +kernel, by decide +kernel, by decide +kernel⟩, by decide, ma_mem 459 (by decide +kernel) rfl, ma_mem 56 (by decide +kernel) rfl, ma_mem 462 (by decide +kernel) rfl⟩, ma_mem 460 (by decide +kernel) rfl, ma_mem 461 (by decide +kernel) rfl⟩
theorem cl_X6_138 : CV RX6 138 mX0_hasShelf 1 := ⟨⟨⟨by decide +kernel, by decide +kernel, by decide +kernel⟩, by decide, ma_mem 463 (by decide +kernel) rfl, ma_mem 57 (by decide +kernel) rfl, ma_mem 466 (by decide +kernel) rfl⟩, ma_mem 464 (by decide +kernel) rfl, ma_mem 465 (by decide +kernel) rfl⟩
theorem cl_L_40 : CV RL 40 mX6_place 2 := ⟨⟨⟨by decide +kernel, by decide +kernel, by decide +kernel⟩, by decide, ma_mem 467 (by decide +kernel) rfl, ma_mem 56 (by decide +kernel) rfl, ma_mem 470 (by decide +kernel) rfl⟩, ma_mem 468 (by decide +kernel) rfl, ma_mem 469 (by decide +kernel) rfl⟩
theorem cl_X6_151 : CV RX6 151 mX0_hasBook 1 := ⟨⟨⟨by decide +kernel, by decide +kernel, by decide +kernel⟩, by decide, ma_mem 471 (by decide +kernel) rfl, ma_mem 57 (by decide +kernel) rfl, ma_mem 421 (by decide +kernel) rfl⟩, ma_mem 419 (by decide +kernel) rfl, ma_mem 420 (by decide +kernel) rfl⟩
theorem cl_X6_154 : CV RX6 154 mX4_find 1 := ⟨⟨⟨by decide +kernel, by decide +kernel, by decide +kernel⟩, by decide, ma_mem 472 (by decide +kernel) rfl, ma_mem 58 (by decide +kernel) rfl, ma_mem 475 (by decide +kernel) rfl⟩, ma_mem 473 (by decide +kernel) rfl, ma_mem 474 (by decide +kernel) rfl⟩
theorem cl_L_44 : CV RL 44 mX6_want 1 := ⟨⟨⟨by decide +kernel, by decide +kernel, by decide +kernel⟩, by decide, ma_mem 476 (by decide +kernel) rfl, ma_mem 56 (by decide +kernel) rfl, ma_mem 479 (by decide +kernel) rfl⟩, ma_mem 477 (by decide +kernel) rfl, ma_mem 478 (by decide +kernel) rfl⟩
theorem cl_X6_157 : CV RX6 157 mX0_hasWant 1 := ⟨⟨⟨by decide +kernel, by decide +kernel, by decide +kernel⟩, by decide, ma_mem 480 (by decide +kernel) rfl, ma_mem 57 (by decide +kernel) rfl, ma_mem 483 (by decide +kernel) rfl⟩, ma_mem 481 (by decide +kernel) rfl, ma_mem 482 (by decide +kernel) rfl⟩
theorem cl_L_48 : CV RL 48 mX6_alter 2 := ⟨⟨⟨by decide +kernel, by decide +kernel, by decide +kernel⟩, by decide, ma_mem 484 (by decide +kernel) rfl, ma_mem 56 (by decide +kernel) rfl, ma_mem 487 (by decide +kernel) rfl⟩, ma_mem 485 (by decide +kernel) rfl, ma_mem 486 (by decide +kernel) rfl⟩
theorem cl_L_52 : CV RL 52 mX6_put 1 := ⟨⟨⟨by decide +kernel, by decide +kernel, by decide +kernel⟩, by decide, ma_mem 488 (by decide +kernel) rfl, ma_mem 56 (by decide +kernel) rfl, ma_mem 491 (by decide +kernel) rfl⟩, ma_mem 489 (by decide +kernel) rfl, ma_mem 490 (by decide +kernel) rfl⟩
theorem cl_X6_163 : CV RX6 163 mX0_addShelf 1 := ⟨⟨⟨by decide +kernel, by decide +kernel, by decide +kernel⟩, by decide, ma_mem 492 (by decide +kernel) rfl, ma_mem 57 (by decide +kernel) rfl, ma_mem 412 (by decide +kernel) rfl⟩, ma_mem 410 (by decide +kernel) rfl, ma_mem 411 (by decide +kernel) rfl⟩
theorem cl_L_56 : CV RL 56 mX6_cut 1 := ⟨⟨⟨by decide +kernel, by decide +kernel, by decide +kernel⟩, by decide, ma_mem 493 (by decide +kernel) rfl, ma_mem 56 (by decide +kernel) rfl, ma_mem 496 (by decide +kernel) rfl⟩, ma_mem 494 (by decide +kernel) rfl, ma_mem 495 (by decide +kernel) rfl⟩
theorem cl_L_60 : CV RL 60 mX6_stand 3 := ⟨⟨⟨by decide +kernel, by decide +kernel, by decide +kernel⟩, by decide, ma_mem 497 (by decide +kernel) rfl, ma_mem 56 (by decide +kernel) rfl, ma_mem 500 (by decide +kernel) rfl⟩, ma_mem 498 (by decide +kernel) rfl, ma_mem 499 (by decide +kernel) rfl⟩
theorem cl_X6_166 : CV RX6 166 mX4_shift 2 := ⟨⟨⟨by decide +kernel, by decide +kernel, by decide +kernel⟩, by decide, ma_mem 501 (by decide +kernel) rfl, ma_mem 58 (by decide +kernel) rfl, ma_mem 504 (by decide +kernel) rfl⟩, ma_mem 502 (by decide +kernel) rfl, ma_mem 503 (by decide +kernel) rfl⟩
theorem cl_L_65 : CV RL 65 mX6_set 2 := ⟨⟨⟨by decide +kernel, by decide +kernel, by decide +kernel⟩, by decide, ma_mem 505 (by decide +kernel) rfl, ma_mem 56 (by decide +kernel) rfl, ma_mem 508 (by decide +kernel) rfl⟩, ma_mem 506 (by decide +kernel) rfl, ma_mem 507 (by decide +kernel) rfl⟩
theorem cl_L_69 : CV RL 69 mX6_add 1 := ⟨⟨⟨by decide +kernel, by decide +kernel, by decide +kernel⟩, by decide, ma_mem 509 (by decide +kernel) rfl, ma_mem 56 (by decide +kernel) rfl, ma_mem 512 (by decide +kernel) rfl⟩, ma_mem 510 (by decide +kernel) rfl, ma_mem 511 (by decide +kernel) rfl⟩
theorem cl_X6_169 : CV RX6 169 mX0_addWant 1 := ⟨⟨⟨by decide +kernel, by decide +kernel, by decide +kernel⟩, by decide, ma_mem 513 (by decide +kernel) rfl, ma_mem 57 (by decide +kernel) rfl, ma_mem 396 (by decide +kernel) rfl⟩, ma_mem 394 (by decide +kernel) rfl, ma_mem 395 (by decide +kernel) rfl⟩
theorem cl_L_73 : CV RL 73 mX6_drop 1 := ⟨⟨⟨by decide +kernel, by decide +kernel, by decide +kernel⟩, by decide, ma_mem 514 (by decide +kernel) rfl, ma_mem 56 (by decide +kernel) rfl, ma_mem 517 (by decide +kernel) rfl⟩, ma_mem 515 (by decide +kernel) rfl, ma_mem 516 (by decide +kernel) rfl⟩
theorem cl_L_77 : CV RL 77 mX6_take 1 := ⟨⟨⟨by decide +kernel, by decide +kernel, by decide +kernel⟩, by decide, ma_mem 518 (by decide +kernel) rfl, ma_mem 56 (by decide +kernel) rfl, ma_mem 521 (by decide +kernel) rfl⟩, ma_mem 519 (by decide +kernel) rfl, ma_mem 520 (by decide +kernel) rfl⟩
theorem cl_X6_172 : CV RX6 172 mX0_serveAll 1 := ⟨⟨⟨by decide +kernel, by decide +kernel, by decide +kernel⟩, by decide, ma_mem 522 (by decide +kernel) rfl, ma_mem 57 (by decide +kernel) rfl, ma_mem 525 (by decide +kernel) rfl⟩, ma_mem 523 (by decide +kernel) rfl, ma_mem 524 (by decide +kernel) rfl⟩
theorem cl_X0_56 : CV RX0 56 mX4_serve 1 := ⟨⟨⟨by decide +kernel, by decide +kernel, by decide +kernel⟩, by decide, ma_mem 526 (by decide +kernel) rfl, ma_mem 58 (by decide +kernel) rfl, ma_mem 529 (by decide +kernel) rfl⟩, ma_mem 527 (by decide +kernel) rfl, ma_mem 528 (by decide +kernel) rfl⟩
theorem cl_X4_35 : CV RX4 35 mX4_find 1 := ⟨⟨⟨by decide +kernel, by decide +kernel, by decide +kernel⟩, by decide, ma_mem 530 (by decide +kernel) rfl, ma_mem 58 (by decide +kernel) rfl, ma_mem 475 (by decide +kernel) rfl⟩, ma_mem 473 (by decide +kernel) rfl, ma_mem 474 (by decide +kernel) rfl⟩
theorem cl_X4_39 : CV RX4 39 mX4_payFor 1 := ⟨⟨⟨by decide +kernel, by decide +kernel, by decide +kernel⟩, by decide, ma_mem 531 (by decide +kernel) rfl, ma_mem 58 (by decide +kernel) rfl, ma_mem 534 (by decide +kernel) rfl⟩, ma_mem 533 (by decide +kernel) rfl, ma_mem 12 (by decide +kernel) rfl⟩
theorem kc_X4_42 : Cond.constant RX4 42 (99999) ∈ ma_tbl := ma_mem 535 (by decide +kernel) rfl
theorem cl_X4_43 : CS RX4 43 mJ9_min_7cf53 2 := ⟨⟨⟨by decide +kernel, by decide +kernel, by decide +kernel⟩, by decide, ma_mem 536 (by decide +kernel) rfl, ma_mem 69 (by decide +kernel) rfl, ma_mem 538 (by decide +kernel) rfl⟩, ma_mem 537 (by decide +kernel) rfl⟩
theorem cl_X4_49 : CV RX4 49 mX4_goalOf 2 := ⟨⟨⟨by decide +kernel, by decide +kernel, by decide +kernel⟩, by decide, ma_mem 539 (by decide +kernel) rfl, ma_mem 58 (by decide +kernel) rfl, ma_mem 542 (by decide +kernel) rfl⟩, ma_mem 541 (by decide +kernel) rfl, ma_mem 13 (by decide +kernel) rfl⟩
theorem cl_X4_52 : CV RX4 52 mX4_shift 2 := ⟨⟨⟨by decide +kernel, by decide +kernel, by decide +kernel⟩, by decide, ma_mem 543 (by decide +kernel) rfl, ma_mem 58 (by decide +kernel) rfl, ma_mem 504 (by decide +kernel) rfl⟩, ma_mem 502 (by decide +kernel) rfl, ma_mem 503 (by decide +kernel) rfl⟩
theorem cl_L_81 : CV RL 81 mX6_steps 1 := ⟨⟨⟨by decide +kernel, by decide +kernel, by decide +kernel⟩, by decide, ma_mem 544 (by decide +kernel) rfl, ma_mem 56 (by decide +kernel) rfl, ma_mem 547 (by decide +kernel) rfl⟩, ma_mem 545 (by decide +kernel) rfl, ma_mem 546 (by decide +kernel) rfl⟩
theorem cl_X6_175 : CV RX6 175 mX0_stepOn 0 := ⟨⟨⟨by decide +kernel, by decide +kernel, by decide +kernel⟩, by decide, ma_mem 548 (by decide +kernel) rfl, ma_mem 57 (by decide +kernel) rfl, ma_mem 551 (by decide +kernel) rfl⟩, ma_mem 549 (by decide +kernel) rfl, ma_mem 550 (by decide +kernel) rfl⟩
theorem cl_X0_60 : CV RX0 60 mX0_turn 1 := ⟨⟨⟨by decide +kernel, by decide +kernel, by decide +kernel⟩, by decide, ma_mem 552 (by decide +kernel) rfl, ma_mem 57 (by decide +kernel) rfl, ma_mem 445 (by decide +kernel) rfl⟩, ma_mem 443 (by decide +kernel) rfl, ma_mem 444 (by decide +kernel) rfl⟩
theorem cl_X0_63 : CV RX0 63 mX0_serveAll 1 := ⟨⟨⟨by decide +kernel, by decide +kernel, by decide +kernel⟩, by decide, ma_mem 553 (by decide +kernel) rfl, ma_mem 57 (by decide +kernel) rfl, ma_mem 525 (by decide +kernel) rfl⟩, ma_mem 523 (by decide +kernel) rfl, ma_mem 524 (by decide +kernel) rfl⟩
theorem cl_L_85 : CV RL 85 mX6_runs 2 := ⟨⟨⟨by decide +kernel, by decide +kernel, by decide +kernel⟩, by decide, ma_mem 554 (by decide +kernel) rfl, ma_mem 56 (by decide +kernel) rfl, ma_mem 557 (by decide +kernel) rfl⟩, ma_mem 555 (by decide +kernel) rfl, ma_mem 556 (by decide +kernel) rfl⟩
theorem cl_X6_178 : CV RX6 178 mX0_paidByAll 2 := ⟨⟨⟨by decide +kernel, by decide +kernel, by decide +kernel⟩, by decide, ma_mem 558 (by decide +kernel) rfl, ma_mem 57 (by decide +kernel) rfl, ma_mem 561 (by decide +kernel) rfl⟩, ma_mem 559 (by decide +kernel) rfl, ma_mem 560 (by decide +kernel) rfl⟩
theorem cl_X0_70 : CV RX0 70 mX0_paidBy 3 := ⟨⟨⟨by decide +kernel, by decide +kernel, by decide +kernel⟩, by decide, ma_mem 562 (by decide +kernel) rfl, ma_mem 57 (by decide +kernel) rfl, ma_mem 565 (by decide +kernel) rfl⟩, ma_mem 563 (by decide +kernel) rfl, ma_mem 564 (by decide +kernel) rfl⟩
theorem cl_X0_66 : CV RX0 66 mX0_serveTurn 2 := ⟨⟨⟨by decide +kernel, by decide +kernel, by decide +kernel⟩, by decide, ma_mem 566 (by decide +kernel) rfl, ma_mem 57 (by decide +kernel) rfl, ma_mem 569 (by decide +kernel) rfl⟩, ma_mem 567 (by decide +kernel) rfl, ma_mem 568 (by decide +kernel) rfl⟩
theorem cl_X6_182 : CV RX6 182 mX6_cheapestIn 1 := ⟨⟨⟨by decide +kernel, by decide +kernel, by decide +kernel⟩, by decide, ma_mem 570 (by decide +kernel) rfl, ma_mem 56 (by decide +kernel) rfl, ma_mem 573 (by decide +kernel) rfl⟩, ma_mem 572 (by decide +kernel) rfl, ma_mem 14 (by decide +kernel) rfl⟩
theorem cl_X6_191 : CV RX6 191 mX0_paidBy 3 := ⟨⟨⟨by decide +kernel, by decide +kernel, by decide +kernel⟩, by decide, ma_mem 574 (by decide +kernel) rfl, ma_mem 57 (by decide +kernel) rfl, ma_mem 565 (by decide +kernel) rfl⟩, ma_mem 563 (by decide +kernel) rfl, ma_mem 564 (by decide +kernel) rfl⟩
theorem cl_X6_185 : CV RX6 185 mX0_dearestPay 1 := ⟨⟨⟨by decide +kernel, by decide +kernel, by decide +kernel⟩, by decide, ma_mem 575 (by decide +kernel) rfl, ma_mem 57 (by decide +kernel) rfl, ma_mem 578 (by decide +kernel) rfl⟩, ma_mem 576 (by decide +kernel) rfl, ma_mem 577 (by decide +kernel) rfl⟩
theorem cl_X0_74 : CS RX0 74 mJ9_max_7cf53 2 := ⟨⟨⟨by decide +kernel, by decide +kernel, by decide +kernel⟩, by decide, ma_mem 579 (by decide +kernel) rfl, ma_mem 69 (by decide +kernel) rfl, ma_mem 581 (by decide +kernel) rfl⟩, ma_mem 580 (by decide +kernel) rfl⟩
theorem cl_X6_188 : CV RX6 188 mX0_movesIn 1 := ⟨⟨⟨by decide +kernel, by decide +kernel, by decide +kernel⟩, by decide, ma_mem 582 (by decide +kernel) rfl, ma_mem 57 (by decide +kernel) rfl, ma_mem 585 (by decide +kernel) rfl⟩, ma_mem 583 (by decide +kernel) rfl, ma_mem 584 (by decide +kernel) rfl⟩
theorem cl_X0_79 : CV RX0 79 mX4_find 1 := ⟨⟨⟨by decide +kernel, by decide +kernel, by decide +kernel⟩, by decide, ma_mem 586 (by decide +kernel) rfl, ma_mem 58 (by decide +kernel) rfl, ma_mem 475 (by decide +kernel) rfl⟩, ma_mem 473 (by decide +kernel) rfl, ma_mem 474 (by decide +kernel) rfl⟩
theorem cl_L_89 : CV RL 89 mX6_paid 2 := ⟨⟨⟨by decide +kernel, by decide +kernel, by decide +kernel⟩, by decide, ma_mem 587 (by decide +kernel) rfl, ma_mem 56 (by decide +kernel) rfl, ma_mem 590 (by decide +kernel) rfl⟩, ma_mem 588 (by decide +kernel) rfl, ma_mem 589 (by decide +kernel) rfl⟩
theorem cl_L_93 : CV RL 93 mX6_ahead 3 := ⟨⟨⟨by decide +kernel, by decide +kernel, by decide +kernel⟩, by decide, ma_mem 591 (by decide +kernel) rfl, ma_mem 56 (by decide +kernel) rfl, ma_mem 594 (by decide +kernel) rfl⟩, ma_mem 592 (by decide +kernel) rfl, ma_mem 593 (by decide +kernel) rfl⟩
theorem cl_L_97 : CV RL 97 mX6_when 2 := ⟨⟨⟨by decide +kernel, by decide +kernel, by decide +kernel⟩, by decide, ma_mem 595 (by decide +kernel) rfl, ma_mem 56 (by decide +kernel) rfl, ma_mem 598 (by decide +kernel) rfl⟩, ma_mem 596 (by decide +kernel) rfl, ma_mem 597 (by decide +kernel) rfl⟩
theorem cl_X6_195 : CV RX6 195 mX0_serveTurn 2 := ⟨⟨⟨by decide +kernel, by decide +kernel, by decide +kernel⟩, by decide, ma_mem 599 (by decide +kernel) rfl, ma_mem 57 (by decide +kernel) rfl, ma_mem 569 (by decide +kernel) rfl⟩, ma_mem 567 (by decide +kernel) rfl, ma_mem 568 (by decide +kernel) rfl⟩
theorem cl_L_101 : CV RL 101 mX6_again 0 := ⟨⟨⟨by decide +kernel, by decide +kernel, by decide +kernel⟩, by decide, ma_mem 600 (by decide +kernel) rfl, ma_mem 56 (by decide +kernel) rfl, ma_mem 603 (by decide +kernel) rfl⟩, ma_mem 601 (by decide +kernel) rfl, ma_mem 602 (by decide +kernel) rfl⟩
theorem cl_X6_198 : CV RX6 198 mX0_standsAs 1 := ⟨⟨⟨by decide +kernel, by decide +kernel, by decide +kernel⟩, by decide, ma_mem 604 (by decide +kernel) rfl, ma_mem 57 (by decide +kernel) rfl, ma_mem 607 (by decide +kernel) rfl⟩, ma_mem 605 (by decide +kernel) rfl, ma_mem 606 (by decide +kernel) rfl⟩
theorem cl_X0_82 : CV RX0 82 mX4_standsAs 1 := ⟨⟨⟨by decide +kernel, by decide +kernel, by decide +kernel⟩, by decide, ma_mem 608 (by decide +kernel) rfl, ma_mem 58 (by decide +kernel) rfl, ma_mem 611 (by decide +kernel) rfl⟩, ma_mem 609 (by decide +kernel) rfl, ma_mem 610 (by decide +kernel) rfl⟩
theorem cl_L_105 : CV RL 105 mX6_order 2 := ⟨⟨⟨by decide +kernel, by decide +kernel, by decide +kernel⟩, by decide, ma_mem 612 (by decide +kernel) rfl, ma_mem 56 (by decide +kernel) rfl, ma_mem 615 (by decide +kernel) rfl⟩, ma_mem 613 (by decide +kernel) rfl, ma_mem 614 (by decide +kernel) rfl⟩
theorem cl_X6_202 : CV RX6 202 mX6_findBestRow 1 := ⟨⟨⟨by decide +kernel, by decide +kernel, by decide +kernel⟩, by decide, ma_mem 616 (by decide +kernel) rfl, ma_mem 56 (by decide +kernel) rfl, ma_mem 619 (by decide +kernel) rfl⟩, ma_mem 618 (by decide +kernel) rfl, ma_mem 15 (by decide +kernel) rfl⟩
theorem cl_X6_205 : CV RX6 205 mX4_copy 1 := ⟨⟨⟨by decide +kernel, by decide +kernel, by decide +kernel⟩, by decide, ma_mem 620 (by decide +kernel) rfl, ma_mem 58 (by decide +kernel) rfl, ma_mem 429 (by decide +kernel) rfl⟩, ma_mem 427 (by decide +kernel) rfl, ma_mem 428 (by decide +kernel) rfl⟩
theorem cl_X6_214 : CS RX6 214 mX6_nextRow 2 := ⟨⟨⟨by decide +kernel, by decide +kernel, by decide +kernel⟩, by decide, ma_mem 622 (by decide +kernel) rfl, ma_mem 56 (by decide +kernel) rfl, ma_mem 624 (by decide +kernel) rfl⟩, ma_mem 623 (by decide +kernel) rfl⟩
theorem cl_X6_218 : CS RX6 218 mX6_exchange 3 := ⟨⟨⟨by decide +kernel, by decide +kernel, by decide +kernel⟩, by decide, ma_mem 625 (by decide +kernel) rfl, ma_mem 56 (by decide +kernel) rfl, ma_mem 627 (by decide +kernel) rfl⟩, ma_mem 626 (by decide +kernel) rfl⟩
theorem cl_L_109 : CV RL 109 mX6_kind 3 := ⟨⟨⟨by decide +kernel, by decide +kernel, by decide +kernel⟩, by decide, ma_mem 628 (by decide +kernel) rfl, ma_mem 56 (by decide +kernel) rfl, ma_mem 631 (by decide +kernel) rfl⟩, ma_mem 629 (by decide +kernel) rfl, ma_mem 630 (by decide +kernel) rfl⟩
theorem cl_X6_225 : CV RX6 225 mX1_answer 1 := ⟨⟨⟨by decide +kernel, by decide +kernel, by decide +kernel⟩, by decide, ma_mem 632 (by decide +kernel) rfl, ma_mem 61 (by decide +kernel) rfl, ma_mem 635 (by decide +kernel) rfl⟩, ma_mem 633 (by decide +kernel) rfl, ma_mem 634 (by decide +kernel) rfl⟩
theorem cl_L_113 : CV RL 113 mX6_first 3 := ⟨⟨⟨by decide +kernel, by decide +kernel, by decide +kernel⟩, by decide, ma_mem 636 (by decide +kernel) rfl, ma_mem 56 (by decide +kernel) rfl, ma_mem 639 (by decide +kernel) rfl⟩, ma_mem 637 (by decide +kernel) rfl, ma_mem 638 (by decide +kernel) rfl⟩
theorem cl_L_117 : CV RL 117 mX6_swap 2 := ⟨⟨⟨by decide +kernel, by decide +kernel, by decide +kernel⟩, by decide, ma_mem 640 (by decide +kernel) rfl, ma_mem 56 (by decide +kernel) rfl, ma_mem 643 (by decide +kernel) rfl⟩, ma_mem 641 (by decide +kernel) rfl, ma_mem 642 (by decide +kernel) rfl⟩
theorem cl_X6_228 : CV RX6 228 mX6_resetToPaidNow 1 := ⟨⟨⟨by decide +kernel, by decide +kernel, by decide +kernel⟩, by decide, ma_mem 644 (by decide +kernel) rfl, ma_mem 56 (by decide +kernel) rfl, ma_mem 647 (by decide +kernel) rfl⟩, ma_mem 646 (by decide +kernel) rfl, ma_mem 16 (by decide +kernel) rfl⟩
theorem cl_L_121 : CV RL 121 mX6_lose 2 := ⟨⟨⟨by decide +kernel, by decide +kernel, by decide +kernel⟩, by decide, ma_mem 648 (by decide +kernel) rfl, ma_mem 56 (by decide +kernel) rfl, ma_mem 651 (by decide +kernel) rfl⟩, ma_mem 649 (by decide +kernel) rfl, ma_mem 650 (by decide +kernel) rfl⟩
theorem cl_L_125 : CV RL 125 mX6_luck 5 := ⟨⟨⟨by decide +kernel, by decide +kernel, by decide +kernel⟩, by decide, ma_mem 652 (by decide +kernel) rfl, ma_mem 56 (by decide +kernel) rfl, ma_mem 655 (by decide +kernel) rfl⟩, ma_mem 653 (by decide +kernel) rfl, ma_mem 654 (by decide +kernel) rfl⟩
theorem cl_X6_231 : CS RX6 231 mX6_areOdds 3 := ⟨⟨⟨by decide +kernel, by decide +kernel, by decide +kernel⟩, by decide, ma_mem 656 (by decide +kernel) rfl, ma_mem 56 (by decide +kernel) rfl, ma_mem 658 (by decide +kernel) rfl⟩, ma_mem 657 (by decide +kernel) rfl⟩
theorem kc_X6_234 : Cond.constantLong RX6 234 (-1) ∈ ma_tbl := ma_mem 659 (by decide +kernel) rfl
theorem cl_X6_236 : CS RX6 236 mX6_weightOf 3 := ⟨⟨⟨by decide +kernel, by decide +kernel, by decide +kernel⟩, by decide, ma_mem 660 (by decide +kernel) rfl, ma_mem 56 (by decide +kernel) rfl, ma_mem 662 (by decide +kernel) rfl⟩, ma_mem 661 (by decide +kernel) rfl⟩
theorem cl_X6_251 : CS RX6 251 mJ6_bitCount_0f7a4 1 := ⟨⟨⟨by decide +kernel, by decide +kernel, by decide +kernel⟩, by decide, ma_mem 663 (by decide +kernel) rfl, ma_mem 70 (by decide +kernel) rfl, ma_mem 665 (by decide +kernel) rfl⟩, ma_mem 664 (by decide +kernel) rfl⟩
theorem kc_J6_265 : Cond.constant RJ6 265 (1431655765) ∈ ma_tbl := ma_mem 666 (by decide +kernel) rfl
theorem kc_J6_266 : Cond.constant RJ6 266 (858993459) ∈ ma_tbl := ma_mem 667 (by decide +kernel) rfl
theorem kc_J6_267 : Cond.constant RJ6 267 (252645135) ∈ ma_tbl := ma_mem 668 (by decide +kernel) rfl
theorem cl_X6_243 : CS RX6 243 mX6_power 2 := ⟨⟨⟨by decide +kernel, by decide +kernel, by decide +kernel⟩, by decide, ma_mem 669 (by decide +kernel) rfl, ma_mem 56 (by decide +kernel) rfl, ma_mem 671 (by decide +kernel) rfl⟩, ma_mem 670 (by decide +kernel) rfl⟩
theorem cl_X6_240 : CV RX6 240 mX0_paidWithout 3 := ⟨⟨⟨by decide +kernel, by decide +kernel, by decide +kernel⟩, by decide, ma_mem 672 (by decide +kernel) rfl, ma_mem 57 (by decide +kernel) rfl, ma_mem 675 (by decide +kernel) rfl⟩, ma_mem 673 (by decide +kernel) rfl, ma_mem 674 (by decide +kernel) rfl⟩
theorem cl_X6_247 : CS RX6 247 mX6_inLowestTerms 3 := ⟨⟨⟨by decide +kernel, by decide +kernel, by decide +kernel⟩, by decide, ma_mem 676 (by decide +kernel) rfl, ma_mem 56 (by decide +kernel) rfl, ma_mem 678 (by decide +kernel) rfl⟩, ma_mem 677 (by decide +kernel) rfl⟩
theorem cl_L_130 : CV RL 130 mX6_mean 3 := ⟨⟨⟨by decide +kernel, by decide +kernel, by decide +kernel⟩, by decide, ma_mem 679 (by decide +kernel) rfl, ma_mem 56 (by decide +kernel) rfl, ma_mem 682 (by decide +kernel) rfl⟩, ma_mem 680 (by decide +kernel) rfl, ma_mem 681 (by decide +kernel) rfl⟩
theorem cl_L_135 : CV RL 135 mX6_see 3 := ⟨⟨⟨by decide +kernel, by decide +kernel, by decide +kernel⟩, by decide, ma_mem 683 (by decide +kernel) rfl, ma_mem 56 (by decide +kernel) rfl, ma_mem 686 (by decide +kernel) rfl⟩, ma_mem 684 (by decide +kernel) rfl, ma_mem 685 (by decide +kernel) rfl⟩
theorem cl_X6_256 : CV RX6 256 mX2_note 3 := ⟨⟨⟨by decide +kernel, by decide +kernel, by decide +kernel⟩, by decide, ma_mem 687 (by decide +kernel) rfl, ma_mem 60 (by decide +kernel) rfl, ma_mem 690 (by decide +kernel) rfl⟩, ma_mem 688 (by decide +kernel) rfl, ma_mem 689 (by decide +kernel) rfl⟩
theorem cl_L_139 : CV RL 139 mX6_forget 1 := ⟨⟨⟨by decide +kernel, by decide +kernel, by decide +kernel⟩, by decide, ma_mem 691 (by decide +kernel) rfl, ma_mem 56 (by decide +kernel) rfl, ma_mem 694 (by decide +kernel) rfl⟩, ma_mem 692 (by decide +kernel) rfl, ma_mem 693 (by decide +kernel) rfl⟩
theorem cl_L_143 : CV RL 143 mX6_kinds 1 := ⟨⟨⟨by decide +kernel, by decide +kernel, by decide +kernel⟩, by decide, ma_mem 695 (by decide +kernel) rfl, ma_mem 56 (by decide +kernel) rfl, ma_mem 698 (by decide +kernel) rfl⟩, ma_mem 696 (by decide +kernel) rfl, ma_mem 697 (by decide +kernel) rfl⟩
theorem cl_X6_259 : CV RX6 259 mX2_isSoIn 1 := ⟨⟨⟨by decide +kernel, by decide +kernel, by decide +kernel⟩, by decide, ma_mem 699 (by decide +kernel) rfl, ma_mem 60 (by decide +kernel) rfl, ma_mem 702 (by decide +kernel) rfl⟩, ma_mem 700 (by decide +kernel) rfl, ma_mem 701 (by decide +kernel) rfl⟩
theorem cl_X2_25 : CV RX2 25 mX2_latest 0 := ⟨⟨⟨by decide +kernel, by decide +kernel, by decide +kernel⟩, by decide, ma_mem 703 (by decide +kernel) rfl, ma_mem 60 (by decide +kernel) rfl, ma_mem 706 (by decide +kernel) rfl⟩, ma_mem 705 (by decide +kernel) rfl, ma_mem 17 (by decide +kernel) rfl⟩
theorem cl_X2_38 : CS RX2 38 mJ9_max_7cf53 2 := ⟨⟨⟨by decide +kernel, by decide +kernel, by decide +kernel⟩, by decide, ma_mem 707 (by decide +kernel) rfl, ma_mem 69 (by decide +kernel) rfl, ma_mem 581 (by decide +kernel) rfl⟩, ma_mem 580 (by decide +kernel) rfl⟩
theorem cl_X2_29 : CV RX2 29 mX2_isSoBehind 2 := ⟨⟨⟨by decide +kernel, by decide +kernel, by decide +kernel⟩, by decide, ma_mem 708 (by decide +kernel) rfl, ma_mem 60 (by decide +kernel) rfl, ma_mem 711 (by decide +kernel) rfl⟩, ma_mem 710 (by decide +kernel) rfl, ma_mem 18 (by decide +kernel) rfl⟩
theorem cl_X2_44 : CV RX2 44 mX0_hasShelf 1 := ⟨⟨⟨by decide +kernel, by decide +kernel, by decide +kernel⟩, by decide, ma_mem 712 (by decide +kernel) rfl, ma_mem 57 (by decide +kernel) rfl, ma_mem 466 (by decide +kernel) rfl⟩, ma_mem 464 (by decide +kernel) rfl, ma_mem 465 (by decide +kernel) rfl⟩
theorem cl_X2_33 : CV RX2 33 mX0_stepOn 0 := ⟨⟨⟨by decide +kernel, by decide +kernel, by decide +kernel⟩, by decide, ma_mem 713 (by decide +kernel) rfl, ma_mem 57 (by decide +kernel) rfl, ma_mem 551 (by decide +kernel) rfl⟩, ma_mem 549 (by decide +kernel) rfl, ma_mem 550 (by decide +kernel) rfl⟩
theorem cl_L_147 : CV RL 147 mX6_books 1 := ⟨⟨⟨by decide +kernel, by decide +kernel, by decide +kernel⟩, by decide, ma_mem 714 (by decide +kernel) rfl, ma_mem 56 (by decide +kernel) rfl, ma_mem 717 (by decide +kernel) rfl⟩, ma_mem 715 (by decide +kernel) rfl, ma_mem 716 (by decide +kernel) rfl⟩
theorem cl_X6_262 : CV RX6 262 mX6_candidates 1 := ⟨⟨⟨by decide +kernel, by decide +kernel, by decide +kernel⟩, by decide, ma_mem 718 (by decide +kernel) rfl, ma_mem 56 (by decide +kernel) rfl, ma_mem 721 (by decide +kernel) rfl⟩, ma_mem 720 (by decide +kernel) rfl, ma_mem 19 (by decide +kernel) rfl⟩
theorem cl_L_151 : CV RL 151 mX6_ask 2 := ⟨⟨⟨by decide +kernel, by decide +kernel, by decide +kernel⟩, by decide, ma_mem 722 (by decide +kernel) rfl, ma_mem 56 (by decide +kernel) rfl, ma_mem 725 (by decide +kernel) rfl⟩, ma_mem 723 (by decide +kernel) rfl, ma_mem 724 (by decide +kernel) rfl⟩
theorem cl_X6_265 : CV RX6 265 mX6_countLooks 2 := ⟨⟨⟨by decide +kernel, by decide +kernel, by decide +kernel⟩, by decide, ma_mem 726 (by decide +kernel) rfl, ma_mem 56 (by decide +kernel) rfl, ma_mem 729 (by decide +kernel) rfl⟩, ma_mem 728 (by decide +kernel) rfl, ma_mem 20 (by decide +kernel) rfl⟩
theorem cl_X6_271 : CV RX6 271 mX6_countLooksOfTrial 0 := ⟨⟨⟨by decide +kernel, by decide +kernel, by decide +kernel⟩, by decide, ma_mem 730 (by decide +kernel) rfl, ma_mem 56 (by decide +kernel) rfl, ma_mem 733 (by decide +kernel) rfl⟩, ma_mem 732 (by decide +kernel) rfl, ma_mem 21 (by decide +kernel) rfl⟩
theorem cl_X6_268 : CS RX6 268 mX6_mostShowingOne 1 := ⟨⟨⟨by decide +kernel, by decide +kernel, by decide +kernel⟩, by decide, ma_mem 734 (by decide +kernel) rfl, ma_mem 56 (by decide +kernel) rfl, ma_mem 736 (by decide +kernel) rfl⟩, ma_mem 735 (by decide +kernel) rfl⟩
theorem cl_X6_274 : CS RX6 274 mJ9_max_7cf53 2 := ⟨⟨⟨by decide +kernel, by decide +kernel, by decide +kernel⟩, by decide, ma_mem 737 (by decide +kernel) rfl, ma_mem 69 (by decide +kernel) rfl, ma_mem 581 (by decide +kernel) rfl⟩, ma_mem 580 (by decide +kernel) rfl⟩
theorem cl_L_155 : CV RL 155 mX6_drift 3 := ⟨⟨⟨by decide +kernel, by decide +kernel, by decide +kernel⟩, by decide, ma_mem 738 (by decide +kernel) rfl, ma_mem 56 (by decide +kernel) rfl, ma_mem 741 (by decide +kernel) rfl⟩, ma_mem 739 (by decide +kernel) rfl, ma_mem 740 (by decide +kernel) rfl⟩
theorem cl_X6_279 : CV RX6 279 mX6_paidBySeed 3 := ⟨⟨⟨by decide +kernel, by decide +kernel, by decide +kernel⟩, by decide, ma_mem 742 (by decide +kernel) rfl, ma_mem 56 (by decide +kernel) rfl, ma_mem 745 (by decide +kernel) rfl⟩, ma_mem 744 (by decide +kernel) rfl, ma_mem 22 (by decide +kernel) rfl⟩
theorem kc_X6_283 : Cond.constant RX6 283 (1103515245) ∈ ma_tbl := ma_mem 746 (by decide +kernel) rfl
theorem cl_X6_284 : CV RX6 284 mX4_serve 1 := ⟨⟨⟨by decide +kernel, by decide +kernel, by decide +kernel⟩, by decide, ma_mem 747 (by decide +kernel) rfl, ma_mem 58 (by decide +kernel) rfl, ma_mem 529 (by decide +kernel) rfl⟩, ma_mem 527 (by decide +kernel) rfl, ma_mem 528 (by decide +kernel) rfl⟩
theorem cl_L_159 : CV RL 159 mX6_keep 1 := ⟨⟨⟨by decide +kernel, by decide +kernel, by decide +kernel⟩, by decide, ma_mem 748 (by decide +kernel) rfl, ma_mem 56 (by decide +kernel) rfl, ma_mem 751 (by decide +kernel) rfl⟩, ma_mem 749 (by decide +kernel) rfl, ma_mem 750 (by decide +kernel) rfl⟩
theorem cl_L_163 : CV RL 163 mX6_back 1 := ⟨⟨⟨by decide +kernel, by decide +kernel, by decide +kernel⟩, by decide, ma_mem 752 (by decide +kernel) rfl, ma_mem 56 (by decide +kernel) rfl, ma_mem 755 (by decide +kernel) rfl⟩, ma_mem 753 (by decide +kernel) rfl, ma_mem 754 (by decide +kernel) rfl⟩
theorem cl_L_167 : CV RL 167 mX6_sheet 3 := ⟨⟨⟨by decide +kernel, by decide +kernel, by decide +kernel⟩, by decide, ma_mem 756 (by decide +kernel) rfl, ma_mem 56 (by decide +kernel) rfl, ma_mem 759 (by decide +kernel) rfl⟩, ma_mem 757 (by decide +kernel) rfl, ma_mem 758 (by decide +kernel) rfl⟩
theorem cl_X6_287 : CV RX6 287 mX3_begin 2 := ⟨⟨⟨by decide +kernel, by decide +kernel, by decide +kernel⟩, by decide, ma_mem 760 (by decide +kernel) rfl, ma_mem 62 (by decide +kernel) rfl, ma_mem 763 (by decide +kernel) rfl⟩, ma_mem 761 (by decide +kernel) rfl, ma_mem 762 (by decide +kernel) rfl⟩
theorem cl_L_171 : CV RL 171 mX6_lay 3 := ⟨⟨⟨by decide +kernel, by decide +kernel, by decide +kernel⟩, by decide, ma_mem 764 (by decide +kernel) rfl, ma_mem 56 (by decide +kernel) rfl, ma_mem 767 (by decide +kernel) rfl⟩, ma_mem 765 (by decide +kernel) rfl, ma_mem 766 (by decide +kernel) rfl⟩
theorem cl_X6_293 : CV RX6 293 mX3_faultOf 2 := ⟨⟨⟨by decide +kernel, by decide +kernel, by decide +kernel⟩, by decide, ma_mem 768 (by decide +kernel) rfl, ma_mem 62 (by decide +kernel) rfl, ma_mem 771 (by decide +kernel) rfl⟩, ma_mem 769 (by decide +kernel) rfl, ma_mem 770 (by decide +kernel) rfl⟩
theorem cl_X6_296 : CV RX6 296 mX3_write 2 := ⟨⟨⟨by decide +kernel, by decide +kernel, by decide +kernel⟩, by decide, ma_mem 772 (by decide +kernel) rfl, ma_mem 62 (by decide +kernel) rfl, ma_mem 775 (by decide +kernel) rfl⟩, ma_mem 773 (by decide +kernel) rfl, ma_mem 774 (by decide +kernel) rfl⟩
theorem cl_L_175 : CV RL 175 mX6_read 4 := ⟨⟨⟨by decide +kernel, by decide +kernel, by decide +kernel⟩, by decide, ma_mem 776 (by decide +kernel) rfl, ma_mem 56 (by decide +kernel) rfl, ma_mem 779 (by decide +kernel) rfl⟩, ma_mem 777 (by decide +kernel) rfl, ma_mem 778 (by decide +kernel) rfl⟩
theorem cl_X6_302 : CV RX6 302 mX6_add 1 := ⟨⟨⟨by decide +kernel, by decide +kernel, by decide +kernel⟩, by decide, ma_mem 780 (by decide +kernel) rfl, ma_mem 56 (by decide +kernel) rfl, ma_mem 512 (by decide +kernel) rfl⟩, ma_mem 510 (by decide +kernel) rfl, ma_mem 511 (by decide +kernel) rfl⟩
theorem cl_L_180 : CV RL 180 mX6_torn 0 := ⟨⟨⟨by decide +kernel, by decide +kernel, by decide +kernel⟩, by decide, ma_mem 781 (by decide +kernel) rfl, ma_mem 56 (by decide +kernel) rfl, ma_mem 784 (by decide +kernel) rfl⟩, ma_mem 782 (by decide +kernel) rfl, ma_mem 783 (by decide +kernel) rfl⟩
theorem cl_L_184 : CV RL 184 mX6_count 1 := ⟨⟨⟨by decide +kernel, by decide +kernel, by decide +kernel⟩, by decide, ma_mem 785 (by decide +kernel) rfl, ma_mem 56 (by decide +kernel) rfl, ma_mem 788 (by decide +kernel) rfl⟩, ma_mem 786 (by decide +kernel) rfl, ma_mem 787 (by decide +kernel) rfl⟩
theorem cl_X6_305 : CV RX6 305 mX6_imagesKept 0 := ⟨⟨⟨by decide +kernel, by decide +kernel, by decide +kernel⟩, by decide, ma_mem 789 (by decide +kernel) rfl, ma_mem 56 (by decide +kernel) rfl, ma_mem 792 (by decide +kernel) rfl⟩, ma_mem 791 (by decide +kernel) rfl, ma_mem 23 (by decide +kernel) rfl⟩
theorem cl_X6_309 : CV RX6 309 mX0_costOfAll 0 := ⟨⟨⟨by decide +kernel, by decide +kernel, by decide +kernel⟩, by decide, ma_mem 793 (by decide +kernel) rfl, ma_mem 57 (by decide +kernel) rfl, ma_mem 796 (by decide +kernel) rfl⟩, ma_mem 794 (by decide +kernel) rfl, ma_mem 795 (by decide +kernel) rfl⟩
theorem cl_X6_312 : CV RX6 312 mX0_wantsSummed 0 := ⟨⟨⟨by decide +kernel, by decide +kernel, by decide +kernel⟩, by decide, ma_mem 797 (by decide +kernel) rfl, ma_mem 57 (by decide +kernel) rfl, ma_mem 800 (by decide +kernel) rfl⟩, ma_mem 798 (by decide +kernel) rfl, ma_mem 799 (by decide +kernel) rfl⟩
theorem nw_L_10 : Cond.classLink RL 10 (Rn 7) ∈ ma_tbl := ma_mem 801 (by decide +kernel) rfl
theorem nk_7 : Cond.instantiable (Rn 7) (Nn 7) ∈ ma_tbl := ma_mem 802 (by decide +kernel) rfl
theorem ni_7 : Cond.initialized (Rn 7) ∈ ma_tbl := ma_mem 63 (by decide +kernel) rfl
theorem cl_L_12 : CI RL 12 mX7_init 0 := ⟨⟨⟨by decide +kernel, by decide +kernel, by decide +kernel⟩, by decide, ma_mem 803 (by decide +kernel) rfl, ma_mem 63 (by decide +kernel) rfl, ma_mem 805 (by decide +kernel) rfl⟩, rfl, rfl, ma_mem 804 (by decide +kernel) rfl⟩
theorem cl_L_17 : CV RL 17 mX7_feed 1 := ⟨⟨⟨by decide +kernel, by decide +kernel, by decide +kernel⟩, by decide, ma_mem 895 (by decide +kernel) rfl, ma_mem 63 (by decide +kernel) rfl, ma_mem 898 (by decide +kernel) rfl⟩, ma_mem 896 (by decide +kernel) rfl, ma_mem 897 (by decide +kernel) rfl⟩
theorem kc_X7_54 : Cond.constantLong RX7 54 (127) ∈ ma_tbl := ma_mem 899 (by decide +kernel) rfl
theorem cl_X7_56 : CS RX7 56 mX7_in 3 := ⟨⟨⟨by decide +kernel, by decide +kernel, by decide +kernel⟩, by decide, ma_mem 900 (by decide +kernel) rfl, ma_mem 63 (by decide +kernel) rfl, ma_mem 902 (by decide +kernel) rfl⟩, ma_mem 901 (by decide +kernel) rfl⟩
theorem cl_L_21 : CV RL 21 mX7_end 1 := ⟨⟨⟨by decide +kernel, by decide +kernel, by decide +kernel⟩, by decide, ma_mem 903 (by decide +kernel) rfl, ma_mem 63 (by decide +kernel) rfl, ma_mem 906 (by decide +kernel) rfl⟩, ma_mem 904 (by decide +kernel) rfl, ma_mem 905 (by decide +kernel) rfl⟩
theorem cl_L_26 : CV RL 26 mX7_text 0 := ⟨⟨⟨by decide +kernel, by decide +kernel, by decide +kernel⟩, by decide, ma_mem 907 (by decide +kernel) rfl, ma_mem 63 (by decide +kernel) rfl, ma_mem 910 (by decide +kernel) rfl⟩, ma_mem 908 (by decide +kernel) rfl, ma_mem 909 (by decide +kernel) rfl⟩
theorem cl_X7_97 : CV RX7 97 mX7_readsOn 0 := ⟨⟨⟨by decide +kernel, by decide +kernel, by decide +kernel⟩, by decide, ma_mem 911 (by decide +kernel) rfl, ma_mem 63 (by decide +kernel) rfl, ma_mem 914 (by decide +kernel) rfl⟩, ma_mem 913 (by decide +kernel) rfl, ma_mem 24 (by decide +kernel) rfl⟩
theorem cl_X7_78 : CV RX7 78 mX7_byteAt 1 := ⟨⟨⟨by decide +kernel, by decide +kernel, by decide +kernel⟩, by decide, ma_mem 915 (by decide +kernel) rfl, ma_mem 63 (by decide +kernel) rfl, ma_mem 918 (by decide +kernel) rfl⟩, ma_mem 917 (by decide +kernel) rfl, ma_mem 25 (by decide +kernel) rfl⟩
theorem kc_X7_85 : Cond.constantLong RX7 85 (97) ∈ ma_tbl := ma_mem 919 (by decide +kernel) rfl
theorem kc_X7_87 : Cond.constantLong RX7 87 (122) ∈ ma_tbl := ma_mem 920 (by decide +kernel) rfl
theorem kc_X7_89 : Cond.constantLong RX7 89 (48) ∈ ma_tbl := ma_mem 921 (by decide +kernel) rfl
theorem kc_X7_91 : Cond.constantLong RX7 91 (57) ∈ ma_tbl := ma_mem 922 (by decide +kernel) rfl
theorem cl_X7_93 : CV RX7 93 mX7_fails 1 := ⟨⟨⟨by decide +kernel, by decide +kernel, by decide +kernel⟩, by decide, ma_mem 923 (by decide +kernel) rfl, ma_mem 63 (by decide +kernel) rfl, ma_mem 926 (by decide +kernel) rfl⟩, ma_mem 925 (by decide +kernel) rfl, ma_mem 26 (by decide +kernel) rfl⟩
theorem cl_X7_126 : CV RX7 126 mX7_readLine 0 := ⟨⟨⟨by decide +kernel, by decide +kernel, by decide +kernel⟩, by decide, ma_mem 927 (by decide +kernel) rfl, ma_mem 63 (by decide +kernel) rfl, ma_mem 930 (by decide +kernel) rfl⟩, ma_mem 929 (by decide +kernel) rfl, ma_mem 27 (by decide +kernel) rfl⟩
theorem cl_X7_113 : CV RX7 113 mX7_nameHere 0 := ⟨⟨⟨by decide +kernel, by decide +kernel, by decide +kernel⟩, by decide, ma_mem 931 (by decide +kernel) rfl, ma_mem 63 (by decide +kernel) rfl, ma_mem 934 (by decide +kernel) rfl⟩, ma_mem 933 (by decide +kernel) rfl, ma_mem 28 (by decide +kernel) rfl⟩
theorem kc_X7_117 : Cond.constantLong RX7 117 (5) ∈ ma_tbl := ma_mem 935 (by decide +kernel) rfl
theorem cl_X7_123 : CV RX7 123 mX7_readMore 1 := ⟨⟨⟨by decide +kernel, by decide +kernel, by decide +kernel⟩, by decide, ma_mem 936 (by decide +kernel) rfl, ma_mem 63 (by decide +kernel) rfl, ma_mem 939 (by decide +kernel) rfl⟩, ma_mem 938 (by decide +kernel) rfl, ma_mem 29 (by decide +kernel) rfl⟩
theorem cl_X7_100 : CV RX7 100 mX7_number 2 := ⟨⟨⟨by decide +kernel, by decide +kernel, by decide +kernel⟩, by decide, ma_mem 940 (by decide +kernel) rfl, ma_mem 63 (by decide +kernel) rfl, ma_mem 943 (by decide +kernel) rfl⟩, ma_mem 942 (by decide +kernel) rfl, ma_mem 30 (by decide +kernel) rfl⟩
theorem cl_X7_110 : CV RX7 110 mX7_readWants 0 := ⟨⟨⟨by decide +kernel, by decide +kernel, by decide +kernel⟩, by decide, ma_mem 944 (by decide +kernel) rfl, ma_mem 63 (by decide +kernel) rfl, ma_mem 947 (by decide +kernel) rfl⟩, ma_mem 946 (by decide +kernel) rfl, ma_mem 31 (by decide +kernel) rfl⟩
theorem cl_X7_132 : CV RX7 132 mX7_ordersFirst 1 := ⟨⟨⟨by decide +kernel, by decide +kernel, by decide +kernel⟩, by decide, ma_mem 948 (by decide +kernel) rfl, ma_mem 63 (by decide +kernel) rfl, ma_mem 951 (by decide +kernel) rfl⟩, ma_mem 950 (by decide +kernel) rfl, ma_mem 32 (by decide +kernel) rfl⟩
theorem cl_L_30 : CV RL 30 mX7_fault 0 := ⟨⟨⟨by decide +kernel, by decide +kernel, by decide +kernel⟩, by decide, ma_mem 952 (by decide +kernel) rfl, ma_mem 63 (by decide +kernel) rfl, ma_mem 955 (by decide +kernel) rfl⟩, ma_mem 953 (by decide +kernel) rfl, ma_mem 954 (by decide +kernel) rfl⟩
theorem cl_L_34 : CV RL 34 mX7_rule 1 := ⟨⟨⟨by decide +kernel, by decide +kernel, by decide +kernel⟩, by decide, ma_mem 956 (by decide +kernel) rfl, ma_mem 63 (by decide +kernel) rfl, ma_mem 959 (by decide +kernel) rfl⟩, ma_mem 957 (by decide +kernel) rfl, ma_mem 958 (by decide +kernel) rfl⟩
theorem cl_X7_156 : CV RX7 156 mX7_turnOn 1 := ⟨⟨⟨by decide +kernel, by decide +kernel, by decide +kernel⟩, by decide, ma_mem 960 (by decide +kernel) rfl, ma_mem 63 (by decide +kernel) rfl, ma_mem 963 (by decide +kernel) rfl⟩, ma_mem 962 (by decide +kernel) rfl, ma_mem 33 (by decide +kernel) rfl⟩
theorem cl_L_39 : CV RL 39 mX7_shelf 2 := ⟨⟨⟨by decide +kernel, by decide +kernel, by decide +kernel⟩, by decide, ma_mem 964 (by decide +kernel) rfl, ma_mem 63 (by decide +kernel) rfl, ma_mem 967 (by decide +kernel) rfl⟩, ma_mem 965 (by decide +kernel) rfl, ma_mem 966 (by decide +kernel) rfl⟩
theorem cl_X7_162 : CV RX7 162 mX7_isShelf 1 := ⟨⟨⟨by decide +kernel, by decide +kernel, by decide +kernel⟩, by decide, ma_mem 968 (by decide +kernel) rfl, ma_mem 63 (by decide +kernel) rfl, ma_mem 971 (by decide +kernel) rfl⟩, ma_mem 970 (by decide +kernel) rfl, ma_mem 34 (by decide +kernel) rfl⟩
theorem cl_X7_166 : CV RX7 166 mX7_isBook 1 := ⟨⟨⟨by decide +kernel, by decide +kernel, by decide +kernel⟩, by decide, ma_mem 972 (by decide +kernel) rfl, ma_mem 63 (by decide +kernel) rfl, ma_mem 975 (by decide +kernel) rfl⟩, ma_mem 974 (by decide +kernel) rfl, ma_mem 35 (by decide +kernel) rfl⟩
theorem cl_L_43 : CV RL 43 mX7_place 2 := ⟨⟨⟨by decide +kernel, by decide +kernel, by decide +kernel⟩, by decide, ma_mem 976 (by decide +kernel) rfl, ma_mem 63 (by decide +kernel) rfl, ma_mem 979 (by decide +kernel) rfl⟩, ma_mem 977 (by decide +kernel) rfl, ma_mem 978 (by decide +kernel) rfl⟩
theorem cl_X7_144 : CV RX7 144 mX7_placeOn 3 := ⟨⟨⟨by decide +kernel, by decide +kernel, by decide +kernel⟩, by decide, ma_mem 980 (by decide +kernel) rfl, ma_mem 63 (by decide +kernel) rfl, ma_mem 983 (by decide +kernel) rfl⟩, ma_mem 982 (by decide +kernel) rfl, ma_mem 36 (by decide +kernel) rfl⟩
theorem cl_L_47 : CV RL 47 mX7_want 1 := ⟨⟨⟨by decide +kernel, by decide +kernel, by decide +kernel⟩, by decide, ma_mem 984 (by decide +kernel) rfl, ma_mem 63 (by decide +kernel) rfl, ma_mem 987 (by decide +kernel) rfl⟩, ma_mem 985 (by decide +kernel) rfl, ma_mem 986 (by decide +kernel) rfl⟩
theorem cl_X7_169 : CV RX7 169 mX7_isWant 1 := ⟨⟨⟨by decide +kernel, by decide +kernel, by decide +kernel⟩, by decide, ma_mem 988 (by decide +kernel) rfl, ma_mem 63 (by decide +kernel) rfl, ma_mem 991 (by decide +kernel) rfl⟩, ma_mem 990 (by decide +kernel) rfl, ma_mem 37 (by decide +kernel) rfl⟩
theorem cl_L_51 : CV RL 51 mX7_alter 2 := ⟨⟨⟨by decide +kernel, by decide +kernel, by decide +kernel⟩, by decide, ma_mem 992 (by decide +kernel) rfl, ma_mem 63 (by decide +kernel) rfl, ma_mem 995 (by decide +kernel) rfl⟩, ma_mem 993 (by decide +kernel) rfl, ma_mem 994 (by decide +kernel) rfl⟩
theorem kc_X7_172 : Cond.constantLong RX7 172 (3) ∈ ma_tbl := ma_mem 996 (by decide +kernel) rfl
theorem cl_X7_174 : CV RX7 174 mX7_puts 3 := ⟨⟨⟨by decide +kernel, by decide +kernel, by decide +kernel⟩, by decide, ma_mem 997 (by decide +kernel) rfl, ma_mem 63 (by decide +kernel) rfl, ma_mem 1000 (by decide +kernel) rfl⟩, ma_mem 999 (by decide +kernel) rfl, ma_mem 38 (by decide +kernel) rfl⟩
theorem cl_L_55 : CV RL 55 mX7_put 1 := ⟨⟨⟨by decide +kernel, by decide +kernel, by decide +kernel⟩, by decide, ma_mem 1001 (by decide +kernel) rfl, ma_mem 63 (by decide +kernel) rfl, ma_mem 1004 (by decide +kernel) rfl⟩, ma_mem 1002 (by decide +kernel) rfl, ma_mem 1003 (by decide +kernel) rfl⟩
theorem cl_L_59 : CV RL 59 mX7_cut 1 := ⟨⟨⟨by decide +kernel, by decide +kernel, by decide +kernel⟩, by decide, ma_mem 1005 (by decide +kernel) rfl, ma_mem 63 (by decide +kernel) rfl, ma_mem 1008 (by decide +kernel) rfl⟩, ma_mem 1006 (by decide +kernel) rfl, ma_mem 1007 (by decide +kernel) rfl⟩
theorem cl_L_64 : CV RL 64 mX7_stand 3 := ⟨⟨⟨by decide +kernel, by decide +kernel, by decide +kernel⟩, by decide, ma_mem 1009 (by decide +kernel) rfl, ma_mem 63 (by decide +kernel) rfl, ma_mem 1012 (by decide +kernel) rfl⟩, ma_mem 1010 (by decide +kernel) rfl, ma_mem 1011 (by decide +kernel) rfl⟩
theorem cl_X7_152 : CV RX7 152 mX7_standsOn 4 := ⟨⟨⟨by decide +kernel, by decide +kernel, by decide +kernel⟩, by decide, ma_mem 1013 (by decide +kernel) rfl, ma_mem 63 (by decide +kernel) rfl, ma_mem 1016 (by decide +kernel) rfl⟩, ma_mem 1015 (by decide +kernel) rfl, ma_mem 39 (by decide +kernel) rfl⟩
theorem cl_L_68 : CV RL 68 mX7_set 2 := ⟨⟨⟨by decide +kernel, by decide +kernel, by decide +kernel⟩, by decide, ma_mem 1017 (by decide +kernel) rfl, ma_mem 63 (by decide +kernel) rfl, ma_mem 1020 (by decide +kernel) rfl⟩, ma_mem 1018 (by decide +kernel) rfl, ma_mem 1019 (by decide +kernel) rfl⟩
theorem cl_L_72 : CV RL 72 mX7_add 1 := ⟨⟨⟨by decide +kernel, by decide +kernel, by decide +kernel⟩, by decide, ma_mem 1021 (by decide +kernel) rfl, ma_mem 63 (by decide +kernel) rfl, ma_mem 1024 (by decide +kernel) rfl⟩, ma_mem 1022 (by decide +kernel) rfl, ma_mem 1023 (by decide +kernel) rfl⟩
theorem cl_X7_178 : CV RX7 178 mX7_adds 1 := ⟨⟨⟨by decide +kernel, by decide +kernel, by decide +kernel⟩, by decide, ma_mem 1025 (by decide +kernel) rfl, ma_mem 63 (by decide +kernel) rfl, ma_mem 1028 (by decide +kernel) rfl⟩, ma_mem 1027 (by decide +kernel) rfl, ma_mem 40 (by decide +kernel) rfl⟩
theorem cl_L_76 : CV RL 76 mX7_drop 1 := ⟨⟨⟨by decide +kernel, by decide +kernel, by decide +kernel⟩, by decide, ma_mem 1029 (by decide +kernel) rfl, ma_mem 63 (by decide +kernel) rfl, ma_mem 1032 (by decide +kernel) rfl⟩, ma_mem 1030 (by decide +kernel) rfl, ma_mem 1031 (by decide +kernel) rfl⟩
theorem cl_L_80 : CV RL 80 mX7_take 1 := ⟨⟨⟨by decide +kernel, by decide +kernel, by decide +kernel⟩, by decide, ma_mem 1033 (by decide +kernel) rfl, ma_mem 63 (by decide +kernel) rfl, ma_mem 1036 (by decide +kernel) rfl⟩, ma_mem 1034 (by decide +kernel) rfl, ma_mem 1035 (by decide +kernel) rfl⟩
theorem cl_X7_159 : CV RX7 159 mX7_asksOn 2 := ⟨⟨⟨by decide +kernel, by decide +kernel, by decide +kernel⟩, by decide, ma_mem 1037 (by decide +kernel) rfl, ma_mem 63 (by decide +kernel) rfl, ma_mem 1040 (by decide +kernel) rfl⟩, ma_mem 1039 (by decide +kernel) rfl, ma_mem 41 (by decide +kernel) rfl⟩
theorem kc_X7_148 : Cond.constant RX7 148 (99999) ∈ ma_tbl := ma_mem 1041 (by decide +kernel) rfl
theorem cl_X7_149 : CV RX7 149 mX7_goalOn 3 := ⟨⟨⟨by decide +kernel, by decide +kernel, by decide +kernel⟩, by decide, ma_mem 1042 (by decide +kernel) rfl, ma_mem 63 (by decide +kernel) rfl, ma_mem 1045 (by decide +kernel) rfl⟩, ma_mem 1044 (by decide +kernel) rfl, ma_mem 42 (by decide +kernel) rfl⟩
theorem cl_L_84 : CV RL 84 mX7_steps 1 := ⟨⟨⟨by decide +kernel, by decide +kernel, by decide +kernel⟩, by decide, ma_mem 1046 (by decide +kernel) rfl, ma_mem 63 (by decide +kernel) rfl, ma_mem 1049 (by decide +kernel) rfl⟩, ma_mem 1047 (by decide +kernel) rfl, ma_mem 1048 (by decide +kernel) rfl⟩
theorem kc_X7_181 : Cond.constantLong RX7 181 (100) ∈ ma_tbl := ma_mem 1050 (by decide +kernel) rfl
theorem cl_X7_183 : CV RX7 183 mX7_starts 0 := ⟨⟨⟨by decide +kernel, by decide +kernel, by decide +kernel⟩, by decide, ma_mem 1051 (by decide +kernel) rfl, ma_mem 63 (by decide +kernel) rfl, ma_mem 1054 (by decide +kernel) rfl⟩, ma_mem 1053 (by decide +kernel) rfl, ma_mem 43 (by decide +kernel) rfl⟩
theorem cl_X7_186 : CV RX7 186 mX7_stepOn 2 := ⟨⟨⟨by decide +kernel, by decide +kernel, by decide +kernel⟩, by decide, ma_mem 1055 (by decide +kernel) rfl, ma_mem 63 (by decide +kernel) rfl, ma_mem 1058 (by decide +kernel) rfl⟩, ma_mem 1057 (by decide +kernel) rfl, ma_mem 44 (by decide +kernel) rfl⟩
theorem cl_X7_190 : CV RX7 190 mX7_paidAll 0 := ⟨⟨⟨by decide +kernel, by decide +kernel, by decide +kernel⟩, by decide, ma_mem 1059 (by decide +kernel) rfl, ma_mem 63 (by decide +kernel) rfl, ma_mem 1062 (by decide +kernel) rfl⟩, ma_mem 1061 (by decide +kernel) rfl, ma_mem 45 (by decide +kernel) rfl⟩
theorem cl_L_88 : CV RL 88 mX7_runs 2 := ⟨⟨⟨by decide +kernel, by decide +kernel, by decide +kernel⟩, by decide, ma_mem 1063 (by decide +kernel) rfl, ma_mem 63 (by decide +kernel) rfl, ma_mem 1066 (by decide +kernel) rfl⟩, ma_mem 1064 (by decide +kernel) rfl, ma_mem 1065 (by decide +kernel) rfl⟩
theorem kc_X7_197 : Cond.constantLong RX7 197 (200) ∈ ma_tbl := ma_mem 1067 (by decide +kernel) rfl
theorem cl_X7_199 : CV RX7 199 mX7_stepsGo 2 := ⟨⟨⟨by decide +kernel, by decide +kernel, by decide +kernel⟩, by decide, ma_mem 1068 (by decide +kernel) rfl, ma_mem 63 (by decide +kernel) rfl, ma_mem 1071 (by decide +kernel) rfl⟩, ma_mem 1070 (by decide +kernel) rfl, ma_mem 46 (by decide +kernel) rfl⟩
theorem cl_X7_193 : CV RX7 193 mX7_copies 2 := ⟨⟨⟨by decide +kernel, by decide +kernel, by decide +kernel⟩, by decide, ma_mem 1072 (by decide +kernel) rfl, ma_mem 63 (by decide +kernel) rfl, ma_mem 1075 (by decide +kernel) rfl⟩, ma_mem 1074 (by decide +kernel) rfl, ma_mem 47 (by decide +kernel) rfl⟩
theorem cl_X7_202 : CV RX7 202 mX7_cheapest 0 := ⟨⟨⟨by decide +kernel, by decide +kernel, by decide +kernel⟩, by decide, ma_mem 1076 (by decide +kernel) rfl, ma_mem 63 (by decide +kernel) rfl, ma_mem 1079 (by decide +kernel) rfl⟩, ma_mem 1078 (by decide +kernel) rfl, ma_mem 48 (by decide +kernel) rfl⟩
theorem cl_L_92 : CV RL 92 mX7_paid 2 := ⟨⟨⟨by decide +kernel, by decide +kernel, by decide +kernel⟩, by decide, ma_mem 1080 (by decide +kernel) rfl, ma_mem 63 (by decide +kernel) rfl, ma_mem 1083 (by decide +kernel) rfl⟩, ma_mem 1081 (by decide +kernel) rfl, ma_mem 1082 (by decide +kernel) rfl⟩
theorem cl_L_96 : CV RL 96 mX7_ahead 3 := ⟨⟨⟨by decide +kernel, by decide +kernel, by decide +kernel⟩, by decide, ma_mem 1084 (by decide +kernel) rfl, ma_mem 63 (by decide +kernel) rfl, ma_mem 1087 (by decide +kernel) rfl⟩, ma_mem 1085 (by decide +kernel) rfl, ma_mem 1086 (by decide +kernel) rfl⟩
theorem cl_L_100 : CV RL 100 mX7_when 2 := ⟨⟨⟨by decide +kernel, by decide +kernel, by decide +kernel⟩, by decide, ma_mem 1088 (by decide +kernel) rfl, ma_mem 63 (by decide +kernel) rfl, ma_mem 1091 (by decide +kernel) rfl⟩, ma_mem 1089 (by decide +kernel) rfl, ma_mem 1090 (by decide +kernel) rfl⟩
theorem cl_L_104 : CV RL 104 mX7_again 0 := ⟨⟨⟨by decide +kernel, by decide +kernel, by decide +kernel⟩, by decide, ma_mem 1092 (by decide +kernel) rfl, ma_mem 63 (by decide +kernel) rfl, ma_mem 1095 (by decide +kernel) rfl⟩, ma_mem 1093 (by decide +kernel) rfl, ma_mem 1094 (by decide +kernel) rfl⟩
theorem cl_L_108 : CV RL 108 mX7_order 2 := ⟨⟨⟨by decide +kernel, by decide +kernel, by decide +kernel⟩, by decide, ma_mem 1096 (by decide +kernel) rfl, ma_mem 63 (by decide +kernel) rfl, ma_mem 1099 (by decide +kernel) rfl⟩, ma_mem 1097 (by decide +kernel) rfl, ma_mem 1098 (by decide +kernel) rfl⟩
theorem kc_X7_205 : Cond.constant RX7 205 (1000000) ∈ ma_tbl := ma_mem 1100 (by decide +kernel) rfl
theorem cl_X7_206 : CV RX7 206 mX7_isRow 1 := ⟨⟨⟨by decide +kernel, by decide +kernel, by decide +kernel⟩, by decide, ma_mem 1101 (by decide +kernel) rfl, ma_mem 63 (by decide +kernel) rfl, ma_mem 1104 (by decide +kernel) rfl⟩, ma_mem 1103 (by decide +kernel) rfl, ma_mem 49 (by decide +kernel) rfl⟩
theorem cl_X7_209 : CV RX7 209 mX7_ordered 2 := ⟨⟨⟨by decide +kernel, by decide +kernel, by decide +kernel⟩, by decide, ma_mem 1105 (by decide +kernel) rfl, ma_mem 63 (by decide +kernel) rfl, ma_mem 1108 (by decide +kernel) rfl⟩, ma_mem 1107 (by decide +kernel) rfl, ma_mem 50 (by decide +kernel) rfl⟩
theorem cl_L_112 : CV RL 112 mX7_kind 3 := ⟨⟨⟨by decide +kernel, by decide +kernel, by decide +kernel⟩, by decide, ma_mem 1109 (by decide +kernel) rfl, ma_mem 63 (by decide +kernel) rfl, ma_mem 1112 (by decide +kernel) rfl⟩, ma_mem 1110 (by decide +kernel) rfl, ma_mem 1111 (by decide +kernel) rfl⟩
theorem cl_L_116 : CV RL 116 mX7_first 3 := ⟨⟨⟨by decide +kernel, by decide +kernel, by decide +kernel⟩, by decide, ma_mem 1113 (by decide +kernel) rfl, ma_mem 63 (by decide +kernel) rfl, ma_mem 1116 (by decide +kernel) rfl⟩, ma_mem 1114 (by decide +kernel) rfl, ma_mem 1115 (by decide +kernel) rfl⟩
theorem cl_L_120 : CV RL 120 mX7_swap 2 := ⟨⟨⟨by decide +kernel, by decide +kernel, by decide +kernel⟩, by decide, ma_mem 1117 (by decide +kernel) rfl, ma_mem 63 (by decide +kernel) rfl, ma_mem 1120 (by decide +kernel) rfl⟩, ma_mem 1118 (by decide +kernel) rfl, ma_mem 1119 (by decide +kernel) rfl⟩
theorem cl_L_124 : CV RL 124 mX7_lose 2 := ⟨⟨⟨by decide +kernel, by decide +kernel, by decide +kernel⟩, by decide, ma_mem 1121 (by decide +kernel) rfl, ma_mem 63 (by decide +kernel) rfl, ma_mem 1124 (by decide +kernel) rfl⟩, ma_mem 1122 (by decide +kernel) rfl, ma_mem 1123 (by decide +kernel) rfl⟩
theorem cl_L_129 : CV RL 129 mX7_luck 5 := ⟨⟨⟨by decide +kernel, by decide +kernel, by decide +kernel⟩, by decide, ma_mem 1125 (by decide +kernel) rfl, ma_mem 63 (by decide +kernel) rfl, ma_mem 1128 (by decide +kernel) rfl⟩, ma_mem 1126 (by decide +kernel) rfl, ma_mem 1127 (by decide +kernel) rfl⟩
theorem kc_X7_213 : Cond.constantLong RX7 213 (10) ∈ ma_tbl := ma_mem 1129 (by decide +kernel) rfl
theorem kc_X7_219 : Cond.constantLong RX7 219 (8) ∈ ma_tbl := ma_mem 1130 (by decide +kernel) rfl
theorem cl_X7_221 : CV RX7 221 mX7_byNothing 5 := ⟨⟨⟨by decide +kernel, by decide +kernel, by decide +kernel⟩, by decide, ma_mem 1131 (by decide +kernel) rfl, ma_mem 63 (by decide +kernel) rfl, ma_mem 1134 (by decide +kernel) rfl⟩, ma_mem 1133 (by decide +kernel) rfl, ma_mem 51 (by decide +kernel) rfl⟩
theorem cl_X7_215 : CS RX7 215 mX7_lowest 3 := ⟨⟨⟨by decide +kernel, by decide +kernel, by decide +kernel⟩, by decide, ma_mem 1135 (by decide +kernel) rfl, ma_mem 63 (by decide +kernel) rfl, ma_mem 1137 (by decide +kernel) rfl⟩, ma_mem 1136 (by decide +kernel) rfl⟩
theorem kc_X7_225 : Cond.constantLong RX7 225 (-1) ∈ ma_tbl := ma_mem 1138 (by decide +kernel) rfl
theorem cl_L_134 : CV RL 134 mX7_mean 3 := ⟨⟨⟨by decide +kernel, by decide +kernel, by decide +kernel⟩, by decide, ma_mem 1139 (by decide +kernel) rfl, ma_mem 63 (by decide +kernel) rfl, ma_mem 1142 (by decide +kernel) rfl⟩, ma_mem 1140 (by decide +kernel) rfl, ma_mem 1141 (by decide +kernel) rfl⟩
theorem cl_L_138 : CV RL 138 mX7_see 3 := ⟨⟨⟨by decide +kernel, by decide +kernel, by decide +kernel⟩, by decide, ma_mem 1143 (by decide +kernel) rfl, ma_mem 63 (by decide +kernel) rfl, ma_mem 1146 (by decide +kernel) rfl⟩, ma_mem 1144 (by decide +kernel) rfl, ma_mem 1145 (by decide +kernel) rfl⟩
theorem kc_X7_227 : Cond.constantLong RX7 227 (40) ∈ ma_tbl := ma_mem 1147 (by decide +kernel) rfl
theorem cl_L_142 : CV RL 142 mX7_forget 1 := ⟨⟨⟨by decide +kernel, by decide +kernel, by decide +kernel⟩, by decide, ma_mem 1148 (by decide +kernel) rfl, ma_mem 63 (by decide +kernel) rfl, ma_mem 1151 (by decide +kernel) rfl⟩, ma_mem 1149 (by decide +kernel) rfl, ma_mem 1150 (by decide +kernel) rfl⟩
theorem cl_L_146 : CV RL 146 mX7_kinds 1 := ⟨⟨⟨by decide +kernel, by decide +kernel, by decide +kernel⟩, by decide, ma_mem 1152 (by decide +kernel) rfl, ma_mem 63 (by decide +kernel) rfl, ma_mem 1155 (by decide +kernel) rfl⟩, ma_mem 1153 (by decide +kernel) rfl, ma_mem 1154 (by decide +kernel) rfl⟩
theorem cl_X7_232 : CV RX7 232 mX7_numbersAt 2 := ⟨⟨⟨by decide +kernel, by decide +kernel, by decide +kernel⟩, by decide, ma_mem 1156 (by decide +kernel) rfl, ma_mem 63 (by decide +kernel) rfl, ma_mem 1159 (by decide +kernel) rfl⟩, ma_mem 1158 (by decide +kernel) rfl, ma_mem 52 (by decide +kernel) rfl⟩
theorem cl_X7_229 : CV RX7 229 mX7_isAsSeen 1 := ⟨⟨⟨by decide +kernel, by decide +kernel, by decide +kernel⟩, by decide, ma_mem 1160 (by decide +kernel) rfl, ma_mem 63 (by decide +kernel) rfl, ma_mem 1163 (by decide +kernel) rfl⟩, ma_mem 1162 (by decide +kernel) rfl, ma_mem 53 (by decide +kernel) rfl⟩
theorem cl_L_150 : CV RL 150 mX7_books 1 := ⟨⟨⟨by decide +kernel, by decide +kernel, by decide +kernel⟩, by decide, ma_mem 1164 (by decide +kernel) rfl, ma_mem 63 (by decide +kernel) rfl, ma_mem 1167 (by decide +kernel) rfl⟩, ma_mem 1165 (by decide +kernel) rfl, ma_mem 1166 (by decide +kernel) rfl⟩
theorem cl_L_154 : CV RL 154 mX7_ask 2 := ⟨⟨⟨by decide +kernel, by decide +kernel, by decide +kernel⟩, by decide, ma_mem 1168 (by decide +kernel) rfl, ma_mem 63 (by decide +kernel) rfl, ma_mem 1171 (by decide +kernel) rfl⟩, ma_mem 1169 (by decide +kernel) rfl, ma_mem 1170 (by decide +kernel) rfl⟩
theorem cl_X7_235 : CV RX7 235 mX7_worstAt 2 := ⟨⟨⟨by decide +kernel, by decide +kernel, by decide +kernel⟩, by decide, ma_mem 1172 (by decide +kernel) rfl, ma_mem 63 (by decide +kernel) rfl, ma_mem 1175 (by decide +kernel) rfl⟩, ma_mem 1174 (by decide +kernel) rfl, ma_mem 54 (by decide +kernel) rfl⟩
theorem cl_L_158 : CV RL 158 mX7_drift 3 := ⟨⟨⟨by decide +kernel, by decide +kernel, by decide +kernel⟩, by decide, ma_mem 1176 (by decide +kernel) rfl, ma_mem 63 (by decide +kernel) rfl, ma_mem 1179 (by decide +kernel) rfl⟩, ma_mem 1177 (by decide +kernel) rfl, ma_mem 1178 (by decide +kernel) rfl⟩
theorem kc_X7_238 : Cond.constant RX7 238 (1103515245) ∈ ma_tbl := ma_mem 1180 (by decide +kernel) rfl
theorem cl_L_162 : CV RL 162 mX7_keep 1 := ⟨⟨⟨by decide +kernel, by decide +kernel, by decide +kernel⟩, by decide, ma_mem 1181 (by decide +kernel) rfl, ma_mem 63 (by decide +kernel) rfl, ma_mem 1184 (by decide +kernel) rfl⟩, ma_mem 1182 (by decide +kernel) rfl, ma_mem 1183 (by decide +kernel) rfl⟩
theorem cl_L_166 : CV RL 166 mX7_back 1 := ⟨⟨⟨by decide +kernel, by decide +kernel, by decide +kernel⟩, by decide, ma_mem 1185 (by decide +kernel) rfl, ma_mem 63 (by decide +kernel) rfl, ma_mem 1188 (by decide +kernel) rfl⟩, ma_mem 1186 (by decide +kernel) rfl, ma_mem 1187 (by decide +kernel) rfl⟩
theorem cl_L_170 : CV RL 170 mX7_sheet 3 := ⟨⟨⟨by decide +kernel, by decide +kernel, by decide +kernel⟩, by decide, ma_mem 1189 (by decide +kernel) rfl, ma_mem 63 (by decide +kernel) rfl, ma_mem 1192 (by decide +kernel) rfl⟩, ma_mem 1190 (by decide +kernel) rfl, ma_mem 1191 (by decide +kernel) rfl⟩
theorem kc_X7_239 : Cond.constantLong RX7 239 (2) ∈ ma_tbl := ma_mem 1193 (by decide +kernel) rfl
theorem cl_L_174 : CV RL 174 mX7_lay 3 := ⟨⟨⟨by decide +kernel, by decide +kernel, by decide +kernel⟩, by decide, ma_mem 1194 (by decide +kernel) rfl, ma_mem 63 (by decide +kernel) rfl, ma_mem 1197 (by decide +kernel) rfl⟩, ma_mem 1195 (by decide +kernel) rfl, ma_mem 1196 (by decide +kernel) rfl⟩
theorem cl_L_179 : CV RL 179 mX7_read 4 := ⟨⟨⟨by decide +kernel, by decide +kernel, by decide +kernel⟩, by decide, ma_mem 1198 (by decide +kernel) rfl, ma_mem 63 (by decide +kernel) rfl, ma_mem 1201 (by decide +kernel) rfl⟩, ma_mem 1199 (by decide +kernel) rfl, ma_mem 1200 (by decide +kernel) rfl⟩
theorem cl_L_183 : CV RL 183 mX7_torn 0 := ⟨⟨⟨by decide +kernel, by decide +kernel, by decide +kernel⟩, by decide, ma_mem 1202 (by decide +kernel) rfl, ma_mem 63 (by decide +kernel) rfl, ma_mem 1205 (by decide +kernel) rfl⟩, ma_mem 1203 (by decide +kernel) rfl, ma_mem 1204 (by decide +kernel) rfl⟩
theorem cl_L_187 : CV RL 187 mX7_count 1 := ⟨⟨⟨by decide +kernel, by decide +kernel, by decide +kernel⟩, by decide, ma_mem 1206 (by decide +kernel) rfl, ma_mem 63 (by decide +kernel) rfl, ma_mem 1209 (by decide +kernel) rfl⟩, ma_mem 1207 (by decide +kernel) rfl, ma_mem 1208 (by decide +kernel) rfl⟩
theorem ac_ini : Cond.initialized "java/lang/System" ∈ ma_tbl := ma_mem 68 (by decide +kernel) rfl
theorem oi_inst : Cond.instanceMethod Lib.objectInit ∈ ma_tbl := ma_mem 77 (by decide +kernel) rfl
theorem oi_code : Cond.code Lib.objectInit ⟨#[0xb1]⟩ 1 none ∈ ma_tbl := ma_mem 78 (by decide +kernel) rfl
end
