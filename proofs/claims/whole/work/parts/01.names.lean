-- ===== PART A: goes FIRST, ahead of the names: the tables' words, and 'selects' of the private methods out of them =====
/-- a private method of a class that the tables say can be made, by its rows of tables_1 -/
def lw_okq (q : MethodName × Nat) : Prop := (q.1.cls ≠ "java/lang/invoke/MethodHandle" ∧ q.1.cls ≠ "java/lang/invoke/VarHandle") ∧ Cond.instantiable q.1.cls q.2 ∈ tables_1 ∧ Cond.privateMethod q.1 ∈ tables_1 ∧ Cond.instanceMethod q.1 ∈ tables_1
theorem lw_p0 : lw_okq (⟨"java/util/ArrayList", "add", "(Ljava/lang/Object;[Ljava/lang/Object;I)V"⟩, 3) := ⟨⟨by decide +kernel, by decide +kernel⟩, List.mem_of_getElem? (i := 45) (by decide +kernel), List.mem_of_getElem? (i := 311) (by decide +kernel), List.mem_of_getElem? (i := 312) (by decide +kernel)⟩
theorem lw_p1 : lw_okq (⟨"java/util/ArrayList", "grow", "()[Ljava/lang/Object;"⟩, 3) := ⟨⟨by decide +kernel, by decide +kernel⟩, List.mem_of_getElem? (i := 45) (by decide +kernel), List.mem_of_getElem? (i := 315) (by decide +kernel), List.mem_of_getElem? (i := 316) (by decide +kernel)⟩
theorem lw_p2 : lw_okq (⟨"java/util/ArrayList", "grow", "(I)[Ljava/lang/Object;"⟩, 3) := ⟨⟨by decide +kernel, by decide +kernel⟩, List.mem_of_getElem? (i := 45) (by decide +kernel), List.mem_of_getElem? (i := 319) (by decide +kernel), List.mem_of_getElem? (i := 320) (by decide +kernel)⟩
theorem lw_p3 : lw_okq (⟨"ExtrasOffice", "find", "(I)LExtrasOffice$Person;"⟩, 11) := ⟨⟨by decide +kernel, by decide +kernel⟩, List.mem_of_getElem? (i := 31) (by decide +kernel), List.mem_of_getElem? (i := 373) (by decide +kernel), List.mem_of_getElem? (i := 374) (by decide +kernel)⟩
theorem lw_p4 : lw_okq (⟨"ExtrasOffice", "addBytes", "(I)V"⟩, 11) := ⟨⟨by decide +kernel, by decide +kernel⟩, List.mem_of_getElem? (i := 31) (by decide +kernel), List.mem_of_getElem? (i := 395) (by decide +kernel), List.mem_of_getElem? (i := 396) (by decide +kernel)⟩
theorem lw_p5 : lw_okq (⟨"ExtrasOffice$AskReader", "readHead", "(LExtrasOffice$Ask;)Z"⟩, 2) := ⟨⟨by decide +kernel, by decide +kernel⟩, List.mem_of_getElem? (i := 107) (by decide +kernel), List.mem_of_getElem? (i := 540) (by decide +kernel), List.mem_of_getElem? (i := 541) (by decide +kernel)⟩
theorem lw_p6 : lw_okq (⟨"ExtrasOffice$AskReader", "readAny", "(I)Z"⟩, 2) := ⟨⟨by decide +kernel, by decide +kernel⟩, List.mem_of_getElem? (i := 107) (by decide +kernel), List.mem_of_getElem? (i := 570) (by decide +kernel), List.mem_of_getElem? (i := 571) (by decide +kernel)⟩
theorem lw_p7 : lw_okq (⟨"ExtrasOffice$AskReader", "readOne", "(I)Z"⟩, 2) := ⟨⟨by decide +kernel, by decide +kernel⟩, List.mem_of_getElem? (i := 107) (by decide +kernel), List.mem_of_getElem? (i := 574) (by decide +kernel), List.mem_of_getElem? (i := 575) (by decide +kernel)⟩
theorem lw_p8 : lw_okq (⟨"ExtrasOffice$AskReader", "readMark", "()Z"⟩, 2) := ⟨⟨by decide +kernel, by decide +kernel⟩, List.mem_of_getElem? (i := 107) (by decide +kernel), List.mem_of_getElem? (i := 580) (by decide +kernel), List.mem_of_getElem? (i := 581) (by decide +kernel)⟩
theorem lw_p9 : lw_okq (⟨"ExtrasOffice$AskReader", "markHere", "()I"⟩, 2) := ⟨⟨by decide +kernel, by decide +kernel⟩, List.mem_of_getElem? (i := 107) (by decide +kernel), List.mem_of_getElem? (i := 584) (by decide +kernel), List.mem_of_getElem? (i := 585) (by decide +kernel)⟩
theorem lw_p10 : lw_okq (⟨"ExtrasOffice$Plan", "dismissAll", "()V"⟩, 4) := ⟨⟨by decide +kernel, by decide +kernel⟩, List.mem_of_getElem? (i := 39) (by decide +kernel), List.mem_of_getElem? (i := 618) (by decide +kernel), List.mem_of_getElem? (i := 619) (by decide +kernel)⟩
theorem lw_p11 : lw_okq (⟨"ExtrasOffice$Plan", "lookWhoIsOpen", "(I)V"⟩, 4) := ⟨⟨by decide +kernel, by decide +kernel⟩, List.mem_of_getElem? (i := 39) (by decide +kernel), List.mem_of_getElem? (i := 742) (by decide +kernel), List.mem_of_getElem? (i := 743) (by decide +kernel)⟩
theorem lw_p12 : lw_okq (⟨"ExtrasOffice$Plan", "seat", "(LExtrasOffice$Person;I)V"⟩, 4) := ⟨⟨by decide +kernel, by decide +kernel⟩, List.mem_of_getElem? (i := 39) (by decide +kernel), List.mem_of_getElem? (i := 747) (by decide +kernel), List.mem_of_getElem? (i := 748) (by decide +kernel)⟩
theorem lw_p13 : lw_okq (⟨"ExtrasOffice$Plan", "seatElsewhere", "(LExtrasOffice$Person;II)Z"⟩, 4) := ⟨⟨by decide +kernel, by decide +kernel⟩, List.mem_of_getElem? (i := 39) (by decide +kernel), List.mem_of_getElem? (i := 751) (by decide +kernel), List.mem_of_getElem? (i := 752) (by decide +kernel)⟩
theorem lw_p14 : lw_okq (⟨"ExtrasOffice$Plan", "makeRoom", "(LExtrasOffice$Ask;II)Z"⟩, 4) := ⟨⟨by decide +kernel, by decide +kernel⟩, List.mem_of_getElem? (i := 39) (by decide +kernel), List.mem_of_getElem? (i := 759) (by decide +kernel), List.mem_of_getElem? (i := 760) (by decide +kernel)⟩
theorem lw_p15 : lw_okq (⟨"ExtrasOffice$Plan", "seatAllInLeast", "()V"⟩, 4) := ⟨⟨by decide +kernel, by decide +kernel⟩, List.mem_of_getElem? (i := 39) (by decide +kernel), List.mem_of_getElem? (i := 763) (by decide +kernel), List.mem_of_getElem? (i := 764) (by decide +kernel)⟩
def lw_privs_1 : List (MethodName × Nat) := [(⟨"java/util/ArrayList", "add", "(Ljava/lang/Object;[Ljava/lang/Object;I)V"⟩, 3), (⟨"java/util/ArrayList", "grow", "()[Ljava/lang/Object;"⟩, 3), (⟨"java/util/ArrayList", "grow", "(I)[Ljava/lang/Object;"⟩, 3), (⟨"ExtrasOffice", "find", "(I)LExtrasOffice$Person;"⟩, 11), (⟨"ExtrasOffice", "addBytes", "(I)V"⟩, 11), (⟨"ExtrasOffice$AskReader", "readHead", "(LExtrasOffice$Ask;)Z"⟩, 2), (⟨"ExtrasOffice$AskReader", "readAny", "(I)Z"⟩, 2), (⟨"ExtrasOffice$AskReader", "readOne", "(I)Z"⟩, 2), (⟨"ExtrasOffice$AskReader", "readMark", "()Z"⟩, 2), (⟨"ExtrasOffice$AskReader", "markHere", "()I"⟩, 2), (⟨"ExtrasOffice$Plan", "dismissAll", "()V"⟩, 4), (⟨"ExtrasOffice$Plan", "lookWhoIsOpen", "(I)V"⟩, 4), (⟨"ExtrasOffice$Plan", "seat", "(LExtrasOffice$Person;I)V"⟩, 4), (⟨"ExtrasOffice$Plan", "seatElsewhere", "(LExtrasOffice$Person;II)Z"⟩, 4), (⟨"ExtrasOffice$Plan", "makeRoom", "(LExtrasOffice$Ask;II)Z"⟩, 4), (⟨"ExtrasOffice$Plan", "seatAllInLeast", "()V"⟩, 4)]
theorem lw_r1 : ∀ q ∈ lw_privs_1, lw_okq q := List.forall_mem_cons.mpr ⟨lw_p0, List.forall_mem_cons.mpr ⟨lw_p1, List.forall_mem_cons.mpr ⟨lw_p2, List.forall_mem_cons.mpr ⟨lw_p3, List.forall_mem_cons.mpr ⟨lw_p4, List.forall_mem_cons.mpr ⟨lw_p5, List.forall_mem_cons.mpr ⟨lw_p6, List.forall_mem_cons.mpr ⟨lw_p7, List.forall_mem_cons.mpr ⟨lw_p8, List.forall_mem_cons.mpr ⟨lw_p9, List.forall_mem_cons.mpr ⟨lw_p10, List.forall_mem_cons.mpr ⟨lw_p11, List.forall_mem_cons.mpr ⟨lw_p12, List.forall_mem_cons.mpr ⟨lw_p13, List.forall_mem_cons.mpr ⟨lw_p14, List.forall_mem_cons.mpr ⟨lw_p15, fun _ h => absurd h List.not_mem_nil⟩⟩⟩⟩⟩⟩⟩⟩⟩⟩⟩⟩⟩⟩⟩⟩
theorem lw_p16 : lw_okq (⟨"ExtrasOffice$Plan", "measureRows", "()V"⟩, 4) := ⟨⟨by decide +kernel, by decide +kernel⟩, List.mem_of_getElem? (i := 39) (by decide +kernel), List.mem_of_getElem? (i := 784) (by decide +kernel), List.mem_of_getElem? (i := 785) (by decide +kernel)⟩
theorem lw_p17 : lw_okq (⟨"ExtrasOffice$Plan", "firstOfRow", "(LExtrasOffice$Ask;I)LExtrasOffice$Person;"⟩, 4) := ⟨⟨by decide +kernel, by decide +kernel⟩, List.mem_of_getElem? (i := 39) (by decide +kernel), List.mem_of_getElem? (i := 788) (by decide +kernel), List.mem_of_getElem? (i := 789) (by decide +kernel)⟩
theorem lw_p18 : lw_okq (⟨"ExtrasOffice$Dressing", "queue", "(LExtrasOffice$Turn;)V"⟩, 3) := ⟨⟨by decide +kernel, by decide +kernel⟩, List.mem_of_getElem? (i := 176) (by decide +kernel), List.mem_of_getElem? (i := 860) (by decide +kernel), List.mem_of_getElem? (i := 861) (by decide +kernel)⟩
theorem lw_p19 : lw_okq (⟨"java/util/ArrayList", "rangeCheckForAdd", "(I)V"⟩, 3) := ⟨⟨by decide +kernel, by decide +kernel⟩, List.mem_of_getElem? (i := 45) (by decide +kernel), List.mem_of_getElem? (i := 868) (by decide +kernel), List.mem_of_getElem? (i := 869) (by decide +kernel)⟩
theorem lw_p20 : lw_okq (⟨"ExtrasOffice$Dressing", "firstFree", "(I)I"⟩, 3) := ⟨⟨by decide +kernel, by decide +kernel⟩, List.mem_of_getElem? (i := 176) (by decide +kernel), List.mem_of_getElem? (i := 877) (by decide +kernel), List.mem_of_getElem? (i := 878) (by decide +kernel)⟩
theorem lw_p21 : lw_okq (⟨"ExtrasOffice", "sendAll", "()I"⟩, 11) := ⟨⟨by decide +kernel, by decide +kernel⟩, List.mem_of_getElem? (i := 31) (by decide +kernel), List.mem_of_getElem? (i := 882) (by decide +kernel), List.mem_of_getElem? (i := 883) (by decide +kernel)⟩
theorem lw_p22 : lw_okq (⟨"ExtrasOffice", "findRecord", "(II)LExtrasOffice$Turn;"⟩, 11) := ⟨⟨by decide +kernel, by decide +kernel⟩, List.mem_of_getElem? (i := 31) (by decide +kernel), List.mem_of_getElem? (i := 901) (by decide +kernel), List.mem_of_getElem? (i := 902) (by decide +kernel)⟩
theorem lw_p23 : lw_okq (⟨"ExtrasOffice$Term", "quarters", "(I)I"⟩, 4) := ⟨⟨by decide +kernel, by decide +kernel⟩, List.mem_of_getElem? (i := 656) (by decide +kernel), List.mem_of_getElem? (i := 923) (by decide +kernel), List.mem_of_getElem? (i := 924) (by decide +kernel)⟩
theorem lw_p24 : lw_okq (⟨"java/lang/Throwable", "fillInStackTrace", "(I)Ljava/lang/Throwable;"⟩, 6) := ⟨⟨by decide +kernel, by decide +kernel⟩, List.mem_of_getElem? (i := 1020) (by decide +kernel), List.mem_of_getElem? (i := 1018) (by decide +kernel), List.mem_of_getElem? (i := 1019) (by decide +kernel)⟩
theorem lw_p25 : lw_okq (⟨"ExtrasOfficeModel", "isPerson", "(I)Z"⟩, 68) := ⟨⟨by decide +kernel, by decide +kernel⟩, List.mem_of_getElem? (i := 1058) (by decide +kernel), List.mem_of_getElem? (i := 1282) (by decide +kernel), List.mem_of_getElem? (i := 1283) (by decide +kernel)⟩
theorem lw_p26 : lw_okq (⟨"ExtrasOfficeModel", "fact", "(II)I"⟩, 68) := ⟨⟨by decide +kernel, by decide +kernel⟩, List.mem_of_getElem? (i := 1058) (by decide +kernel), List.mem_of_getElem? (i := 1294) (by decide +kernel), List.mem_of_getElem? (i := 1295) (by decide +kernel)⟩
theorem lw_p27 : lw_okq (⟨"ExtrasOfficeModel", "times", "(III)I"⟩, 68) := ⟨⟨by decide +kernel, by decide +kernel⟩, List.mem_of_getElem? (i := 1058) (by decide +kernel), List.mem_of_getElem? (i := 1302) (by decide +kernel), List.mem_of_getElem? (i := 1303) (by decide +kernel)⟩
theorem lw_p28 : lw_okq (⟨"ExtrasOfficeModel", "starts", "([BII)V"⟩, 68) := ⟨⟨by decide +kernel, by decide +kernel⟩, List.mem_of_getElem? (i := 1058) (by decide +kernel), List.mem_of_getElem? (i := 1318) (by decide +kernel), List.mem_of_getElem? (i := 1319) (by decide +kernel)⟩
theorem lw_p29 : lw_okq (⟨"ExtrasOfficeModel", "next", "()V"⟩, 68) := ⟨⟨by decide +kernel, by decide +kernel⟩, List.mem_of_getElem? (i := 1058) (by decide +kernel), List.mem_of_getElem? (i := 1322) (by decide +kernel), List.mem_of_getElem? (i := 1323) (by decide +kernel)⟩
theorem lw_p30 : lw_okq (⟨"ExtrasOfficeModel", "see", "(I)I"⟩, 68) := ⟨⟨by decide +kernel, by decide +kernel⟩, List.mem_of_getElem? (i := 1058) (by decide +kernel), List.mem_of_getElem? (i := 1329) (by decide +kernel), List.mem_of_getElem? (i := 1330) (by decide +kernel)⟩
theorem lw_p31 : lw_okq (⟨"ExtrasOfficeModel", "readAsk", "()V"⟩, 68) := ⟨⟨by decide +kernel, by decide +kernel⟩, List.mem_of_getElem? (i := 1058) (by decide +kernel), List.mem_of_getElem? (i := 1336) (by decide +kernel), List.mem_of_getElem? (i := 1337) (by decide +kernel)⟩
def lw_privs_2 : List (MethodName × Nat) := [(⟨"ExtrasOffice$Plan", "measureRows", "()V"⟩, 4), (⟨"ExtrasOffice$Plan", "firstOfRow", "(LExtrasOffice$Ask;I)LExtrasOffice$Person;"⟩, 4), (⟨"ExtrasOffice$Dressing", "queue", "(LExtrasOffice$Turn;)V"⟩, 3), (⟨"java/util/ArrayList", "rangeCheckForAdd", "(I)V"⟩, 3), (⟨"ExtrasOffice$Dressing", "firstFree", "(I)I"⟩, 3), (⟨"ExtrasOffice", "sendAll", "()I"⟩, 11), (⟨"ExtrasOffice", "findRecord", "(II)LExtrasOffice$Turn;"⟩, 11), (⟨"ExtrasOffice$Term", "quarters", "(I)I"⟩, 4), (⟨"java/lang/Throwable", "fillInStackTrace", "(I)Ljava/lang/Throwable;"⟩, 6), (⟨"ExtrasOfficeModel", "isPerson", "(I)Z"⟩, 68), (⟨"ExtrasOfficeModel", "fact", "(II)I"⟩, 68), (⟨"ExtrasOfficeModel", "times", "(III)I"⟩, 68), (⟨"ExtrasOfficeModel", "starts", "([BII)V"⟩, 68), (⟨"ExtrasOfficeModel", "next", "()V"⟩, 68), (⟨"ExtrasOfficeModel", "see", "(I)I"⟩, 68), (⟨"ExtrasOfficeModel", "readAsk", "()V"⟩, 68)]
theorem lw_r2 : ∀ q ∈ lw_privs_2, lw_okq q := List.forall_mem_cons.mpr ⟨lw_p16, List.forall_mem_cons.mpr ⟨lw_p17, List.forall_mem_cons.mpr ⟨lw_p18, List.forall_mem_cons.mpr ⟨lw_p19, List.forall_mem_cons.mpr ⟨lw_p20, List.forall_mem_cons.mpr ⟨lw_p21, List.forall_mem_cons.mpr ⟨lw_p22, List.forall_mem_cons.mpr ⟨lw_p23, List.forall_mem_cons.mpr ⟨lw_p24, List.forall_mem_cons.mpr ⟨lw_p25, List.forall_mem_cons.mpr ⟨lw_p26, List.forall_mem_cons.mpr ⟨lw_p27, List.forall_mem_cons.mpr ⟨lw_p28, List.forall_mem_cons.mpr ⟨lw_p29, List.forall_mem_cons.mpr ⟨lw_p30, List.forall_mem_cons.mpr ⟨lw_p31, fun _ h => absurd h List.not_mem_nil⟩⟩⟩⟩⟩⟩⟩⟩⟩⟩⟩⟩⟩⟩⟩⟩
theorem lw_p32 : lw_okq (⟨"ExtrasOfficeModel", "isWord", "(Ljava/lang/String;)Z"⟩, 68) := ⟨⟨by decide +kernel, by decide +kernel⟩, List.mem_of_getElem? (i := 1058) (by decide +kernel), List.mem_of_getElem? (i := 1341) (by decide +kernel), List.mem_of_getElem? (i := 1342) (by decide +kernel)⟩
theorem lw_p33 : lw_okq (⟨"ExtrasOfficeModel", "fails", "(I)V"⟩, 68) := ⟨⟨by decide +kernel, by decide +kernel⟩, List.mem_of_getElem? (i := 1058) (by decide +kernel), List.mem_of_getElem? (i := 1347) (by decide +kernel), List.mem_of_getElem? (i := 1348) (by decide +kernel)⟩
theorem lw_p34 : lw_okq (⟨"ExtrasOfficeModel", "number", "(II)I"⟩, 68) := ⟨⟨by decide +kernel, by decide +kernel⟩, List.mem_of_getElem? (i := 1058) (by decide +kernel), List.mem_of_getElem? (i := 1351) (by decide +kernel), List.mem_of_getElem? (i := 1352) (by decide +kernel)⟩
theorem lw_p35 : lw_okq (⟨"ExtrasOfficeModel", "wants", "(Ljava/lang/String;)V"⟩, 68) := ⟨⟨by decide +kernel, by decide +kernel⟩, List.mem_of_getElem? (i := 1058) (by decide +kernel), List.mem_of_getElem? (i := 1356) (by decide +kernel), List.mem_of_getElem? (i := 1357) (by decide +kernel)⟩
theorem lw_p36 : lw_okq (⟨"ExtrasOfficeModel", "is", "(I)Z"⟩, 68) := ⟨⟨by decide +kernel, by decide +kernel⟩, List.mem_of_getElem? (i := 1058) (by decide +kernel), List.mem_of_getElem? (i := 1362) (by decide +kernel), List.mem_of_getElem? (i := 1363) (by decide +kernel)⟩
theorem lw_p37 : lw_okq (⟨"ExtrasOfficeModel", "either", "(I)Z"⟩, 68) := ⟨⟨by decide +kernel, by decide +kernel⟩, List.mem_of_getElem? (i := 1058) (by decide +kernel), List.mem_of_getElem? (i := 1366) (by decide +kernel), List.mem_of_getElem? (i := 1367) (by decide +kernel)⟩
theorem lw_p38 : lw_okq (⟨"ExtrasOfficeModel", "all", "(I)Z"⟩, 68) := ⟨⟨by decide +kernel, by decide +kernel⟩, List.mem_of_getElem? (i := 1058) (by decide +kernel), List.mem_of_getElem? (i := 1370) (by decide +kernel), List.mem_of_getElem? (i := 1371) (by decide +kernel)⟩
theorem lw_p39 : lw_okq (⟨"ExtrasOfficeModel", "one", "(I)Z"⟩, 68) := ⟨⟨by decide +kernel, by decide +kernel⟩, List.mem_of_getElem? (i := 1058) (by decide +kernel), List.mem_of_getElem? (i := 1374) (by decide +kernel), List.mem_of_getElem? (i := 1375) (by decide +kernel)⟩
theorem lw_p40 : lw_okq (⟨"ExtrasOfficeModel", "wants", "(I)V"⟩, 68) := ⟨⟨by decide +kernel, by decide +kernel⟩, List.mem_of_getElem? (i := 1058) (by decide +kernel), List.mem_of_getElem? (i := 1379) (by decide +kernel), List.mem_of_getElem? (i := 1380) (by decide +kernel)⟩
theorem lw_p41 : lw_okq (⟨"ExtrasOfficeModel", "nobody", "()V"⟩, 68) := ⟨⟨by decide +kernel, by decide +kernel⟩, List.mem_of_getElem? (i := 1058) (by decide +kernel), List.mem_of_getElem? (i := 1392) (by decide +kernel), List.mem_of_getElem? (i := 1393) (by decide +kernel)⟩
theorem lw_p42 : lw_okq (⟨"ExtrasOfficeModel", "isAsk", "(I)Z"⟩, 68) := ⟨⟨by decide +kernel, by decide +kernel⟩, List.mem_of_getElem? (i := 1058) (by decide +kernel), List.mem_of_getElem? (i := 1404) (by decide +kernel), List.mem_of_getElem? (i := 1405) (by decide +kernel)⟩
theorem lw_p43 : lw_okq (⟨"ExtrasOfficeModel", "doesFit", "(II)Z"⟩, 68) := ⟨⟨by decide +kernel, by decide +kernel⟩, List.mem_of_getElem? (i := 1058) (by decide +kernel), List.mem_of_getElem? (i := 1408) (by decide +kernel), List.mem_of_getElem? (i := 1409) (by decide +kernel)⟩
theorem lw_p44 : lw_okq (⟨"ExtrasOfficeModel", "canBe", "(II)Z"⟩, 68) := ⟨⟨by decide +kernel, by decide +kernel⟩, List.mem_of_getElem? (i := 1058) (by decide +kernel), List.mem_of_getElem? (i := 1412) (by decide +kernel), List.mem_of_getElem? (i := 1413) (by decide +kernel)⟩
theorem lw_p45 : lw_okq (⟨"ExtrasOfficeModel", "calledIn", "(I)I"⟩, 68) := ⟨⟨by decide +kernel, by decide +kernel⟩, List.mem_of_getElem? (i := 1058) (by decide +kernel), List.mem_of_getElem? (i := 1420) (by decide +kernel), List.mem_of_getElem? (i := 1421) (by decide +kernel)⟩
theorem lw_p46 : lw_okq (⟨"ExtrasOfficeModel", "reckons", "()V"⟩, 68) := ⟨⟨by decide +kernel, by decide +kernel⟩, List.mem_of_getElem? (i := 1058) (by decide +kernel), List.mem_of_getElem? (i := 1428) (by decide +kernel), List.mem_of_getElem? (i := 1429) (by decide +kernel)⟩
theorem lw_p47 : lw_okq (⟨"ExtrasOfficeModel", "first", "()I"⟩, 68) := ⟨⟨by decide +kernel, by decide +kernel⟩, List.mem_of_getElem? (i := 1058) (by decide +kernel), List.mem_of_getElem? (i := 1432) (by decide +kernel), List.mem_of_getElem? (i := 1433) (by decide +kernel)⟩
def lw_privs_3 : List (MethodName × Nat) := [(⟨"ExtrasOfficeModel", "isWord", "(Ljava/lang/String;)Z"⟩, 68), (⟨"ExtrasOfficeModel", "fails", "(I)V"⟩, 68), (⟨"ExtrasOfficeModel", "number", "(II)I"⟩, 68), (⟨"ExtrasOfficeModel", "wants", "(Ljava/lang/String;)V"⟩, 68), (⟨"ExtrasOfficeModel", "is", "(I)Z"⟩, 68), (⟨"ExtrasOfficeModel", "either", "(I)Z"⟩, 68), (⟨"ExtrasOfficeModel", "all", "(I)Z"⟩, 68), (⟨"ExtrasOfficeModel", "one", "(I)Z"⟩, 68), (⟨"ExtrasOfficeModel", "wants", "(I)V"⟩, 68), (⟨"ExtrasOfficeModel", "nobody", "()V"⟩, 68), (⟨"ExtrasOfficeModel", "isAsk", "(I)Z"⟩, 68), (⟨"ExtrasOfficeModel", "doesFit", "(II)Z"⟩, 68), (⟨"ExtrasOfficeModel", "canBe", "(II)Z"⟩, 68), (⟨"ExtrasOfficeModel", "calledIn", "(I)I"⟩, 68), (⟨"ExtrasOfficeModel", "reckons", "()V"⟩, 68), (⟨"ExtrasOfficeModel", "first", "()I"⟩, 68)]
theorem lw_r3 : ∀ q ∈ lw_privs_3, lw_okq q := List.forall_mem_cons.mpr ⟨lw_p32, List.forall_mem_cons.mpr ⟨lw_p33, List.forall_mem_cons.mpr ⟨lw_p34, List.forall_mem_cons.mpr ⟨lw_p35, List.forall_mem_cons.mpr ⟨lw_p36, List.forall_mem_cons.mpr ⟨lw_p37, List.forall_mem_cons.mpr ⟨lw_p38, List.forall_mem_cons.mpr ⟨lw_p39, List.forall_mem_cons.mpr ⟨lw_p40, List.forall_mem_cons.mpr ⟨lw_p41, List.forall_mem_cons.mpr ⟨lw_p42, List.forall_mem_cons.mpr ⟨lw_p43, List.forall_mem_cons.mpr ⟨lw_p44, List.forall_mem_cons.mpr ⟨lw_p45, List.forall_mem_cons.mpr ⟨lw_p46, List.forall_mem_cons.mpr ⟨lw_p47, fun _ h => absurd h List.not_mem_nil⟩⟩⟩⟩⟩⟩⟩⟩⟩⟩⟩⟩⟩⟩⟩⟩
theorem lw_p48 : lw_okq (⟨"ExtrasOfficeModel", "isRoom", "()Z"⟩, 68) := ⟨⟨by decide +kernel, by decide +kernel⟩, List.mem_of_getElem? (i := 1058) (by decide +kernel), List.mem_of_getElem? (i := 1436) (by decide +kernel), List.mem_of_getElem? (i := 1437) (by decide +kernel)⟩
theorem lw_p49 : lw_okq (⟨"ExtrasOfficeModel", "mends", "(IIII)Z"⟩, 68) := ⟨⟨by decide +kernel, by decide +kernel⟩, List.mem_of_getElem? (i := 1058) (by decide +kernel), List.mem_of_getElem? (i := 1448) (by decide +kernel), List.mem_of_getElem? (i := 1449) (by decide +kernel)⟩
theorem lw_p50 : lw_okq (⟨"ExtrasOfficeModel", "readTerm", "()V"⟩, 68) := ⟨⟨by decide +kernel, by decide +kernel⟩, List.mem_of_getElem? (i := 1058) (by decide +kernel), List.mem_of_getElem? (i := 1460) (by decide +kernel), List.mem_of_getElem? (i := 1461) (by decide +kernel)⟩
theorem lw_p51 : lw_okq (⟨"ExtrasOfficeModel", "dresses", "(I)V"⟩, 68) := ⟨⟨by decide +kernel, by decide +kernel⟩, List.mem_of_getElem? (i := 1058) (by decide +kernel), List.mem_of_getElem? (i := 1479) (by decide +kernel), List.mem_of_getElem? (i := 1480) (by decide +kernel)⟩
theorem lw_p52 : lw_okq (⟨"ExtrasOfficeModel", "nextComing", "()I"⟩, 68) := ⟨⟨by decide +kernel, by decide +kernel⟩, List.mem_of_getElem? (i := 1058) (by decide +kernel), List.mem_of_getElem? (i := 1483) (by decide +kernel), List.mem_of_getElem? (i := 1484) (by decide +kernel)⟩
theorem lw_p53 : lw_okq (⟨"ExtrasOfficeModel", "isRecord", "(II)Z"⟩, 68) := ⟨⟨by decide +kernel, by decide +kernel⟩, List.mem_of_getElem? (i := 1058) (by decide +kernel), List.mem_of_getElem? (i := 1492) (by decide +kernel), List.mem_of_getElem? (i := 1493) (by decide +kernel)⟩
theorem lw_p54 : lw_okq (⟨"ExtrasOfficeModel", "worth", "(III)I"⟩, 68) := ⟨⟨by decide +kernel, by decide +kernel⟩, List.mem_of_getElem? (i := 1058) (by decide +kernel), List.mem_of_getElem? (i := 1496) (by decide +kernel), List.mem_of_getElem? (i := 1497) (by decide +kernel)⟩
theorem lw_p55 : lw_okq (⟨"ExtrasOfficeModel", "allCalled", "()I"⟩, 68) := ⟨⟨by decide +kernel, by decide +kernel⟩, List.mem_of_getElem? (i := 1058) (by decide +kernel), List.mem_of_getElem? (i := 1523) (by decide +kernel), List.mem_of_getElem? (i := 1524) (by decide +kernel)⟩
def lw_privs_4 : List (MethodName × Nat) := [(⟨"ExtrasOfficeModel", "isRoom", "()Z"⟩, 68), (⟨"ExtrasOfficeModel", "mends", "(IIII)Z"⟩, 68), (⟨"ExtrasOfficeModel", "readTerm", "()V"⟩, 68), (⟨"ExtrasOfficeModel", "dresses", "(I)V"⟩, 68), (⟨"ExtrasOfficeModel", "nextComing", "()I"⟩, 68), (⟨"ExtrasOfficeModel", "isRecord", "(II)Z"⟩, 68), (⟨"ExtrasOfficeModel", "worth", "(III)I"⟩, 68), (⟨"ExtrasOfficeModel", "allCalled", "()I"⟩, 68)]
theorem lw_r4 : ∀ q ∈ lw_privs_4, lw_okq q := List.forall_mem_cons.mpr ⟨lw_p48, List.forall_mem_cons.mpr ⟨lw_p49, List.forall_mem_cons.mpr ⟨lw_p50, List.forall_mem_cons.mpr ⟨lw_p51, List.forall_mem_cons.mpr ⟨lw_p52, List.forall_mem_cons.mpr ⟨lw_p53, List.forall_mem_cons.mpr ⟨lw_p54, List.forall_mem_cons.mpr ⟨lw_p55, fun _ h => absurd h List.not_mem_nil⟩⟩⟩⟩⟩⟩⟩⟩
def lw_privs : List (MethodName × Nat) := lw_privs_1 ++ (lw_privs_2 ++ (lw_privs_3 ++ (lw_privs_4)))
def lw_tbl : List Cond := k2_sels lw_privs ++ tables_1
theorem lw_privs_ok : ∀ q ∈ lw_privs, lw_okq q := by
  show ∀ q ∈ lw_privs_1 ++ (lw_privs_2 ++ (lw_privs_3 ++ (lw_privs_4))), lw_okq q
  exact List.forall_mem_append.mpr ⟨lw_r1, List.forall_mem_append.mpr ⟨lw_r2, List.forall_mem_append.mpr ⟨lw_r3, lw_r4⟩⟩⟩

def RX0 : String := "ExtrasOffice$Agreement"
def TX0 : u_T := fun k => match k with
  | 0 => ("ExtrasOffice$Agreement", "number", "I", true)
  | _ => ("ExtrasOffice$Agreement", "terms", "Ljava/util/ArrayList;", true)
def tyX0 : Nat → FieldType := fun k => match k with
  | 0 => .int
  | _ => .object "java/util/ArrayList"
abbrev wsX00 : List Cond := u_ws RX0 TX0 2
theorem nmX0 : ∀ a, a < 2 → ∀ b, b < 2 → a ≠ b → (TX0 a).2.1 ≠ (TX0 b).2.1 := by decide +kernel
theorem tyX0_ok : ∀ k, k < 2 → parseFieldDescriptor (TX0 k).2.2.1 = some (tyX0 k) := by decide +kernel
abbrev cX0_init : ByteArray := prog_2_method_1_code
def yX0_init : MethodName := ⟨RX0, "<init>", "(I)V"⟩
abbrev cX0_readFrom : ByteArray := prog_2_method_2_code
def yX0_readFrom : MethodName := ⟨RX0, "readFrom", "(LExtrasOffice$Tokens;)Z"⟩
abbrev cX0_worth : ByteArray := prog_2_method_3_code
def yX0_worth : MethodName := ⟨RX0, "worth", "(II)I"⟩
def RX1 : String := "ExtrasOffice$Ask"
def TX1 : u_T := fun k => match k with
  | 0 => ("ExtrasOffice$Ask", "number", "I", true)
  | 1 => ("ExtrasOffice$Ask", "scene", "I", false)
  | 2 => ("ExtrasOffice$Ask", "callAt", "I", false)
  | 3 => ("ExtrasOffice$Ask", "minutes", "I", false)
  | 4 => ("ExtrasOffice$Ask", "wants", "I", false)
  | 5 => ("ExtrasOffice$Ask", "steps", "[I", false)
  | 6 => ("ExtrasOffice$Ask", "held", "I", false)
  | 7 => ("ExtrasOffice$Ask", "begun", "I", false)
  | _ => ("ExtrasOffice$Ask", "rowLength", "I", false)
def tyX1 : Nat → FieldType := fun k => match k with
  | 0 => .int
  | 1 => .int
  | 2 => .int
  | 3 => .int
  | 4 => .int
  | 5 => .array .int
  | 6 => .int
  | 7 => .int
  | _ => .int
abbrev wsX10 : List Cond := u_ws RX1 TX1 9
theorem nmX1 : ∀ a, a < 9 → ∀ b, b < 9 → a ≠ b → (TX1 a).2.1 ≠ (TX1 b).2.1 := by decide +kernel
theorem tyX1_ok : ∀ k, k < 9 → parseFieldDescriptor (TX1 k).2.2.1 = some (tyX1 k) := by decide +kernel
abbrev cX1_init : ByteArray := prog_3_method_1_code
def yX1_init : MethodName := ⟨RX1, "<init>", "(I)V"⟩
abbrev cX1_highest : ByteArray := prog_3_method_2_code
def yX1_highest : MethodName := ⟨RX1, "highest", "(I)I"⟩
abbrev cX1_takeSteps : ByteArray := prog_3_method_3_code
def yX1_takeSteps : MethodName := ⟨RX1, "takeSteps", "(LExtrasOffice$Row;)V"⟩
abbrev cX1_isOpenTo : ByteArray := prog_3_method_4_code
def yX1_isOpenTo : MethodName := ⟨RX1, "isOpenTo", "(LExtrasOffice$Person;I)Z"⟩
abbrev cX1_suits : ByteArray := prog_3_method_5_code
def yX1_suits : MethodName := ⟨RX1, "suits", "(LExtrasOffice$Person;)Z"⟩
abbrev cX1_holds : ByteArray := prog_3_method_6_code
def yX1_holds : MethodName := ⟨RX1, "holds", "(IILExtrasOffice$Person;)Z"⟩
abbrev cX1_answer : ByteArray := prog_3_method_7_code
def yX1_answer : MethodName := ⟨RX1, "answer", "(I)I"⟩
def RX2 : String := "ExtrasOffice$AskReader"
def TX2 : u_T := fun k => match k with
  | 0 => ("ExtrasOffice$AskReader", "tokens", "LExtrasOffice$Tokens;", true)
  | _ => ("ExtrasOffice$AskReader", "steps", "LExtrasOffice$Row;", true)
def tyX2 : Nat → FieldType := fun k => match k with
  | 0 => .object "ExtrasOffice$Tokens"
  | _ => .object "ExtrasOffice$Row"
abbrev wsX20 : List Cond := u_ws RX2 TX2 2
theorem nmX2 : ∀ a, a < 2 → ∀ b, b < 2 → a ≠ b → (TX2 a).2.1 ≠ (TX2 b).2.1 := by decide +kernel
theorem tyX2_ok : ∀ k, k < 2 → parseFieldDescriptor (TX2 k).2.2.1 = some (tyX2 k) := by decide +kernel
abbrev cX2_init : ByteArray := prog_4_method_1_code
def yX2_init : MethodName := ⟨RX2, "<init>", "()V"⟩
abbrev cX2_read : ByteArray := prog_4_method_2_code
def yX2_read : MethodName := ⟨RX2, "read", "()Ljava/util/ArrayList;"⟩
abbrev cX2_readHead : ByteArray := prog_4_method_3_code
def yX2_readHead : MethodName := ⟨RX2, "readHead", "(LExtrasOffice$Ask;)Z"⟩
abbrev cX2_readAny : ByteArray := prog_4_method_4_code
def yX2_readAny : MethodName := ⟨RX2, "readAny", "(I)Z"⟩
abbrev cX2_readOne : ByteArray := prog_4_method_5_code
def yX2_readOne : MethodName := ⟨RX2, "readOne", "(I)Z"⟩
abbrev cX2_readMark : ByteArray := prog_4_method_6_code
def yX2_readMark : MethodName := ⟨RX2, "readMark", "()Z"⟩
abbrev cX2_markHere : ByteArray := prog_4_method_7_code
def yX2_markHere : MethodName := ⟨RX2, "markHere", "()I"⟩
def RX3 : String := "ExtrasOffice$Dressing"
def TX3 : u_T := fun k => match k with
  | 0 => ("ExtrasOffice$Dressing", "byNumber", "Ljava/util/ArrayList;", true)
  | 1 => ("ExtrasOffice$Dressing", "byComing", "Ljava/util/ArrayList;", true)
  | _ => ("ExtrasOffice$Dressing", "dresserFree", "[I", true)
def tyX3 : Nat → FieldType := fun k => match k with
  | 0 => .object "java/util/ArrayList"
  | 1 => .object "java/util/ArrayList"
  | _ => .array .int
abbrev wsX30 : List Cond := u_ws RX3 TX3 3
theorem nmX3 : ∀ a, a < 3 → ∀ b, b < 3 → a ≠ b → (TX3 a).2.1 ≠ (TX3 b).2.1 := by decide +kernel
theorem tyX3_ok : ∀ k, k < 3 → parseFieldDescriptor (TX3 k).2.2.1 = some (tyX3 k) := by decide +kernel
abbrev cX3_init : ByteArray := prog_5_method_1_code
def yX3_init : MethodName := ⟨RX3, "<init>", "()V"⟩
abbrev cX3_comeAll : ByteArray := prog_5_method_2_code
def yX3_comeAll : MethodName := ⟨RX3, "comeAll", "(Ljava/util/ArrayList;II)V"⟩
abbrev cX3_following : ByteArray := prog_5_method_3_code
def yX3_following : MethodName := ⟨RX3, "following", "(I)I"⟩
abbrev cX3_queue : ByteArray := prog_5_method_4_code
def yX3_queue : MethodName := ⟨RX3, "queue", "(LExtrasOffice$Turn;)V"⟩
abbrev cX3_dressAll : ByteArray := prog_5_method_5_code
def yX3_dressAll : MethodName := ⟨RX3, "dressAll", "(I)V"⟩
abbrev cX3_firstFree : ByteArray := prog_5_method_6_code
def yX3_firstFree : MethodName := ⟨RX3, "firstFree", "(I)I"⟩
def RX4 : String := "ExtrasOffice$Facts"
def TX4 : u_T := fun k => match k with
  | 0 => ("ExtrasOffice$Facts", "who", "LExtrasOffice$Row;", true)
  | 1 => ("ExtrasOffice$Facts", "where", "LExtrasOffice$Row;", true)
  | _ => ("ExtrasOffice$Facts", "told", "I", false)
def tyX4 : Nat → FieldType := fun k => match k with
  | 0 => .object "ExtrasOffice$Row"
  | 1 => .object "ExtrasOffice$Row"
  | _ => .int
abbrev wsX40 : List Cond := u_ws RX4 TX4 3
theorem nmX4 : ∀ a, a < 3 → ∀ b, b < 3 → a ≠ b → (TX4 a).2.1 ≠ (TX4 b).2.1 := by decide +kernel
theorem tyX4_ok : ∀ k, k < 3 → parseFieldDescriptor (TX4 k).2.2.1 = some (tyX4 k) := by decide +kernel
abbrev cX4_init : ByteArray := prog_6_method_1_code
def yX4_init : MethodName := ⟨RX4, "<init>", "()V"⟩
abbrev cX4_size : ByteArray := prog_6_method_2_code
def yX4_size : MethodName := ⟨RX4, "size", "()I"⟩
abbrev cX4_add : ByteArray := prog_6_method_3_code
def yX4_add : MethodName := ⟨RX4, "add", "(LExtrasOffice$Person;I)I"⟩
abbrev cX4_howOften : ByteArray := prog_6_method_4_code
def yX4_howOften : MethodName := ⟨RX4, "howOften", "(III)I"⟩
def RX5 : String := "ExtrasOffice$Person"
def TX5 : u_T := fun k => match k with
  | 0 => ("ExtrasOffice$Person", "number", "I", true)
  | 1 => ("ExtrasOffice$Person", "age", "I", true)
  | 2 => ("ExtrasOffice$Person", "tall", "I", true)
  | 3 => ("ExtrasOffice$Person", "looks", "I", true)
  | 4 => ("ExtrasOffice$Person", "home", "I", true)
  | 5 => ("ExtrasOffice$Person", "slow", "I", true)
  | 6 => ("ExtrasOffice$Person", "isAway", "Z", false)
  | 7 => ("ExtrasOffice$Person", "turns", "I", false)
  | 8 => ("ExtrasOffice$Person", "freeFrom", "I", false)
  | 9 => ("ExtrasOffice$Person", "scenes", "I", false)
  | 10 => ("ExtrasOffice$Person", "open", "I", false)
  | _ => ("ExtrasOffice$Person", "inAsk", "LExtrasOffice$Ask;", false)
def tyX5 : Nat → FieldType := fun k => match k with
  | 0 => .int
  | 1 => .int
  | 2 => .int
  | 3 => .int
  | 4 => .int
  | 5 => .int
  | 6 => .boolean
  | 7 => .int
  | 8 => .int
  | 9 => .int
  | 10 => .int
  | _ => .object "ExtrasOffice$Ask"
abbrev wsX50 : List Cond := u_ws RX5 TX5 12
theorem nmX5 : ∀ a, a < 12 → ∀ b, b < 12 → a ≠ b → (TX5 a).2.1 ≠ (TX5 b).2.1 := by decide +kernel
theorem tyX5_ok : ∀ k, k < 12 → parseFieldDescriptor (TX5 k).2.2.1 = some (tyX5 k) := by decide +kernel
abbrev cX5_init : ByteArray := prog_7_method_1_code
def yX5_init : MethodName := ⟨RX5, "<init>", "(IIIIII)V"⟩
abbrev cX5_wasIn : ByteArray := prog_7_method_2_code
def yX5_wasIn : MethodName := ⟨RX5, "wasIn", "(I)Z"⟩
abbrev cX5_canBeIn : ByteArray := prog_7_method_3_code
def yX5_canBeIn : MethodName := ⟨RX5, "canBeIn", "(LExtrasOffice$Ask;)Z"⟩
abbrev cX5_moveTo : ByteArray := prog_7_method_4_code
def yX5_moveTo : MethodName := ⟨RX5, "moveTo", "(LExtrasOffice$Ask;)V"⟩
abbrev cX5_answer : ByteArray := prog_7_method_5_code
def yX5_answer : MethodName := ⟨RX5, "answer", "(I)I"⟩
def RX6 : String := "ExtrasOffice$Plan"
def TX6 : u_T := fun k => match k with
  | 0 => ("ExtrasOffice$Plan", "asks", "Ljava/util/ArrayList;", false)
  | 1 => ("ExtrasOffice$Plan", "moves", "LExtrasOffice$Row;", true)
  | 2 => ("ExtrasOffice$Plan", "people", "Ljava/util/ArrayList;", true)
  | _ => ("ExtrasOffice$Plan", "tried", "I", false)
def tyX6 : Nat → FieldType := fun k => match k with
  | 0 => .object "java/util/ArrayList"
  | 1 => .object "ExtrasOffice$Row"
  | 2 => .object "java/util/ArrayList"
  | _ => .int
abbrev wsX60 : List Cond := u_ws RX6 TX6 4
theorem nmX6 : ∀ a, a < 4 → ∀ b, b < 4 → a ≠ b → (TX6 a).2.1 ≠ (TX6 b).2.1 := by decide +kernel
theorem tyX6_ok : ∀ k, k < 4 → parseFieldDescriptor (TX6 k).2.2.1 = some (tyX6 k) := by decide +kernel
abbrev cX6_init : ByteArray := prog_8_method_1_code
def yX6_init : MethodName := ⟨RX6, "<init>", "()V"⟩
abbrev cX6_find : ByteArray := prog_8_method_2_code
def yX6_find : MethodName := ⟨RX6, "find", "(I)LExtrasOffice$Ask;"⟩
abbrev cX6_size : ByteArray := prog_8_method_3_code
def yX6_size : MethodName := ⟨RX6, "size", "()I"⟩
abbrev cX6_startWith : ByteArray := prog_8_method_4_code
def yX6_startWith : MethodName := ⟨RX6, "startWith", "(Ljava/util/ArrayList;)V"⟩
abbrev cX6_dismissAll : ByteArray := prog_8_method_5_code
def yX6_dismissAll : MethodName := ⟨RX6, "dismissAll", "()V"⟩
abbrev cX6_lookWhoIsOpen : ByteArray := prog_8_method_6_code
def yX6_lookWhoIsOpen : MethodName := ⟨RX6, "lookWhoIsOpen", "(I)V"⟩
abbrev cX6_layFor : ByteArray := prog_8_method_7_code
def yX6_layFor : MethodName := ⟨RX6, "layFor", "(I)V"⟩
abbrev cX6_seatAllInLeast : ByteArray := prog_8_method_8_code
def yX6_seatAllInLeast : MethodName := ⟨RX6, "seatAllInLeast", "()V"⟩
abbrev cX6_seat : ByteArray := prog_8_method_9_code
def yX6_seat : MethodName := ⟨RX6, "seat", "(LExtrasOffice$Person;I)V"⟩
abbrev cX6_seatElsewhere : ByteArray := prog_8_method_10_code
def yX6_seatElsewhere : MethodName := ⟨RX6, "seatElsewhere", "(LExtrasOffice$Person;II)Z"⟩
abbrev cX6_makeRoom : ByteArray := prog_8_method_11_code
def yX6_makeRoom : MethodName := ⟨RX6, "makeRoom", "(LExtrasOffice$Ask;II)Z"⟩
abbrev cX6_mend : ByteArray := prog_8_method_12_code
def yX6_mend : MethodName := ⟨RX6, "mend", "(LExtrasOffice$Ask;I)V"⟩
abbrev cX6_measureRows : ByteArray := prog_8_method_13_code
def yX6_measureRows : MethodName := ⟨RX6, "measureRows", "()V"⟩
abbrev cX6_firstOfRow : ByteArray := prog_8_method_14_code
def yX6_firstOfRow : MethodName := ⟨RX6, "firstOfRow", "(LExtrasOffice$Ask;I)LExtrasOffice$Person;"⟩
def RX7 : String := "ExtrasOffice$Row"
def TX7 : u_T := fun k => match k with
  | 0 => ("ExtrasOffice$Row", "numbers", "[I", true)
  | _ => ("ExtrasOffice$Row", "size", "I", false)
def tyX7 : Nat → FieldType := fun k => match k with
  | 0 => .array .int
  | _ => .int
abbrev wsX70 : List Cond := u_ws RX7 TX7 2
theorem nmX7 : ∀ a, a < 2 → ∀ b, b < 2 → a ≠ b → (TX7 a).2.1 ≠ (TX7 b).2.1 := by decide +kernel
theorem tyX7_ok : ∀ k, k < 2 → parseFieldDescriptor (TX7 k).2.2.1 = some (tyX7 k) := by decide +kernel
abbrev cX7_init : ByteArray := prog_9_method_1_code
def yX7_init : MethodName := ⟨RX7, "<init>", "(I)V"⟩
abbrev cX7_add : ByteArray := prog_9_method_2_code
def yX7_add : MethodName := ⟨RX7, "add", "(I)V"⟩
abbrev cX7_at : ByteArray := prog_9_method_3_code
def yX7_at : MethodName := ⟨RX7, "at", "(I)I"⟩
def RX8 : String := "ExtrasOffice$Term"
def TX8 : u_T := fun k => match k with
  | 0 => ("ExtrasOffice$Term", "kind", "I", true)
  | 1 => ("ExtrasOffice$Term", "minute", "I", false)
  | 2 => ("ExtrasOffice$Term", "number", "I", false)
  | _ => ("ExtrasOffice$Term", "isUp", "Z", false)
def tyX8 : Nat → FieldType := fun k => match k with
  | 0 => .int
  | 1 => .int
  | 2 => .int
  | _ => .boolean
abbrev wsX80 : List Cond := u_ws RX8 TX8 4
theorem nmX8 : ∀ a, a < 4 → ∀ b, b < 4 → a ≠ b → (TX8 a).2.1 ≠ (TX8 b).2.1 := by decide +kernel
theorem tyX8_ok : ∀ k, k < 4 → parseFieldDescriptor (TX8 k).2.2.1 = some (tyX8 k) := by decide +kernel
abbrev cX8_init : ByteArray := prog_10_method_1_code
def yX8_init : MethodName := ⟨RX8, "<init>", "(I)V"⟩
abbrev cX8_kindAt : ByteArray := prog_10_method_2_code
def yX8_kindAt : MethodName := ⟨RX8, "kindAt", "(LExtrasOffice$Tokens;)I"⟩
abbrev cX8_readNumbers : ByteArray := prog_10_method_3_code
def yX8_readNumbers : MethodName := ⟨RX8, "readNumbers", "(LExtrasOffice$Tokens;)Z"⟩
abbrev cX8_worth : ByteArray := prog_10_method_4_code
def yX8_worth : MethodName := ⟨RX8, "worth", "(II)I"⟩
abbrev cX8_quarters : ByteArray := prog_10_method_5_code
def yX8_quarters : MethodName := ⟨RX8, "quarters", "(I)I"⟩
def RX9 : String := "ExtrasOffice$Tokens"
def TX9 : u_T := fun k => match k with
  | 0 => ("ExtrasOffice$Tokens", "fault", "I", false)
  | 1 => ("ExtrasOffice$Tokens", "faultPlace", "I", false)
  | 2 => ("ExtrasOffice$Tokens", "tape", "LExtrasOffice$Row;", true)
  | 3 => ("ExtrasOffice$Tokens", "kind", "I", false)
  | 4 => ("ExtrasOffice$Tokens", "start", "I", false)
  | 5 => ("ExtrasOffice$Tokens", "next", "I", false)
  | _ => ("ExtrasOffice$Tokens", "value", "I", false)
def tyX9 : Nat → FieldType := fun k => match k with
  | 0 => .int
  | 1 => .int
  | 2 => .object "ExtrasOffice$Row"
  | 3 => .int
  | 4 => .int
  | 5 => .int
  | _ => .int
abbrev wsX90 : List Cond := u_ws RX9 TX9 7
theorem nmX9 : ∀ a, a < 7 → ∀ b, b < 7 → a ≠ b → (TX9 a).2.1 ≠ (TX9 b).2.1 := by decide +kernel
theorem tyX9_ok : ∀ k, k < 7 → parseFieldDescriptor (TX9 k).2.2.1 = some (tyX9 k) := by decide +kernel
abbrev cX9_init : ByteArray := prog_11_method_1_code
def yX9_init : MethodName := ⟨RX9, "<init>", "()V"⟩
abbrev cX9_begin : ByteArray := prog_11_method_2_code
def yX9_begin : MethodName := ⟨RX9, "begin", "()V"⟩
abbrev cX9_advance : ByteArray := prog_11_method_3_code
def yX9_advance : MethodName := ⟨RX9, "advance", "()V"⟩
abbrev cX9_kindOf : ByteArray := prog_11_method_4_code
def yX9_kindOf : MethodName := ⟨RX9, "kindOf", "(I)I"⟩
abbrev cX9_atEnd : ByteArray := prog_11_method_5_code
def yX9_atEnd : MethodName := ⟨RX9, "atEnd", "()Z"⟩
abbrev cX9_isWord : ByteArray := prog_11_method_6_code
def yX9_isWord : MethodName := ⟨RX9, "isWord", "(Ljava/lang/String;)Z"⟩
abbrev cX9_isSign : ByteArray := prog_11_method_7_code
def yX9_isSign : MethodName := ⟨RX9, "isSign", "(C)Z"⟩
abbrev cX9_passWord : ByteArray := prog_11_method_8_code
def yX9_passWord : MethodName := ⟨RX9, "passWord", "(Ljava/lang/String;)Z"⟩
abbrev cX9_passSign : ByteArray := prog_11_method_9_code
def yX9_passSign : MethodName := ⟨RX9, "passSign", "(C)Z"⟩
abbrev cX9_passNumber : ByteArray := prog_11_method_10_code
def yX9_passNumber : MethodName := ⟨RX9, "passNumber", "(II)I"⟩
abbrev cX9_passNumberAfter : ByteArray := prog_11_method_11_code
def yX9_passNumberAfter : MethodName := ⟨RX9, "passNumberAfter", "(Ljava/lang/String;II)I"⟩
abbrev cX9_fail : ByteArray := prog_11_method_12_code
def yX9_fail : MethodName := ⟨RX9, "fail", "(I)Z"⟩
def RX10 : String := "ExtrasOffice$Turn"
def TX10 : u_T := fun k => match k with
  | 0 => ("ExtrasOffice$Turn", "who", "LExtrasOffice$Person;", true)
  | 1 => ("ExtrasOffice$Turn", "day", "I", true)
  | 2 => ("ExtrasOffice$Turn", "ask", "LExtrasOffice$Ask;", true)
  | 3 => ("ExtrasOffice$Turn", "scene", "I", true)
  | 4 => ("ExtrasOffice$Turn", "coming", "I", false)
  | 5 => ("ExtrasOffice$Turn", "dressed", "I", false)
  | 6 => ("ExtrasOffice$Turn", "begun", "I", false)
  | 7 => ("ExtrasOffice$Turn", "sent", "I", false)
  | _ => ("ExtrasOffice$Turn", "agreement", "LExtrasOffice$Agreement;", false)
def tyX10 : Nat → FieldType := fun k => match k with
  | 0 => .object "ExtrasOffice$Person"
  | 1 => .int
  | 2 => .object "ExtrasOffice$Ask"
  | 3 => .int
  | 4 => .int
  | 5 => .int
  | 6 => .int
  | 7 => .int
  | _ => .object "ExtrasOffice$Agreement"
abbrev wsX100 : List Cond := u_ws RX10 TX10 9
theorem nmX10 : ∀ a, a < 9 → ∀ b, b < 9 → a ≠ b → (TX10 a).2.1 ≠ (TX10 b).2.1 := by decide +kernel
theorem tyX10_ok : ∀ k, k < 9 → parseFieldDescriptor (TX10 k).2.2.1 = some (tyX10 k) := by decide +kernel
abbrev cX10_init : ByteArray := prog_12_method_1_code
def yX10_init : MethodName := ⟨RX10, "<init>", "(LExtrasOffice$Person;ILExtrasOffice$Ask;)V"⟩
abbrev cX10_send : ByteArray := prog_12_method_2_code
def yX10_send : MethodName := ⟨RX10, "send", "(LExtrasOffice$Agreement;)V"⟩
abbrev cX10_earned : ByteArray := prog_12_method_3_code
def yX10_earned : MethodName := ⟨RX10, "earned", "()I"⟩
abbrev cX10_answer : ByteArray := prog_12_method_4_code
def yX10_answer : MethodName := ⟨RX10, "answer", "(I)I"⟩
def RX11 : String := "ExtrasOffice"
def TX11 : u_T := fun k => match k with
  | 0 => ("ExtrasOffice", "people", "Ljava/util/ArrayList;", true)
  | 1 => ("ExtrasOffice", "tape", "LExtrasOffice$Row;", true)
  | 2 => ("ExtrasOffice", "tokens", "LExtrasOffice$Tokens;", true)
  | 3 => ("ExtrasOffice", "askReader", "LExtrasOffice$AskReader;", true)
  | 4 => ("ExtrasOffice", "agreements", "Ljava/util/ArrayList;", true)
  | 5 => ("ExtrasOffice", "facts", "LExtrasOffice$Facts;", true)
  | 6 => ("ExtrasOffice", "plan", "LExtrasOffice$Plan;", true)
  | 7 => ("ExtrasOffice", "dressing", "LExtrasOffice$Dressing;", true)
  | 8 => ("ExtrasOffice", "records", "Ljava/util/ArrayList;", true)
  | 9 => ("ExtrasOffice", "lacking", "LExtrasOffice$Row;", true)
  | _ => ("ExtrasOffice", "day", "I", false)
def tyX11 : Nat → FieldType := fun k => match k with
  | 0 => .object "java/util/ArrayList"
  | 1 => .object "ExtrasOffice$Row"
  | 2 => .object "ExtrasOffice$Tokens"
  | 3 => .object "ExtrasOffice$AskReader"
  | 4 => .object "java/util/ArrayList"
  | 5 => .object "ExtrasOffice$Facts"
  | 6 => .object "ExtrasOffice$Plan"
  | 7 => .object "ExtrasOffice$Dressing"
  | 8 => .object "java/util/ArrayList"
  | 9 => .object "ExtrasOffice$Row"
  | _ => .int
abbrev wsX110 : List Cond := u_ws RX11 TX11 11
theorem nmX11 : ∀ a, a < 11 → ∀ b, b < 11 → a ≠ b → (TX11 a).2.1 ≠ (TX11 b).2.1 := by decide +kernel
theorem tyX11_ok : ∀ k, k < 11 → parseFieldDescriptor (TX11 k).2.2.1 = some (tyX11 k) := by decide +kernel
abbrev cX11_init : ByteArray := prog_1_method_1_code
def yX11_init : MethodName := ⟨RX11, "<init>", "()V"⟩
abbrev cX11_person : ByteArray := prog_1_method_2_code
def yX11_person : MethodName := ⟨RX11, "person", "(IIIII)I"⟩
abbrev cX11_away : ByteArray := prog_1_method_3_code
def yX11_away : MethodName := ⟨RX11, "away", "(IZ)Z"⟩
abbrev cX11_feed : ByteArray := prog_1_method_4_code
def yX11_feed : MethodName := ⟨RX11, "feed", "(IIIII)I"⟩
abbrev cX11_end : ByteArray := prog_1_method_5_code
def yX11_end : MethodName := ⟨RX11, "end", "(I)I"⟩
abbrev cX11_asks : ByteArray := prog_1_method_6_code
def yX11_asks : MethodName := ⟨RX11, "asks", "()I"⟩
abbrev cX11_agree : ByteArray := prog_1_method_7_code
def yX11_agree : MethodName := ⟨RX11, "agree", "()I"⟩
abbrev cX11_place : ByteArray := prog_1_method_8_code
def yX11_place : MethodName := ⟨RX11, "place", "()I"⟩
abbrev cX11_fits : ByteArray := prog_1_method_9_code
def yX11_fits : MethodName := ⟨RX11, "fits", "(III)I"⟩
abbrev cX11_lay : ByteArray := prog_1_method_10_code
def yX11_lay : MethodName := ⟨RX11, "lay", "()I"⟩
abbrev cX11_called : ByteArray := prog_1_method_11_code
def yX11_called : MethodName := ⟨RX11, "called", "(I)I"⟩
abbrev cX11_no : ByteArray := prog_1_method_12_code
def yX11_no : MethodName := ⟨RX11, "no", "(I)I"⟩
abbrev cX11_moved : ByteArray := prog_1_method_13_code
def yX11_moved : MethodName := ⟨RX11, "moved", "(I)I"⟩
abbrev cX11_step : ByteArray := prog_1_method_14_code
def yX11_step : MethodName := ⟨RX11, "step", "(II)I"⟩
abbrev cX11_record : ByteArray := prog_1_method_15_code
def yX11_record : MethodName := ⟨RX11, "record", "(III)I"⟩
abbrev cX11_tell : ByteArray := prog_1_method_16_code
def yX11_tell : MethodName := ⟨RX11, "tell", "(II)I"⟩
abbrev cX11_seen : ByteArray := prog_1_method_17_code
def yX11_seen : MethodName := ⟨RX11, "seen", "(III)I"⟩
abbrev cX11_retake : ByteArray := prog_1_method_18_code
def yX11_retake : MethodName := ⟨RX11, "retake", "(II)I"⟩
abbrev cX11_lacks : ByteArray := prog_1_method_19_code
def yX11_lacks : MethodName := ⟨RX11, "lacks", "(I)I"⟩
abbrev cX11_buses : ByteArray := prog_1_method_20_code
def yX11_buses : MethodName := ⟨RX11, "buses", "(II)I"⟩
abbrev cX11_ask : ByteArray := prog_1_method_21_code
def yX11_ask : MethodName := ⟨RX11, "ask", "(II)I"⟩
abbrev cX11_about : ByteArray := prog_1_method_22_code
def yX11_about : MethodName := ⟨RX11, "about", "(II)I"⟩
abbrev cX11_pay : ByteArray := prog_1_method_23_code
def yX11_pay : MethodName := ⟨RX11, "pay", "(III)J"⟩
abbrev cX11_count : ByteArray := prog_1_method_24_code
def yX11_count : MethodName := ⟨RX11, "count", "(I)I"⟩
abbrev cX11_within : ByteArray := prog_1_method_25_code
def yX11_within : MethodName := ⟨RX11, "within", "(III)Z"⟩
abbrev cX11_isScene : ByteArray := prog_1_method_26_code
def yX11_isScene : MethodName := ⟨RX11, "isScene", "(I)Z"⟩
abbrev cX11_find : ByteArray := prog_1_method_27_code
def yX11_find : MethodName := ⟨RX11, "find", "(I)LExtrasOffice$Person;"⟩
abbrev cX11_findRecord : ByteArray := prog_1_method_28_code
def yX11_findRecord : MethodName := ⟨RX11, "findRecord", "(II)LExtrasOffice$Turn;"⟩
abbrev cX11_addBytes : ByteArray := prog_1_method_29_code
def yX11_addBytes : MethodName := ⟨RX11, "addBytes", "(I)V"⟩
abbrev cX11_sendAll : ByteArray := prog_1_method_30_code
def yX11_sendAll : MethodName := ⟨RX11, "sendAll", "()I"⟩
def RX12 : String := "ExtrasOfficeModel"
def TX12 : u_T := fun k => match k with
  | 0 => ("ExtrasOfficeModel", "thrown", "I", false)
  | 1 => ("ExtrasOfficeModel", "people", "I", false)
  | 2 => ("ExtrasOfficeModel", "day", "I", false)
  | 3 => ("ExtrasOfficeModel", "age", "[I", true)
  | 4 => ("ExtrasOfficeModel", "tall", "[I", true)
  | 5 => ("ExtrasOfficeModel", "looks", "[I", true)
  | 6 => ("ExtrasOfficeModel", "home", "[I", true)
  | 7 => ("ExtrasOfficeModel", "slow", "[I", true)
  | 8 => ("ExtrasOfficeModel", "isAway", "[Z", true)
  | 9 => ("ExtrasOfficeModel", "turns", "[I", true)
  | 10 => ("ExtrasOfficeModel", "free", "[I", true)
  | 11 => ("ExtrasOfficeModel", "called", "[I", true)
  | 12 => ("ExtrasOfficeModel", "facts", "I", false)
  | 13 => ("ExtrasOfficeModel", "told", "I", false)
  | 14 => ("ExtrasOfficeModel", "factPerson", "[I", true)
  | 15 => ("ExtrasOfficeModel", "factScene", "[I", true)
  | 16 => ("ExtrasOfficeModel", "tape", "[B", true)
  | 17 => ("ExtrasOfficeModel", "taped", "I", false)
  | 18 => ("ExtrasOfficeModel", "row", "[B", false)
  | 19 => ("ExtrasOfficeModel", "size", "I", false)
  | 20 => ("ExtrasOfficeModel", "at", "I", false)
  | 21 => ("ExtrasOfficeModel", "place", "I", false)
  | 22 => ("ExtrasOfficeModel", "sort", "I", false)
  | 23 => ("ExtrasOfficeModel", "value", "I", false)
  | 24 => ("ExtrasOfficeModel", "fault", "I", false)
  | 25 => ("ExtrasOfficeModel", "faultPlace", "I", false)
  | 26 => ("ExtrasOfficeModel", "lastPlace", "I", false)
  | 27 => ("ExtrasOfficeModel", "reading", "Z", false)
  | 28 => ("ExtrasOfficeModel", "whose", "I", false)
  | 29 => ("ExtrasOfficeModel", "asks", "I", false)
  | 30 => ("ExtrasOfficeModel", "text", "[B", true)
  | 31 => ("ExtrasOfficeModel", "textSize", "I", false)
  | 32 => ("ExtrasOfficeModel", "scene", "[I", true)
  | 33 => ("ExtrasOfficeModel", "minute", "[I", true)
  | 34 => ("ExtrasOfficeModel", "takes", "[I", true)
  | 35 => ("ExtrasOfficeModel", "many", "[I", true)
  | 36 => ("ExtrasOfficeModel", "begins", "[I", true)
  | 37 => ("ExtrasOfficeModel", "newAsks", "I", false)
  | 38 => ("ExtrasOfficeModel", "newScene", "[I", true)
  | 39 => ("ExtrasOfficeModel", "newMinute", "[I", true)
  | 40 => ("ExtrasOfficeModel", "newTakes", "[I", true)
  | 41 => ("ExtrasOfficeModel", "newMany", "[I", true)
  | 42 => ("ExtrasOfficeModel", "newBegins", "[I", true)
  | 43 => ("ExtrasOfficeModel", "may", "[I", true)
  | 44 => ("ExtrasOfficeModel", "wanted", "[Z", true)
  | 45 => ("ExtrasOfficeModel", "room", "[I", true)
  | 46 => ("ExtrasOfficeModel", "asked", "[Z", true)
  | 47 => ("ExtrasOfficeModel", "moved", "[I", true)
  | 48 => ("ExtrasOfficeModel", "movers", "I", false)
  | 49 => ("ExtrasOfficeModel", "agreements", "I", false)
  | 50 => ("ExtrasOfficeModel", "terms", "[I", true)
  | 51 => ("ExtrasOfficeModel", "termKind", "[I", true)
  | 52 => ("ExtrasOfficeModel", "termMinutes", "[I", true)
  | 53 => ("ExtrasOfficeModel", "termNumber", "[I", true)
  | 54 => ("ExtrasOfficeModel", "termUp", "[Z", true)
  | 55 => ("ExtrasOfficeModel", "records", "I", false)
  | 56 => ("ExtrasOfficeModel", "rScene", "[I", true)
  | 57 => ("ExtrasOfficeModel", "rComing", "[I", true)
  | 58 => ("ExtrasOfficeModel", "rDressed", "[I", true)
  | 59 => ("ExtrasOfficeModel", "rBegun", "[I", true)
  | 60 => ("ExtrasOfficeModel", "rSent", "[I", true)
  | 61 => ("ExtrasOfficeModel", "rAgreement", "[I", true)
  | 62 => ("ExtrasOfficeModel", "dresser", "[I", true)
  | 63 => ("ExtrasOfficeModel", "isDressed", "[Z", true)
  | 64 => ("ExtrasOfficeModel", "coming", "[I", true)
  | 65 => ("ExtrasOfficeModel", "dressed", "[I", true)
  | 66 => ("ExtrasOfficeModel", "lacking", "[I", true)
  | _ => ("ExtrasOfficeModel", "lacks", "I", false)
def tyX12 : Nat → FieldType := fun k => match k with
  | 0 => .int
  | 1 => .int
  | 2 => .int
  | 3 => .array .int
  | 4 => .array .int
  | 5 => .array .int
  | 6 => .array .int
  | 7 => .array .int
  | 8 => .array .boolean
  | 9 => .array .int
  | 10 => .array .int
  | 11 => .array .int
  | 12 => .int
  | 13 => .int
  | 14 => .array .int
  | 15 => .array .int
  | 16 => .array .byte
  | 17 => .int
  | 18 => .array .byte
  | 19 => .int
  | 20 => .int
  | 21 => .int
  | 22 => .int
  | 23 => .int
  | 24 => .int
  | 25 => .int
  | 26 => .int
  | 27 => .boolean
  | 28 => .int
  | 29 => .int
  | 30 => .array .byte
  | 31 => .int
  | 32 => .array .int
  | 33 => .array .int
  | 34 => .array .int
  | 35 => .array .int
  | 36 => .array .int
  | 37 => .int
  | 38 => .array .int
  | 39 => .array .int
  | 40 => .array .int
  | 41 => .array .int
  | 42 => .array .int
  | 43 => .array .int
  | 44 => .array .boolean
  | 45 => .array .int
  | 46 => .array .boolean
  | 47 => .array .int
  | 48 => .int
  | 49 => .int
  | 50 => .array .int
  | 51 => .array .int
  | 52 => .array .int
  | 53 => .array .int
  | 54 => .array .boolean
  | 55 => .int
  | 56 => .array .int
  | 57 => .array .int
  | 58 => .array .int
  | 59 => .array .int
  | 60 => .array .int
  | 61 => .array .int
  | 62 => .array .int
  | 63 => .array .boolean
  | 64 => .array .int
  | 65 => .array .int
  | 66 => .array .int
  | _ => .int
abbrev wsX120 : List Cond := u_ws RX12 TX12 68
theorem nmX12 : ∀ a, a < 68 → ∀ b, b < 68 → a ≠ b → (TX12 a).2.1 ≠ (TX12 b).2.1 := by decide +kernel
theorem tyX12_ok : ∀ k, k < 68 → parseFieldDescriptor (TX12 k).2.2.1 = some (tyX12 k) := by decide +kernel
abbrev cX12_thrown : ByteArray := prog_14_method_1_code
def yX12_thrown : MethodName := ⟨RX12, "thrown", "()I"⟩
abbrev cX12_within : ByteArray := prog_14_method_2_code
def yX12_within : MethodName := ⟨RX12, "within", "(III)Z"⟩
abbrev cX12_init : ByteArray := prog_14_method_3_code
def yX12_init : MethodName := ⟨RX12, "<init>", "()V"⟩
abbrev cX12_person : ByteArray := prog_14_method_4_code
def yX12_person : MethodName := ⟨RX12, "person", "(IIIII)I"⟩
abbrev cX12_isPerson : ByteArray := prog_14_method_5_code
def yX12_isPerson : MethodName := ⟨RX12, "isPerson", "(I)Z"⟩
abbrev cX12_away : ByteArray := prog_14_method_6_code
def yX12_away : MethodName := ⟨RX12, "away", "(IZ)Z"⟩
abbrev cX12_about : ByteArray := prog_14_method_7_code
def yX12_about : MethodName := ⟨RX12, "about", "(II)I"⟩
abbrev cX12_fact : ByteArray := prog_14_method_8_code
def yX12_fact : MethodName := ⟨RX12, "fact", "(II)I"⟩
abbrev cX12_tell : ByteArray := prog_14_method_9_code
def yX12_tell : MethodName := ⟨RX12, "tell", "(II)I"⟩
abbrev cX12_times : ByteArray := prog_14_method_10_code
def yX12_times : MethodName := ⟨RX12, "times", "(III)I"⟩
abbrev cX12_seen : ByteArray := prog_14_method_11_code
def yX12_seen : MethodName := ⟨RX12, "seen", "(III)I"⟩
abbrev cX12_feed : ByteArray := prog_14_method_12_code
def yX12_feed : MethodName := ⟨RX12, "feed", "(IIIII)I"⟩
abbrev cX12_end : ByteArray := prog_14_method_13_code
def yX12_end : MethodName := ⟨RX12, "end", "(I)I"⟩
abbrev cX12_see : ByteArray := prog_14_method_14_code
def yX12_see : MethodName := ⟨RX12, "see", "(I)I"⟩
abbrev cX12_isSmall : ByteArray := prog_14_method_15_code
def yX12_isSmall : MethodName := ⟨RX12, "isSmall", "(I)Z"⟩
abbrev cX12_isDigit : ByteArray := prog_14_method_16_code
def yX12_isDigit : MethodName := ⟨RX12, "isDigit", "(I)Z"⟩
abbrev cX12_next : ByteArray := prog_14_method_17_code
def yX12_next : MethodName := ⟨RX12, "next", "()V"⟩
abbrev cX12_starts : ByteArray := prog_14_method_18_code
def yX12_starts : MethodName := ⟨RX12, "starts", "([BII)V"⟩
abbrev cX12_isWord : ByteArray := prog_14_method_19_code
def yX12_isWord : MethodName := ⟨RX12, "isWord", "(Ljava/lang/String;)Z"⟩
abbrev cX12_is : ByteArray := prog_14_method_20_code
def yX12_is : MethodName := ⟨RX12, "is", "(I)Z"⟩
abbrev cX12_fails : ByteArray := prog_14_method_21_code
def yX12_fails : MethodName := ⟨RX12, "fails", "(I)V"⟩
abbrev cX12_wants : ByteArray := prog_14_method_22_code
def yX12_wants : MethodName := ⟨RX12, "wants", "(I)V"⟩
abbrev cX12_wants_ : ByteArray := prog_14_method_23_code
def yX12_wants_ : MethodName := ⟨RX12, "wants", "(Ljava/lang/String;)V"⟩
abbrev cX12_number : ByteArray := prog_14_method_24_code
def yX12_number : MethodName := ⟨RX12, "number", "(II)I"⟩
abbrev cX12_either : ByteArray := prog_14_method_25_code
def yX12_either : MethodName := ⟨RX12, "either", "(I)Z"⟩
abbrev cX12_all : ByteArray := prog_14_method_26_code
def yX12_all : MethodName := ⟨RX12, "all", "(I)Z"⟩
abbrev cX12_one : ByteArray := prog_14_method_27_code
def yX12_one : MethodName := ⟨RX12, "one", "(I)Z"⟩
abbrev cX12_readAsk : ByteArray := prog_14_method_28_code
def yX12_readAsk : MethodName := ⟨RX12, "readAsk", "()V"⟩
abbrev cX12_nobody : ByteArray := prog_14_method_29_code
def yX12_nobody : MethodName := ⟨RX12, "nobody", "()V"⟩
abbrev cX12_asks : ByteArray := prog_14_method_30_code
def yX12_asks : MethodName := ⟨RX12, "asks", "()I"⟩
abbrev cX12_place : ByteArray := prog_14_method_31_code
def yX12_place : MethodName := ⟨RX12, "place", "()I"⟩
abbrev cX12_doesFit : ByteArray := prog_14_method_32_code
def yX12_doesFit : MethodName := ⟨RX12, "doesFit", "(II)Z"⟩
abbrev cX12_canBe : ByteArray := prog_14_method_33_code
def yX12_canBe : MethodName := ⟨RX12, "canBe", "(II)Z"⟩
abbrev cX12_isAsk : ByteArray := prog_14_method_34_code
def yX12_isAsk : MethodName := ⟨RX12, "isAsk", "(I)Z"⟩
abbrev cX12_fits : ByteArray := prog_14_method_35_code
def yX12_fits : MethodName := ⟨RX12, "fits", "(III)I"⟩
abbrev cX12_calledIn : ByteArray := prog_14_method_36_code
def yX12_calledIn : MethodName := ⟨RX12, "calledIn", "(I)I"⟩
abbrev cX12_ask : ByteArray := prog_14_method_37_code
def yX12_ask : MethodName := ⟨RX12, "ask", "(II)I"⟩
abbrev cX12_isRoom : ByteArray := prog_14_method_38_code
def yX12_isRoom : MethodName := ⟨RX12, "isRoom", "()Z"⟩
abbrev cX12_first : ByteArray := prog_14_method_39_code
def yX12_first : MethodName := ⟨RX12, "first", "()I"⟩
abbrev cX12_reckons : ByteArray := prog_14_method_40_code
def yX12_reckons : MethodName := ⟨RX12, "reckons", "()V"⟩
abbrev cX12_lay : ByteArray := prog_14_method_41_code
def yX12_lay : MethodName := ⟨RX12, "lay", "()I"⟩
abbrev cX12_called : ByteArray := prog_14_method_42_code
def yX12_called : MethodName := ⟨RX12, "called", "(I)I"⟩
abbrev cX12_mends : ByteArray := prog_14_method_43_code
def yX12_mends : MethodName := ⟨RX12, "mends", "(IIII)Z"⟩
abbrev cX12_no : ByteArray := prog_14_method_44_code
def yX12_no : MethodName := ⟨RX12, "no", "(I)I"⟩
abbrev cX12_moved : ByteArray := prog_14_method_45_code
def yX12_moved : MethodName := ⟨RX12, "moved", "(I)I"⟩
abbrev cX12_readTerm : ByteArray := prog_14_method_46_code
def yX12_readTerm : MethodName := ⟨RX12, "readTerm", "()V"⟩
abbrev cX12_agree : ByteArray := prog_14_method_47_code
def yX12_agree : MethodName := ⟨RX12, "agree", "()I"⟩
abbrev cX12_quarters : ByteArray := prog_14_method_48_code
def yX12_quarters : MethodName := ⟨RX12, "quarters", "(IZ)I"⟩
abbrev cX12_worth : ByteArray := prog_14_method_49_code
def yX12_worth : MethodName := ⟨RX12, "worth", "(III)I"⟩
abbrev cX12_next_ : ByteArray := prog_14_method_50_code
def yX12_next_ : MethodName := ⟨RX12, "next", "(I)I"⟩
abbrev cX12_dresses : ByteArray := prog_14_method_51_code
def yX12_dresses : MethodName := ⟨RX12, "dresses", "(I)V"⟩
abbrev cX12_nextComing : ByteArray := prog_14_method_52_code
def yX12_nextComing : MethodName := ⟨RX12, "nextComing", "()I"⟩
abbrev cX12_step : ByteArray := prog_14_method_53_code
def yX12_step : MethodName := ⟨RX12, "step", "(II)I"⟩
abbrev cX12_isRecord : ByteArray := prog_14_method_54_code
def yX12_isRecord : MethodName := ⟨RX12, "isRecord", "(II)Z"⟩
abbrev cX12_record : ByteArray := prog_14_method_55_code
def yX12_record : MethodName := ⟨RX12, "record", "(III)I"⟩
abbrev cX12_pay : ByteArray := prog_14_method_56_code
def yX12_pay : MethodName := ⟨RX12, "pay", "(III)J"⟩
abbrev cX12_retake : ByteArray := prog_14_method_57_code
def yX12_retake : MethodName := ⟨RX12, "retake", "(II)I"⟩
abbrev cX12_lacks : ByteArray := prog_14_method_58_code
def yX12_lacks : MethodName := ⟨RX12, "lacks", "(I)I"⟩
abbrev cX12_buses : ByteArray := prog_14_method_59_code
def yX12_buses : MethodName := ⟨RX12, "buses", "(II)I"⟩
abbrev cX12_allCalled : ByteArray := prog_14_method_60_code
def yX12_allCalled : MethodName := ⟨RX12, "allCalled", "()I"⟩
abbrev cX12_count : ByteArray := prog_14_method_61_code
def yX12_count : MethodName := ⟨RX12, "count", "(I)I"⟩
def RJx145de : String := "java/io/Serializable"
def TJx145de : u_T := fun k => match k with
  | _ => ("", "", "", false)
def tyJx145de : Nat → FieldType := fun k => match k with
  | _ => .int
abbrev wsJx145de0 : List Cond := u_ws RJx145de TJx145de 0
theorem nmJx145de : ∀ a, a < 0 → ∀ b, b < 0 → a ≠ b → (TJx145de a).2.1 ≠ (TJx145de b).2.1 := by decide +kernel
theorem tyJx145de_ok : ∀ k, k < 0 → parseFieldDescriptor (TJx145de k).2.2.1 = some (tyJx145de k) := by decide +kernel
def RJx9f9b0 : String := "java/lang/CharSequence"
def TJx9f9b0 : u_T := fun k => match k with
  | _ => ("", "", "", false)
def tyJx9f9b0 : Nat → FieldType := fun k => match k with
  | _ => .int
abbrev wsJx9f9b00 : List Cond := u_ws RJx9f9b0 TJx9f9b0 0
theorem nmJx9f9b0 : ∀ a, a < 0 → ∀ b, b < 0 → a ≠ b → (TJx9f9b0 a).2.1 ≠ (TJx9f9b0 b).2.1 := by decide +kernel
theorem tyJx9f9b0_ok : ∀ k, k < 0 → parseFieldDescriptor (TJx9f9b0 k).2.2.1 = some (tyJx9f9b0 k) := by decide +kernel
def RJx8e188 : String := "java/lang/Cloneable"
def TJx8e188 : u_T := fun k => match k with
  | _ => ("", "", "", false)
def tyJx8e188 : Nat → FieldType := fun k => match k with
  | _ => .int
abbrev wsJx8e1880 : List Cond := u_ws RJx8e188 TJx8e188 0
theorem nmJx8e188 : ∀ a, a < 0 → ∀ b, b < 0 → a ≠ b → (TJx8e188 a).2.1 ≠ (TJx8e188 b).2.1 := by decide +kernel
theorem tyJx8e188_ok : ∀ k, k < 0 → parseFieldDescriptor (TJx8e188 k).2.2.1 = some (tyJx8e188 k) := by decide +kernel
def RJxb160c : String := "java/lang/Comparable"
def TJxb160c : u_T := fun k => match k with
  | _ => ("", "", "", false)
def tyJxb160c : Nat → FieldType := fun k => match k with
  | _ => .int
abbrev wsJxb160c0 : List Cond := u_ws RJxb160c TJxb160c 0
theorem nmJxb160c : ∀ a, a < 0 → ∀ b, b < 0 → a ≠ b → (TJxb160c a).2.1 ≠ (TJxb160c b).2.1 := by decide +kernel
theorem tyJxb160c_ok : ∀ k, k < 0 → parseFieldDescriptor (TJxb160c k).2.2.1 = some (tyJxb160c k) := by decide +kernel
def RJxab1ab : String := "java/lang/Iterable"
def TJxab1ab : u_T := fun k => match k with
  | _ => ("", "", "", false)
def tyJxab1ab : Nat → FieldType := fun k => match k with
  | _ => .int
abbrev wsJxab1ab0 : List Cond := u_ws RJxab1ab TJxab1ab 0
theorem nmJxab1ab : ∀ a, a < 0 → ∀ b, b < 0 → a ≠ b → (TJxab1ab a).2.1 ≠ (TJxab1ab b).2.1 := by decide +kernel
theorem tyJxab1ab_ok : ∀ k, k < 0 → parseFieldDescriptor (TJxab1ab k).2.2.1 = some (tyJxab1ab k) := by decide +kernel
def RJ9 : String := "java/lang/Math"
def TJ9 : u_T := fun k => match k with
  | _ => ("", "", "", false)
def tyJ9 : Nat → FieldType := fun k => match k with
  | _ => .int
abbrev wsJ90 : List Cond := u_ws RJ9 TJ9 0
theorem nmJ9 : ∀ a, a < 0 → ∀ b, b < 0 → a ≠ b → (TJ9 a).2.1 ≠ (TJ9 b).2.1 := by decide +kernel
theorem tyJ9_ok : ∀ k, k < 0 → parseFieldDescriptor (TJ9 k).2.2.1 = some (tyJ9 k) := by decide +kernel
abbrev cJ9_max_7cf53 : ByteArray := prog_21_method_65_code
def yJ9_max_7cf53 : MethodName := ⟨RJ9, "max", "(II)I"⟩
abbrev cJ9_min_7cf53 : ByteArray := prog_21_method_69_code
def yJ9_min_7cf53 : MethodName := ⟨RJ9, "min", "(II)I"⟩
def RJ0 : String := "java/lang/String"
def TJ0 : u_T := fun k => match k with
  | _ => ("", "", "", false)
def tyJ0 : Nat → FieldType := fun k => match k with
  | _ => .int
abbrev wsJ00 : List Cond := u_ws RJ0 TJ0 0
theorem nmJ0 : ∀ a, a < 0 → ∀ b, b < 0 → a ≠ b → (TJ0 a).2.1 ≠ (TJ0 b).2.1 := by decide +kernel
theorem tyJ0_ok : ∀ k, k < 0 → parseFieldDescriptor (TJ0 k).2.2.1 = some (tyJ0 k) := by decide +kernel
abbrev cJ0_length_8abf5 : ByteArray := prog_23_method_54_code
def yJ0_length_8abf5 : MethodName := ⟨RJ0, "length", "()I"⟩
abbrev cJ0_charAt_5068e : ByteArray := prog_23_method_56_code
def yJ0_charAt_5068e : MethodName := ⟨RJ0, "charAt", "(I)C"⟩
abbrev cJ0_coder_7d493 : ByteArray := prog_23_method_152_code
def yJ0_coder_7d493 : MethodName := ⟨RJ0, "coder", "()B"⟩
abbrev cJ0_isLatin1_aae02 : ByteArray := prog_23_method_154_code
def yJ0_isLatin1_aae02 : MethodName := ⟨RJ0, "isLatin1", "()Z"⟩
abbrev cJ0_checkIndex_df160 : ByteArray := prog_23_method_155_code
def yJ0_checkIndex_df160 : MethodName := ⟨RJ0, "checkIndex", "(II)V"⟩
def RJ1 : String := "java/lang/StringLatin1"
def TJ1 : u_T := fun k => match k with
  | _ => ("", "", "", false)
def tyJ1 : Nat → FieldType := fun k => match k with
  | _ => .int
abbrev wsJ10 : List Cond := u_ws RJ1 TJ1 0
theorem nmJ1 : ∀ a, a < 0 → ∀ b, b < 0 → a ≠ b → (TJ1 a).2.1 ≠ (TJ1 b).2.1 := by decide +kernel
theorem tyJ1_ok : ∀ k, k < 0 → parseFieldDescriptor (TJ1 k).2.2.1 = some (tyJ1 k) := by decide +kernel
abbrev cJ1_charAt_3b067 : ByteArray := prog_24_method_2_code
def yJ1_charAt_3b067 : MethodName := ⟨RJ1, "charAt", "([BI)C"⟩
def RJ2 : String := "java/lang/StringUTF16"
def TJ2 : u_T := fun k => match k with
  | _ => ("", "", "", false)
def tyJ2 : Nat → FieldType := fun k => match k with
  | _ => .int
abbrev wsJ20 : List Cond := u_ws RJ2 TJ2 0
theorem nmJ2 : ∀ a, a < 0 → ∀ b, b < 0 → a ≠ b → (TJ2 a).2.1 ≠ (TJ2 b).2.1 := by decide +kernel
theorem tyJ2_ok : ∀ k, k < 0 → parseFieldDescriptor (TJ2 k).2.2.1 = some (tyJ2 k) := by decide +kernel
abbrev cJ2_getChar_3b067 : ByteArray := prog_25_method_5_code
def yJ2_getChar_3b067 : MethodName := ⟨RJ2, "getChar", "([BI)C"⟩
abbrev cJ2_length_9d52b : ByteArray := prog_25_method_6_code
def yJ2_length_9d52b : MethodName := ⟨RJ2, "length", "([B)I"⟩
abbrev cJ2_charAt_3b067 : ByteArray := prog_25_method_83_code
def yJ2_charAt_3b067 : MethodName := ⟨RJ2, "charAt", "([BI)C"⟩
abbrev cJ2_checkIndex_2214a : ByteArray := prog_25_method_91_code
def yJ2_checkIndex_2214a : MethodName := ⟨RJ2, "checkIndex", "(I[B)V"⟩
def RJ10 : String := "java/lang/System"
def TJ10 : u_T := fun k => match k with
  | _ => ("", "", "", false)
def tyJ10 : Nat → FieldType := fun k => match k with
  | _ => .int
abbrev wsJ100 : List Cond := u_ws RJ10 TJ10 0
theorem nmJ10 : ∀ a, a < 0 → ∀ b, b < 0 → a ≠ b → (TJ10 a).2.1 ≠ (TJ10 b).2.1 := by decide +kernel
theorem tyJ10_ok : ∀ k, k < 0 → parseFieldDescriptor (TJ10 k).2.2.1 = some (tyJ10 k) := by decide +kernel
def RJxfd54e : String := "java/lang/constant/Constable"
def TJxfd54e : u_T := fun k => match k with
  | _ => ("", "", "", false)
def tyJxfd54e : Nat → FieldType := fun k => match k with
  | _ => .int
abbrev wsJxfd54e0 : List Cond := u_ws RJxfd54e TJxfd54e 0
theorem nmJxfd54e : ∀ a, a < 0 → ∀ b, b < 0 → a ≠ b → (TJxfd54e a).2.1 ≠ (TJxfd54e b).2.1 := by decide +kernel
theorem tyJxfd54e_ok : ∀ k, k < 0 → parseFieldDescriptor (TJxfd54e k).2.2.1 = some (tyJxfd54e k) := by decide +kernel
def RJx3cf43 : String := "java/lang/constant/ConstantDesc"
def TJx3cf43 : u_T := fun k => match k with
  | _ => ("", "", "", false)
def tyJx3cf43 : Nat → FieldType := fun k => match k with
  | _ => .int
abbrev wsJx3cf430 : List Cond := u_ws RJx3cf43 TJx3cf43 0
theorem nmJx3cf43 : ∀ a, a < 0 → ∀ b, b < 0 → a ≠ b → (TJx3cf43 a).2.1 ≠ (TJx3cf43 b).2.1 := by decide +kernel
theorem tyJx3cf43_ok : ∀ k, k < 0 → parseFieldDescriptor (TJx3cf43 k).2.2.1 = some (tyJx3cf43 k) := by decide +kernel
def RJxa1e45 : String := "java/util/AbstractCollection"
def TJxa1e45 : u_T := fun k => match k with
  | _ => ("", "", "", false)
def tyJxa1e45 : Nat → FieldType := fun k => match k with
  | _ => .int
abbrev wsJxa1e450 : List Cond := u_ws RJxa1e45 TJxa1e45 0
theorem nmJxa1e45 : ∀ a, a < 0 → ∀ b, b < 0 → a ≠ b → (TJxa1e45 a).2.1 ≠ (TJxa1e45 b).2.1 := by decide +kernel
theorem tyJxa1e45_ok : ∀ k, k < 0 → parseFieldDescriptor (TJxa1e45 k).2.2.1 = some (tyJxa1e45 k) := by decide +kernel
abbrev cJxa1e45_init_da8c8 : ByteArray := prog_30_method_1_code
def yJxa1e45_init_da8c8 : MethodName := ⟨RJxa1e45, "<init>", "()V"⟩
def RJxc12de : String := "java/util/AbstractList"
def TJxc12de : u_T := fun k => match k with
  | _ => ("", "", "", false)
def tyJxc12de : Nat → FieldType := fun k => match k with
  | _ => .int
abbrev wsJxc12de0 : List Cond := u_ws RJxc12de TJxc12de 0
theorem nmJxc12de : ∀ a, a < 0 → ∀ b, b < 0 → a ≠ b → (TJxc12de a).2.1 ≠ (TJxc12de b).2.1 := by decide +kernel
theorem tyJxc12de_ok : ∀ k, k < 0 → parseFieldDescriptor (TJxc12de k).2.2.1 = some (tyJxc12de k) := by decide +kernel
abbrev cJxc12de_init_da8c8 : ByteArray := prog_31_method_1_code
def yJxc12de_init_da8c8 : MethodName := ⟨RJxc12de, "<init>", "()V"⟩
def RJx4a65c : String := "java/util/ArrayList"
def TJx4a65c : u_T := fun k => match k with
  | 0 => ("java/util/AbstractList", "modCount", "I", false)
  | 1 => ("java/util/ArrayList", "elementData", "[Ljava/lang/Object;", false)
  | _ => ("java/util/ArrayList", "size", "I", false)
def tyJx4a65c : Nat → FieldType := fun k => match k with
  | 0 => .int
  | 1 => .array (.object "java/lang/Object")
  | _ => .int
abbrev wsJx4a65c0 : List Cond := u_ws RJx4a65c TJx4a65c 3
theorem nmJx4a65c : ∀ a, a < 3 → ∀ b, b < 3 → a ≠ b → (TJx4a65c a).2.1 ≠ (TJx4a65c b).2.1 := by decide +kernel
theorem tyJx4a65c_ok : ∀ k, k < 3 → parseFieldDescriptor (TJx4a65c k).2.2.1 = some (tyJx4a65c k) := by decide +kernel
abbrev cJx4a65c_init_da8c8 : ByteArray := prog_32_method_2_code
def yJx4a65c_init_da8c8 : MethodName := ⟨RJx4a65c, "<init>", "()V"⟩
abbrev cJx4a65c_grow_92f84 : ByteArray := prog_32_method_6_code
def yJx4a65c_grow_92f84 : MethodName := ⟨RJx4a65c, "grow", "(I)[Ljava/lang/Object;"⟩
abbrev cJx4a65c_grow_d5877 : ByteArray := prog_32_method_7_code
def yJx4a65c_grow_d5877 : MethodName := ⟨RJx4a65c, "grow", "()[Ljava/lang/Object;"⟩
abbrev cJx4a65c_size_8abf5 : ByteArray := prog_32_method_8_code
def yJx4a65c_size_8abf5 : MethodName := ⟨RJx4a65c, "size", "()I"⟩
abbrev cJx4a65c_isEmpty_aae02 : ByteArray := prog_32_method_9_code
def yJx4a65c_isEmpty_aae02 : MethodName := ⟨RJx4a65c, "isEmpty", "()Z"⟩
abbrev cJx4a65c_elementData_915e3 : ByteArray := prog_32_method_18_code
def yJx4a65c_elementData_915e3 : MethodName := ⟨RJx4a65c, "elementData", "(I)Ljava/lang/Object;"⟩
abbrev cJx4a65c_get_915e3 : ByteArray := prog_32_method_20_code
def yJx4a65c_get_915e3 : MethodName := ⟨RJx4a65c, "get", "(I)Ljava/lang/Object;"⟩
abbrev cJx4a65c_add_72be8 : ByteArray := prog_32_method_24_code
def yJx4a65c_add_72be8 : MethodName := ⟨RJx4a65c, "add", "(Ljava/lang/Object;[Ljava/lang/Object;I)V"⟩
abbrev cJx4a65c_add_9ea2d : ByteArray := prog_32_method_25_code
def yJx4a65c_add_9ea2d : MethodName := ⟨RJx4a65c, "add", "(Ljava/lang/Object;)Z"⟩
abbrev cJx4a65c_add_7a177 : ByteArray := prog_32_method_26_code
def yJx4a65c_add_7a177 : MethodName := ⟨RJx4a65c, "add", "(ILjava/lang/Object;)V"⟩
abbrev cJx4a65c_clear_da8c8 : ByteArray := prog_32_method_40_code
def yJx4a65c_clear_da8c8 : MethodName := ⟨RJx4a65c, "clear", "()V"⟩
abbrev cJx4a65c_rangeCheckForAdd_d00df : ByteArray := prog_32_method_45_code
def yJx4a65c_rangeCheckForAdd_d00df : MethodName := ⟨RJx4a65c, "rangeCheckForAdd", "(I)V"⟩
def RJ7 : String := "java/util/Arrays"
def TJ7 : u_T := fun k => match k with
  | _ => ("", "", "", false)
def tyJ7 : Nat → FieldType := fun k => match k with
  | _ => .int
abbrev wsJ70 : List Cond := u_ws RJ7 TJ7 0
theorem nmJ7 : ∀ a, a < 0 → ∀ b, b < 0 → a ≠ b → (TJ7 a).2.1 ≠ (TJ7 b).2.1 := by decide +kernel
theorem tyJ7_ok : ∀ k, k < 0 → parseFieldDescriptor (TJ7 k).2.2.1 = some (tyJ7 k) := by decide +kernel
abbrev cJ7_copyOf_1904c : ByteArray := prog_33_method_119_code
def yJ7_copyOf_1904c : MethodName := ⟨RJ7, "copyOf", "([Ljava/lang/Object;I)[Ljava/lang/Object;"⟩
abbrev cJ7_copyOf_6403c : ByteArray := prog_33_method_120_code
def yJ7_copyOf_6403c : MethodName := ⟨RJ7, "copyOf", "([Ljava/lang/Object;ILjava/lang/Class;)[Ljava/lang/Object;"⟩
def RJx5ef63 : String := "java/util/Collection"
def TJx5ef63 : u_T := fun k => match k with
  | _ => ("", "", "", false)
def tyJx5ef63 : Nat → FieldType := fun k => match k with
  | _ => .int
abbrev wsJx5ef630 : List Cond := u_ws RJx5ef63 TJx5ef63 0
theorem nmJx5ef63 : ∀ a, a < 0 → ∀ b, b < 0 → a ≠ b → (TJx5ef63 a).2.1 ≠ (TJx5ef63 b).2.1 := by decide +kernel
theorem tyJx5ef63_ok : ∀ k, k < 0 → parseFieldDescriptor (TJx5ef63 k).2.2.1 = some (tyJx5ef63 k) := by decide +kernel
def RJxbd725 : String := "java/util/List"
def TJxbd725 : u_T := fun k => match k with
  | _ => ("", "", "", false)
def tyJxbd725 : Nat → FieldType := fun k => match k with
  | _ => .int
abbrev wsJxbd7250 : List Cond := u_ws RJxbd725 TJxbd725 0
theorem nmJxbd725 : ∀ a, a < 0 → ∀ b, b < 0 → a ≠ b → (TJxbd725 a).2.1 ≠ (TJxbd725 b).2.1 := by decide +kernel
theorem tyJxbd725_ok : ∀ k, k < 0 → parseFieldDescriptor (TJxbd725 k).2.2.1 = some (tyJxbd725 k) := by decide +kernel
def RJ15 : String := "java/util/Objects"
def TJ15 : u_T := fun k => match k with
  | _ => ("", "", "", false)
def tyJ15 : Nat → FieldType := fun k => match k with
  | _ => .int
abbrev wsJ150 : List Cond := u_ws RJ15 TJ15 0
theorem nmJ15 : ∀ a, a < 0 → ∀ b, b < 0 → a ≠ b → (TJ15 a).2.1 ≠ (TJ15 b).2.1 := by decide +kernel
theorem tyJ15_ok : ∀ k, k < 0 → parseFieldDescriptor (TJ15 k).2.2.1 = some (tyJ15 k) := by decide +kernel
abbrev cJ15_checkIndex_7cf53 : ByteArray := prog_37_method_17_code
def yJ15_checkIndex_7cf53 : MethodName := ⟨RJ15, "checkIndex", "(II)I"⟩
def RJxf0a74 : String := "java/util/RandomAccess"
def TJxf0a74 : u_T := fun k => match k with
  | _ => ("", "", "", false)
def tyJxf0a74 : Nat → FieldType := fun k => match k with
  | _ => .int
abbrev wsJxf0a740 : List Cond := u_ws RJxf0a74 TJxf0a74 0
theorem nmJxf0a74 : ∀ a, a < 0 → ∀ b, b < 0 → a ≠ b → (TJxf0a74 a).2.1 ≠ (TJxf0a74 b).2.1 := by decide +kernel
theorem tyJxf0a74_ok : ∀ k, k < 0 → parseFieldDescriptor (TJxf0a74 k).2.2.1 = some (tyJxf0a74 k) := by decide +kernel
def RJxa66e6 : String := "java/util/SequencedCollection"
def TJxa66e6 : u_T := fun k => match k with
  | _ => ("", "", "", false)
def tyJxa66e6 : Nat → FieldType := fun k => match k with
  | _ => .int
abbrev wsJxa66e60 : List Cond := u_ws RJxa66e6 TJxa66e6 0
theorem nmJxa66e6 : ∀ a, a < 0 → ∀ b, b < 0 → a ≠ b → (TJxa66e6 a).2.1 ≠ (TJxa66e6 b).2.1 := by decide +kernel
theorem tyJxa66e6_ok : ∀ k, k < 0 → parseFieldDescriptor (TJxa66e6 k).2.2.1 = some (tyJxa66e6 k) := by decide +kernel
def RJ8 : String := "jdk/internal/util/ArraysSupport"
def TJ8 : u_T := fun k => match k with
  | _ => ("", "", "", false)
def tyJ8 : Nat → FieldType := fun k => match k with
  | _ => .int
abbrev wsJ80 : List Cond := u_ws RJ8 TJ8 0
theorem nmJ8 : ∀ a, a < 0 → ∀ b, b < 0 → a ≠ b → (TJ8 a).2.1 ≠ (TJ8 b).2.1 := by decide +kernel
theorem tyJ8_ok : ∀ k, k < 0 → parseFieldDescriptor (TJ8 k).2.2.1 = some (tyJ8 k) := by decide +kernel
abbrev cJ8_newLength_cabcc : ByteArray := prog_40_method_27_code
def yJ8_newLength_cabcc : MethodName := ⟨RJ8, "newLength", "(III)I"⟩
abbrev cJ8_hugeLength_7cf53 : ByteArray := prog_40_method_28_code
def yJ8_hugeLength_7cf53 : MethodName := ⟨RJ8, "hugeLength", "(II)I"⟩
def RJ3 : String := "jdk/internal/util/Preconditions"
def TJ3 : u_T := fun k => match k with
  | _ => ("", "", "", false)
def tyJ3 : Nat → FieldType := fun k => match k with
  | _ => .int
abbrev wsJ30 : List Cond := u_ws RJ3 TJ3 0
theorem nmJ3 : ∀ a, a < 0 → ∀ b, b < 0 → a ≠ b → (TJ3 a).2.1 ≠ (TJ3 b).2.1 := by decide +kernel
theorem tyJ3_ok : ∀ k, k < 0 → parseFieldDescriptor (TJ3 k).2.2.1 = some (tyJ3 k) := by decide +kernel
abbrev cJ3_checkIndex_8e157 : ByteArray := prog_41_method_11_code
def yJ3_checkIndex_8e157 : MethodName := ⟨RJ3, "checkIndex", "(IILjava/util/function/BiFunction;)I"⟩
def RL : String := "ExtrasOfficeLaw"
abbrev cL_seen : ByteArray := method_3_code
def yL_seen : MethodName := ⟨RL, "seen", "(LExtrasOffice;III[J)I"⟩
abbrev cL_law : ByteArray := code
def yL_law : MethodName := ⟨RL, "law", "([I)Z"⟩
abbrev vwCl : List vw_C := [(RJx4a65c, TJx4a65c, 3), (RX0, TX0, 2), (RX1, TX1, 9), (RX2, TX2, 2), (RX3, TX3, 3), (RX4, TX4, 3), (RX5, TX5, 12), (RX6, TX6, 4), (RX7, TX7, 2), (RX8, TX8, 4), (RX9, TX9, 7), (RX10, TX10, 9), (RX11, TX11, 11), (RX12, TX12, 68)]
