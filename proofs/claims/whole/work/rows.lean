section
-- ===== PART A: goes FIRST, ahead of the names: the tables' words, and 'selects' of the private methods out of them =====
/-- a private method of a class that the tables say can be made, by its rows of tables_1 -/
def lw_okq (q : MethodName × Nat) : Prop := (q.1.cls ≠ "java/lang/invoke/MethodHandle" ∧ q.1.cls ≠ "java/lang/invoke/VarHandle") ∧ Cond.instantiable q.1.cls q.2 ∈ tables_1 ∧ Cond.privateMethod q.1 ∈ tables_1 ∧ Cond.instanceMethod q.1 ∈ tables_1
theorem lw_p0 : lw_okq (⟨"java/util/ArrayList", "add", "(Ljava/lang/Object;[Ljava/lang/Object;I)V"⟩, 3) := ⟨⟨by decide +kernel, by decide +kernel⟩, List.mem_of_getElem? (i := 39) (by decide +kernel), List.mem_of_getElem? (i := 306) (by decide +kernel), List.mem_of_getElem? (i := 307) (by decide +kernel)⟩
theorem lw_p1 : lw_okq (⟨"java/util/ArrayList", "grow", "()[Ljava/lang/Object;"⟩, 3) := ⟨⟨by decide +kernel, by decide +kernel⟩, List.mem_of_getElem? (i := 39) (by decide +kernel), List.mem_of_getElem? (i := 310) (by decide +kernel), List.mem_of_getElem? (i := 311) (by decide +kernel)⟩
theorem lw_p2 : lw_okq (⟨"java/util/ArrayList", "grow", "(I)[Ljava/lang/Object;"⟩, 3) := ⟨⟨by decide +kernel, by decide +kernel⟩, List.mem_of_getElem? (i := 39) (by decide +kernel), List.mem_of_getElem? (i := 314) (by decide +kernel), List.mem_of_getElem? (i := 315) (by decide +kernel)⟩
theorem lw_p3 : lw_okq (⟨"ExtrasOffice", "find", "(I)LExtrasOffice$Person;"⟩, 11) := ⟨⟨by decide +kernel, by decide +kernel⟩, List.mem_of_getElem? (i := 31) (by decide +kernel), List.mem_of_getElem? (i := 368) (by decide +kernel), List.mem_of_getElem? (i := 369) (by decide +kernel)⟩
theorem lw_p4 : lw_okq (⟨"ExtrasOffice", "addBytes", "(I)V"⟩, 11) := ⟨⟨by decide +kernel, by decide +kernel⟩, List.mem_of_getElem? (i := 31) (by decide +kernel), List.mem_of_getElem? (i := 390) (by decide +kernel), List.mem_of_getElem? (i := 391) (by decide +kernel)⟩
theorem lw_p5 : lw_okq (⟨"ExtrasOffice$AskReader", "readHead", "(LExtrasOffice$Ask;)Z"⟩, 2) := ⟨⟨by decide +kernel, by decide +kernel⟩, List.mem_of_getElem? (i := 115) (by decide +kernel), List.mem_of_getElem? (i := 535) (by decide +kernel), List.mem_of_getElem? (i := 536) (by decide +kernel)⟩
theorem lw_p6 : lw_okq (⟨"ExtrasOffice$AskReader", "readAny", "(I)Z"⟩, 2) := ⟨⟨by decide +kernel, by decide +kernel⟩, List.mem_of_getElem? (i := 115) (by decide +kernel), List.mem_of_getElem? (i := 565) (by decide +kernel), List.mem_of_getElem? (i := 566) (by decide +kernel)⟩
theorem lw_p7 : lw_okq (⟨"ExtrasOffice$AskReader", "readOne", "(I)Z"⟩, 2) := ⟨⟨by decide +kernel, by decide +kernel⟩, List.mem_of_getElem? (i := 115) (by decide +kernel), List.mem_of_getElem? (i := 569) (by decide +kernel), List.mem_of_getElem? (i := 570) (by decide +kernel)⟩
theorem lw_p8 : lw_okq (⟨"ExtrasOffice$AskReader", "readMark", "()Z"⟩, 2) := ⟨⟨by decide +kernel, by decide +kernel⟩, List.mem_of_getElem? (i := 115) (by decide +kernel), List.mem_of_getElem? (i := 575) (by decide +kernel), List.mem_of_getElem? (i := 576) (by decide +kernel)⟩
theorem lw_p9 : lw_okq (⟨"ExtrasOffice$AskReader", "markHere", "()I"⟩, 2) := ⟨⟨by decide +kernel, by decide +kernel⟩, List.mem_of_getElem? (i := 115) (by decide +kernel), List.mem_of_getElem? (i := 579) (by decide +kernel), List.mem_of_getElem? (i := 580) (by decide +kernel)⟩
theorem lw_p10 : lw_okq (⟨"ExtrasOffice$Plan", "dismissAll", "()V"⟩, 4) := ⟨⟨by decide +kernel, by decide +kernel⟩, List.mem_of_getElem? (i := 148) (by decide +kernel), List.mem_of_getElem? (i := 613) (by decide +kernel), List.mem_of_getElem? (i := 614) (by decide +kernel)⟩
theorem lw_p11 : lw_okq (⟨"ExtrasOffice$Plan", "lookWhoIsOpen", "(I)V"⟩, 4) := ⟨⟨by decide +kernel, by decide +kernel⟩, List.mem_of_getElem? (i := 148) (by decide +kernel), List.mem_of_getElem? (i := 737) (by decide +kernel), List.mem_of_getElem? (i := 738) (by decide +kernel)⟩
theorem lw_p12 : lw_okq (⟨"ExtrasOffice$Plan", "seat", "(LExtrasOffice$Person;I)V"⟩, 4) := ⟨⟨by decide +kernel, by decide +kernel⟩, List.mem_of_getElem? (i := 148) (by decide +kernel), List.mem_of_getElem? (i := 742) (by decide +kernel), List.mem_of_getElem? (i := 743) (by decide +kernel)⟩
theorem lw_p13 : lw_okq (⟨"ExtrasOffice$Plan", "seatElsewhere", "(LExtrasOffice$Person;II)Z"⟩, 4) := ⟨⟨by decide +kernel, by decide +kernel⟩, List.mem_of_getElem? (i := 148) (by decide +kernel), List.mem_of_getElem? (i := 746) (by decide +kernel), List.mem_of_getElem? (i := 747) (by decide +kernel)⟩
theorem lw_p14 : lw_okq (⟨"ExtrasOffice$Plan", "makeRoom", "(LExtrasOffice$Ask;II)Z"⟩, 4) := ⟨⟨by decide +kernel, by decide +kernel⟩, List.mem_of_getElem? (i := 148) (by decide +kernel), List.mem_of_getElem? (i := 754) (by decide +kernel), List.mem_of_getElem? (i := 755) (by decide +kernel)⟩
theorem lw_p15 : lw_okq (⟨"ExtrasOffice$Plan", "seatAllInLeast", "()V"⟩, 4) := ⟨⟨by decide +kernel, by decide +kernel⟩, List.mem_of_getElem? (i := 148) (by decide +kernel), List.mem_of_getElem? (i := 758) (by decide +kernel), List.mem_of_getElem? (i := 759) (by decide +kernel)⟩
def lw_privs_1 : List (MethodName × Nat) := [(⟨"java/util/ArrayList", "add", "(Ljava/lang/Object;[Ljava/lang/Object;I)V"⟩, 3), (⟨"java/util/ArrayList", "grow", "()[Ljava/lang/Object;"⟩, 3), (⟨"java/util/ArrayList", "grow", "(I)[Ljava/lang/Object;"⟩, 3), (⟨"ExtrasOffice", "find", "(I)LExtrasOffice$Person;"⟩, 11), (⟨"ExtrasOffice", "addBytes", "(I)V"⟩, 11), (⟨"ExtrasOffice$AskReader", "readHead", "(LExtrasOffice$Ask;)Z"⟩, 2), (⟨"ExtrasOffice$AskReader", "readAny", "(I)Z"⟩, 2), (⟨"ExtrasOffice$AskReader", "readOne", "(I)Z"⟩, 2), (⟨"ExtrasOffice$AskReader", "readMark", "()Z"⟩, 2), (⟨"ExtrasOffice$AskReader", "markHere", "()I"⟩, 2), (⟨"ExtrasOffice$Plan", "dismissAll", "()V"⟩, 4), (⟨"ExtrasOffice$Plan", "lookWhoIsOpen", "(I)V"⟩, 4), (⟨"ExtrasOffice$Plan", "seat", "(LExtrasOffice$Person;I)V"⟩, 4), (⟨"ExtrasOffice$Plan", "seatElsewhere", "(LExtrasOffice$Person;II)Z"⟩, 4), (⟨"ExtrasOffice$Plan", "makeRoom", "(LExtrasOffice$Ask;II)Z"⟩, 4), (⟨"ExtrasOffice$Plan", "seatAllInLeast", "()V"⟩, 4)]
theorem lw_r1 : ∀ q ∈ lw_privs_1, lw_okq q := List.forall_mem_cons.mpr ⟨lw_p0, List.forall_mem_cons.mpr ⟨lw_p1, List.forall_mem_cons.mpr ⟨lw_p2, List.forall_mem_cons.mpr ⟨lw_p3, List.forall_mem_cons.mpr ⟨lw_p4, List.forall_mem_cons.mpr ⟨lw_p5, List.forall_mem_cons.mpr ⟨lw_p6, List.forall_mem_cons.mpr ⟨lw_p7, List.forall_mem_cons.mpr ⟨lw_p8, List.forall_mem_cons.mpr ⟨lw_p9, List.forall_mem_cons.mpr ⟨lw_p10, List.forall_mem_cons.mpr ⟨lw_p11, List.forall_mem_cons.mpr ⟨lw_p12, List.forall_mem_cons.mpr ⟨lw_p13, List.forall_mem_cons.mpr ⟨lw_p14, List.forall_mem_cons.mpr ⟨lw_p15, fun _ h => absurd h List.not_mem_nil⟩⟩⟩⟩⟩⟩⟩⟩⟩⟩⟩⟩⟩⟩⟩⟩
theorem lw_p16 : lw_okq (⟨"ExtrasOffice$Plan", "measureRows", "()V"⟩, 4) := ⟨⟨by decide +kernel, by decide +kernel⟩, List.mem_of_getElem? (i := 148) (by decide +kernel), List.mem_of_getElem? (i := 779) (by decide +kernel), List.mem_of_getElem? (i := 780) (by decide +kernel)⟩
theorem lw_p17 : lw_okq (⟨"ExtrasOffice$Plan", "firstOfRow", "(LExtrasOffice$Ask;I)LExtrasOffice$Person;"⟩, 4) := ⟨⟨by decide +kernel, by decide +kernel⟩, List.mem_of_getElem? (i := 148) (by decide +kernel), List.mem_of_getElem? (i := 783) (by decide +kernel), List.mem_of_getElem? (i := 784) (by decide +kernel)⟩
theorem lw_p18 : lw_okq (⟨"ExtrasOffice$Dressing", "queue", "(LExtrasOffice$Turn;)V"⟩, 3) := ⟨⟨by decide +kernel, by decide +kernel⟩, List.mem_of_getElem? (i := 173) (by decide +kernel), List.mem_of_getElem? (i := 855) (by decide +kernel), List.mem_of_getElem? (i := 856) (by decide +kernel)⟩
theorem lw_p19 : lw_okq (⟨"java/util/ArrayList", "rangeCheckForAdd", "(I)V"⟩, 3) := ⟨⟨by decide +kernel, by decide +kernel⟩, List.mem_of_getElem? (i := 39) (by decide +kernel), List.mem_of_getElem? (i := 863) (by decide +kernel), List.mem_of_getElem? (i := 864) (by decide +kernel)⟩
theorem lw_p20 : lw_okq (⟨"ExtrasOffice$Dressing", "firstFree", "(I)I"⟩, 3) := ⟨⟨by decide +kernel, by decide +kernel⟩, List.mem_of_getElem? (i := 173) (by decide +kernel), List.mem_of_getElem? (i := 872) (by decide +kernel), List.mem_of_getElem? (i := 873) (by decide +kernel)⟩
theorem lw_p21 : lw_okq (⟨"ExtrasOffice", "sendAll", "()I"⟩, 11) := ⟨⟨by decide +kernel, by decide +kernel⟩, List.mem_of_getElem? (i := 31) (by decide +kernel), List.mem_of_getElem? (i := 877) (by decide +kernel), List.mem_of_getElem? (i := 878) (by decide +kernel)⟩
theorem lw_p22 : lw_okq (⟨"ExtrasOffice", "findRecord", "(II)LExtrasOffice$Turn;"⟩, 11) := ⟨⟨by decide +kernel, by decide +kernel⟩, List.mem_of_getElem? (i := 31) (by decide +kernel), List.mem_of_getElem? (i := 896) (by decide +kernel), List.mem_of_getElem? (i := 897) (by decide +kernel)⟩
theorem lw_p23 : lw_okq (⟨"ExtrasOffice$Term", "quarters", "(I)I"⟩, 4) := ⟨⟨by decide +kernel, by decide +kernel⟩, List.mem_of_getElem? (i := 651) (by decide +kernel), List.mem_of_getElem? (i := 918) (by decide +kernel), List.mem_of_getElem? (i := 919) (by decide +kernel)⟩
theorem lw_p24 : lw_okq (⟨"java/lang/Throwable", "fillInStackTrace", "(I)Ljava/lang/Throwable;"⟩, 6) := ⟨⟨by decide +kernel, by decide +kernel⟩, List.mem_of_getElem? (i := 1015) (by decide +kernel), List.mem_of_getElem? (i := 1013) (by decide +kernel), List.mem_of_getElem? (i := 1014) (by decide +kernel)⟩
theorem lw_p25 : lw_okq (⟨"ExtrasOfficeModel", "isPerson", "(I)Z"⟩, 68) := ⟨⟨by decide +kernel, by decide +kernel⟩, List.mem_of_getElem? (i := 1053) (by decide +kernel), List.mem_of_getElem? (i := 1277) (by decide +kernel), List.mem_of_getElem? (i := 1278) (by decide +kernel)⟩
theorem lw_p26 : lw_okq (⟨"ExtrasOfficeModel", "fact", "(II)I"⟩, 68) := ⟨⟨by decide +kernel, by decide +kernel⟩, List.mem_of_getElem? (i := 1053) (by decide +kernel), List.mem_of_getElem? (i := 1289) (by decide +kernel), List.mem_of_getElem? (i := 1290) (by decide +kernel)⟩
theorem lw_p27 : lw_okq (⟨"ExtrasOfficeModel", "times", "(III)I"⟩, 68) := ⟨⟨by decide +kernel, by decide +kernel⟩, List.mem_of_getElem? (i := 1053) (by decide +kernel), List.mem_of_getElem? (i := 1297) (by decide +kernel), List.mem_of_getElem? (i := 1298) (by decide +kernel)⟩
theorem lw_p28 : lw_okq (⟨"ExtrasOfficeModel", "starts", "([BII)V"⟩, 68) := ⟨⟨by decide +kernel, by decide +kernel⟩, List.mem_of_getElem? (i := 1053) (by decide +kernel), List.mem_of_getElem? (i := 1313) (by decide +kernel), List.mem_of_getElem? (i := 1314) (by decide +kernel)⟩
theorem lw_p29 : lw_okq (⟨"ExtrasOfficeModel", "next", "()V"⟩, 68) := ⟨⟨by decide +kernel, by decide +kernel⟩, List.mem_of_getElem? (i := 1053) (by decide +kernel), List.mem_of_getElem? (i := 1317) (by decide +kernel), List.mem_of_getElem? (i := 1318) (by decide +kernel)⟩
theorem lw_p30 : lw_okq (⟨"ExtrasOfficeModel", "see", "(I)I"⟩, 68) := ⟨⟨by decide +kernel, by decide +kernel⟩, List.mem_of_getElem? (i := 1053) (by decide +kernel), List.mem_of_getElem? (i := 1324) (by decide +kernel), List.mem_of_getElem? (i := 1325) (by decide +kernel)⟩
theorem lw_p31 : lw_okq (⟨"ExtrasOfficeModel", "readAsk", "()V"⟩, 68) := ⟨⟨by decide +kernel, by decide +kernel⟩, List.mem_of_getElem? (i := 1053) (by decide +kernel), List.mem_of_getElem? (i := 1331) (by decide +kernel), List.mem_of_getElem? (i := 1332) (by decide +kernel)⟩
def lw_privs_2 : List (MethodName × Nat) := [(⟨"ExtrasOffice$Plan", "measureRows", "()V"⟩, 4), (⟨"ExtrasOffice$Plan", "firstOfRow", "(LExtrasOffice$Ask;I)LExtrasOffice$Person;"⟩, 4), (⟨"ExtrasOffice$Dressing", "queue", "(LExtrasOffice$Turn;)V"⟩, 3), (⟨"java/util/ArrayList", "rangeCheckForAdd", "(I)V"⟩, 3), (⟨"ExtrasOffice$Dressing", "firstFree", "(I)I"⟩, 3), (⟨"ExtrasOffice", "sendAll", "()I"⟩, 11), (⟨"ExtrasOffice", "findRecord", "(II)LExtrasOffice$Turn;"⟩, 11), (⟨"ExtrasOffice$Term", "quarters", "(I)I"⟩, 4), (⟨"java/lang/Throwable", "fillInStackTrace", "(I)Ljava/lang/Throwable;"⟩, 6), (⟨"ExtrasOfficeModel", "isPerson", "(I)Z"⟩, 68), (⟨"ExtrasOfficeModel", "fact", "(II)I"⟩, 68), (⟨"ExtrasOfficeModel", "times", "(III)I"⟩, 68), (⟨"ExtrasOfficeModel", "starts", "([BII)V"⟩, 68), (⟨"ExtrasOfficeModel", "next", "()V"⟩, 68), (⟨"ExtrasOfficeModel", "see", "(I)I"⟩, 68), (⟨"ExtrasOfficeModel", "readAsk", "()V"⟩, 68)]
theorem lw_r2 : ∀ q ∈ lw_privs_2, lw_okq q := List.forall_mem_cons.mpr ⟨lw_p16, List.forall_mem_cons.mpr ⟨lw_p17, List.forall_mem_cons.mpr ⟨lw_p18, List.forall_mem_cons.mpr ⟨lw_p19, List.forall_mem_cons.mpr ⟨lw_p20, List.forall_mem_cons.mpr ⟨lw_p21, List.forall_mem_cons.mpr ⟨lw_p22, List.forall_mem_cons.mpr ⟨lw_p23, List.forall_mem_cons.mpr ⟨lw_p24, List.forall_mem_cons.mpr ⟨lw_p25, List.forall_mem_cons.mpr ⟨lw_p26, List.forall_mem_cons.mpr ⟨lw_p27, List.forall_mem_cons.mpr ⟨lw_p28, List.forall_mem_cons.mpr ⟨lw_p29, List.forall_mem_cons.mpr ⟨lw_p30, List.forall_mem_cons.mpr ⟨lw_p31, fun _ h => absurd h List.not_mem_nil⟩⟩⟩⟩⟩⟩⟩⟩⟩⟩⟩⟩⟩⟩⟩⟩
theorem lw_p32 : lw_okq (⟨"ExtrasOfficeModel", "isWord", "(Ljava/lang/String;)Z"⟩, 68) := ⟨⟨by decide +kernel, by decide +kernel⟩, List.mem_of_getElem? (i := 1053) (by decide +kernel), List.mem_of_getElem? (i := 1336) (by decide +kernel), List.mem_of_getElem? (i := 1337) (by decide +kernel)⟩
theorem lw_p33 : lw_okq (⟨"ExtrasOfficeModel", "fails", "(I)V"⟩, 68) := ⟨⟨by decide +kernel, by decide +kernel⟩, List.mem_of_getElem? (i := 1053) (by decide +kernel), List.mem_of_getElem? (i := 1342) (by decide +kernel), List.mem_of_getElem? (i := 1343) (by decide +kernel)⟩
theorem lw_p34 : lw_okq (⟨"ExtrasOfficeModel", "number", "(II)I"⟩, 68) := ⟨⟨by decide +kernel, by decide +kernel⟩, List.mem_of_getElem? (i := 1053) (by decide +kernel), List.mem_of_getElem? (i := 1346) (by decide +kernel), List.mem_of_getElem? (i := 1347) (by decide +kernel)⟩
theorem lw_p35 : lw_okq (⟨"ExtrasOfficeModel", "wants", "(Ljava/lang/String;)V"⟩, 68) := ⟨⟨by decide +kernel, by decide +kernel⟩, List.mem_of_getElem? (i := 1053) (by decide +kernel), List.mem_of_getElem? (i := 1351) (by decide +kernel), List.mem_of_getElem? (i := 1352) (by decide +kernel)⟩
theorem lw_p36 : lw_okq (⟨"ExtrasOfficeModel", "is", "(I)Z"⟩, 68) := ⟨⟨by decide +kernel, by decide +kernel⟩, List.mem_of_getElem? (i := 1053) (by decide +kernel), List.mem_of_getElem? (i := 1357) (by decide +kernel), List.mem_of_getElem? (i := 1358) (by decide +kernel)⟩
theorem lw_p37 : lw_okq (⟨"ExtrasOfficeModel", "either", "(I)Z"⟩, 68) := ⟨⟨by decide +kernel, by decide +kernel⟩, List.mem_of_getElem? (i := 1053) (by decide +kernel), List.mem_of_getElem? (i := 1361) (by decide +kernel), List.mem_of_getElem? (i := 1362) (by decide +kernel)⟩
theorem lw_p38 : lw_okq (⟨"ExtrasOfficeModel", "all", "(I)Z"⟩, 68) := ⟨⟨by decide +kernel, by decide +kernel⟩, List.mem_of_getElem? (i := 1053) (by decide +kernel), List.mem_of_getElem? (i := 1365) (by decide +kernel), List.mem_of_getElem? (i := 1366) (by decide +kernel)⟩
theorem lw_p39 : lw_okq (⟨"ExtrasOfficeModel", "one", "(I)Z"⟩, 68) := ⟨⟨by decide +kernel, by decide +kernel⟩, List.mem_of_getElem? (i := 1053) (by decide +kernel), List.mem_of_getElem? (i := 1369) (by decide +kernel), List.mem_of_getElem? (i := 1370) (by decide +kernel)⟩
theorem lw_p40 : lw_okq (⟨"ExtrasOfficeModel", "wants", "(I)V"⟩, 68) := ⟨⟨by decide +kernel, by decide +kernel⟩, List.mem_of_getElem? (i := 1053) (by decide +kernel), List.mem_of_getElem? (i := 1374) (by decide +kernel), List.mem_of_getElem? (i := 1375) (by decide +kernel)⟩
theorem lw_p41 : lw_okq (⟨"ExtrasOfficeModel", "nobody", "()V"⟩, 68) := ⟨⟨by decide +kernel, by decide +kernel⟩, List.mem_of_getElem? (i := 1053) (by decide +kernel), List.mem_of_getElem? (i := 1387) (by decide +kernel), List.mem_of_getElem? (i := 1388) (by decide +kernel)⟩
theorem lw_p42 : lw_okq (⟨"ExtrasOfficeModel", "isAsk", "(I)Z"⟩, 68) := ⟨⟨by decide +kernel, by decide +kernel⟩, List.mem_of_getElem? (i := 1053) (by decide +kernel), List.mem_of_getElem? (i := 1399) (by decide +kernel), List.mem_of_getElem? (i := 1400) (by decide +kernel)⟩
theorem lw_p43 : lw_okq (⟨"ExtrasOfficeModel", "doesFit", "(II)Z"⟩, 68) := ⟨⟨by decide +kernel, by decide +kernel⟩, List.mem_of_getElem? (i := 1053) (by decide +kernel), List.mem_of_getElem? (i := 1403) (by decide +kernel), List.mem_of_getElem? (i := 1404) (by decide +kernel)⟩
theorem lw_p44 : lw_okq (⟨"ExtrasOfficeModel", "canBe", "(II)Z"⟩, 68) := ⟨⟨by decide +kernel, by decide +kernel⟩, List.mem_of_getElem? (i := 1053) (by decide +kernel), List.mem_of_getElem? (i := 1407) (by decide +kernel), List.mem_of_getElem? (i := 1408) (by decide +kernel)⟩
theorem lw_p45 : lw_okq (⟨"ExtrasOfficeModel", "calledIn", "(I)I"⟩, 68) := ⟨⟨by decide +kernel, by decide +kernel⟩, List.mem_of_getElem? (i := 1053) (by decide +kernel), List.mem_of_getElem? (i := 1415) (by decide +kernel), List.mem_of_getElem? (i := 1416) (by decide +kernel)⟩
theorem lw_p46 : lw_okq (⟨"ExtrasOfficeModel", "reckons", "()V"⟩, 68) := ⟨⟨by decide +kernel, by decide +kernel⟩, List.mem_of_getElem? (i := 1053) (by decide +kernel), List.mem_of_getElem? (i := 1423) (by decide +kernel), List.mem_of_getElem? (i := 1424) (by decide +kernel)⟩
theorem lw_p47 : lw_okq (⟨"ExtrasOfficeModel", "first", "()I"⟩, 68) := ⟨⟨by decide +kernel, by decide +kernel⟩, List.mem_of_getElem? (i := 1053) (by decide +kernel), List.mem_of_getElem? (i := 1427) (by decide +kernel), List.mem_of_getElem? (i := 1428) (by decide +kernel)⟩
def lw_privs_3 : List (MethodName × Nat) := [(⟨"ExtrasOfficeModel", "isWord", "(Ljava/lang/String;)Z"⟩, 68), (⟨"ExtrasOfficeModel", "fails", "(I)V"⟩, 68), (⟨"ExtrasOfficeModel", "number", "(II)I"⟩, 68), (⟨"ExtrasOfficeModel", "wants", "(Ljava/lang/String;)V"⟩, 68), (⟨"ExtrasOfficeModel", "is", "(I)Z"⟩, 68), (⟨"ExtrasOfficeModel", "either", "(I)Z"⟩, 68), (⟨"ExtrasOfficeModel", "all", "(I)Z"⟩, 68), (⟨"ExtrasOfficeModel", "one", "(I)Z"⟩, 68), (⟨"ExtrasOfficeModel", "wants", "(I)V"⟩, 68), (⟨"ExtrasOfficeModel", "nobody", "()V"⟩, 68), (⟨"ExtrasOfficeModel", "isAsk", "(I)Z"⟩, 68), (⟨"ExtrasOfficeModel", "doesFit", "(II)Z"⟩, 68), (⟨"ExtrasOfficeModel", "canBe", "(II)Z"⟩, 68), (⟨"ExtrasOfficeModel", "calledIn", "(I)I"⟩, 68), (⟨"ExtrasOfficeModel", "reckons", "()V"⟩, 68), (⟨"ExtrasOfficeModel", "first", "()I"⟩, 68)]
theorem lw_r3 : ∀ q ∈ lw_privs_3, lw_okq q := List.forall_mem_cons.mpr ⟨lw_p32, List.forall_mem_cons.mpr ⟨lw_p33, List.forall_mem_cons.mpr ⟨lw_p34, List.forall_mem_cons.mpr ⟨lw_p35, List.forall_mem_cons.mpr ⟨lw_p36, List.forall_mem_cons.mpr ⟨lw_p37, List.forall_mem_cons.mpr ⟨lw_p38, List.forall_mem_cons.mpr ⟨lw_p39, List.forall_mem_cons.mpr ⟨lw_p40, List.forall_mem_cons.mpr ⟨lw_p41, List.forall_mem_cons.mpr ⟨lw_p42, List.forall_mem_cons.mpr ⟨lw_p43, List.forall_mem_cons.mpr ⟨lw_p44, List.forall_mem_cons.mpr ⟨lw_p45, List.forall_mem_cons.mpr ⟨lw_p46, List.forall_mem_cons.mpr ⟨lw_p47, fun _ h => absurd h List.not_mem_nil⟩⟩⟩⟩⟩⟩⟩⟩⟩⟩⟩⟩⟩⟩⟩⟩
theorem lw_p48 : lw_okq (⟨"ExtrasOfficeModel", "isRoom", "()Z"⟩, 68) := ⟨⟨by decide +kernel, by decide +kernel⟩, List.mem_of_getElem? (i := 1053) (by decide +kernel), List.mem_of_getElem? (i := 1431) (by decide +kernel), List.mem_of_getElem? (i := 1432) (by decide +kernel)⟩
theorem lw_p49 : lw_okq (⟨"ExtrasOfficeModel", "mends", "(IIII)Z"⟩, 68) := ⟨⟨by decide +kernel, by decide +kernel⟩, List.mem_of_getElem? (i := 1053) (by decide +kernel), List.mem_of_getElem? (i := 1443) (by decide +kernel), List.mem_of_getElem? (i := 1444) (by decide +kernel)⟩
theorem lw_p50 : lw_okq (⟨"ExtrasOfficeModel", "readTerm", "()V"⟩, 68) := ⟨⟨by decide +kernel, by decide +kernel⟩, List.mem_of_getElem? (i := 1053) (by decide +kernel), List.mem_of_getElem? (i := 1455) (by decide +kernel), List.mem_of_getElem? (i := 1456) (by decide +kernel)⟩
theorem lw_p51 : lw_okq (⟨"ExtrasOfficeModel", "dresses", "(I)V"⟩, 68) := ⟨⟨by decide +kernel, by decide +kernel⟩, List.mem_of_getElem? (i := 1053) (by decide +kernel), List.mem_of_getElem? (i := 1474) (by decide +kernel), List.mem_of_getElem? (i := 1475) (by decide +kernel)⟩
theorem lw_p52 : lw_okq (⟨"ExtrasOfficeModel", "nextComing", "()I"⟩, 68) := ⟨⟨by decide +kernel, by decide +kernel⟩, List.mem_of_getElem? (i := 1053) (by decide +kernel), List.mem_of_getElem? (i := 1478) (by decide +kernel), List.mem_of_getElem? (i := 1479) (by decide +kernel)⟩
theorem lw_p53 : lw_okq (⟨"ExtrasOfficeModel", "isRecord", "(II)Z"⟩, 68) := ⟨⟨by decide +kernel, by decide +kernel⟩, List.mem_of_getElem? (i := 1053) (by decide +kernel), List.mem_of_getElem? (i := 1487) (by decide +kernel), List.mem_of_getElem? (i := 1488) (by decide +kernel)⟩
theorem lw_p54 : lw_okq (⟨"ExtrasOfficeModel", "worth", "(III)I"⟩, 68) := ⟨⟨by decide +kernel, by decide +kernel⟩, List.mem_of_getElem? (i := 1053) (by decide +kernel), List.mem_of_getElem? (i := 1491) (by decide +kernel), List.mem_of_getElem? (i := 1492) (by decide +kernel)⟩
theorem lw_p55 : lw_okq (⟨"ExtrasOfficeModel", "allCalled", "()I"⟩, 68) := ⟨⟨by decide +kernel, by decide +kernel⟩, List.mem_of_getElem? (i := 1053) (by decide +kernel), List.mem_of_getElem? (i := 1518) (by decide +kernel), List.mem_of_getElem? (i := 1519) (by decide +kernel)⟩
def lw_privs_4 : List (MethodName × Nat) := [(⟨"ExtrasOfficeModel", "isRoom", "()Z"⟩, 68), (⟨"ExtrasOfficeModel", "mends", "(IIII)Z"⟩, 68), (⟨"ExtrasOfficeModel", "readTerm", "()V"⟩, 68), (⟨"ExtrasOfficeModel", "dresses", "(I)V"⟩, 68), (⟨"ExtrasOfficeModel", "nextComing", "()I"⟩, 68), (⟨"ExtrasOfficeModel", "isRecord", "(II)Z"⟩, 68), (⟨"ExtrasOfficeModel", "worth", "(III)I"⟩, 68), (⟨"ExtrasOfficeModel", "allCalled", "()I"⟩, 68)]
theorem lw_r4 : ∀ q ∈ lw_privs_4, lw_okq q := List.forall_mem_cons.mpr ⟨lw_p48, List.forall_mem_cons.mpr ⟨lw_p49, List.forall_mem_cons.mpr ⟨lw_p50, List.forall_mem_cons.mpr ⟨lw_p51, List.forall_mem_cons.mpr ⟨lw_p52, List.forall_mem_cons.mpr ⟨lw_p53, List.forall_mem_cons.mpr ⟨lw_p54, List.forall_mem_cons.mpr ⟨lw_p55, fun _ h => absurd h List.not_mem_nil⟩⟩⟩⟩⟩⟩⟩⟩
def lw_privs : List (MethodName × Nat) := lw_privs_1 ++ (lw_privs_2 ++ (lw_privs_3 ++ (lw_privs_4)))
def lw_tbl : List Cond := k2_sels lw_privs ++ tables_1
theorem lw_privs_ok : ∀ q ∈ lw_privs, lw_okq q := by
  show ∀ q ∈ lw_privs_1 ++ (lw_privs_2 ++ (lw_privs_3 ++ (lw_privs_4))), lw_okq q
  exact List.forall_mem_append.mpr ⟨lw_r1, List.forall_mem_append.mpr ⟨lw_r2, List.forall_mem_append.mpr ⟨lw_r3, lw_r4⟩⟩⟩

def RX0 : String := "ExtrasOffice$Agreement"
def TX0 : u_T := fun k => match k with
  | 0 => ("ExtrasOffice$Agreement", "number", "I", true)
  | _ => ("ExtrasOffice$Agreement", "terms", "Ljava/util/ArrayList;", true)
def tyX0 : Nat → FieldType := fun k => match k with
  | 0 => .int
  | _ => .object "java/util/ArrayList"
abbrev wsX00 : List Cond := u_ws RX0 TX0 2
theorem nmX0 : ∀ a, a < 2 → ∀ b, b < 2 → a ≠ b → (TX0 a).2.1 ≠ (TX0 b).2.1 := by decide +kernel
theorem tyX0_ok : ∀ k, k < 2 → parseFieldDescriptor (TX0 k).2.2.1 = some (tyX0 k) := by decide +kernel
abbrev cX0_init : ByteArray := prog_2_method_1_code
def yX0_init : MethodName := ⟨RX0, "<init>", "(I)V"⟩
abbrev cX0_readFrom : ByteArray := prog_2_method_2_code
def yX0_readFrom : MethodName := ⟨RX0, "readFrom", "(LExtrasOffice$Tokens;)Z"⟩
abbrev cX0_worth : ByteArray := prog_2_method_3_code
def yX0_worth : MethodName := ⟨RX0, "worth", "(II)I"⟩
def RX1 : String := "ExtrasOffice$Ask"
def TX1 : u_T := fun k => match k with
  | 0 => ("ExtrasOffice$Ask", "number", "I", true)
  | 1 => ("ExtrasOffice$Ask", "scene", "I", false)
  | 2 => ("ExtrasOffice$Ask", "callAt", "I", false)
  | 3 => ("ExtrasOffice$Ask", "minutes", "I", false)
  | 4 => ("ExtrasOffice$Ask", "wants", "I", false)
  | 5 => ("ExtrasOffice$Ask", "steps", "[I", false)
  | 6 => ("ExtrasOffice$Ask", "held", "I", false)
  | 7 => ("ExtrasOffice$Ask", "begun", "I", false)
  | _ => ("ExtrasOffice$Ask", "rowLength", "I", false)
def tyX1 : Nat → FieldType := fun k => match k with
  | 0 => .int
  | 1 => .int
  | 2 => .int
  | 3 => .int
  | 4 => .int
  | 5 => .array .int
  | 6 => .int
  | 7 => .int
  | _ => .int
abbrev wsX10 : List Cond := u_ws RX1 TX1 9
theorem nmX1 : ∀ a, a < 9 → ∀ b, b < 9 → a ≠ b → (TX1 a).2.1 ≠ (TX1 b).2.1 := by decide +kernel
theorem tyX1_ok : ∀ k, k < 9 → parseFieldDescriptor (TX1 k).2.2.1 = some (tyX1 k) := by decide +kernel
abbrev cX1_init : ByteArray := prog_3_method_1_code
def yX1_init : MethodName := ⟨RX1, "<init>", "(I)V"⟩
abbrev cX1_highest : ByteArray := prog_3_method_2_code
def yX1_highest : MethodName := ⟨RX1, "highest", "(I)I"⟩
abbrev cX1_takeSteps : ByteArray := prog_3_method_3_code
def yX1_takeSteps : MethodName := ⟨RX1, "takeSteps", "(LExtrasOffice$Row;)V"⟩
abbrev cX1_isOpenTo : ByteArray := prog_3_method_4_code
def yX1_isOpenTo : MethodName := ⟨RX1, "isOpenTo", "(LExtrasOffice$Person;I)Z"⟩
abbrev cX1_suits : ByteArray := prog_3_method_5_code
def yX1_suits : MethodName := ⟨RX1, "suits", "(LExtrasOffice$Person;)Z"⟩
abbrev cX1_holds : ByteArray := prog_3_method_6_code
def yX1_holds : MethodName := ⟨RX1, "holds", "(IILExtrasOffice$Person;)Z"⟩
abbrev cX1_answer : ByteArray := prog_3_method_7_code
def yX1_answer : MethodName := ⟨RX1, "answer", "(I)I"⟩
def RX2 : String := "ExtrasOffice$AskReader"
def TX2 : u_T := fun k => match k with
  | 0 => ("ExtrasOffice$AskReader", "tokens", "LExtrasOffice$Tokens;", true)
  | _ => ("ExtrasOffice$AskReader", "steps", "LExtrasOffice$Row;", true)
def tyX2 : Nat → FieldType := fun k => match k with
  | 0 => .object "ExtrasOffice$Tokens"
  | _ => .object "ExtrasOffice$Row"
abbrev wsX20 : List Cond := u_ws RX2 TX2 2
theorem nmX2 : ∀ a, a < 2 → ∀ b, b < 2 → a ≠ b → (TX2 a).2.1 ≠ (TX2 b).2.1 := by decide +kernel
theorem tyX2_ok : ∀ k, k < 2 → parseFieldDescriptor (TX2 k).2.2.1 = some (tyX2 k) := by decide +kernel
abbrev cX2_init : ByteArray := prog_4_method_1_code
def yX2_init : MethodName := ⟨RX2, "<init>", "(LExtrasOffice$Tokens;)V"⟩
abbrev cX2_read : ByteArray := prog_4_method_2_code
def yX2_read : MethodName := ⟨RX2, "read", "()Ljava/util/ArrayList;"⟩
abbrev cX2_readHead : ByteArray := prog_4_method_3_code
def yX2_readHead : MethodName := ⟨RX2, "readHead", "(LExtrasOffice$Ask;)Z"⟩
abbrev cX2_readAny : ByteArray := prog_4_method_4_code
def yX2_readAny : MethodName := ⟨RX2, "readAny", "(I)Z"⟩
abbrev cX2_readOne : ByteArray := prog_4_method_5_code
def yX2_readOne : MethodName := ⟨RX2, "readOne", "(I)Z"⟩
abbrev cX2_readMark : ByteArray := prog_4_method_6_code
def yX2_readMark : MethodName := ⟨RX2, "readMark", "()Z"⟩
abbrev cX2_markHere : ByteArray := prog_4_method_7_code
def yX2_markHere : MethodName := ⟨RX2, "markHere", "()I"⟩
def RX3 : String := "ExtrasOffice$Dressing"
def TX3 : u_T := fun k => match k with
  | 0 => ("ExtrasOffice$Dressing", "byNumber", "Ljava/util/ArrayList;", true)
  | 1 => ("ExtrasOffice$Dressing", "byComing", "Ljava/util/ArrayList;", true)
  | _ => ("ExtrasOffice$Dressing", "dresserFree", "[I", true)
def tyX3 : Nat → FieldType := fun k => match k with
  | 0 => .object "java/util/ArrayList"
  | 1 => .object "java/util/ArrayList"
  | _ => .array .int
abbrev wsX30 : List Cond := u_ws RX3 TX3 3
theorem nmX3 : ∀ a, a < 3 → ∀ b, b < 3 → a ≠ b → (TX3 a).2.1 ≠ (TX3 b).2.1 := by decide +kernel
theorem tyX3_ok : ∀ k, k < 3 → parseFieldDescriptor (TX3 k).2.2.1 = some (tyX3 k) := by decide +kernel
abbrev cX3_init : ByteArray := prog_5_method_1_code
def yX3_init : MethodName := ⟨RX3, "<init>", "()V"⟩
abbrev cX3_comeAll : ByteArray := prog_5_method_2_code
def yX3_comeAll : MethodName := ⟨RX3, "comeAll", "(Ljava/util/ArrayList;II)V"⟩
abbrev cX3_following : ByteArray := prog_5_method_3_code
def yX3_following : MethodName := ⟨RX3, "following", "(I)I"⟩
abbrev cX3_queue : ByteArray := prog_5_method_4_code
def yX3_queue : MethodName := ⟨RX3, "queue", "(LExtrasOffice$Turn;)V"⟩
abbrev cX3_dressAll : ByteArray := prog_5_method_5_code
def yX3_dressAll : MethodName := ⟨RX3, "dressAll", "(I)V"⟩
abbrev cX3_firstFree : ByteArray := prog_5_method_6_code
def yX3_firstFree : MethodName := ⟨RX3, "firstFree", "(I)I"⟩
def RX4 : String := "ExtrasOffice$Facts"
def TX4 : u_T := fun k => match k with
  | 0 => ("ExtrasOffice$Facts", "who", "LExtrasOffice$Row;", true)
  | 1 => ("ExtrasOffice$Facts", "where", "LExtrasOffice$Row;", true)
  | _ => ("ExtrasOffice$Facts", "told", "I", false)
def tyX4 : Nat → FieldType := fun k => match k with
  | 0 => .object "ExtrasOffice$Row"
  | 1 => .object "ExtrasOffice$Row"
  | _ => .int
abbrev wsX40 : List Cond := u_ws RX4 TX4 3
theorem nmX4 : ∀ a, a < 3 → ∀ b, b < 3 → a ≠ b → (TX4 a).2.1 ≠ (TX4 b).2.1 := by decide +kernel
theorem tyX4_ok : ∀ k, k < 3 → parseFieldDescriptor (TX4 k).2.2.1 = some (tyX4 k) := by decide +kernel
abbrev cX4_init : ByteArray := prog_6_method_1_code
def yX4_init : MethodName := ⟨RX4, "<init>", "()V"⟩
abbrev cX4_size : ByteArray := prog_6_method_2_code
def yX4_size : MethodName := ⟨RX4, "size", "()I"⟩
abbrev cX4_add : ByteArray := prog_6_method_3_code
def yX4_add : MethodName := ⟨RX4, "add", "(LExtrasOffice$Person;I)I"⟩
abbrev cX4_howOften : ByteArray := prog_6_method_4_code
def yX4_howOften : MethodName := ⟨RX4, "howOften", "(III)I"⟩
def RX5 : String := "ExtrasOffice$Person"
def TX5 : u_T := fun k => match k with
  | 0 => ("ExtrasOffice$Person", "number", "I", true)
  | 1 => ("ExtrasOffice$Person", "age", "I", true)
  | 2 => ("ExtrasOffice$Person", "tall", "I", true)
  | 3 => ("ExtrasOffice$Person", "looks", "I", true)
  | 4 => ("ExtrasOffice$Person", "home", "I", true)
  | 5 => ("ExtrasOffice$Person", "slow", "I", true)
  | 6 => ("ExtrasOffice$Person", "isAway", "Z", false)
  | 7 => ("ExtrasOffice$Person", "turns", "I", false)
  | 8 => ("ExtrasOffice$Person", "freeFrom", "I", false)
  | 9 => ("ExtrasOffice$Person", "scenes", "I", false)
  | 10 => ("ExtrasOffice$Person", "open", "I", false)
  | _ => ("ExtrasOffice$Person", "inAsk", "LExtrasOffice$Ask;", false)
def tyX5 : Nat → FieldType := fun k => match k with
  | 0 => .int
  | 1 => .int
  | 2 => .int
  | 3 => .int
  | 4 => .int
  | 5 => .int
  | 6 => .boolean
  | 7 => .int
  | 8 => .int
  | 9 => .int
  | 10 => .int
  | _ => .object "ExtrasOffice$Ask"
abbrev wsX50 : List Cond := u_ws RX5 TX5 12
theorem nmX5 : ∀ a, a < 12 → ∀ b, b < 12 → a ≠ b → (TX5 a).2.1 ≠ (TX5 b).2.1 := by decide +kernel
theorem tyX5_ok : ∀ k, k < 12 → parseFieldDescriptor (TX5 k).2.2.1 = some (tyX5 k) := by decide +kernel
abbrev cX5_init : ByteArray := prog_7_method_1_code
def yX5_init : MethodName := ⟨RX5, "<init>", "(IIIIII)V"⟩
abbrev cX5_wasIn : ByteArray := prog_7_method_2_code
def yX5_wasIn : MethodName := ⟨RX5, "wasIn", "(I)Z"⟩
abbrev cX5_canBeIn : ByteArray := prog_7_method_3_code
def yX5_canBeIn : MethodName := ⟨RX5, "canBeIn", "(LExtrasOffice$Ask;)Z"⟩
abbrev cX5_moveTo : ByteArray := prog_7_method_4_code
def yX5_moveTo : MethodName := ⟨RX5, "moveTo", "(LExtrasOffice$Ask;)V"⟩
abbrev cX5_answer : ByteArray := prog_7_method_5_code
def yX5_answer : MethodName := ⟨RX5, "answer", "(I)I"⟩
def RX6 : String := "ExtrasOffice$Plan"
def TX6 : u_T := fun k => match k with
  | 0 => ("ExtrasOffice$Plan", "asks", "Ljava/util/ArrayList;", false)
  | 1 => ("ExtrasOffice$Plan", "moves", "LExtrasOffice$Row;", true)
  | 2 => ("ExtrasOffice$Plan", "people", "Ljava/util/ArrayList;", true)
  | _ => ("ExtrasOffice$Plan", "tried", "I", false)
def tyX6 : Nat → FieldType := fun k => match k with
  | 0 => .object "java/util/ArrayList"
  | 1 => .object "ExtrasOffice$Row"
  | 2 => .object "java/util/ArrayList"
  | _ => .int
abbrev wsX60 : List Cond := u_ws RX6 TX6 4
theorem nmX6 : ∀ a, a < 4 → ∀ b, b < 4 → a ≠ b → (TX6 a).2.1 ≠ (TX6 b).2.1 := by decide +kernel
theorem tyX6_ok : ∀ k, k < 4 → parseFieldDescriptor (TX6 k).2.2.1 = some (tyX6 k) := by decide +kernel
abbrev cX6_init : ByteArray := prog_8_method_1_code
def yX6_init : MethodName := ⟨RX6, "<init>", "(Ljava/util/ArrayList;)V"⟩
abbrev cX6_find : ByteArray := prog_8_method_2_code
def yX6_find : MethodName := ⟨RX6, "find", "(I)LExtrasOffice$Ask;"⟩
abbrev cX6_size : ByteArray := prog_8_method_3_code
def yX6_size : MethodName := ⟨RX6, "size", "()I"⟩
abbrev cX6_startWith : ByteArray := prog_8_method_4_code
def yX6_startWith : MethodName := ⟨RX6, "startWith", "(Ljava/util/ArrayList;)V"⟩
abbrev cX6_dismissAll : ByteArray := prog_8_method_5_code
def yX6_dismissAll : MethodName := ⟨RX6, "dismissAll", "()V"⟩
abbrev cX6_lookWhoIsOpen : ByteArray := prog_8_method_6_code
def yX6_lookWhoIsOpen : MethodName := ⟨RX6, "lookWhoIsOpen", "(I)V"⟩
abbrev cX6_layFor : ByteArray := prog_8_method_7_code
def yX6_layFor : MethodName := ⟨RX6, "layFor", "(I)V"⟩
abbrev cX6_seatAllInLeast : ByteArray := prog_8_method_8_code
def yX6_seatAllInLeast : MethodName := ⟨RX6, "seatAllInLeast", "()V"⟩
abbrev cX6_seat : ByteArray := prog_8_method_9_code
def yX6_seat : MethodName := ⟨RX6, "seat", "(LExtrasOffice$Person;I)V"⟩
abbrev cX6_seatElsewhere : ByteArray := prog_8_method_10_code
def yX6_seatElsewhere : MethodName := ⟨RX6, "seatElsewhere", "(LExtrasOffice$Person;II)Z"⟩
abbrev cX6_makeRoom : ByteArray := prog_8_method_11_code
def yX6_makeRoom : MethodName := ⟨RX6, "makeRoom", "(LExtrasOffice$Ask;II)Z"⟩
abbrev cX6_mend : ByteArray := prog_8_method_12_code
def yX6_mend : MethodName := ⟨RX6, "mend", "(LExtrasOffice$Ask;I)V"⟩
abbrev cX6_measureRows : ByteArray := prog_8_method_13_code
def yX6_measureRows : MethodName := ⟨RX6, "measureRows", "()V"⟩
abbrev cX6_firstOfRow : ByteArray := prog_8_method_14_code
def yX6_firstOfRow : MethodName := ⟨RX6, "firstOfRow", "(LExtrasOffice$Ask;I)LExtrasOffice$Person;"⟩
def RX7 : String := "ExtrasOffice$Row"
def TX7 : u_T := fun k => match k with
  | 0 => ("ExtrasOffice$Row", "numbers", "[I", true)
  | _ => ("ExtrasOffice$Row", "size", "I", false)
def tyX7 : Nat → FieldType := fun k => match k with
  | 0 => .array .int
  | _ => .int
abbrev wsX70 : List Cond := u_ws RX7 TX7 2
theorem nmX7 : ∀ a, a < 2 → ∀ b, b < 2 → a ≠ b → (TX7 a).2.1 ≠ (TX7 b).2.1 := by decide +kernel
theorem tyX7_ok : ∀ k, k < 2 → parseFieldDescriptor (TX7 k).2.2.1 = some (tyX7 k) := by decide +kernel
abbrev cX7_init : ByteArray := prog_9_method_1_code
def yX7_init : MethodName := ⟨RX7, "<init>", "(I)V"⟩
abbrev cX7_add : ByteArray := prog_9_method_2_code
def yX7_add : MethodName := ⟨RX7, "add", "(I)V"⟩
abbrev cX7_at : ByteArray := prog_9_method_3_code
def yX7_at : MethodName := ⟨RX7, "at", "(I)I"⟩
def RX8 : String := "ExtrasOffice$Term"
def TX8 : u_T := fun k => match k with
  | 0 => ("ExtrasOffice$Term", "kind", "I", true)
  | 1 => ("ExtrasOffice$Term", "minute", "I", false)
  | 2 => ("ExtrasOffice$Term", "number", "I", false)
  | _ => ("ExtrasOffice$Term", "isUp", "Z", false)
def tyX8 : Nat → FieldType := fun k => match k with
  | 0 => .int
  | 1 => .int
  | 2 => .int
  | _ => .boolean
abbrev wsX80 : List Cond := u_ws RX8 TX8 4
theorem nmX8 : ∀ a, a < 4 → ∀ b, b < 4 → a ≠ b → (TX8 a).2.1 ≠ (TX8 b).2.1 := by decide +kernel
theorem tyX8_ok : ∀ k, k < 4 → parseFieldDescriptor (TX8 k).2.2.1 = some (tyX8 k) := by decide +kernel
abbrev cX8_init : ByteArray := prog_10_method_1_code
def yX8_init : MethodName := ⟨RX8, "<init>", "(I)V"⟩
abbrev cX8_kindAt : ByteArray := prog_10_method_2_code
def yX8_kindAt : MethodName := ⟨RX8, "kindAt", "(LExtrasOffice$Tokens;)I"⟩
abbrev cX8_readNumbers : ByteArray := prog_10_method_3_code
def yX8_readNumbers : MethodName := ⟨RX8, "readNumbers", "(LExtrasOffice$Tokens;)Z"⟩
abbrev cX8_worth : ByteArray := prog_10_method_4_code
def yX8_worth : MethodName := ⟨RX8, "worth", "(II)I"⟩
abbrev cX8_quarters : ByteArray := prog_10_method_5_code
def yX8_quarters : MethodName := ⟨RX8, "quarters", "(I)I"⟩
def RX9 : String := "ExtrasOffice$Tokens"
def TX9 : u_T := fun k => match k with
  | 0 => ("ExtrasOffice$Tokens", "fault", "I", false)
  | 1 => ("ExtrasOffice$Tokens", "faultPlace", "I", false)
  | 2 => ("ExtrasOffice$Tokens", "tape", "LExtrasOffice$Row;", true)
  | 3 => ("ExtrasOffice$Tokens", "kind", "I", false)
  | 4 => ("ExtrasOffice$Tokens", "start", "I", false)
  | 5 => ("ExtrasOffice$Tokens", "next", "I", false)
  | _ => ("ExtrasOffice$Tokens", "value", "I", false)
def tyX9 : Nat → FieldType := fun k => match k with
  | 0 => .int
  | 1 => .int
  | 2 => .object "ExtrasOffice$Row"
  | 3 => .int
  | 4 => .int
  | 5 => .int
  | _ => .int
abbrev wsX90 : List Cond := u_ws RX9 TX9 7
theorem nmX9 : ∀ a, a < 7 → ∀ b, b < 7 → a ≠ b → (TX9 a).2.1 ≠ (TX9 b).2.1 := by decide +kernel
theorem tyX9_ok : ∀ k, k < 7 → parseFieldDescriptor (TX9 k).2.2.1 = some (tyX9 k) := by decide +kernel
abbrev cX9_init : ByteArray := prog_11_method_1_code
def yX9_init : MethodName := ⟨RX9, "<init>", "(LExtrasOffice$Row;)V"⟩
abbrev cX9_begin : ByteArray := prog_11_method_2_code
def yX9_begin : MethodName := ⟨RX9, "begin", "()V"⟩
abbrev cX9_advance : ByteArray := prog_11_method_3_code
def yX9_advance : MethodName := ⟨RX9, "advance", "()V"⟩
abbrev cX9_kindOf : ByteArray := prog_11_method_4_code
def yX9_kindOf : MethodName := ⟨RX9, "kindOf", "(I)I"⟩
abbrev cX9_atEnd : ByteArray := prog_11_method_5_code
def yX9_atEnd : MethodName := ⟨RX9, "atEnd", "()Z"⟩
abbrev cX9_isWord : ByteArray := prog_11_method_6_code
def yX9_isWord : MethodName := ⟨RX9, "isWord", "(Ljava/lang/String;)Z"⟩
abbrev cX9_isSign : ByteArray := prog_11_method_7_code
def yX9_isSign : MethodName := ⟨RX9, "isSign", "(C)Z"⟩
abbrev cX9_passWord : ByteArray := prog_11_method_8_code
def yX9_passWord : MethodName := ⟨RX9, "passWord", "(Ljava/lang/String;)Z"⟩
abbrev cX9_passSign : ByteArray := prog_11_method_9_code
def yX9_passSign : MethodName := ⟨RX9, "passSign", "(C)Z"⟩
abbrev cX9_passNumber : ByteArray := prog_11_method_10_code
def yX9_passNumber : MethodName := ⟨RX9, "passNumber", "(II)I"⟩
abbrev cX9_passNumberAfter : ByteArray := prog_11_method_11_code
def yX9_passNumberAfter : MethodName := ⟨RX9, "passNumberAfter", "(Ljava/lang/String;II)I"⟩
abbrev cX9_fail : ByteArray := prog_11_method_12_code
def yX9_fail : MethodName := ⟨RX9, "fail", "(I)Z"⟩
def RX10 : String := "ExtrasOffice$Turn"
def TX10 : u_T := fun k => match k with
  | 0 => ("ExtrasOffice$Turn", "who", "LExtrasOffice$Person;", true)
  | 1 => ("ExtrasOffice$Turn", "day", "I", true)
  | 2 => ("ExtrasOffice$Turn", "ask", "LExtrasOffice$Ask;", true)
  | 3 => ("ExtrasOffice$Turn", "scene", "I", true)
  | 4 => ("ExtrasOffice$Turn", "coming", "I", false)
  | 5 => ("ExtrasOffice$Turn", "dressed", "I", false)
  | 6 => ("ExtrasOffice$Turn", "begun", "I", false)
  | 7 => ("ExtrasOffice$Turn", "sent", "I", false)
  | _ => ("ExtrasOffice$Turn", "agreement", "LExtrasOffice$Agreement;", false)
def tyX10 : Nat → FieldType := fun k => match k with
  | 0 => .object "ExtrasOffice$Person"
  | 1 => .int
  | 2 => .object "ExtrasOffice$Ask"
  | 3 => .int
  | 4 => .int
  | 5 => .int
  | 6 => .int
  | 7 => .int
  | _ => .object "ExtrasOffice$Agreement"
abbrev wsX100 : List Cond := u_ws RX10 TX10 9
theorem nmX10 : ∀ a, a < 9 → ∀ b, b < 9 → a ≠ b → (TX10 a).2.1 ≠ (TX10 b).2.1 := by decide +kernel
theorem tyX10_ok : ∀ k, k < 9 → parseFieldDescriptor (TX10 k).2.2.1 = some (tyX10 k) := by decide +kernel
abbrev cX10_init : ByteArray := prog_12_method_1_code
def yX10_init : MethodName := ⟨RX10, "<init>", "(LExtrasOffice$Person;ILExtrasOffice$Ask;)V"⟩
abbrev cX10_send : ByteArray := prog_12_method_2_code
def yX10_send : MethodName := ⟨RX10, "send", "(LExtrasOffice$Agreement;)V"⟩
abbrev cX10_earned : ByteArray := prog_12_method_3_code
def yX10_earned : MethodName := ⟨RX10, "earned", "()I"⟩
abbrev cX10_answer : ByteArray := prog_12_method_4_code
def yX10_answer : MethodName := ⟨RX10, "answer", "(I)I"⟩
def RX11 : String := "ExtrasOffice"
def TX11 : u_T := fun k => match k with
  | 0 => ("ExtrasOffice", "people", "Ljava/util/ArrayList;", true)
  | 1 => ("ExtrasOffice", "tape", "LExtrasOffice$Row;", true)
  | 2 => ("ExtrasOffice", "tokens", "LExtrasOffice$Tokens;", true)
  | 3 => ("ExtrasOffice", "askReader", "LExtrasOffice$AskReader;", true)
  | 4 => ("ExtrasOffice", "agreements", "Ljava/util/ArrayList;", true)
  | 5 => ("ExtrasOffice", "facts", "LExtrasOffice$Facts;", true)
  | 6 => ("ExtrasOffice", "plan", "LExtrasOffice$Plan;", true)
  | 7 => ("ExtrasOffice", "dressing", "LExtrasOffice$Dressing;", true)
  | 8 => ("ExtrasOffice", "records", "Ljava/util/ArrayList;", true)
  | 9 => ("ExtrasOffice", "lacking", "LExtrasOffice$Row;", true)
  | _ => ("ExtrasOffice", "day", "I", false)
def tyX11 : Nat → FieldType := fun k => match k with
  | 0 => .object "java/util/ArrayList"
  | 1 => .object "ExtrasOffice$Row"
  | 2 => .object "ExtrasOffice$Tokens"
  | 3 => .object "ExtrasOffice$AskReader"
  | 4 => .object "java/util/ArrayList"
  | 5 => .object "ExtrasOffice$Facts"
  | 6 => .object "ExtrasOffice$Plan"
  | 7 => .object "ExtrasOffice$Dressing"
  | 8 => .object "java/util/ArrayList"
  | 9 => .object "ExtrasOffice$Row"
  | _ => .int
abbrev wsX110 : List Cond := u_ws RX11 TX11 11
theorem nmX11 : ∀ a, a < 11 → ∀ b, b < 11 → a ≠ b → (TX11 a).2.1 ≠ (TX11 b).2.1 := by decide +kernel
theorem tyX11_ok : ∀ k, k < 11 → parseFieldDescriptor (TX11 k).2.2.1 = some (tyX11 k) := by decide +kernel
abbrev cX11_init : ByteArray := prog_1_method_1_code
def yX11_init : MethodName := ⟨RX11, "<init>", "()V"⟩
abbrev cX11_person : ByteArray := prog_1_method_2_code
def yX11_person : MethodName := ⟨RX11, "person", "(IIIII)I"⟩
abbrev cX11_away : ByteArray := prog_1_method_3_code
def yX11_away : MethodName := ⟨RX11, "away", "(IZ)Z"⟩
abbrev cX11_feed : ByteArray := prog_1_method_4_code
def yX11_feed : MethodName := ⟨RX11, "feed", "(IIIII)I"⟩
abbrev cX11_end : ByteArray := prog_1_method_5_code
def yX11_end : MethodName := ⟨RX11, "end", "(I)I"⟩
abbrev cX11_asks : ByteArray := prog_1_method_6_code
def yX11_asks : MethodName := ⟨RX11, "asks", "()I"⟩
abbrev cX11_agree : ByteArray := prog_1_method_7_code
def yX11_agree : MethodName := ⟨RX11, "agree", "()I"⟩
abbrev cX11_place : ByteArray := prog_1_method_8_code
def yX11_place : MethodName := ⟨RX11, "place", "()I"⟩
abbrev cX11_fits : ByteArray := prog_1_method_9_code
def yX11_fits : MethodName := ⟨RX11, "fits", "(III)I"⟩
abbrev cX11_lay : ByteArray := prog_1_method_10_code
def yX11_lay : MethodName := ⟨RX11, "lay", "()I"⟩
abbrev cX11_called : ByteArray := prog_1_method_11_code
def yX11_called : MethodName := ⟨RX11, "called", "(I)I"⟩
abbrev cX11_no : ByteArray := prog_1_method_12_code
def yX11_no : MethodName := ⟨RX11, "no", "(I)I"⟩
abbrev cX11_moved : ByteArray := prog_1_method_13_code
def yX11_moved : MethodName := ⟨RX11, "moved", "(I)I"⟩
abbrev cX11_step : ByteArray := prog_1_method_14_code
def yX11_step : MethodName := ⟨RX11, "step", "(II)I"⟩
abbrev cX11_record : ByteArray := prog_1_method_15_code
def yX11_record : MethodName := ⟨RX11, "record", "(III)I"⟩
abbrev cX11_tell : ByteArray := prog_1_method_16_code
def yX11_tell : MethodName := ⟨RX11, "tell", "(II)I"⟩
abbrev cX11_seen : ByteArray := prog_1_method_17_code
def yX11_seen : MethodName := ⟨RX11, "seen", "(III)I"⟩
abbrev cX11_retake : ByteArray := prog_1_method_18_code
def yX11_retake : MethodName := ⟨RX11, "retake", "(II)I"⟩
abbrev cX11_lacks : ByteArray := prog_1_method_19_code
def yX11_lacks : MethodName := ⟨RX11, "lacks", "(I)I"⟩
abbrev cX11_buses : ByteArray := prog_1_method_20_code
def yX11_buses : MethodName := ⟨RX11, "buses", "(II)I"⟩
abbrev cX11_ask : ByteArray := prog_1_method_21_code
def yX11_ask : MethodName := ⟨RX11, "ask", "(II)I"⟩
abbrev cX11_about : ByteArray := prog_1_method_22_code
def yX11_about : MethodName := ⟨RX11, "about", "(II)I"⟩
abbrev cX11_pay : ByteArray := prog_1_method_23_code
def yX11_pay : MethodName := ⟨RX11, "pay", "(III)J"⟩
abbrev cX11_count : ByteArray := prog_1_method_24_code
def yX11_count : MethodName := ⟨RX11, "count", "(I)I"⟩
abbrev cX11_within : ByteArray := prog_1_method_25_code
def yX11_within : MethodName := ⟨RX11, "within", "(III)Z"⟩
abbrev cX11_isScene : ByteArray := prog_1_method_26_code
def yX11_isScene : MethodName := ⟨RX11, "isScene", "(I)Z"⟩
abbrev cX11_find : ByteArray := prog_1_method_27_code
def yX11_find : MethodName := ⟨RX11, "find", "(I)LExtrasOffice$Person;"⟩
abbrev cX11_findRecord : ByteArray := prog_1_method_28_code
def yX11_findRecord : MethodName := ⟨RX11, "findRecord", "(II)LExtrasOffice$Turn;"⟩
abbrev cX11_addBytes : ByteArray := prog_1_method_29_code
def yX11_addBytes : MethodName := ⟨RX11, "addBytes", "(I)V"⟩
abbrev cX11_sendAll : ByteArray := prog_1_method_30_code
def yX11_sendAll : MethodName := ⟨RX11, "sendAll", "()I"⟩
def RX12 : String := "ExtrasOfficeModel"
def TX12 : u_T := fun k => match k with
  | 0 => ("ExtrasOfficeModel", "thrown", "I", false)
  | 1 => ("ExtrasOfficeModel", "people", "I", false)
  | 2 => ("ExtrasOfficeModel", "day", "I", false)
  | 3 => ("ExtrasOfficeModel", "age", "[I", true)
  | 4 => ("ExtrasOfficeModel", "tall", "[I", true)
  | 5 => ("ExtrasOfficeModel", "looks", "[I", true)
  | 6 => ("ExtrasOfficeModel", "home", "[I", true)
  | 7 => ("ExtrasOfficeModel", "slow", "[I", true)
  | 8 => ("ExtrasOfficeModel", "isAway", "[Z", true)
  | 9 => ("ExtrasOfficeModel", "turns", "[I", true)
  | 10 => ("ExtrasOfficeModel", "free", "[I", true)
  | 11 => ("ExtrasOfficeModel", "called", "[I", true)
  | 12 => ("ExtrasOfficeModel", "facts", "I", false)
  | 13 => ("ExtrasOfficeModel", "told", "I", false)
  | 14 => ("ExtrasOfficeModel", "factPerson", "[I", true)
  | 15 => ("ExtrasOfficeModel", "factScene", "[I", true)
  | 16 => ("ExtrasOfficeModel", "tape", "[B", true)
  | 17 => ("ExtrasOfficeModel", "taped", "I", false)
  | 18 => ("ExtrasOfficeModel", "row", "[B", false)
  | 19 => ("ExtrasOfficeModel", "size", "I", false)
  | 20 => ("ExtrasOfficeModel", "at", "I", false)
  | 21 => ("ExtrasOfficeModel", "place", "I", false)
  | 22 => ("ExtrasOfficeModel", "sort", "I", false)
  | 23 => ("ExtrasOfficeModel", "value", "I", false)
  | 24 => ("ExtrasOfficeModel", "fault", "I", false)
  | 25 => ("ExtrasOfficeModel", "faultPlace", "I", false)
  | 26 => ("ExtrasOfficeModel", "lastPlace", "I", false)
  | 27 => ("ExtrasOfficeModel", "reading", "Z", false)
  | 28 => ("ExtrasOfficeModel", "whose", "I", false)
  | 29 => ("ExtrasOfficeModel", "asks", "I", false)
  | 30 => ("ExtrasOfficeModel", "text", "[B", true)
  | 31 => ("ExtrasOfficeModel", "textSize", "I", false)
  | 32 => ("ExtrasOfficeModel", "scene", "[I", true)
  | 33 => ("ExtrasOfficeModel", "minute", "[I", true)
  | 34 => ("ExtrasOfficeModel", "takes", "[I", true)
  | 35 => ("ExtrasOfficeModel", "many", "[I", true)
  | 36 => ("ExtrasOfficeModel", "begins", "[I", true)
  | 37 => ("ExtrasOfficeModel", "newAsks", "I", false)
  | 38 => ("ExtrasOfficeModel", "newScene", "[I", true)
  | 39 => ("ExtrasOfficeModel", "newMinute", "[I", true)
  | 40 => ("ExtrasOfficeModel", "newTakes", "[I", true)
  | 41 => ("ExtrasOfficeModel", "newMany", "[I", true)
  | 42 => ("ExtrasOfficeModel", "newBegins", "[I", true)
  | 43 => ("ExtrasOfficeModel", "may", "[I", true)
  | 44 => ("ExtrasOfficeModel", "wanted", "[Z", true)
  | 45 => ("ExtrasOfficeModel", "room", "[I", true)
  | 46 => ("ExtrasOfficeModel", "asked", "[Z", true)
  | 47 => ("ExtrasOfficeModel", "moved", "[I", true)
  | 48 => ("ExtrasOfficeModel", "movers", "I", false)
  | 49 => ("ExtrasOfficeModel", "agreements", "I", false)
  | 50 => ("ExtrasOfficeModel", "terms", "[I", true)
  | 51 => ("ExtrasOfficeModel", "termKind", "[I", true)
  | 52 => ("ExtrasOfficeModel", "termMinutes", "[I", true)
  | 53 => ("ExtrasOfficeModel", "termNumber", "[I", true)
  | 54 => ("ExtrasOfficeModel", "termUp", "[Z", true)
  | 55 => ("ExtrasOfficeModel", "records", "I", false)
  | 56 => ("ExtrasOfficeModel", "rScene", "[I", true)
  | 57 => ("ExtrasOfficeModel", "rComing", "[I", true)
  | 58 => ("ExtrasOfficeModel", "rDressed", "[I", true)
  | 59 => ("ExtrasOfficeModel", "rBegun", "[I", true)
  | 60 => ("ExtrasOfficeModel", "rSent", "[I", true)
  | 61 => ("ExtrasOfficeModel", "rAgreement", "[I", true)
  | 62 => ("ExtrasOfficeModel", "dresser", "[I", true)
  | 63 => ("ExtrasOfficeModel", "isDressed", "[Z", true)
  | 64 => ("ExtrasOfficeModel", "coming", "[I", true)
  | 65 => ("ExtrasOfficeModel", "dressed", "[I", true)
  | 66 => ("ExtrasOfficeModel", "lacking", "[I", true)
  | _ => ("ExtrasOfficeModel", "lacks", "I", false)
def tyX12 : Nat → FieldType := fun k => match k with
  | 0 => .int
  | 1 => .int
  | 2 => .int
  | 3 => .array .int
  | 4 => .array .int
  | 5 => .array .int
  | 6 => .array .int
  | 7 => .array .int
  | 8 => .array .boolean
  | 9 => .array .int
  | 10 => .array .int
  | 11 => .array .int
  | 12 => .int
  | 13 => .int
  | 14 => .array .int
  | 15 => .array .int
  | 16 => .array .byte
  | 17 => .int
  | 18 => .array .byte
  | 19 => .int
  | 20 => .int
  | 21 => .int
  | 22 => .int
  | 23 => .int
  | 24 => .int
  | 25 => .int
  | 26 => .int
  | 27 => .boolean
  | 28 => .int
  | 29 => .int
  | 30 => .array .byte
  | 31 => .int
  | 32 => .array .int
  | 33 => .array .int
  | 34 => .array .int
  | 35 => .array .int
  | 36 => .array .int
  | 37 => .int
  | 38 => .array .int
  | 39 => .array .int
  | 40 => .array .int
  | 41 => .array .int
  | 42 => .array .int
  | 43 => .array .int
  | 44 => .array .boolean
  | 45 => .array .int
  | 46 => .array .boolean
  | 47 => .array .int
  | 48 => .int
  | 49 => .int
  | 50 => .array .int
  | 51 => .array .int
  | 52 => .array .int
  | 53 => .array .int
  | 54 => .array .boolean
  | 55 => .int
  | 56 => .array .int
  | 57 => .array .int
  | 58 => .array .int
  | 59 => .array .int
  | 60 => .array .int
  | 61 => .array .int
  | 62 => .array .int
  | 63 => .array .boolean
  | 64 => .array .int
  | 65 => .array .int
  | 66 => .array .int
  | _ => .int
abbrev wsX120 : List Cond := u_ws RX12 TX12 68
theorem nmX12 : ∀ a, a < 68 → ∀ b, b < 68 → a ≠ b → (TX12 a).2.1 ≠ (TX12 b).2.1 := by decide +kernel
theorem tyX12_ok : ∀ k, k < 68 → parseFieldDescriptor (TX12 k).2.2.1 = some (tyX12 k) := by decide +kernel
abbrev cX12_thrown : ByteArray := prog_14_method_1_code
def yX12_thrown : MethodName := ⟨RX12, "thrown", "()I"⟩
abbrev cX12_within : ByteArray := prog_14_method_2_code
def yX12_within : MethodName := ⟨RX12, "within", "(III)Z"⟩
abbrev cX12_init : ByteArray := prog_14_method_3_code
def yX12_init : MethodName := ⟨RX12, "<init>", "()V"⟩
abbrev cX12_person : ByteArray := prog_14_method_4_code
def yX12_person : MethodName := ⟨RX12, "person", "(IIIII)I"⟩
abbrev cX12_isPerson : ByteArray := prog_14_method_5_code
def yX12_isPerson : MethodName := ⟨RX12, "isPerson", "(I)Z"⟩
abbrev cX12_away : ByteArray := prog_14_method_6_code
def yX12_away : MethodName := ⟨RX12, "away", "(IZ)Z"⟩
abbrev cX12_about : ByteArray := prog_14_method_7_code
def yX12_about : MethodName := ⟨RX12, "about", "(II)I"⟩
abbrev cX12_fact : ByteArray := prog_14_method_8_code
def yX12_fact : MethodName := ⟨RX12, "fact", "(II)I"⟩
abbrev cX12_tell : ByteArray := prog_14_method_9_code
def yX12_tell : MethodName := ⟨RX12, "tell", "(II)I"⟩
abbrev cX12_times : ByteArray := prog_14_method_10_code
def yX12_times : MethodName := ⟨RX12, "times", "(III)I"⟩
abbrev cX12_seen : ByteArray := prog_14_method_11_code
def yX12_seen : MethodName := ⟨RX12, "seen", "(III)I"⟩
abbrev cX12_feed : ByteArray := prog_14_method_12_code
def yX12_feed : MethodName := ⟨RX12, "feed", "(IIIII)I"⟩
abbrev cX12_end : ByteArray := prog_14_method_13_code
def yX12_end : MethodName := ⟨RX12, "end", "(I)I"⟩
abbrev cX12_see : ByteArray := prog_14_method_14_code
def yX12_see : MethodName := ⟨RX12, "see", "(I)I"⟩
abbrev cX12_isSmall : ByteArray := prog_14_method_15_code
def yX12_isSmall : MethodName := ⟨RX12, "isSmall", "(I)Z"⟩
abbrev cX12_isDigit : ByteArray := prog_14_method_16_code
def yX12_isDigit : MethodName := ⟨RX12, "isDigit", "(I)Z"⟩
abbrev cX12_next : ByteArray := prog_14_method_17_code
def yX12_next : MethodName := ⟨RX12, "next", "()V"⟩
abbrev cX12_starts : ByteArray := prog_14_method_18_code
def yX12_starts : MethodName := ⟨RX12, "starts", "([BII)V"⟩
abbrev cX12_isWord : ByteArray := prog_14_method_19_code
def yX12_isWord : MethodName := ⟨RX12, "isWord", "(Ljava/lang/String;)Z"⟩
abbrev cX12_is : ByteArray := prog_14_method_20_code
def yX12_is : MethodName := ⟨RX12, "is", "(I)Z"⟩
abbrev cX12_fails : ByteArray := prog_14_method_21_code
def yX12_fails : MethodName := ⟨RX12, "fails", "(I)V"⟩
abbrev cX12_wants : ByteArray := prog_14_method_22_code
def yX12_wants : MethodName := ⟨RX12, "wants", "(I)V"⟩
abbrev cX12_wants_ : ByteArray := prog_14_method_23_code
def yX12_wants_ : MethodName := ⟨RX12, "wants", "(Ljava/lang/String;)V"⟩
abbrev cX12_number : ByteArray := prog_14_method_24_code
def yX12_number : MethodName := ⟨RX12, "number", "(II)I"⟩
abbrev cX12_either : ByteArray := prog_14_method_25_code
def yX12_either : MethodName := ⟨RX12, "either", "(I)Z"⟩
abbrev cX12_all : ByteArray := prog_14_method_26_code
def yX12_all : MethodName := ⟨RX12, "all", "(I)Z"⟩
abbrev cX12_one : ByteArray := prog_14_method_27_code
def yX12_one : MethodName := ⟨RX12, "one", "(I)Z"⟩
abbrev cX12_readAsk : ByteArray := prog_14_method_28_code
def yX12_readAsk : MethodName := ⟨RX12, "readAsk", "()V"⟩
abbrev cX12_nobody : ByteArray := prog_14_method_29_code
def yX12_nobody : MethodName := ⟨RX12, "nobody", "()V"⟩
abbrev cX12_asks : ByteArray := prog_14_method_30_code
def yX12_asks : MethodName := ⟨RX12, "asks", "()I"⟩
abbrev cX12_place : ByteArray := prog_14_method_31_code
def yX12_place : MethodName := ⟨RX12, "place", "()I"⟩
abbrev cX12_doesFit : ByteArray := prog_14_method_32_code
def yX12_doesFit : MethodName := ⟨RX12, "doesFit", "(II)Z"⟩
abbrev cX12_canBe : ByteArray := prog_14_method_33_code
def yX12_canBe : MethodName := ⟨RX12, "canBe", "(II)Z"⟩
abbrev cX12_isAsk : ByteArray := prog_14_method_34_code
def yX12_isAsk : MethodName := ⟨RX12, "isAsk", "(I)Z"⟩
abbrev cX12_fits : ByteArray := prog_14_method_35_code
def yX12_fits : MethodName := ⟨RX12, "fits", "(III)I"⟩
abbrev cX12_calledIn : ByteArray := prog_14_method_36_code
def yX12_calledIn : MethodName := ⟨RX12, "calledIn", "(I)I"⟩
abbrev cX12_ask : ByteArray := prog_14_method_37_code
def yX12_ask : MethodName := ⟨RX12, "ask", "(II)I"⟩
abbrev cX12_isRoom : ByteArray := prog_14_method_38_code
def yX12_isRoom : MethodName := ⟨RX12, "isRoom", "()Z"⟩
abbrev cX12_first : ByteArray := prog_14_method_39_code
def yX12_first : MethodName := ⟨RX12, "first", "()I"⟩
abbrev cX12_reckons : ByteArray := prog_14_method_40_code
def yX12_reckons : MethodName := ⟨RX12, "reckons", "()V"⟩
abbrev cX12_lay : ByteArray := prog_14_method_41_code
def yX12_lay : MethodName := ⟨RX12, "lay", "()I"⟩
abbrev cX12_called : ByteArray := prog_14_method_42_code
def yX12_called : MethodName := ⟨RX12, "called", "(I)I"⟩
abbrev cX12_mends : ByteArray := prog_14_method_43_code
def yX12_mends : MethodName := ⟨RX12, "mends", "(IIII)Z"⟩
abbrev cX12_no : ByteArray := prog_14_method_44_code
def yX12_no : MethodName := ⟨RX12, "no", "(I)I"⟩
abbrev cX12_moved : ByteArray := prog_14_method_45_code
def yX12_moved : MethodName := ⟨RX12, "moved", "(I)I"⟩
abbrev cX12_readTerm : ByteArray := prog_14_method_46_code
def yX12_readTerm : MethodName := ⟨RX12, "readTerm", "()V"⟩
abbrev cX12_agree : ByteArray := prog_14_method_47_code
def yX12_agree : MethodName := ⟨RX12, "agree", "()I"⟩
abbrev cX12_quarters : ByteArray := prog_14_method_48_code
def yX12_quarters : MethodName := ⟨RX12, "quarters", "(IZ)I"⟩
abbrev cX12_worth : ByteArray := prog_14_method_49_code
def yX12_worth : MethodName := ⟨RX12, "worth", "(III)I"⟩
abbrev cX12_next_ : ByteArray := prog_14_method_50_code
def yX12_next_ : MethodName := ⟨RX12, "next", "(I)I"⟩
abbrev cX12_dresses : ByteArray := prog_14_method_51_code
def yX12_dresses : MethodName := ⟨RX12, "dresses", "(I)V"⟩
abbrev cX12_nextComing : ByteArray := prog_14_method_52_code
def yX12_nextComing : MethodName := ⟨RX12, "nextComing", "()I"⟩
abbrev cX12_step : ByteArray := prog_14_method_53_code
def yX12_step : MethodName := ⟨RX12, "step", "(II)I"⟩
abbrev cX12_isRecord : ByteArray := prog_14_method_54_code
def yX12_isRecord : MethodName := ⟨RX12, "isRecord", "(II)Z"⟩
abbrev cX12_record : ByteArray := prog_14_method_55_code
def yX12_record : MethodName := ⟨RX12, "record", "(III)I"⟩
abbrev cX12_pay : ByteArray := prog_14_method_56_code
def yX12_pay : MethodName := ⟨RX12, "pay", "(III)J"⟩
abbrev cX12_retake : ByteArray := prog_14_method_57_code
def yX12_retake : MethodName := ⟨RX12, "retake", "(II)I"⟩
abbrev cX12_lacks : ByteArray := prog_14_method_58_code
def yX12_lacks : MethodName := ⟨RX12, "lacks", "(I)I"⟩
abbrev cX12_buses : ByteArray := prog_14_method_59_code
def yX12_buses : MethodName := ⟨RX12, "buses", "(II)I"⟩
abbrev cX12_allCalled : ByteArray := prog_14_method_60_code
def yX12_allCalled : MethodName := ⟨RX12, "allCalled", "()I"⟩
abbrev cX12_count : ByteArray := prog_14_method_61_code
def yX12_count : MethodName := ⟨RX12, "count", "(I)I"⟩
def RJx145de : String := "java/io/Serializable"
def TJx145de : u_T := fun k => match k with
  | _ => ("", "", "", false)
def tyJx145de : Nat → FieldType := fun k => match k with
  | _ => .int
abbrev wsJx145de0 : List Cond := u_ws RJx145de TJx145de 0
theorem nmJx145de : ∀ a, a < 0 → ∀ b, b < 0 → a ≠ b → (TJx145de a).2.1 ≠ (TJx145de b).2.1 := by decide +kernel
theorem tyJx145de_ok : ∀ k, k < 0 → parseFieldDescriptor (TJx145de k).2.2.1 = some (tyJx145de k) := by decide +kernel
def RJx9f9b0 : String := "java/lang/CharSequence"
def TJx9f9b0 : u_T := fun k => match k with
  | _ => ("", "", "", false)
def tyJx9f9b0 : Nat → FieldType := fun k => match k with
  | _ => .int
abbrev wsJx9f9b00 : List Cond := u_ws RJx9f9b0 TJx9f9b0 0
theorem nmJx9f9b0 : ∀ a, a < 0 → ∀ b, b < 0 → a ≠ b → (TJx9f9b0 a).2.1 ≠ (TJx9f9b0 b).2.1 := by decide +kernel
theorem tyJx9f9b0_ok : ∀ k, k < 0 → parseFieldDescriptor (TJx9f9b0 k).2.2.1 = some (tyJx9f9b0 k) := by decide +kernel
def RJx8e188 : String := "java/lang/Cloneable"
def TJx8e188 : u_T := fun k => match k with
  | _ => ("", "", "", false)
def tyJx8e188 : Nat → FieldType := fun k => match k with
  | _ => .int
abbrev wsJx8e1880 : List Cond := u_ws RJx8e188 TJx8e188 0
theorem nmJx8e188 : ∀ a, a < 0 → ∀ b, b < 0 → a ≠ b → (TJx8e188 a).2.1 ≠ (TJx8e188 b).2.1 := by decide +kernel
theorem tyJx8e188_ok : ∀ k, k < 0 → parseFieldDescriptor (TJx8e188 k).2.2.1 = some (tyJx8e188 k) := by decide +kernel
def RJxb160c : String := "java/lang/Comparable"
def TJxb160c : u_T := fun k => match k with
  | _ => ("", "", "", false)
def tyJxb160c : Nat → FieldType := fun k => match k with
  | _ => .int
abbrev wsJxb160c0 : List Cond := u_ws RJxb160c TJxb160c 0
theorem nmJxb160c : ∀ a, a < 0 → ∀ b, b < 0 → a ≠ b → (TJxb160c a).2.1 ≠ (TJxb160c b).2.1 := by decide +kernel
theorem tyJxb160c_ok : ∀ k, k < 0 → parseFieldDescriptor (TJxb160c k).2.2.1 = some (tyJxb160c k) := by decide +kernel
def RJxab1ab : String := "java/lang/Iterable"
def TJxab1ab : u_T := fun k => match k with
  | _ => ("", "", "", false)
def tyJxab1ab : Nat → FieldType := fun k => match k with
  | _ => .int
abbrev wsJxab1ab0 : List Cond := u_ws RJxab1ab TJxab1ab 0
theorem nmJxab1ab : ∀ a, a < 0 → ∀ b, b < 0 → a ≠ b → (TJxab1ab a).2.1 ≠ (TJxab1ab b).2.1 := by decide +kernel
theorem tyJxab1ab_ok : ∀ k, k < 0 → parseFieldDescriptor (TJxab1ab k).2.2.1 = some (tyJxab1ab k) := by decide +kernel
def RJ9 : String := "java/lang/Math"
def TJ9 : u_T := fun k => match k with
  | _ => ("", "", "", false)
def tyJ9 : Nat → FieldType := fun k => match k with
  | _ => .int
abbrev wsJ90 : List Cond := u_ws RJ9 TJ9 0
theorem nmJ9 : ∀ a, a < 0 → ∀ b, b < 0 → a ≠ b → (TJ9 a).2.1 ≠ (TJ9 b).2.1 := by decide +kernel
theorem tyJ9_ok : ∀ k, k < 0 → parseFieldDescriptor (TJ9 k).2.2.1 = some (tyJ9 k) := by decide +kernel
abbrev cJ9_max_7cf53 : ByteArray := prog_21_method_65_code
def yJ9_max_7cf53 : MethodName := ⟨RJ9, "max", "(II)I"⟩
abbrev cJ9_min_7cf53 : ByteArray := prog_21_method_69_code
def yJ9_min_7cf53 : MethodName := ⟨RJ9, "min", "(II)I"⟩
def RJ0 : String := "java/lang/String"
def TJ0 : u_T := fun k => match k with
  | _ => ("", "", "", false)
def tyJ0 : Nat → FieldType := fun k => match k with
  | _ => .int
abbrev wsJ00 : List Cond := u_ws RJ0 TJ0 0
theorem nmJ0 : ∀ a, a < 0 → ∀ b, b < 0 → a ≠ b → (TJ0 a).2.1 ≠ (TJ0 b).2.1 := by decide +kernel
theorem tyJ0_ok : ∀ k, k < 0 → parseFieldDescriptor (TJ0 k).2.2.1 = some (tyJ0 k) := by decide +kernel
abbrev cJ0_length_8abf5 : ByteArray := prog_23_method_54_code
def yJ0_length_8abf5 : MethodName := ⟨RJ0, "length", "()I"⟩
abbrev cJ0_charAt_5068e : ByteArray := prog_23_method_56_code
def yJ0_charAt_5068e : MethodName := ⟨RJ0, "charAt", "(I)C"⟩
abbrev cJ0_coder_7d493 : ByteArray := prog_23_method_152_code
def yJ0_coder_7d493 : MethodName := ⟨RJ0, "coder", "()B"⟩
abbrev cJ0_isLatin1_aae02 : ByteArray := prog_23_method_154_code
def yJ0_isLatin1_aae02 : MethodName := ⟨RJ0, "isLatin1", "()Z"⟩
abbrev cJ0_checkIndex_df160 : ByteArray := prog_23_method_155_code
def yJ0_checkIndex_df160 : MethodName := ⟨RJ0, "checkIndex", "(II)V"⟩
def RJ1 : String := "java/lang/StringLatin1"
def TJ1 : u_T := fun k => match k with
  | _ => ("", "", "", false)
def tyJ1 : Nat → FieldType := fun k => match k with
  | _ => .int
abbrev wsJ10 : List Cond := u_ws RJ1 TJ1 0
theorem nmJ1 : ∀ a, a < 0 → ∀ b, b < 0 → a ≠ b → (TJ1 a).2.1 ≠ (TJ1 b).2.1 := by decide +kernel
theorem tyJ1_ok : ∀ k, k < 0 → parseFieldDescriptor (TJ1 k).2.2.1 = some (tyJ1 k) := by decide +kernel
abbrev cJ1_charAt_3b067 : ByteArray := prog_24_method_2_code
def yJ1_charAt_3b067 : MethodName := ⟨RJ1, "charAt", "([BI)C"⟩
def RJ2 : String := "java/lang/StringUTF16"
def TJ2 : u_T := fun k => match k with
  | _ => ("", "", "", false)
def tyJ2 : Nat → FieldType := fun k => match k with
  | _ => .int
abbrev wsJ20 : List Cond := u_ws RJ2 TJ2 0
theorem nmJ2 : ∀ a, a < 0 → ∀ b, b < 0 → a ≠ b → (TJ2 a).2.1 ≠ (TJ2 b).2.1 := by decide +kernel
theorem tyJ2_ok : ∀ k, k < 0 → parseFieldDescriptor (TJ2 k).2.2.1 = some (tyJ2 k) := by decide +kernel
abbrev cJ2_getChar_3b067 : ByteArray := prog_25_method_5_code
def yJ2_getChar_3b067 : MethodName := ⟨RJ2, "getChar", "([BI)C"⟩
abbrev cJ2_length_9d52b : ByteArray := prog_25_method_6_code
def yJ2_length_9d52b : MethodName := ⟨RJ2, "length", "([B)I"⟩
abbrev cJ2_charAt_3b067 : ByteArray := prog_25_method_83_code
def yJ2_charAt_3b067 : MethodName := ⟨RJ2, "charAt", "([BI)C"⟩
abbrev cJ2_checkIndex_2214a : ByteArray := prog_25_method_91_code
def yJ2_checkIndex_2214a : MethodName := ⟨RJ2, "checkIndex", "(I[B)V"⟩
def RJ10 : String := "java/lang/System"
def TJ10 : u_T := fun k => match k with
  | _ => ("", "", "", false)
def tyJ10 : Nat → FieldType := fun k => match k with
  | _ => .int
abbrev wsJ100 : List Cond := u_ws RJ10 TJ10 0
theorem nmJ10 : ∀ a, a < 0 → ∀ b, b < 0 → a ≠ b → (TJ10 a).2.1 ≠ (TJ10 b).2.1 := by decide +kernel
theorem tyJ10_ok : ∀ k, k < 0 → parseFieldDescriptor (TJ10 k).2.2.1 = some (tyJ10 k) := by decide +kernel
def RJxfd54e : String := "java/lang/constant/Constable"
def TJxfd54e : u_T := fun k => match k with
  | _ => ("", "", "", false)
def tyJxfd54e : Nat → FieldType := fun k => match k with
  | _ => .int
abbrev wsJxfd54e0 : List Cond := u_ws RJxfd54e TJxfd54e 0
theorem nmJxfd54e : ∀ a, a < 0 → ∀ b, b < 0 → a ≠ b → (TJxfd54e a).2.1 ≠ (TJxfd54e b).2.1 := by decide +kernel
theorem tyJxfd54e_ok : ∀ k, k < 0 → parseFieldDescriptor (TJxfd54e k).2.2.1 = some (tyJxfd54e k) := by decide +kernel
def RJx3cf43 : String := "java/lang/constant/ConstantDesc"
def TJx3cf43 : u_T := fun k => match k with
  | _ => ("", "", "", false)
def tyJx3cf43 : Nat → FieldType := fun k => match k with
  | _ => .int
abbrev wsJx3cf430 : List Cond := u_ws RJx3cf43 TJx3cf43 0
theorem nmJx3cf43 : ∀ a, a < 0 → ∀ b, b < 0 → a ≠ b → (TJx3cf43 a).2.1 ≠ (TJx3cf43 b).2.1 := by decide +kernel
theorem tyJx3cf43_ok : ∀ k, k < 0 → parseFieldDescriptor (TJx3cf43 k).2.2.1 = some (tyJx3cf43 k) := by decide +kernel
def RJxa1e45 : String := "java/util/AbstractCollection"
def TJxa1e45 : u_T := fun k => match k with
  | _ => ("", "", "", false)
def tyJxa1e45 : Nat → FieldType := fun k => match k with
  | _ => .int
abbrev wsJxa1e450 : List Cond := u_ws RJxa1e45 TJxa1e45 0
theorem nmJxa1e45 : ∀ a, a < 0 → ∀ b, b < 0 → a ≠ b → (TJxa1e45 a).2.1 ≠ (TJxa1e45 b).2.1 := by decide +kernel
theorem tyJxa1e45_ok : ∀ k, k < 0 → parseFieldDescriptor (TJxa1e45 k).2.2.1 = some (tyJxa1e45 k) := by decide +kernel
abbrev cJxa1e45_init_da8c8 : ByteArray := prog_30_method_1_code
def yJxa1e45_init_da8c8 : MethodName := ⟨RJxa1e45, "<init>", "()V"⟩
def RJxc12de : String := "java/util/AbstractList"
def TJxc12de : u_T := fun k => match k with
  | _ => ("", "", "", false)
def tyJxc12de : Nat → FieldType := fun k => match k with
  | _ => .int
abbrev wsJxc12de0 : List Cond := u_ws RJxc12de TJxc12de 0
theorem nmJxc12de : ∀ a, a < 0 → ∀ b, b < 0 → a ≠ b → (TJxc12de a).2.1 ≠ (TJxc12de b).2.1 := by decide +kernel
theorem tyJxc12de_ok : ∀ k, k < 0 → parseFieldDescriptor (TJxc12de k).2.2.1 = some (tyJxc12de k) := by decide +kernel
abbrev cJxc12de_init_da8c8 : ByteArray := prog_31_method_1_code
def yJxc12de_init_da8c8 : MethodName := ⟨RJxc12de, "<init>", "()V"⟩
def RJx4a65c : String := "java/util/ArrayList"
def TJx4a65c : u_T := fun k => match k with
  | 0 => ("java/util/AbstractList", "modCount", "I", false)
  | 1 => ("java/util/ArrayList", "elementData", "[Ljava/lang/Object;", false)
  | _ => ("java/util/ArrayList", "size", "I", false)
def tyJx4a65c : Nat → FieldType := fun k => match k with
  | 0 => .int
  | 1 => .array (.object "java/lang/Object")
  | _ => .int
abbrev wsJx4a65c0 : List Cond := u_ws RJx4a65c TJx4a65c 3
theorem nmJx4a65c : ∀ a, a < 3 → ∀ b, b < 3 → a ≠ b → (TJx4a65c a).2.1 ≠ (TJx4a65c b).2.1 := by decide +kernel
theorem tyJx4a65c_ok : ∀ k, k < 3 → parseFieldDescriptor (TJx4a65c k).2.2.1 = some (tyJx4a65c k) := by decide +kernel
abbrev cJx4a65c_init_da8c8 : ByteArray := prog_32_method_2_code
def yJx4a65c_init_da8c8 : MethodName := ⟨RJx4a65c, "<init>", "()V"⟩
abbrev cJx4a65c_grow_92f84 : ByteArray := prog_32_method_6_code
def yJx4a65c_grow_92f84 : MethodName := ⟨RJx4a65c, "grow", "(I)[Ljava/lang/Object;"⟩
abbrev cJx4a65c_grow_d5877 : ByteArray := prog_32_method_7_code
def yJx4a65c_grow_d5877 : MethodName := ⟨RJx4a65c, "grow", "()[Ljava/lang/Object;"⟩
abbrev cJx4a65c_size_8abf5 : ByteArray := prog_32_method_8_code
def yJx4a65c_size_8abf5 : MethodName := ⟨RJx4a65c, "size", "()I"⟩
abbrev cJx4a65c_isEmpty_aae02 : ByteArray := prog_32_method_9_code
def yJx4a65c_isEmpty_aae02 : MethodName := ⟨RJx4a65c, "isEmpty", "()Z"⟩
abbrev cJx4a65c_elementData_915e3 : ByteArray := prog_32_method_18_code
def yJx4a65c_elementData_915e3 : MethodName := ⟨RJx4a65c, "elementData", "(I)Ljava/lang/Object;"⟩
abbrev cJx4a65c_get_915e3 : ByteArray := prog_32_method_20_code
def yJx4a65c_get_915e3 : MethodName := ⟨RJx4a65c, "get", "(I)Ljava/lang/Object;"⟩
abbrev cJx4a65c_add_72be8 : ByteArray := prog_32_method_24_code
def yJx4a65c_add_72be8 : MethodName := ⟨RJx4a65c, "add", "(Ljava/lang/Object;[Ljava/lang/Object;I)V"⟩
abbrev cJx4a65c_add_9ea2d : ByteArray := prog_32_method_25_code
def yJx4a65c_add_9ea2d : MethodName := ⟨RJx4a65c, "add", "(Ljava/lang/Object;)Z"⟩
abbrev cJx4a65c_add_7a177 : ByteArray := prog_32_method_26_code
def yJx4a65c_add_7a177 : MethodName := ⟨RJx4a65c, "add", "(ILjava/lang/Object;)V"⟩
abbrev cJx4a65c_clear_da8c8 : ByteArray := prog_32_method_40_code
def yJx4a65c_clear_da8c8 : MethodName := ⟨RJx4a65c, "clear", "()V"⟩
abbrev cJx4a65c_rangeCheckForAdd_d00df : ByteArray := prog_32_method_45_code
def yJx4a65c_rangeCheckForAdd_d00df : MethodName := ⟨RJx4a65c, "rangeCheckForAdd", "(I)V"⟩
def RJ7 : String := "java/util/Arrays"
def TJ7 : u_T := fun k => match k with
  | _ => ("", "", "", false)
def tyJ7 : Nat → FieldType := fun k => match k with
  | _ => .int
abbrev wsJ70 : List Cond := u_ws RJ7 TJ7 0
theorem nmJ7 : ∀ a, a < 0 → ∀ b, b < 0 → a ≠ b → (TJ7 a).2.1 ≠ (TJ7 b).2.1 := by decide +kernel
theorem tyJ7_ok : ∀ k, k < 0 → parseFieldDescriptor (TJ7 k).2.2.1 = some (tyJ7 k) := by decide +kernel
abbrev cJ7_copyOf_1904c : ByteArray := prog_33_method_119_code
def yJ7_copyOf_1904c : MethodName := ⟨RJ7, "copyOf", "([Ljava/lang/Object;I)[Ljava/lang/Object;"⟩
abbrev cJ7_copyOf_6403c : ByteArray := prog_33_method_120_code
def yJ7_copyOf_6403c : MethodName := ⟨RJ7, "copyOf", "([Ljava/lang/Object;ILjava/lang/Class;)[Ljava/lang/Object;"⟩
def RJx5ef63 : String := "java/util/Collection"
def TJx5ef63 : u_T := fun k => match k with
  | _ => ("", "", "", false)
def tyJx5ef63 : Nat → FieldType := fun k => match k with
  | _ => .int
abbrev wsJx5ef630 : List Cond := u_ws RJx5ef63 TJx5ef63 0
theorem nmJx5ef63 : ∀ a, a < 0 → ∀ b, b < 0 → a ≠ b → (TJx5ef63 a).2.1 ≠ (TJx5ef63 b).2.1 := by decide +kernel
theorem tyJx5ef63_ok : ∀ k, k < 0 → parseFieldDescriptor (TJx5ef63 k).2.2.1 = some (tyJx5ef63 k) := by decide +kernel
def RJxbd725 : String := "java/util/List"
def TJxbd725 : u_T := fun k => match k with
  | _ => ("", "", "", false)
def tyJxbd725 : Nat → FieldType := fun k => match k with
  | _ => .int
abbrev wsJxbd7250 : List Cond := u_ws RJxbd725 TJxbd725 0
theorem nmJxbd725 : ∀ a, a < 0 → ∀ b, b < 0 → a ≠ b → (TJxbd725 a).2.1 ≠ (TJxbd725 b).2.1 := by decide +kernel
theorem tyJxbd725_ok : ∀ k, k < 0 → parseFieldDescriptor (TJxbd725 k).2.2.1 = some (tyJxbd725 k) := by decide +kernel
def RJ15 : String := "java/util/Objects"
def TJ15 : u_T := fun k => match k with
  | _ => ("", "", "", false)
def tyJ15 : Nat → FieldType := fun k => match k with
  | _ => .int
abbrev wsJ150 : List Cond := u_ws RJ15 TJ15 0
theorem nmJ15 : ∀ a, a < 0 → ∀ b, b < 0 → a ≠ b → (TJ15 a).2.1 ≠ (TJ15 b).2.1 := by decide +kernel
theorem tyJ15_ok : ∀ k, k < 0 → parseFieldDescriptor (TJ15 k).2.2.1 = some (tyJ15 k) := by decide +kernel
abbrev cJ15_checkIndex_7cf53 : ByteArray := prog_37_method_17_code
def yJ15_checkIndex_7cf53 : MethodName := ⟨RJ15, "checkIndex", "(II)I"⟩
def RJxf0a74 : String := "java/util/RandomAccess"
def TJxf0a74 : u_T := fun k => match k with
  | _ => ("", "", "", false)
def tyJxf0a74 : Nat → FieldType := fun k => match k with
  | _ => .int
abbrev wsJxf0a740 : List Cond := u_ws RJxf0a74 TJxf0a74 0
theorem nmJxf0a74 : ∀ a, a < 0 → ∀ b, b < 0 → a ≠ b → (TJxf0a74 a).2.1 ≠ (TJxf0a74 b).2.1 := by decide +kernel
theorem tyJxf0a74_ok : ∀ k, k < 0 → parseFieldDescriptor (TJxf0a74 k).2.2.1 = some (tyJxf0a74 k) := by decide +kernel
def RJxa66e6 : String := "java/util/SequencedCollection"
def TJxa66e6 : u_T := fun k => match k with
  | _ => ("", "", "", false)
def tyJxa66e6 : Nat → FieldType := fun k => match k with
  | _ => .int
abbrev wsJxa66e60 : List Cond := u_ws RJxa66e6 TJxa66e6 0
theorem nmJxa66e6 : ∀ a, a < 0 → ∀ b, b < 0 → a ≠ b → (TJxa66e6 a).2.1 ≠ (TJxa66e6 b).2.1 := by decide +kernel
theorem tyJxa66e6_ok : ∀ k, k < 0 → parseFieldDescriptor (TJxa66e6 k).2.2.1 = some (tyJxa66e6 k) := by decide +kernel
def RJ8 : String := "jdk/internal/util/ArraysSupport"
def TJ8 : u_T := fun k => match k with
  | _ => ("", "", "", false)
def tyJ8 : Nat → FieldType := fun k => match k with
  | _ => .int
abbrev wsJ80 : List Cond := u_ws RJ8 TJ8 0
theorem nmJ8 : ∀ a, a < 0 → ∀ b, b < 0 → a ≠ b → (TJ8 a).2.1 ≠ (TJ8 b).2.1 := by decide +kernel
theorem tyJ8_ok : ∀ k, k < 0 → parseFieldDescriptor (TJ8 k).2.2.1 = some (tyJ8 k) := by decide +kernel
abbrev cJ8_newLength_cabcc : ByteArray := prog_40_method_27_code
def yJ8_newLength_cabcc : MethodName := ⟨RJ8, "newLength", "(III)I"⟩
abbrev cJ8_hugeLength_7cf53 : ByteArray := prog_40_method_28_code
def yJ8_hugeLength_7cf53 : MethodName := ⟨RJ8, "hugeLength", "(II)I"⟩
def RJ3 : String := "jdk/internal/util/Preconditions"
def TJ3 : u_T := fun k => match k with
  | _ => ("", "", "", false)
def tyJ3 : Nat → FieldType := fun k => match k with
  | _ => .int
abbrev wsJ30 : List Cond := u_ws RJ3 TJ3 0
theorem nmJ3 : ∀ a, a < 0 → ∀ b, b < 0 → a ≠ b → (TJ3 a).2.1 ≠ (TJ3 b).2.1 := by decide +kernel
theorem tyJ3_ok : ∀ k, k < 0 → parseFieldDescriptor (TJ3 k).2.2.1 = some (tyJ3 k) := by decide +kernel
abbrev cJ3_checkIndex_8e157 : ByteArray := prog_41_method_11_code
def yJ3_checkIndex_8e157 : MethodName := ⟨RJ3, "checkIndex", "(IILjava/util/function/BiFunction;)I"⟩
def RL : String := "ExtrasOfficeLaw"
abbrev cL_seen : ByteArray := method_3_code
def yL_seen : MethodName := ⟨RL, "seen", "(LExtrasOffice;III[J)I"⟩
abbrev cL_law : ByteArray := code
def yL_law : MethodName := ⟨RL, "law", "([I)Z"⟩
abbrev vwCl : List vw_C := [(RJx4a65c, TJx4a65c, 3), (RX0, TX0, 2), (RX1, TX1, 9), (RX2, TX2, 2), (RX3, TX3, 3), (RX4, TX4, 3), (RX5, TX5, 12), (RX6, TX6, 4), (RX7, TX7, 2), (RX8, TX8, 4), (RX9, TX9, 7), (RX10, TX10, 9), (RX11, TX11, 11), (RX12, TX12, 68)]
end
section
/-! THE ABSTRACT LAYER. A name is a kind and a number (the how-manieth of its kind); a state says what each named object's fields and each named array's places hold. Rep: a heap holds a state. AW: a walk in words of states. -/
abbrev Nm : Type := Nat × Nat
abbrev AVal : Type := Int32 ⊕ (Int64 ⊕ Option Nm)
abbrev xI (x : Int32) : AVal := Sum.inl x
abbrev xL (x : Int64) : AVal := Sum.inr (Sum.inl x)
abbrev xR (r : Option Nm) : AVal := Sum.inr (Sum.inr r)
abbrev AS : Type := (Nat → Nat) × (Nat → Nat → Nat → Int32) × (Nat → Nat → Nat → Option Nm) × (Nat → Nat → Nat) × (Nat → Nat → Nat → Int32) × (Nat → Nat → Nat → Option Nm) × (Nat → Nat → Nat → Int64)
def u1 {α : Type} (f : Nat → α) (a : Nat) (v : α) : Nat → α := fun x => if x = a then v else f x
def u3 {α : Type} (f : Nat → Nat → Nat → α) (a b c : Nat) (v : α) : Nat → Nat → Nat → α := fun x y z => if x = a ∧ y = b ∧ z = c then v else f x y z
def cnt (σ : AS) (c : Nat) : Nat := σ.1 c
def gI (σ : AS) (c f i : Nat) : Int32 := σ.2.1 c f i
def gR (σ : AS) (c f i : Nat) : Option Nm := σ.2.2.1 c f i
def gN (σ : AS) (c i : Nat) : Nat := σ.2.2.2.1 c i
def gA (σ : AS) (c i j : Nat) : Int32 := σ.2.2.2.2.1 c i j
def gQ (σ : AS) (c i j : Nat) : Option Nm := σ.2.2.2.2.2.1 c i j
def gL (σ : AS) (c i j : Nat) : Int64 := σ.2.2.2.2.2.2 c i j
def sI (σ : AS) (c f i : Nat) (v : Int32) : AS := (σ.1, u3 σ.2.1 c f i v, σ.2.2)
def sR (σ : AS) (c f i : Nat) (v : Option Nm) : AS := (σ.1, σ.2.1, u3 σ.2.2.1 c f i v, σ.2.2.2)
def sA (σ : AS) (c i j : Nat) (v : Int32) : AS := (σ.1, σ.2.1, σ.2.2.1, σ.2.2.2.1, u3 σ.2.2.2.2.1 c i j v, σ.2.2.2.2.2)
def sQ (σ : AS) (c i j : Nat) (v : Option Nm) : AS := (σ.1, σ.2.1, σ.2.2.1, σ.2.2.2.1, σ.2.2.2.2.1, u3 σ.2.2.2.2.2.1 c i j v, σ.2.2.2.2.2.2)
def sL (σ : AS) (c i j : Nat) (v : Int64) : AS := (σ.1, σ.2.1, σ.2.2.1, σ.2.2.2.1, σ.2.2.2.2.1, σ.2.2.2.2.2.1, u3 σ.2.2.2.2.2.2 c i j v)
/-- a new array of kind c with n places (an object: none) -/
def nA (σ : AS) (c n : Nat) : AS := (u1 σ.1 c (σ.1 c + 1), (fun x y z => if x = c ∧ z = σ.1 c then 0 else σ.2.1 x y z), (fun x y z => if x = c ∧ z = σ.1 c then none else σ.2.2.1 x y z), (fun x z => if x = c ∧ z = σ.1 c then n else σ.2.2.2.1 x z), (fun x z j => if x = c ∧ z = σ.1 c then 0 else σ.2.2.2.2.1 x z j), (fun x z j => if x = c ∧ z = σ.1 c then none else σ.2.2.2.2.2.1 x z j), (fun x z j => if x = c ∧ z = σ.1 c then 0 else σ.2.2.2.2.2.2 x z j))
/-- a new object of kind c -/
def nO (σ : AS) (c : Nat) : AS := nA σ c 0

theorem cnt_sI (σ : AS) (a b e : Nat) (v : Int32) (c : Nat) : cnt (sI σ a b e v) c = cnt σ c := rfl
theorem cnt_sR (σ : AS) (a b e : Nat) (v : (Option Nm)) (c : Nat) : cnt (sR σ a b e v) c = cnt σ c := rfl
theorem cnt_sA (σ : AS) (a b e : Nat) (v : Int32) (c : Nat) : cnt (sA σ a b e v) c = cnt σ c := rfl
theorem cnt_sQ (σ : AS) (a b e : Nat) (v : (Option Nm)) (c : Nat) : cnt (sQ σ a b e v) c = cnt σ c := rfl
theorem cnt_sL (σ : AS) (a b e : Nat) (v : Int64) (c : Nat) : cnt (sL σ a b e v) c = cnt σ c := rfl
theorem gI_sI (σ : AS) (a b e : Nat) (v : Int32) (c f i : Nat) : gI (sI σ a b e v) c f i = if c = a ∧ f = b ∧ i = e then v else gI σ c f i := rfl
theorem gI_sR (σ : AS) (a b e : Nat) (v : (Option Nm)) (c f i : Nat) : gI (sR σ a b e v) c f i = gI σ c f i := rfl
theorem gI_sA (σ : AS) (a b e : Nat) (v : Int32) (c f i : Nat) : gI (sA σ a b e v) c f i = gI σ c f i := rfl
theorem gI_sQ (σ : AS) (a b e : Nat) (v : (Option Nm)) (c f i : Nat) : gI (sQ σ a b e v) c f i = gI σ c f i := rfl
theorem gI_sL (σ : AS) (a b e : Nat) (v : Int64) (c f i : Nat) : gI (sL σ a b e v) c f i = gI σ c f i := rfl
theorem gR_sI (σ : AS) (a b e : Nat) (v : Int32) (c f i : Nat) : gR (sI σ a b e v) c f i = gR σ c f i := rfl
theorem gR_sR (σ : AS) (a b e : Nat) (v : (Option Nm)) (c f i : Nat) : gR (sR σ a b e v) c f i = if c = a ∧ f = b ∧ i = e then v else gR σ c f i := rfl
theorem gR_sA (σ : AS) (a b e : Nat) (v : Int32) (c f i : Nat) : gR (sA σ a b e v) c f i = gR σ c f i := rfl
theorem gR_sQ (σ : AS) (a b e : Nat) (v : (Option Nm)) (c f i : Nat) : gR (sQ σ a b e v) c f i = gR σ c f i := rfl
theorem gR_sL (σ : AS) (a b e : Nat) (v : Int64) (c f i : Nat) : gR (sL σ a b e v) c f i = gR σ c f i := rfl
theorem gN_sI (σ : AS) (a b e : Nat) (v : Int32) (c i : Nat) : gN (sI σ a b e v) c i = gN σ c i := rfl
theorem gN_sR (σ : AS) (a b e : Nat) (v : (Option Nm)) (c i : Nat) : gN (sR σ a b e v) c i = gN σ c i := rfl
theorem gN_sA (σ : AS) (a b e : Nat) (v : Int32) (c i : Nat) : gN (sA σ a b e v) c i = gN σ c i := rfl
theorem gN_sQ (σ : AS) (a b e : Nat) (v : (Option Nm)) (c i : Nat) : gN (sQ σ a b e v) c i = gN σ c i := rfl
theorem gN_sL (σ : AS) (a b e : Nat) (v : Int64) (c i : Nat) : gN (sL σ a b e v) c i = gN σ c i := rfl
theorem gA_sI (σ : AS) (a b e : Nat) (v : Int32) (c i j : Nat) : gA (sI σ a b e v) c i j = gA σ c i j := rfl
theorem gA_sR (σ : AS) (a b e : Nat) (v : (Option Nm)) (c i j : Nat) : gA (sR σ a b e v) c i j = gA σ c i j := rfl
theorem gA_sA (σ : AS) (a b e : Nat) (v : Int32) (c i j : Nat) : gA (sA σ a b e v) c i j = if c = a ∧ i = b ∧ j = e then v else gA σ c i j := rfl
theorem gA_sQ (σ : AS) (a b e : Nat) (v : (Option Nm)) (c i j : Nat) : gA (sQ σ a b e v) c i j = gA σ c i j := rfl
theorem gA_sL (σ : AS) (a b e : Nat) (v : Int64) (c i j : Nat) : gA (sL σ a b e v) c i j = gA σ c i j := rfl
theorem gQ_sI (σ : AS) (a b e : Nat) (v : Int32) (c i j : Nat) : gQ (sI σ a b e v) c i j = gQ σ c i j := rfl
theorem gQ_sR (σ : AS) (a b e : Nat) (v : (Option Nm)) (c i j : Nat) : gQ (sR σ a b e v) c i j = gQ σ c i j := rfl
theorem gQ_sA (σ : AS) (a b e : Nat) (v : Int32) (c i j : Nat) : gQ (sA σ a b e v) c i j = gQ σ c i j := rfl
theorem gQ_sQ (σ : AS) (a b e : Nat) (v : (Option Nm)) (c i j : Nat) : gQ (sQ σ a b e v) c i j = if c = a ∧ i = b ∧ j = e then v else gQ σ c i j := rfl
theorem gQ_sL (σ : AS) (a b e : Nat) (v : Int64) (c i j : Nat) : gQ (sL σ a b e v) c i j = gQ σ c i j := rfl
theorem gL_sI (σ : AS) (a b e : Nat) (v : Int32) (c i j : Nat) : gL (sI σ a b e v) c i j = gL σ c i j := rfl
theorem gL_sR (σ : AS) (a b e : Nat) (v : (Option Nm)) (c i j : Nat) : gL (sR σ a b e v) c i j = gL σ c i j := rfl
theorem gL_sA (σ : AS) (a b e : Nat) (v : Int32) (c i j : Nat) : gL (sA σ a b e v) c i j = gL σ c i j := rfl
theorem gL_sQ (σ : AS) (a b e : Nat) (v : (Option Nm)) (c i j : Nat) : gL (sQ σ a b e v) c i j = gL σ c i j := rfl
theorem gL_sL (σ : AS) (a b e : Nat) (v : Int64) (c i j : Nat) : gL (sL σ a b e v) c i j = if c = a ∧ i = b ∧ j = e then v else gL σ c i j := rfl
theorem cnt_nO (σ : AS) (a c : Nat) : cnt (nO σ a) c = if c = a then cnt σ a + 1 else cnt σ c := rfl
theorem cnt_nA (σ : AS) (a n c : Nat) : cnt (nA σ a n) c = if c = a then cnt σ a + 1 else cnt σ c := rfl
theorem gI_nO (σ : AS) (a c f i : Nat) : gI (nO σ a) c f i = if c = a ∧ i = cnt σ a then 0 else gI σ c f i := rfl
theorem gI_nA (σ : AS) (a n c f i : Nat) : gI (nA σ a n) c f i = if c = a ∧ i = cnt σ a then 0 else gI σ c f i := rfl
theorem gR_nO (σ : AS) (a c f i : Nat) : gR (nO σ a) c f i = if c = a ∧ i = cnt σ a then none else gR σ c f i := rfl
theorem gR_nA (σ : AS) (a n c f i : Nat) : gR (nA σ a n) c f i = if c = a ∧ i = cnt σ a then none else gR σ c f i := rfl
theorem gN_nO (σ : AS) (a c i : Nat) : gN (nO σ a) c i = if c = a ∧ i = cnt σ a then 0 else gN σ c i := rfl
theorem gN_nA (σ : AS) (a n c i : Nat) : gN (nA σ a n) c i = if c = a ∧ i = cnt σ a then n else gN σ c i := rfl
theorem gA_nO (σ : AS) (a c i j : Nat) : gA (nO σ a) c i j = if c = a ∧ i = cnt σ a then 0 else gA σ c i j := rfl
theorem gA_nA (σ : AS) (a n c i j : Nat) : gA (nA σ a n) c i j = if c = a ∧ i = cnt σ a then 0 else gA σ c i j := rfl
theorem gQ_nO (σ : AS) (a c i j : Nat) : gQ (nO σ a) c i j = if c = a ∧ i = cnt σ a then none else gQ σ c i j := rfl
theorem gQ_nA (σ : AS) (a n c i j : Nat) : gQ (nA σ a n) c i j = if c = a ∧ i = cnt σ a then none else gQ σ c i j := rfl
theorem gL_nO (σ : AS) (a c i j : Nat) : gL (nO σ a) c i j = if c = a ∧ i = cnt σ a then 0 else gL σ c i j := rfl
theorem gL_nA (σ : AS) (a n c i j : Nat) : gL (nA σ a n) c i j = if c = a ∧ i = cnt σ a then 0 else gL σ c i j := rfl
/-- a value of the machine -/
def adn (ad : Nat → Nat → Nat) (n : Nm) : Nat := ad n.1 n.2
def cv (ad : Nat → Nat → Nat) : AVal → Value
  | .inl x => .int x
  | .inr (.inl x) => .long x
  | .inr (.inr r) => va_rf (r.map (adn ad))
def okn (σ : AS) (r : Option Nm) : Prop := ∀ n, r = some n → n.2 < cnt σ n.1
def okv (σ : AS) : AVal → Prop
  | .inr (.inr r) => okn σ r
  | _ => True
/-- all words of the tables that last -/
def TW : List Cond := lw_tbl.filter goodWord
theorem tw_of {w : Cond} (h : w ∈ lw_tbl) (g : goodWord w = true) : w ∈ TW := List.mem_filter.mpr ⟨h, g⟩
theorem tw_at {w : Cond} (i : Nat) (h : decide (lw_tbl[i]? = some w) = true) (g : goodWord w = true) : w ∈ TW := tw_of (List.mem_of_getElem? (of_decide_eq_true h)) g
theorem tw_good {w : Cond} (h : w ∈ TW) : (w.onTables && w.keeps) = true ∨ ∃ ty, w = .arrayClass ty := good_of_word (List.mem_filter.mp h).2
theorem tw_GoodIn {ws : List Cond} (h : ∀ w ∈ ws, w ∈ TW) : GoodIn TW ws := fun w hw => ⟨h w hw, tw_good (h w hw)⟩
/-- the types of the fields of kind c -/
def tyT (c : Nat) : Nat → FieldType := match c with
  | 0 => tyJx4a65c | 1 => tyX0 | 2 => tyX1 | 3 => tyX2 | 4 => tyX3 | 5 => tyX4 | 6 => tyX5 | 7 => tyX6 | 8 => tyX7 | 9 => tyX8 | 10 => tyX9 | 11 => tyX10 | 12 => tyX11 | _ => tyX12
def isRf (c f : Nat) : Bool := match tyT c f with
  | .int => false | .boolean => false | _ => true
theorem cls_words : ∀ r ∈ vwCl, ∀ w ∈ u_ws r.1 r.2.1 r.2.2, w ∈ lw_tbl ∧ goodWord w = true := by decide +kernel
theorem cls_in {c : Nat} {r : vw_C} (h : vwCl[c]? = some r) : ∀ w ∈ u_ws r.1 r.2.1 r.2.2, w ∈ TW := fun w hw => tw_of (cls_words r (List.mem_of_getElem? h) w hw).1 (cls_words r (List.mem_of_getElem? h) w hw).2
theorem cls_ty0 : ∀ c, c < 14 → ∀ k, k < (vwCl.getD c ("", TX0, 0)).2.2 → parseFieldDescriptor ((vwCl.getD c ("", TX0, 0)).2.1 k).2.2.1 = some (tyT c k) := by decide +kernel
theorem cls_nm0 : ∀ c, c < 14 → ∀ a, a < (vwCl.getD c ("", TX0, 0)).2.2 → ∀ b, b < (vwCl.getD c ("", TX0, 0)).2.2 → a ≠ b → ((vwCl.getD c ("", TX0, 0)).2.1 a).2.1 ≠ ((vwCl.getD c ("", TX0, 0)).2.1 b).2.1 := by decide +kernel
theorem cls_lt {c : Nat} {r : vw_C} (h : vwCl[c]? = some r) : c < 14 := (List.getElem?_eq_some_iff.mp h).1
theorem cls_getD {c : Nat} {r : vw_C} (h : vwCl[c]? = some r) : vwCl.getD c ("", TX0, 0) = r := by rw [List.getD_eq_getElem?_getD, h]; rfl
theorem cls_ty {c : Nat} {r : vw_C} (h : vwCl[c]? = some r) : ∀ k, k < r.2.2 → parseFieldDescriptor (r.2.1 k).2.2.1 = some (tyT c k) := by
  have := cls_ty0 c (cls_lt h)
  rw [cls_getD h] at this
  exact this
theorem cls_nm {c : Nat} {r : vw_C} (h : vwCl[c]? = some r) : ∀ a, a < r.2.2 → ∀ b, b < r.2.2 → a ≠ b → (r.2.1 a).2.1 ≠ (r.2.1 b).2.1 := by
  have := cls_nm0 c (cls_lt h)
  rw [cls_getD h] at this
  exact this
/-- what is known of the launch: the classes' and the slots' places; the array classes; the first cell that is ours; the heap at the law's entry; the fixed names' places; the String constants' bytes -/
abbrev GG : Type := va_G × (Nat → ClassId) × Nat × Heap × (Nat → Nat → Nat) × (Nat → Nat)
def gB (G : GG) : Nat := G.2.2.1
def gH (G : GG) : Heap := G.2.2.2.1
def gF (G : GG) : Nat → Nat → Nat := G.2.2.2.2.1
def gV (G : GG) : Nat → Nat := G.2.2.2.2.2
/-- the sort of an array of kind c -/
def aty (c : Nat) : Nat := match c with
  | 21 => 1 | 22 => 2 | 23 => 3 | 24 => 4 | _ => 0
def tysG (G : GG) : List (ClassId × FieldType) := [(G.2.1 0, .int), (G.2.1 1, .boolean), (G.2.1 2, .byte), (G.2.1 3, .object "java/lang/Object"), (G.2.1 4, .long)]
def fv (ad : Nat → Nat → Nat) (σ : AS) (c i f : Nat) : Value := if isRf c f = true then va_rf ((gR σ c f i).map (adn ad)) else .int (gI σ c f i)
def acell (G : GG) (ad : Nat → Nat → Nat) (σ : AS) (c i : Nat) : Cell := match aty c with
  | 3 => arrV (G.2.1 3) (gN σ c i) (fun j => va_rf ((gQ σ c i j).map (adn ad)))
  | 4 => arrV (G.2.1 4) (gN σ c i) (fun j => .long (gL σ c i j))
  | t => arrV (G.2.1 t) (gN σ c i) (fun j => .int (gA σ c i j))
/-- names that lie below: the empty array of ArrayList, the script, the String constants -/
def fixd (c i : Nat) : Prop := (c = 23 ∧ i = 0) ∨ (c = 27 ∧ i = 0) ∨ c = 30 ∨ c = 31
def Rep (G : GG) (ad : Nat → Nat → Nat) (σ : AS) (H : Heap) : Prop :=
  (∀ c i, i < cnt σ c → ∀ r, vwCl[c]? = some r → t_OB (ad c i) (G.1.1 c) r.2.2 (G.1.2 c) H (fv ad σ c i)) ∧
  (∀ c i, 20 ≤ c → c < 28 → i < cnt σ c → H[ad c i]? = some (acell G ad σ c i)) ∧
  (∀ c i c' i', i < cnt σ c → i' < cnt σ c' → ¬ fixd c i → ad c i = ad c' i' → c = c' ∧ i = i') ∧
  (∀ c i, i < cnt σ c → ad c i < H.size ∧ (¬ fixd c i → gB G ≤ ad c i) ∧ (fixd c i → ad c i = gF G c i ∧ ad c i < gB G)) ∧
  (gB G ≤ H.size ∧ ∀ q, q < gB G → H[q]? = (gH G)[q]?) ∧
  (∀ c f i, i < cnt σ c → okn σ (gR σ c f i)) ∧
  (∀ c i j, i < cnt σ c → okn σ (gQ σ c i j)) ∧
  (gN σ 23 0 = 0 ∧ 0 < cnt σ 23 ∧ cnt σ 30 = 21 ∧ cnt σ 31 = 1)
def Ext (σ : AS) (ad : Nat → Nat → Nat) (σ' : AS) (ad' : Nat → Nat → Nat) : Prop := ∀ c i, i < cnt σ c → i < cnt σ' c ∧ ad' c i = ad c i
theorem Ext.rf {σ : AS} {ad : Nat → Nat → Nat} : Ext σ ad σ ad := fun _ _ h => ⟨h, rfl⟩
theorem Ext.tr {σ σ1 σ2 : AS} {ad ad1 ad2 : Nat → Nat → Nat} (h : Ext σ ad σ1 ad1) (k : Ext σ1 ad1 σ2 ad2) : Ext σ ad σ2 ad2 := fun c i z => ⟨(k c i (h c i z).1).1, (k c i (h c i z).1).2.trans (h c i z).2⟩
theorem ext_okn {σ σ' : AS} {ad ad' : Nat → Nat → Nat} (h : Ext σ ad σ' ad') {r : Option Nm} (k : okn σ r) : okn σ' r := fun n e => (h n.1 n.2 (k n e)).1
theorem ext_okv {σ σ' : AS} {ad ad' : Nat → Nat → Nat} (h : Ext σ ad σ' ad') {v : AVal} (k : okv σ v) : okv σ' v := by
  rcases v with x | x | r
  · trivial
  · trivial
  · exact ext_okn h k
theorem ext_mapn {σ σ' : AS} {ad ad' : Nat → Nat → Nat} (h : Ext σ ad σ' ad') {r : Option Nm} (k : okn σ r) : r.map (adn ad') = r.map (adn ad) := by
  cases r with
  | none => rfl
  | some n => exact congrArg some (h n.1 n.2 (k n rfl)).2
theorem ext_cv {σ σ' : AS} {ad ad' : Nat → Nat → Nat} (h : Ext σ ad σ' ad') {v : AVal} (k : okv σ v) : cv ad' v = cv ad v := by
  rcases v with x | x | r
  · rfl
  · rfl
  · exact congrArg va_rf (ext_mapn h k)
theorem ext_cvs {σ σ' : AS} {ad ad' : Nat → Nat → Nat} (h : Ext σ ad σ' ad') {st : List AVal} (k : ∀ v ∈ st, okv σ v) : st.map (cv ad') = st.map (cv ad) := List.map_congr_left fun v hv => ext_cv h (k v hv)
/-- the locals -/
def lget : List (Option AVal) → Nat → Option AVal
  | [], _ => none
  | a :: _, 0 => a
  | _ :: L, i + 1 => lget L i
def lcut : Option AVal → Option AVal
  | some (.inr (.inl _)) => none
  | a => a
def lset : List (Option AVal) → Nat → AVal → List (Option AVal)
  | [], _, _ => []
  | _ :: L, 0, v => some v :: L
  | a :: L, i + 1, v => (match i with | 0 => lcut a | _ => a) :: lset L i v
def lset2 : List (Option AVal) → Nat → AVal → List (Option AVal)
  | [], _, _ => []
  | _ :: L, 0, v => some v :: (match L with | [] => [] | _ :: L' => none :: L')
  | a :: L, i + 1, v => (match i with | 0 => lcut a | _ => a) :: lset2 L i v
def LR (σ : AS) (ad : Nat → Nat → Nat) (nL : Nat) (L : List (Option AVal)) (ls : Array Slot) : Prop := ls.size = nL ∧ lv_wf ls ∧ ∀ i v, lget L i = some v → ls[i]? = some (.val (cv ad v)) ∧ okv σ v
theorem lcut_some {a : Option AVal} {v : AVal} (h : lcut a = some v) : a = some v ∧ ∀ x, v ≠ .inr (.inl x) := by
  rcases a with _ | (x | x | r)
  · cases h
  · cases h; exact ⟨rfl, fun _ h => by cases h⟩
  · cases h
  · cases h; exact ⟨rfl, fun _ h => by cases h⟩
theorem lget_lset : ∀ (L : List (Option AVal)) (i : Nat) (v : AVal) (j : Nat) (w : AVal), lget (lset L i v) j = some w → (j = i ∧ w = v) ∨ (j ≠ i ∧ lget L j = some w ∧ (j + 1 = i → ∀ x, w ≠ .inr (.inl x)))
  | [], i, v, j, w, h => by cases h
  | a :: L, 0, v, 0, w, h => by cases h; exact Or.inl ⟨rfl, rfl⟩
  | a :: L, 0, v, j + 1, w, h => Or.inr ⟨by omega, h, by omega⟩
  | a :: L, 1, v, 0, w, h => by
    obtain ⟨e, n⟩ := lcut_some h
    exact Or.inr ⟨by omega, e, fun _ => n⟩
  | a :: L, i + 2, v, 0, w, h => Or.inr ⟨by omega, h, by omega⟩
  | a :: L, i + 1, v, j + 1, w, h => by
    rcases lget_lset L i v j w h with ⟨e, f⟩ | ⟨e, f, g⟩
    · exact Or.inl ⟨by omega, f⟩
    · exact Or.inr ⟨by omega, f, fun z => g (by omega)⟩
theorem lget_lset2 : ∀ (L : List (Option AVal)) (i : Nat) (v : AVal) (j : Nat) (w : AVal), lget (lset2 L i v) j = some w → (j = i ∧ w = v) ∨ (j ≠ i ∧ j ≠ i + 1 ∧ lget L j = some w ∧ (j + 1 = i → ∀ x, w ≠ .inr (.inl x)))
  | [], i, v, j, w, h => by cases h
  | a :: L, 0, v, 0, w, h => by cases h; exact Or.inl ⟨rfl, rfl⟩
  | [a], 0, v, j + 1, w, h => by cases h
  | a :: b :: L, 0, v, 1, w, h => by cases h
  | a :: b :: L, 0, v, j + 2, w, h => Or.inr ⟨by omega, by omega, h, by omega⟩
  | a :: L, 1, v, 0, w, h => by
    obtain ⟨e, n⟩ := lcut_some h
    exact Or.inr ⟨by omega, by omega, e, fun _ => n⟩
  | a :: L, i + 2, v, 0, w, h => Or.inr ⟨by omega, by omega, h, by omega⟩
  | a :: L, i + 1, v, j + 1, w, h => by
    rcases lget_lset2 L i v j w h with ⟨e, f⟩ | ⟨e, e2, f, g⟩
    · exact Or.inl ⟨by omega, f⟩
    · exact Or.inr ⟨by omega, by omega, f, fun z => g (by omega)⟩
def lpairs (ad : Nat → Nat → Nat) (L : List (Option AVal)) : List (Nat × Value) := (List.range L.length).filterMap fun i => (lget L i).map fun v => (i, cv ad v)
theorem lget_lt : ∀ (L : List (Option AVal)) (i : Nat) (v : AVal), lget L i = some v → i < L.length
  | [], _, _, h => by cases h
  | _ :: _, 0, _, _ => Nat.zero_lt_succ _
  | _ :: L, i + 1, v, h => Nat.succ_lt_succ (lget_lt L i v h)
theorem mem_lpairs {ad : Nat → Nat → Nat} {L : List (Option AVal)} {i : Nat} {v : AVal} (h : lget L i = some v) : (i, cv ad v) ∈ lpairs ad L := List.mem_filterMap.mpr ⟨i, List.mem_range.mpr (lget_lt L i v h), by rw [h]; rfl⟩
theorem LR.has {σ : AS} {ad : Nat → Nat → Nat} {nL : Nat} {L : List (Option AVal)} {ls : Array Slot} (h : LR σ ad nL L ls) : lv_has ls nL (lpairs ad L) := by
  refine ⟨h.1, h.2.1, fun q hq => ?_⟩
  obtain ⟨i, -, hi⟩ := List.mem_filterMap.mp hq
  cases hv : lget L i with
  | none => rw [hv] at hi; cases hi
  | some v =>
    rw [hv] at hi
    cases hi
    exact (h.2.2 i v hv).1
theorem cv_cat1 {ad : Nat → Nat → Nat} {v : AVal} (h : ∀ x, v ≠ .inr (.inl x)) : (cv ad v).category = 1 := by
  rcases v with x | x | r
  · rfl
  · exact absurd rfl (h x)
  · cases r <;> rfl
theorem LR.st1 {σ : AS} {ad : Nat → Nat → Nat} {nL i : Nat} {L : List (Option AVal)} {ls ls' : Array Slot} {v : AVal} (h : LR σ ad nL L ls) (hv : okv σ v) (k : lv_has ls' nL ((i, cv ad v) :: (lpairs ad L).filter (fun q => !(q.1 == i) && !(q.1 + 1 == i && q.2.category == 2)))) : LR σ ad nL (lset L i v) ls' := by
  refine ⟨k.1, k.2.1, fun j w hj => ?_⟩
  rcases lget_lset L i v j w hj with ⟨rfl, rfl⟩ | ⟨h1, h2, h3⟩
  · exact ⟨k.2.2 _ List.mem_cons_self, hv⟩
  · refine ⟨k.2.2 (j, cv ad w) (List.mem_cons_of_mem _ (List.mem_filter.mpr ⟨mem_lpairs h2, ?_⟩)), (h.2.2 j w h2).2⟩
    by_cases hji : j + 1 = i
    · have hc := cv_cat1 (ad := ad) (h3 hji)
      simp [h1, hc]
    · simp [h1, hji]
theorem LR.st2 {σ : AS} {ad : Nat → Nat → Nat} {nL i : Nat} {L : List (Option AVal)} {ls ls' : Array Slot} {v : AVal} (h : LR σ ad nL L ls) (hv : okv σ v) (k : lv_has ls' nL ((i, cv ad v) :: (lpairs ad L).filter (fun q => !(q.1 == i) && (!(q.1 == i + 1) && !(q.1 + 1 == i && q.2.category == 2))))) : LR σ ad nL (lset2 L i v) ls' := by
  refine ⟨k.1, k.2.1, fun j w hj => ?_⟩
  rcases lget_lset2 L i v j w hj with ⟨rfl, rfl⟩ | ⟨h1, h4, h2, h3⟩
  · exact ⟨k.2.2 _ List.mem_cons_self, hv⟩
  · refine ⟨k.2.2 (j, cv ad w) (List.mem_cons_of_mem _ (List.mem_filter.mpr ⟨mem_lpairs h2, ?_⟩)), (h.2.2 j w h2).2⟩
    by_cases hji : j + 1 = i
    · have hc := cv_cat1 (ad := ad) (h3 hji)
      simp [h1, h4, hc]
    · simp [h1, h4, hji]
theorem LR.ext {σ σ' : AS} {ad ad' : Nat → Nat → Nat} {nL : Nat} {L : List (Option AVal)} {ls : Array Slot} (h : LR σ ad nL L ls) (x : Ext σ ad σ' ad') : LR σ' ad' nL L ls := ⟨h.1, h.2.1, fun i v hv => ⟨by rw [ext_cv x (h.2.2 i v hv).2]; exact (h.2.2 i v hv).1, ext_okv x (h.2.2 i v hv).2⟩⟩
end
section
/-! What is known of the launch; walks in words of states. -/
def jsB : List (List Int32) := [[115, 99, 101, 110, 101], [97, 116], [102, 111, 114], [119, 97, 110, 116], [110, 111, 116], [97, 110, 121, 111, 110, 101], [108, 111, 111, 107], [104, 111, 109, 101], [115, 101, 101, 110], [97, 103, 101], [116, 97, 108, 108], [97, 110, 100], [111, 114], [98, 97, 115, 101], [111, 118, 101, 114], [98, 101, 102, 111, 114, 101], [97, 102, 116, 101, 114], [101, 97, 99, 104], [117, 112], [100, 111, 119, 110], [110, 111, 32, 115, 117, 99, 104, 32, 112, 101, 114, 115, 111, 110, 44, 32, 115, 99, 101, 110, 101, 32, 111, 114, 32, 110, 117, 109, 98, 101, 114, 32, 111, 102, 32, 102, 97, 99, 116, 115]]
def strW : List (String × Nat × String × Nat) := [("ExtrasOffice$AskReader", 36, "scene", 0), ("ExtrasOffice$AskReader", 78, "at", 1), ("ExtrasOffice$AskReader", 83, "for", 2), ("ExtrasOffice$AskReader", 88, "want", 3), ("ExtrasOffice$AskReader", 107, "not", 4), ("ExtrasOffice$AskReader", 129, "anyone", 5), ("ExtrasOffice$AskReader", 131, "look", 6), ("ExtrasOffice$AskReader", 133, "home", 7), ("ExtrasOffice$AskReader", 135, "seen", 8), ("ExtrasOffice$AskReader", 137, "age", 9), ("ExtrasOffice$AskReader", 139, "tall", 10), ("ExtrasOffice$AskReader", 99, "and", 11), ("ExtrasOffice$AskReader", 102, "or", 12), ("ExtrasOffice$Term", 15, "base", 13), ("ExtrasOffice$Term", 23, "over", 14), ("ExtrasOffice$Term", 25, "before", 15), ("ExtrasOffice$Term", 27, "after", 16), ("ExtrasOffice$Term", 40, "each", 17), ("ExtrasOffice$Term", 46, "up", 18), ("ExtrasOffice$Term", 52, "down", 19), ("ExtrasOffice", 209, "no such person, scene or number of facts", 20), ("ExtrasOfficeModel", 276, "scene", 0), ("ExtrasOfficeModel", 280, "at", 1), ("ExtrasOfficeModel", 284, "for", 2), ("ExtrasOfficeModel", 286, "want", 3), ("ExtrasOfficeModel", 248, "not", 4), ("ExtrasOfficeModel", 256, "anyone", 5), ("ExtrasOfficeModel", 258, "look", 6), ("ExtrasOfficeModel", 270, "home", 7), ("ExtrasOfficeModel", 271, "seen", 8), ("ExtrasOfficeModel", 273, "age", 9), ("ExtrasOfficeModel", 274, "tall", 10), ("ExtrasOfficeModel", 246, "and", 11), ("ExtrasOfficeModel", 241, "or", 12), ("ExtrasOfficeModel", 337, "base", 13), ("ExtrasOfficeModel", 339, "over", 14), ("ExtrasOfficeModel", 341, "before", 15), ("ExtrasOfficeModel", 343, "after", 16), ("ExtrasOfficeModel", 348, "each", 17), ("ExtrasOfficeModel", 350, "up", 18), ("ExtrasOfficeModel", 352, "down", 19)]
def castW : List String := ["ExtrasOffice", "java/util/ArrayList", "ExtrasOffice$Row", "ExtrasOffice$Tokens", "ExtrasOffice$AskReader", "ExtrasOffice$Facts", "ExtrasOffice$Plan", "ExtrasOffice$Dressing", "ExtrasOfficeModel", "ExtrasOffice$Person", "ExtrasOffice$Ask", "ExtrasOffice$Agreement", "ExtrasOffice$Term", "ExtrasOffice$Turn", "java/util/NoSuchElementException", "java/lang/Throwable", "java/lang/String", "[I", "[Ljava/lang/Object;", "[B", "[Z", "[J"]
def nestW : List (String × Nat × MethodName × String) := [("ExtrasOffice", 48, yX4_init, "ExtrasOffice"), ("ExtrasOffice", 64, yX3_init, "ExtrasOffice"), ("ExtrasOffice$Tokens", 71, yX11_within, "ExtrasOffice")]
def gA0 (G : GG) : Nat → Prop := fun q => gB G ≤ q
def jsOK (G : GG) (U : State) : Prop := ∀ i, i < 21 → va_O "java/lang/String" (gF G 30 i) (gA0 G) U (gH G) ∧ va_OF "java/lang/String" "coder" "B" (.int 0) (gF G 30 i) (gA0 G) U (gH G) ∧ va_OF "java/lang/String" "value" "[B" (.ref (gV G i)) (gF G 30 i) (gA0 G) U (gH G) ∧ va_T .byte (gV G i) (jsB.getD i []).length (fun j => .int ((jsB.getD i []).getD j 0)) (gA0 G) U (gH G)
def KK (G : GG) (U : State) : Prop := va_K G.1 vwCl (tysG G) U ∧ (∀ q ∈ nestW, va_Nw (.methodLinkNest q.1 q.2.1 q.2.2.1 q.2.2.2) U) ∧ (∀ C ∈ castW, va_Nw (.castable C "java/lang/Object") U) ∧ (va_Dc U ∧ va_AO "java/lang/Object" U ∧ va_Mi "[Ljava/lang/Object;" (gF G 31 0) U) ∧ jsOK G U ∧ (∀ q ∈ strW, vk_R q.1 q.2.1 q.2.2.1 (gF G 30 q.2.2.2) U) ∧ va_Z "java/util/ArrayList" "DEFAULTCAPACITY_EMPTY_ELEMENTDATA" "[Ljava/lang/Object;" (.ref (gF G 23 0)) (gA0 G) U (gH G) ∧ va_Z "java/lang/String" "COMPACT_STRINGS" "Z" (.int 1) (gA0 G) U (gH G) ∧ va_Zq "jdk/internal/util/Preconditions" "SIOOBE_FORMATTER" "Ljava/util/function/BiFunction;" (gA0 G) U (gH G)
theorem KK.warm {G : GG} {s U : State} (hW : s.WarmedH U.vm) (h : KK G s) : KK G U := by
  obtain ⟨h1, h2, h3, ⟨h4, h5, h6⟩, h7, h8, h9, h10, h11⟩ := h
  exact ⟨va_K.moved hW.alike h1, fun q hq => va_Nw.warmM hW (h2 q hq), fun C hC => va_Nw.warmC hW (h3 C hC), ⟨h4.moved hW.alike, h5.moved hW.alike, h6.moved hW.alike⟩, fun i hi => ⟨va_O.moved hW.alike (h7 i hi).1, va_OF.moved hW.alike (h7 i hi).2.1, va_OF.moved hW.alike (h7 i hi).2.2.1, va_T.moved hW.alike (h7 i hi).2.2.2⟩, fun q hq => vk_R.warm hW (h8 q hq), va_Z.moved hW.alike h9, va_Z.moved hW.alike h10, va_Zq.moved hW.alike h11⟩
theorem KK.same {G : GG} {u U : State} (hv : u.vm = U.vm) (h : KK G u) : KK G U := by
  obtain ⟨h1, h2, h3, ⟨h4, h5, h6⟩, h7, h8, h9, h10, h11⟩ := h
  have hA : u.vm.Alike U.vm := by rw [hv]; exact Vm.Alike.refl U.vm
  exact ⟨va_K.moved hA h1, fun q hq => va_Nw.same rfl hv (h2 q hq), fun C hC => va_Nw.same rfl hv (h3 C hC), ⟨h4.moved hA, h5.moved hA, h6.moved hA⟩, fun i hi => ⟨va_O.moved hA (h7 i hi).1, va_OF.moved hA (h7 i hi).2.1, va_OF.moved hA (h7 i hi).2.2.1, va_T.moved hA (h7 i hi).2.2.2⟩, fun q hq => vk_R.same hv.symm (h8 q hq), va_Z.moved hA h9, va_Z.moved hA h10, va_Zq.moved hA h11⟩
/-- a method: name, code, locals, what it answers -/
abbrev Mth : Type := MethodName × ByteArray × Nat × Option FieldType
def mY (M : Mth) : MethodName := M.1
def mC (M : Mth) : ByteArray := M.2.1
def mL (M : Mth) : Nat := M.2.2.1
def mR (M : Mth) : Option FieldType := M.2.2.2
def mO (M : Mth) : String := M.1.cls
def Cx (G : GG) (M : Mth) (d : Nat) (p : Program) (R : Room) (s : State) (m : MethodId) (args : Array Value) (meth : Method) (c : Code) : Prop :=
  p.tables.exec = Jvm.exec ∧ c.code = mC M ∧ c.maxLocals = mL M ∧ meth.sig.returnType = mR M ∧ s.vm.findClass (mO M) = some m.cls ∧ (∀ w ∈ TW, w.before args s = true) ∧ meth.locks = false ∧ meth.name = (mY M).name ∧ KK G s ∧ d ≤ R.frames ∧ 41 * d ≤ R.locals
/-- the walk from here on ends, with 'post' of its answer and of the state, making at most k objects of n slots -/
def AW (G : GG) (l : Launch) (M : Mth) (d : Nat) (post : Option AVal → AS → Prop) (σ : AS) (kk nn pc : Nat) (L : List (Option AVal)) (st : List AVal) : Prop :=
  ∀ (p : Program) (e : Env) (R : Room) (s : State) (m : MethodId) (args : Array Value) (below : List Frame) (meth : Method) (c : Code) (Qc : Array Value → State → Outcome → State → Prop) (ad : Nat → Nat → Nat) (H : Heap) (ls : Array Slot) (locs : List Loc) (cells slots : Nat),
    Cx G M d p R s m args meth c → Rep G ad σ H → LR σ ad (mL M) L ls → (∀ v ∈ st, okv σ v) → (∀ q ∈ locs, gB G ≤ q.base) → cells + kk ≤ R.cells → slots + nn ≤ R.slots →
    (∀ (v : Option AVal) (ad' : Nat → Nat → Nat) (σ' : AS) (t : State), s.WarmedH t.vm → Rep G ad' σ' t.heap → Ext σ ad σ' ad' → (∀ w ∈ v, okv σ' w) → post v σ' → Qc args s (.returned (v.map (cv ad'))) t) →
    W p l e R s m args below meth c H locs cells slots (MQ below Qc args s R.cells R.slots (gA0 G)) (F0 m pc ls (st.map (cv ad)))
/-- a method's contract: from state σ with these arguments it returns, with 'post' -/
def AMet (G : GG) (l : Launch) (M : Mth) (d mc ms : Nat) (as : List AVal) (σ : AS) (post : Option AVal → AS → Prop) : Prop :=
  ∀ ad : Nat → Nat → Nat, Met l (mY M) (.code (mY M) (mC M) (mL M) (mR M) :: TW) { frames := d, cells := mc, slots := ms, locals := 41 * d } (fun v U => v = (as.map (cv ad)).toArray ∧ Rep G ad σ U.heap ∧ (∀ v ∈ as, okv σ v) ∧ KK G U) (fun _ st o t => ∃ (v : Option AVal) (ad' : Nat → Nat → Nat) (σ' : AS), o = .returned (v.map (cv ad')) ∧ Rep G ad' σ' t.heap ∧ Ext σ ad σ' ad' ∧ (∀ w ∈ v, okv σ' w) ∧ post v σ') mc ms (gA0 G)
/-- the locals at the entry -/
def largs : List AVal → List (Option AVal)
  | [] => []
  | v :: vs => match v with
    | .inr (.inl x) => some (.inr (.inl x)) :: none :: largs vs
    | v => some v :: largs vs
def lpad : Nat → List (Option AVal) → List (Option AVal)
  | 0, _ => []
  | n + 1, [] => none :: lpad n []
  | n + 1, a :: L => a :: lpad n L
theorem lget_lpad : ∀ (n : Nat) (L : List (Option AVal)) (i : Nat) (v : AVal), lget (lpad n L) i = some v → lget L i = some v
  | 0, L, i, v, h => by cases h
  | n + 1, [], 0, v, h => by cases h
  | n + 1, [], i + 1, v, h => by
    have := lget_lpad n [] i v h
    cases this
  | n + 1, a :: L, 0, v, h => h
  | n + 1, a :: L, i + 1, v, h => lget_lpad n L i v h
theorem lget_largs (ad : Nat → Nat → Nat) : ∀ (vs : List AVal) (i : Nat) (v : AVal), lget (largs vs) i = some v → (lg_sl (vs.map (cv ad)))[i]? = some (.val (cv ad v)) ∧ v ∈ vs
  | [], i, v, h => by cases h
  | .inl x :: vs, 0, v, h => by cases h; exact ⟨rfl, List.mem_cons_self⟩
  | .inl x :: vs, i + 1, v, h => by
    obtain ⟨a, b⟩ := lget_largs ad vs i v h
    exact ⟨a, List.mem_cons_of_mem _ b⟩
  | .inr (.inl x) :: vs, 0, v, h => by cases h; exact ⟨rfl, List.mem_cons_self⟩
  | .inr (.inl x) :: vs, 1, v, h => by cases h
  | .inr (.inl x) :: vs, i + 2, v, h => by
    obtain ⟨a, b⟩ := lget_largs ad vs i v h
    exact ⟨a, List.mem_cons_of_mem _ b⟩
  | .inr (.inr none) :: vs, 0, v, h => by cases h; exact ⟨rfl, List.mem_cons_self⟩
  | .inr (.inr none) :: vs, i + 1, v, h => by
    obtain ⟨a, b⟩ := lget_largs ad vs i v h
    exact ⟨a, List.mem_cons_of_mem _ b⟩
  | .inr (.inr (some r)) :: vs, 0, v, h => by cases h; exact ⟨rfl, List.mem_cons_self⟩
  | .inr (.inr (some r)) :: vs, i + 1, v, h => by
    obtain ⟨a, b⟩ := lget_largs ad vs i v h
    exact ⟨a, List.mem_cons_of_mem _ b⟩
theorem llen_largs (ad : Nat → Nat → Nat) : ∀ (vs : List AVal), (lg_sl (vs.map (cv ad))).length = (largs vs).length
  | [] => rfl
  | .inl x :: vs => congrArg (· + 1) (llen_largs ad vs)
  | .inr (.inl x) :: vs => congrArg (· + 2) (llen_largs ad vs)
  | .inr (.inr none) :: vs => congrArg (· + 1) (llen_largs ad vs)
  | .inr (.inr (some r)) :: vs => congrArg (· + 1) (llen_largs ad vs)
theorem KK.blind {G : GG} {U : State} {g : JFrame} {mk : MethodId} {a : Array Value} (h : KK G U) : KK G (U.calling g mk a) := KK.same (u := U) rfl h
set_option maxHeartbeats 1000000 in
theorem AMet.of {G : GG} {l : Launch} {M : Mth} {d mc ms : Nat} {as : List AVal} {σ : AS} {post : Option AVal → AS → Prop} (hy : plainName (mY M).cls = true) (hl : (largs as).length ≤ mL M) (h : AW G l M d post σ mc ms 0 (lpad (mL M) (largs as)) []) : AMet G l M d mc ms as σ post := by
  intro ad
  refine Met.ofW (cc := mC M) (maxL := mL M) (ret := mR M) hy rfl ?_
  intro p e s m args below meth c s₁ B hml hv
  obtain ⟨rfl, hR, hok, hK⟩ := hv
  have hts : ∀ w ∈ (Cond.code (mY M) (mC M) (mL M) (mR M) :: TW), w.before ((as.map (cv ad)).toArray) s = true := atoms_spec B.pre
  have hown : s.vm.findClass (mY M).cls = some m.cls := findClass_of_methodNamed B.named
  rw [lg_entry_eq]
  have hle := lv_entry (as.map (cv ad)) (n := mL M) (by rw [llen_largs]; exact hl)
  refine h p e _ s m _ below meth c _ ad s.heap _ [] 0 0 ⟨B.exec, B.bytes, hml, B.returns, hown, fun w hw => hts w (List.mem_cons_of_mem _ hw), B.notSynchronized, (name_of_methodNamed B.named B.method).1, hK, Nat.le_refl _, Nat.le_refl _⟩ hR ⟨hle.1, hle.2.1, fun i v hi => ?_⟩ (fun _ h => by cases h) (fun _ h => by cases h) (by show 0 + mc ≤ mc; omega) (by show 0 + ms ≤ ms; omega) (fun v ad' σ' t hW hR' hE hok' hp => ⟨v, ad', σ', rfl, hR', hE, hok', hp⟩)
  obtain ⟨a, b⟩ := lget_largs ad as i v (lget_lpad _ _ _ _ hi)
  refine ⟨?_, hok v b⟩
  rw [List.getElem?_toArray, List.getElem?_append_left (List.getElem?_eq_some_iff.mp a).1]
  exact a
theorem AMet.mono {G : GG} {l : Launch} {M : Mth} {d mc ms : Nat} {as : List AVal} {σ : AS} {post post' : Option AVal → AS → Prop} (h : AMet G l M d mc ms as σ post) (hp : ∀ v σ', post v σ' → post' v σ') : AMet G l M d mc ms as σ post' := fun ad => MetFree.mono (h ad) (fun _ _ h => h) (fun _ _ _ _ _ h => h) (fun _ _ _ _ _ ⟨⟨v, ad', σ', h1, h2, h3, h4, h5⟩, hL⟩ => ⟨⟨v, ad', σ', h1, h2, h3, h4, hp v σ' h5⟩, hL⟩)
theorem ok_tl {σ : AS} {a : AVal} {st : List AVal} (h : ∀ v ∈ a :: st, okv σ v) : ∀ v ∈ st, okv σ v := (List.forall_mem_cons.mp h).2
theorem ok_hd {σ : AS} {a : AVal} {st : List AVal} (h : ∀ v ∈ a :: st, okv σ v) : okv σ a := (List.forall_mem_cons.mp h).1
theorem ok_c {σ : AS} {a : AVal} {st : List AVal} (ha : okv σ a) (h : ∀ v ∈ st, okv σ v) : ∀ v ∈ a :: st, okv σ v := List.forall_mem_cons.mpr ⟨ha, h⟩
theorem ok_t {σ : AS} {x : Int32} : okv σ (xI x) := trivial
theorem ok_tL {σ : AS} {x : Int64} : okv σ (xL x) := trivial
section ROWS1
variable {G : GG} {l : Launch} {M : Mth} {d : Nat} {post : Option AVal → AS → Prop} {σ : AS} {kk nn pc : Nat} {L : List (Option AVal)} {st : List AVal}

theorem aw_iconst {n : Int} {x : Int32} (hd : decode (mC M) pc = .ok (.iconst n, 1)) (hv : Int32.ofInt n = x) (k : AW G l M d post σ kk nn (pc + 1) L (xI x :: st)) : AW G l M d post σ kk nn pc L st := by
  intro p e R s m args below meth c Qc ad H ls locs cells slots C hR hL hst hlo hc hs hQ
  exact lv_iconst C.1 C.2.1 hd hv (k p e R s m args below meth c Qc ad H ls locs cells slots C hR hL (ok_c ok_t hst) hlo hc hs hQ)
theorem aw_bipush {n : Int} {x : Int32} (hd : decode (mC M) pc = .ok (.bipush n, 2)) (hv : (Int8.ofInt n).toInt32 = x) (k : AW G l M d post σ kk nn (pc + 2) L (xI x :: st)) : AW G l M d post σ kk nn pc L st := by
  intro p e R s m args below meth c Qc ad H ls locs cells slots C hR hL hst hlo hc hs hQ
  exact lv_bipush C.1 C.2.1 hd hv (k p e R s m args below meth c Qc ad H ls locs cells slots C hR hL (ok_c ok_t hst) hlo hc hs hQ)
theorem aw_sipush {n : Int} {x : Int32} (hd : decode (mC M) pc = .ok (.sipush n, 3)) (hv : (Int16.ofInt n).toInt32 = x) (k : AW G l M d post σ kk nn (pc + 3) L (xI x :: st)) : AW G l M d post σ kk nn pc L st := by
  intro p e R s m args below meth c Qc ad H ls locs cells slots C hR hL hst hlo hc hs hQ
  exact lv_sipush C.1 C.2.1 hd hv (k p e R s m args below meth c Qc ad H ls locs cells slots C hR hL (ok_c ok_t hst) hlo hc hs hQ)
theorem aw_lconst {n : Fin 2} {x : Int64} (hd : decode (mC M) pc = .ok (.lconst n, 1)) (hv : Int64.ofNat (n : Nat) = x) (k : AW G l M d post σ kk nn (pc + 1) L (xL x :: st)) : AW G l M d post σ kk nn pc L st := by
  intro p e R s m args below meth c Qc ad H ls locs cells slots C hR hL hst hlo hc hs hQ
  exact lv_lconst C.1 C.2.1 hd hv (k p e R s m args below meth c Qc ad H ls locs cells slots C hR hL (ok_c ok_tL hst) hlo hc hs hQ)
theorem aw_null  (hd : decode (mC M) pc = .ok (.aconst_null, 1))  (k : AW G l M d post σ kk nn (pc + 1) L (xR none :: st)) : AW G l M d post σ kk nn pc L st := by
  intro p e R s m args below meth c Qc ad H ls locs cells slots C hR hL hst hlo hc hs hQ
  exact lv_null C.1 C.2.1 hd (k p e R s m args below meth c Qc ad H ls locs cells slots C hR hL (ok_c (fun _ h => by cases h) hst) hlo hc hs hQ)
theorem aw_ldcI {i : Nat} {x : Int32} (hd : decode (mC M) pc = .ok (.ldc i, 2)) (hw : Cond.constant (mO M) i x ∈ TW) (k : AW G l M d post σ kk nn (pc + 2) L (xI x :: st)) : AW G l M d post σ kk nn pc L st := by
  intro p e R s m args below meth c Qc ad H ls locs cells slots C hR hL hst hlo hc hs hQ
  exact lv_ldc C.1 C.2.1 C.2.2.2.2.1 (C.2.2.2.2.2.1 _ hw) hd (k p e R s m args below meth c Qc ad H ls locs cells slots C hR hL (ok_c ok_t hst) hlo hc hs hQ)
theorem aw_ldcwI {i : Nat} {x : Int32} (hd : decode (mC M) pc = .ok (.ldc_w i, 3)) (hw : Cond.constant (mO M) i x ∈ TW) (k : AW G l M d post σ kk nn (pc + 3) L (xI x :: st)) : AW G l M d post σ kk nn pc L st := by
  intro p e R s m args below meth c Qc ad H ls locs cells slots C hR hL hst hlo hc hs hQ
  exact lv_ldcw C.1 C.2.1 C.2.2.2.2.1 (C.2.2.2.2.2.1 _ hw) hd (k p e R s m args below meth c Qc ad H ls locs cells slots C hR hL (ok_c ok_t hst) hlo hc hs hQ)
theorem aw_ldc2 {i : Nat} {x : Int64} (hd : decode (mC M) pc = .ok (.ldc2_w i, 3)) (hw : Cond.constantLong (mO M) i x ∈ TW) (k : AW G l M d post σ kk nn (pc + 3) L (xL x :: st)) : AW G l M d post σ kk nn pc L st := by
  intro p e R s m args below meth c Qc ad H ls locs cells slots C hR hL hst hlo hc hs hQ
  exact lv_ldc2 C.1 C.2.1 C.2.2.2.2.1 (C.2.2.2.2.2.1 _ hw) hd (k p e R s m args below meth c Qc ad H ls locs cells slots C hR hL (ok_c ok_tL hst) hlo hc hs hQ)
theorem aw_iload_n {j : Fin 4} {i : Nat} {x : Int32} (hd : decode (mC M) pc = .ok (.iload_n j, 1)) (hi : (j : Nat) = i) (hl : lget L i = some (xI x)) (k : AW G l M d post σ kk nn (pc + 1) L (xI x :: st)) : AW G l M d post σ kk nn pc L st := by
  intro p e R s m args below meth c Qc ad H ls locs cells slots C hR hL hst hlo hc hs hQ
  exact lv_iload_n C.1 C.2.1 hd hi (hL.2.2 _ _ hl).1 (k p e R s m args below meth c Qc ad H ls locs cells slots C hR hL (ok_c ok_t hst) hlo hc hs hQ)
theorem aw_iload {i : Nat} {x : Int32} (hd : decode (mC M) pc = .ok (.iload i, 2)) (hl : lget L i = some (xI x)) (k : AW G l M d post σ kk nn (pc + 2) L (xI x :: st)) : AW G l M d post σ kk nn pc L st := by
  intro p e R s m args below meth c Qc ad H ls locs cells slots C hR hL hst hlo hc hs hQ
  exact lv_iload C.1 C.2.1 hd (hL.2.2 _ _ hl).1 (k p e R s m args below meth c Qc ad H ls locs cells slots C hR hL (ok_c ok_t hst) hlo hc hs hQ)
theorem aw_lload_n {j : Fin 4} {i : Nat} {x : Int64} (hd : decode (mC M) pc = .ok (.lload_n j, 1)) (hi : (j : Nat) = i) (hl : lget L i = some (xL x)) (k : AW G l M d post σ kk nn (pc + 1) L (xL x :: st)) : AW G l M d post σ kk nn pc L st := by
  intro p e R s m args below meth c Qc ad H ls locs cells slots C hR hL hst hlo hc hs hQ
  exact lv_lload_n C.1 C.2.1 hd hi (hL.2.2 _ _ hl).1 (k p e R s m args below meth c Qc ad H ls locs cells slots C hR hL (ok_c ok_tL hst) hlo hc hs hQ)
theorem aw_lload {i : Nat} {x : Int64} (hd : decode (mC M) pc = .ok (.lload i, 2)) (hl : lget L i = some (xL x)) (k : AW G l M d post σ kk nn (pc + 2) L (xL x :: st)) : AW G l M d post σ kk nn pc L st := by
  intro p e R s m args below meth c Qc ad H ls locs cells slots C hR hL hst hlo hc hs hQ
  exact lv_lload C.1 C.2.1 hd (hL.2.2 _ _ hl).1 (k p e R s m args below meth c Qc ad H ls locs cells slots C hR hL (ok_c ok_tL hst) hlo hc hs hQ)
theorem aw_aload_n {j : Fin 4} {i : Nat} {r : Option Nm} (hd : decode (mC M) pc = .ok (.aload_n j, 1)) (hi : (j : Nat) = i) (hl : lget L i = some (xR r)) (k : AW G l M d post σ kk nn (pc + 1) L (xR r :: st)) : AW G l M d post σ kk nn pc L st := by
  intro p e R s m args below meth c Qc ad H ls locs cells slots C hR hL hst hlo hc hs hQ
  have k2 := k p e R s m args below meth c Qc ad H ls locs cells slots C hR hL (ok_c (hL.2.2 _ _ hl).2 hst) hlo hc hs hQ
  cases r with
  | none => exact lv_aload_nN C.1 C.2.1 hd hi (hL.2.2 _ _ hl).1 k2
  | some n => exact lv_aload_n C.1 C.2.1 hd hi (hL.2.2 _ _ hl).1 k2
theorem aw_aload {i : Nat} {r : Option Nm} (hd : decode (mC M) pc = .ok (.aload i, 2)) (hl : lget L i = some (xR r)) (k : AW G l M d post σ kk nn (pc + 2) L (xR r :: st)) : AW G l M d post σ kk nn pc L st := by
  intro p e R s m args below meth c Qc ad H ls locs cells slots C hR hL hst hlo hc hs hQ
  have k2 := k p e R s m args below meth c Qc ad H ls locs cells slots C hR hL (ok_c (hL.2.2 _ _ hl).2 hst) hlo hc hs hQ
  cases r with
  | none => exact lv_aloadN C.1 C.2.1 hd (hL.2.2 _ _ hl).1 k2
  | some n => exact lv_aload C.1 C.2.1 hd (hL.2.2 _ _ hl).1 k2
theorem aw_istore_n {j : Fin 4} {i : Nat} {x : Int32} (hd : decode (mC M) pc = .ok (.istore_n j, 1)) (hi : (j : Nat) = i) (hn : i < mL M) (k : AW G l M d post σ kk nn (pc + 1) (lset L i (xI x)) st) : AW G l M d post σ kk nn pc L (xI x :: st) := by
  intro p e R s m args below meth c Qc ad H ls locs cells slots C hR hL hst hlo hc hs hQ
  exact lv_istore_n C.1 C.2.1 hd hi hL.has hn rfl (fun ls2 h2 => k p e R s m args below meth c Qc ad H ls2 locs cells slots C hR (hL.st1 (v := xI x) trivial h2) (ok_tl hst) hlo hc hs hQ)
theorem aw_lstore_n {j : Fin 4} {i : Nat} {x : Int64} (hd : decode (mC M) pc = .ok (.lstore_n j, 1)) (hi : (j : Nat) = i) (hn : i + 1 < mL M) (k : AW G l M d post σ kk nn (pc + 1) (lset2 L i (xL x)) st) : AW G l M d post σ kk nn pc L (xL x :: st) := by
  intro p e R s m args below meth c Qc ad H ls locs cells slots C hR hL hst hlo hc hs hQ
  exact lv_lstore_n C.1 C.2.1 hd hi hL.has hn rfl (fun ls2 h2 => k p e R s m args below meth c Qc ad H ls2 locs cells slots C hR (hL.st2 (v := xL x) trivial h2) (ok_tl hst) hlo hc hs hQ)
theorem aw_astore_n {j : Fin 4} {i : Nat} {r : Option Nm} (hd : decode (mC M) pc = .ok (.astore_n j, 1)) (hi : (j : Nat) = i) (hn : i < mL M) (k : AW G l M d post σ kk nn (pc + 1) (lset L i (xR r)) st) : AW G l M d post σ kk nn pc L (xR r :: st) := by
  intro p e R s m args below meth c Qc ad H ls locs cells slots C hR hL hst hlo hc hs hQ
  cases r with
  | none => exact lv_astore_nN C.1 C.2.1 hd hi hL.has hn rfl (fun ls2 h2 => k p e R s m args below meth c Qc ad H ls2 locs cells slots C hR (hL.st1 (v := xR none) (ok_hd hst) h2) (ok_tl hst) hlo hc hs hQ)
  | some n => exact lv_astore_n C.1 C.2.1 hd hi hL.has hn rfl (fun ls2 h2 => k p e R s m args below meth c Qc ad H ls2 locs cells slots C hR (hL.st1 (v := xR (some n)) (ok_hd hst) h2) (ok_tl hst) hlo hc hs hQ)
theorem aw_istore {i : Nat} {x : Int32} (hd : decode (mC M) pc = .ok (.istore i, 2)) (hn : i < mL M) (k : AW G l M d post σ kk nn (pc + 2) (lset L i (xI x)) st) : AW G l M d post σ kk nn pc L (xI x :: st) := by
  intro p e R s m args below meth c Qc ad H ls locs cells slots C hR hL hst hlo hc hs hQ
  exact lv_istore C.1 C.2.1 hd hL.has hn rfl (fun ls2 h2 => k p e R s m args below meth c Qc ad H ls2 locs cells slots C hR (hL.st1 (v := xI x) trivial h2) (ok_tl hst) hlo hc hs hQ)
theorem aw_lstore {i : Nat} {x : Int64} (hd : decode (mC M) pc = .ok (.lstore i, 2)) (hn : i + 1 < mL M) (k : AW G l M d post σ kk nn (pc + 2) (lset2 L i (xL x)) st) : AW G l M d post σ kk nn pc L (xL x :: st) := by
  intro p e R s m args below meth c Qc ad H ls locs cells slots C hR hL hst hlo hc hs hQ
  exact lv_lstore C.1 C.2.1 hd hL.has hn rfl (fun ls2 h2 => k p e R s m args below meth c Qc ad H ls2 locs cells slots C hR (hL.st2 (v := xL x) trivial h2) (ok_tl hst) hlo hc hs hQ)
theorem aw_astore {i : Nat} {r : Option Nm} (hd : decode (mC M) pc = .ok (.astore i, 2)) (hn : i < mL M) (k : AW G l M d post σ kk nn (pc + 2) (lset L i (xR r)) st) : AW G l M d post σ kk nn pc L (xR r :: st) := by
  intro p e R s m args below meth c Qc ad H ls locs cells slots C hR hL hst hlo hc hs hQ
  cases r with
  | none => exact lv_astoreN C.1 C.2.1 hd hL.has hn rfl (fun ls2 h2 => k p e R s m args below meth c Qc ad H ls2 locs cells slots C hR (hL.st1 (v := xR none) (ok_hd hst) h2) (ok_tl hst) hlo hc hs hQ)
  | some n => exact lv_astore C.1 C.2.1 hd hL.has hn rfl (fun ls2 h2 => k p e R s m args below meth c Qc ad H ls2 locs cells slots C hR (hL.st1 (v := xR (some n)) (ok_hd hst) h2) (ok_tl hst) hlo hc hs hQ)
theorem aw_iinc {i : Nat} {n : Int} {x v : Int32} (hd : decode (mC M) pc = .ok (.iinc i n, 3)) (hl : lget L i = some (xI x)) (hv : x + Int32.ofInt n = v) (hn : i < mL M) (k : AW G l M d post σ kk nn (pc + 3) (lset L i (xI v)) st) : AW G l M d post σ kk nn pc L st := by
  intro p e R s m args below meth c Qc ad H ls locs cells slots C hR hL hst hlo hc hs hQ
  obtain ⟨j, hj⟩ := List.getElem?_of_mem (mem_lpairs (ad := ad) hl)
  exact lv_iinc C.1 C.2.1 hd hL.has hj hv hn rfl (fun ls2 h2 => k p e R s m args below meth c Qc ad H ls2 locs cells slots C hR (hL.st1 (v := xI v) trivial h2) hst hlo hc hs hQ)
theorem aw_iadd {x y : Int32} (hd : decode (mC M) pc = .ok (.iadd, 1))  (k : AW G l M d post σ kk nn (pc + 1) L (xI (x + y) :: st)) : AW G l M d post σ kk nn pc L (xI y :: xI x :: st) := by
  intro p e R s m args below meth c Qc ad H ls locs cells slots C hR hL hst hlo hc hs hQ
  exact lv_iadd C.1 C.2.1 hd (k p e R s m args below meth c Qc ad H ls locs cells slots C hR hL (ok_c ok_t (ok_tl (ok_tl hst))) hlo hc hs hQ)
theorem aw_isub {x y : Int32} (hd : decode (mC M) pc = .ok (.isub, 1))  (k : AW G l M d post σ kk nn (pc + 1) L (xI (x - y) :: st)) : AW G l M d post σ kk nn pc L (xI y :: xI x :: st) := by
  intro p e R s m args below meth c Qc ad H ls locs cells slots C hR hL hst hlo hc hs hQ
  exact lv_isub C.1 C.2.1 hd (k p e R s m args below meth c Qc ad H ls locs cells slots C hR hL (ok_c ok_t (ok_tl (ok_tl hst))) hlo hc hs hQ)
theorem aw_imul {x y : Int32} (hd : decode (mC M) pc = .ok (.imul, 1))  (k : AW G l M d post σ kk nn (pc + 1) L (xI (x * y) :: st)) : AW G l M d post σ kk nn pc L (xI y :: xI x :: st) := by
  intro p e R s m args below meth c Qc ad H ls locs cells slots C hR hL hst hlo hc hs hQ
  exact lv_imul C.1 C.2.1 hd (k p e R s m args below meth c Qc ad H ls locs cells slots C hR hL (ok_c ok_t (ok_tl (ok_tl hst))) hlo hc hs hQ)
theorem aw_iand {x y : Int32} (hd : decode (mC M) pc = .ok (.iand, 1))  (k : AW G l M d post σ kk nn (pc + 1) L (xI (x &&& y) :: st)) : AW G l M d post σ kk nn pc L (xI y :: xI x :: st) := by
  intro p e R s m args below meth c Qc ad H ls locs cells slots C hR hL hst hlo hc hs hQ
  exact lv_iand C.1 C.2.1 hd (k p e R s m args below meth c Qc ad H ls locs cells slots C hR hL (ok_c ok_t (ok_tl (ok_tl hst))) hlo hc hs hQ)
theorem aw_ior {x y : Int32} (hd : decode (mC M) pc = .ok (.ior, 1))  (k : AW G l M d post σ kk nn (pc + 1) L (xI (x ||| y) :: st)) : AW G l M d post σ kk nn pc L (xI y :: xI x :: st) := by
  intro p e R s m args below meth c Qc ad H ls locs cells slots C hR hL hst hlo hc hs hQ
  exact lv_ior C.1 C.2.1 hd (k p e R s m args below meth c Qc ad H ls locs cells slots C hR hL (ok_c ok_t (ok_tl (ok_tl hst))) hlo hc hs hQ)
theorem aw_ixor {x y : Int32} (hd : decode (mC M) pc = .ok (.ixor, 1))  (k : AW G l M d post σ kk nn (pc + 1) L (xI (x ^^^ y) :: st)) : AW G l M d post σ kk nn pc L (xI y :: xI x :: st) := by
  intro p e R s m args below meth c Qc ad H ls locs cells slots C hR hL hst hlo hc hs hQ
  exact lv_ixor C.1 C.2.1 hd (k p e R s m args below meth c Qc ad H ls locs cells slots C hR hL (ok_c ok_t (ok_tl (ok_tl hst))) hlo hc hs hQ)
theorem aw_ishl {x y : Int32} (hd : decode (mC M) pc = .ok (.ishl, 1))  (k : AW G l M d post σ kk nn (pc + 1) L (xI (x <<< (y &&& 31)) :: st)) : AW G l M d post σ kk nn pc L (xI y :: xI x :: st) := by
  intro p e R s m args below meth c Qc ad H ls locs cells slots C hR hL hst hlo hc hs hQ
  exact lv_ishl C.1 C.2.1 hd (k p e R s m args below meth c Qc ad H ls locs cells slots C hR hL (ok_c ok_t (ok_tl (ok_tl hst))) hlo hc hs hQ)
theorem aw_ishr {x y : Int32} (hd : decode (mC M) pc = .ok (.ishr, 1))  (k : AW G l M d post σ kk nn (pc + 1) L (xI (x >>> (y &&& 31)) :: st)) : AW G l M d post σ kk nn pc L (xI y :: xI x :: st) := by
  intro p e R s m args below meth c Qc ad H ls locs cells slots C hR hL hst hlo hc hs hQ
  exact lv_ishr C.1 C.2.1 hd (k p e R s m args below meth c Qc ad H ls locs cells slots C hR hL (ok_c ok_t (ok_tl (ok_tl hst))) hlo hc hs hQ)
theorem aw_iushr {x y v : Int32} (hd : decode (mC M) pc = .ok (.iushr, 1)) (hv : (x.toUInt32 >>> (y.toUInt32 &&& Int32.toUInt32 31)).toInt32 = v) (k : AW G l M d post σ kk nn (pc + 1) L (xI v :: st)) : AW G l M d post σ kk nn pc L (xI y :: xI x :: st) := by
  intro p e R s m args below meth c Qc ad H ls locs cells slots C hR hL hst hlo hc hs hQ
  exact lv_iushr C.1 C.2.1 hd hv (k p e R s m args below meth c Qc ad H ls locs cells slots C hR hL (ok_c ok_t (ok_tl (ok_tl hst))) hlo hc hs hQ)
theorem aw_idiv {x y : Int32} (hd : decode (mC M) pc = .ok (.idiv, 1)) (hne : ¬ y = 0) (k : AW G l M d post σ kk nn (pc + 1) L (xI (x / y) :: st)) : AW G l M d post σ kk nn pc L (xI y :: xI x :: st) := by
  intro p e R s m args below meth c Qc ad H ls locs cells slots C hR hL hst hlo hc hs hQ
  exact lv_idiv C.1 C.2.1 hd hne (k p e R s m args below meth c Qc ad H ls locs cells slots C hR hL (ok_c ok_t (ok_tl (ok_tl hst))) hlo hc hs hQ)
theorem aw_irem {x y : Int32} (hd : decode (mC M) pc = .ok (.irem, 1)) (hne : ¬ y = 0) (k : AW G l M d post σ kk nn (pc + 1) L (xI (x - x / y * y) :: st)) : AW G l M d post σ kk nn pc L (xI y :: xI x :: st) := by
  intro p e R s m args below meth c Qc ad H ls locs cells slots C hR hL hst hlo hc hs hQ
  exact lv_irem C.1 C.2.1 hd hne (k p e R s m args below meth c Qc ad H ls locs cells slots C hR hL (ok_c ok_t (ok_tl (ok_tl hst))) hlo hc hs hQ)
theorem aw_ladd {x y : Int64} (hd : decode (mC M) pc = .ok (.ladd, 1))  (k : AW G l M d post σ kk nn (pc + 1) L (xL (x + y) :: st)) : AW G l M d post σ kk nn pc L (xL y :: xL x :: st) := by
  intro p e R s m args below meth c Qc ad H ls locs cells slots C hR hL hst hlo hc hs hQ
  exact lv_ladd C.1 C.2.1 hd (k p e R s m args below meth c Qc ad H ls locs cells slots C hR hL (ok_c ok_tL (ok_tl (ok_tl hst))) hlo hc hs hQ)
theorem aw_land {x y : Int64} (hd : decode (mC M) pc = .ok (.land, 1))  (k : AW G l M d post σ kk nn (pc + 1) L (xL (x &&& y) :: st)) : AW G l M d post σ kk nn pc L (xL y :: xL x :: st) := by
  intro p e R s m args below meth c Qc ad H ls locs cells slots C hR hL hst hlo hc hs hQ
  exact lv_land C.1 C.2.1 hd (k p e R s m args below meth c Qc ad H ls locs cells slots C hR hL (ok_c ok_tL (ok_tl (ok_tl hst))) hlo hc hs hQ)
theorem aw_lor {x y : Int64} (hd : decode (mC M) pc = .ok (.lor, 1))  (k : AW G l M d post σ kk nn (pc + 1) L (xL (x ||| y) :: st)) : AW G l M d post σ kk nn pc L (xL y :: xL x :: st) := by
  intro p e R s m args below meth c Qc ad H ls locs cells slots C hR hL hst hlo hc hs hQ
  exact lv_lor C.1 C.2.1 hd (k p e R s m args below meth c Qc ad H ls locs cells slots C hR hL (ok_c ok_tL (ok_tl (ok_tl hst))) hlo hc hs hQ)
theorem aw_lxor {x y : Int64} (hd : decode (mC M) pc = .ok (.lxor, 1))  (k : AW G l M d post σ kk nn (pc + 1) L (xL (x ^^^ y) :: st)) : AW G l M d post σ kk nn pc L (xL y :: xL x :: st) := by
  intro p e R s m args below meth c Qc ad H ls locs cells slots C hR hL hst hlo hc hs hQ
  exact lv_lxor C.1 C.2.1 hd (k p e R s m args below meth c Qc ad H ls locs cells slots C hR hL (ok_c ok_tL (ok_tl (ok_tl hst))) hlo hc hs hQ)
theorem aw_lushr {x v : Int64} {y : Int32} (hd : decode (mC M) pc = .ok (.lushr, 1)) (hv : (x.toUInt64 >>> (y.toInt64.toUInt64 &&& Int64.toUInt64 63)).toInt64 = v) (k : AW G l M d post σ kk nn (pc + 1) L (xL v :: st)) : AW G l M d post σ kk nn pc L (xI y :: xL x :: st) := by
  intro p e R s m args below meth c Qc ad H ls locs cells slots C hR hL hst hlo hc hs hQ
  exact lv_lushr C.1 C.2.1 hd hv (k p e R s m args below meth c Qc ad H ls locs cells slots C hR hL (ok_c ok_tL (ok_tl (ok_tl hst))) hlo hc hs hQ)
theorem aw_lshl {x v : Int64} {y : Int32} (hd : decode (mC M) pc = .ok (.lshl, 1)) (hv : x <<< (y.toInt64 &&& 63) = v) (k : AW G l M d post σ kk nn (pc + 1) L (xL v :: st)) : AW G l M d post σ kk nn pc L (xI y :: xL x :: st) := by
  intro p e R s m args below meth c Qc ad H ls locs cells slots C hR hL hst hlo hc hs hQ
  exact lv_lshl C.1 C.2.1 hd hv (k p e R s m args below meth c Qc ad H ls locs cells slots C hR hL (ok_c ok_tL (ok_tl (ok_tl hst))) hlo hc hs hQ)
theorem aw_lcmp {x y : Int64} (hd : decode (mC M) pc = .ok (.lcmp, 1))  (k : AW G l M d post σ kk nn (pc + 1) L (xI (lg_cmp x y) :: st)) : AW G l M d post σ kk nn pc L (xL y :: xL x :: st) := by
  intro p e R s m args below meth c Qc ad H ls locs cells slots C hR hL hst hlo hc hs hQ
  exact W.lcmp C.1 C.2.1 hd (k p e R s m args below meth c Qc ad H ls locs cells slots C hR hL (ok_c ok_t (ok_tl (ok_tl hst))) hlo hc hs hQ)
theorem aw_i2l {x : Int32} {v : Int64} (hd : decode (mC M) pc = .ok (.i2l, 1)) (hv : x.toInt64 = v) (k : AW G l M d post σ kk nn (pc + 1) L (xL v :: st)) : AW G l M d post σ kk nn pc L (xI x :: st) := by
  intro p e R s m args below meth c Qc ad H ls locs cells slots C hR hL hst hlo hc hs hQ
  exact lv_i2l C.1 C.2.1 hd hv (k p e R s m args below meth c Qc ad H ls locs cells slots C hR hL (ok_c ok_tL (ok_tl hst)) hlo hc hs hQ)
theorem aw_i2b {x v : Int32} (hd : decode (mC M) pc = .ok (.i2b, 1)) (hv : x.toInt8.toInt32 = v) (k : AW G l M d post σ kk nn (pc + 1) L (xI v :: st)) : AW G l M d post σ kk nn pc L (xI x :: st) := by
  intro p e R s m args below meth c Qc ad H ls locs cells slots C hR hL hst hlo hc hs hQ
  exact lv_i2b C.1 C.2.1 hd hv (k p e R s m args below meth c Qc ad H ls locs cells slots C hR hL (ok_c ok_t (ok_tl hst)) hlo hc hs hQ)
theorem aw_i2c {x v : Int32} (hd : decode (mC M) pc = .ok (.i2c, 1)) (hv : (x.toUInt32 % 65536).toInt32 = v) (k : AW G l M d post σ kk nn (pc + 1) L (xI v :: st)) : AW G l M d post σ kk nn pc L (xI x :: st) := by
  intro p e R s m args below meth c Qc ad H ls locs cells slots C hR hL hst hlo hc hs hQ
  exact lv_i2c C.1 C.2.1 hd hv (k p e R s m args below meth c Qc ad H ls locs cells slots C hR hL (ok_c ok_t (ok_tl hst)) hlo hc hs hQ)
theorem aw_dupR {r : Option Nm} (hd : decode (mC M) pc = .ok (.dup, 1))  (k : AW G l M d post σ kk nn (pc + 1) L (xR r :: xR r :: st)) : AW G l M d post σ kk nn pc L (xR r :: st) := by
  intro p e R s m args below meth c Qc ad H ls locs cells slots C hR hL hst hlo hc hs hQ
  exact lv_dup C.1 C.2.1 hd (cv_cat1 (v := xR r) (fun _ h => by cases h)) (k p e R s m args below meth c Qc ad H ls locs cells slots C hR hL (ok_c (ok_hd hst) hst) hlo hc hs hQ)
theorem aw_dupI {x : Int32} (hd : decode (mC M) pc = .ok (.dup, 1))  (k : AW G l M d post σ kk nn (pc + 1) L (xI x :: xI x :: st)) : AW G l M d post σ kk nn pc L (xI x :: st) := by
  intro p e R s m args below meth c Qc ad H ls locs cells slots C hR hL hst hlo hc hs hQ
  exact lv_dup C.1 C.2.1 hd rfl (k p e R s m args below meth c Qc ad H ls locs cells slots C hR hL (ok_c ok_t hst) hlo hc hs hQ)
theorem aw_dup2 {x : Int32} {r : Option Nm} (hd : decode (mC M) pc = .ok (.dup2, 1))  (k : AW G l M d post σ kk nn (pc + 1) L (xI x :: xR r :: xI x :: xR r :: st)) : AW G l M d post σ kk nn pc L (xI x :: xR r :: st) := by
  intro p e R s m args below meth c Qc ad H ls locs cells slots C hR hL hst hlo hc hs hQ
  exact lv_dup2_11 C.1 C.2.1 hd rfl (cv_cat1 (v := xR r) (fun _ h => by cases h)) (k p e R s m args below meth c Qc ad H ls locs cells slots C hR hL (ok_c ok_t (ok_c (ok_hd (ok_tl hst)) hst)) hlo hc hs hQ)
theorem aw_popI {x : Int32} (hd : decode (mC M) pc = .ok (.pop, 1))  (k : AW G l M d post σ kk nn (pc + 1) L st) : AW G l M d post σ kk nn pc L (xI x :: st) := by
  intro p e R s m args below meth c Qc ad H ls locs cells slots C hR hL hst hlo hc hs hQ
  exact lv_pop C.1 C.2.1 hd rfl (k p e R s m args below meth c Qc ad H ls locs cells slots C hR hL (ok_tl hst) hlo hc hs hQ)
theorem aw_popR {r : Option Nm} (hd : decode (mC M) pc = .ok (.pop, 1))  (k : AW G l M d post σ kk nn (pc + 1) L st) : AW G l M d post σ kk nn pc L (xR r :: st) := by
  intro p e R s m args below meth c Qc ad H ls locs cells slots C hR hL hst hlo hc hs hQ
  exact lv_pop C.1 C.2.1 hd (cv_cat1 (v := xR r) (fun _ h => by cases h)) (k p e R s m args below meth c Qc ad H ls locs cells slots C hR hL (ok_tl hst) hlo hc hs hQ)
theorem aw_dupx1R {r r2 : Option Nm} (hd : decode (mC M) pc = .ok (.dup_x1, 1))  (k : AW G l M d post σ kk nn (pc + 1) L (xR r :: xR r2 :: xR r :: st)) : AW G l M d post σ kk nn pc L (xR r :: xR r2 :: st) := by
  intro p e R s m args below meth c Qc ad H ls locs cells slots C hR hL hst hlo hc hs hQ
  exact lv_dup_x1 C.1 C.2.1 hd (cv_cat1 (v := xR r) (fun _ h => by cases h)) (cv_cat1 (v := xR r2) (fun _ h => by cases h)) (k p e R s m args below meth c Qc ad H ls locs cells slots C hR hL (ok_c (ok_hd hst) (ok_c (ok_hd (ok_tl hst)) (ok_c (ok_hd hst) (ok_tl (ok_tl hst))))) hlo hc hs hQ)
theorem aw_dupx1I {x : Int32} {r2 : Option Nm} (hd : decode (mC M) pc = .ok (.dup_x1, 1))  (k : AW G l M d post σ kk nn (pc + 1) L (xI x :: xR r2 :: xI x :: st)) : AW G l M d post σ kk nn pc L (xI x :: xR r2 :: st) := by
  intro p e R s m args below meth c Qc ad H ls locs cells slots C hR hL hst hlo hc hs hQ
  exact lv_dup_x1 C.1 C.2.1 hd rfl (cv_cat1 (v := xR r2) (fun _ h => by cases h)) (k p e R s m args below meth c Qc ad H ls locs cells slots C hR hL (ok_c ok_t (ok_c (ok_hd (ok_tl hst)) (ok_c ok_t (ok_tl (ok_tl hst))))) hlo hc hs hQ)
theorem aw_if_eq {x : Int32} {off : Int} {tgt : Nat} (hd : decode (mC M) pc = .ok (.ifCond .eq off, 3)) (ht : (pc : Int) + off = (tgt : Int)) (kt : x = 0 → AW G l M d post σ kk nn tgt L st) (kf : ¬ x = 0 → AW G l M d post σ kk nn (pc + 3) L st) : AW G l M d post σ kk nn pc L (xI x :: st) := by
  intro p e R s m args below meth c Qc ad H ls locs cells slots C hR hL hst hlo hc hs hQ
  exact lv_if_eq C.1 C.2.1 hd ht (fun h => kt h p e R s m args below meth c Qc ad H ls locs cells slots C hR hL (ok_tl hst) hlo hc hs hQ) (fun h => kf h p e R s m args below meth c Qc ad H ls locs cells slots C hR hL (ok_tl hst) hlo hc hs hQ)
theorem aw_if_ne {x : Int32} {off : Int} {tgt : Nat} (hd : decode (mC M) pc = .ok (.ifCond .ne off, 3)) (ht : (pc : Int) + off = (tgt : Int)) (kt : ¬ x = 0 → AW G l M d post σ kk nn tgt L st) (kf : x = 0 → AW G l M d post σ kk nn (pc + 3) L st) : AW G l M d post σ kk nn pc L (xI x :: st) := by
  intro p e R s m args below meth c Qc ad H ls locs cells slots C hR hL hst hlo hc hs hQ
  exact lv_if_ne C.1 C.2.1 hd ht (fun h => kt h p e R s m args below meth c Qc ad H ls locs cells slots C hR hL (ok_tl hst) hlo hc hs hQ) (fun h => kf h p e R s m args below meth c Qc ad H ls locs cells slots C hR hL (ok_tl hst) hlo hc hs hQ)
theorem aw_if_lt {x : Int32} {off : Int} {tgt : Nat} (hd : decode (mC M) pc = .ok (.ifCond .lt off, 3)) (ht : (pc : Int) + off = (tgt : Int)) (kt : x < 0 → AW G l M d post σ kk nn tgt L st) (kf : ¬ x < 0 → AW G l M d post σ kk nn (pc + 3) L st) : AW G l M d post σ kk nn pc L (xI x :: st) := by
  intro p e R s m args below meth c Qc ad H ls locs cells slots C hR hL hst hlo hc hs hQ
  exact lv_if_lt C.1 C.2.1 hd ht (fun h => kt h p e R s m args below meth c Qc ad H ls locs cells slots C hR hL (ok_tl hst) hlo hc hs hQ) (fun h => kf h p e R s m args below meth c Qc ad H ls locs cells slots C hR hL (ok_tl hst) hlo hc hs hQ)
theorem aw_if_ge {x : Int32} {off : Int} {tgt : Nat} (hd : decode (mC M) pc = .ok (.ifCond .ge off, 3)) (ht : (pc : Int) + off = (tgt : Int)) (kt : 0 ≤ x → AW G l M d post σ kk nn tgt L st) (kf : ¬ 0 ≤ x → AW G l M d post σ kk nn (pc + 3) L st) : AW G l M d post σ kk nn pc L (xI x :: st) := by
  intro p e R s m args below meth c Qc ad H ls locs cells slots C hR hL hst hlo hc hs hQ
  exact lv_if_ge C.1 C.2.1 hd ht (fun h => kt h p e R s m args below meth c Qc ad H ls locs cells slots C hR hL (ok_tl hst) hlo hc hs hQ) (fun h => kf h p e R s m args below meth c Qc ad H ls locs cells slots C hR hL (ok_tl hst) hlo hc hs hQ)
theorem aw_if_gt {x : Int32} {off : Int} {tgt : Nat} (hd : decode (mC M) pc = .ok (.ifCond .gt off, 3)) (ht : (pc : Int) + off = (tgt : Int)) (kt : 0 < x → AW G l M d post σ kk nn tgt L st) (kf : ¬ 0 < x → AW G l M d post σ kk nn (pc + 3) L st) : AW G l M d post σ kk nn pc L (xI x :: st) := by
  intro p e R s m args below meth c Qc ad H ls locs cells slots C hR hL hst hlo hc hs hQ
  exact lv_if_gt C.1 C.2.1 hd ht (fun h => kt h p e R s m args below meth c Qc ad H ls locs cells slots C hR hL (ok_tl hst) hlo hc hs hQ) (fun h => kf h p e R s m args below meth c Qc ad H ls locs cells slots C hR hL (ok_tl hst) hlo hc hs hQ)
theorem aw_if_le {x : Int32} {off : Int} {tgt : Nat} (hd : decode (mC M) pc = .ok (.ifCond .le off, 3)) (ht : (pc : Int) + off = (tgt : Int)) (kt : x ≤ 0 → AW G l M d post σ kk nn tgt L st) (kf : ¬ x ≤ 0 → AW G l M d post σ kk nn (pc + 3) L st) : AW G l M d post σ kk nn pc L (xI x :: st) := by
  intro p e R s m args below meth c Qc ad H ls locs cells slots C hR hL hst hlo hc hs hQ
  exact lv_if_le C.1 C.2.1 hd ht (fun h => kt h p e R s m args below meth c Qc ad H ls locs cells slots C hR hL (ok_tl hst) hlo hc hs hQ) (fun h => kf h p e R s m args below meth c Qc ad H ls locs cells slots C hR hL (ok_tl hst) hlo hc hs hQ)
theorem aw_icmp_eq {x y : Int32} {off : Int} {tgt : Nat} (hd : decode (mC M) pc = .ok (.if_icmp .eq off, 3)) (ht : (pc : Int) + off = (tgt : Int)) (kt : x = y → AW G l M d post σ kk nn tgt L st) (kf : ¬ x = y → AW G l M d post σ kk nn (pc + 3) L st) : AW G l M d post σ kk nn pc L (xI y :: xI x :: st) := by
  intro p e R s m args below meth c Qc ad H ls locs cells slots C hR hL hst hlo hc hs hQ
  exact lv_icmp_eq C.1 C.2.1 hd ht (fun h => kt h p e R s m args below meth c Qc ad H ls locs cells slots C hR hL (ok_tl (ok_tl hst)) hlo hc hs hQ) (fun h => kf h p e R s m args below meth c Qc ad H ls locs cells slots C hR hL (ok_tl (ok_tl hst)) hlo hc hs hQ)
theorem aw_icmp_ne {x y : Int32} {off : Int} {tgt : Nat} (hd : decode (mC M) pc = .ok (.if_icmp .ne off, 3)) (ht : (pc : Int) + off = (tgt : Int)) (kt : ¬ x = y → AW G l M d post σ kk nn tgt L st) (kf : x = y → AW G l M d post σ kk nn (pc + 3) L st) : AW G l M d post σ kk nn pc L (xI y :: xI x :: st) := by
  intro p e R s m args below meth c Qc ad H ls locs cells slots C hR hL hst hlo hc hs hQ
  exact lv_icmp_ne C.1 C.2.1 hd ht (fun h => kt h p e R s m args below meth c Qc ad H ls locs cells slots C hR hL (ok_tl (ok_tl hst)) hlo hc hs hQ) (fun h => kf h p e R s m args below meth c Qc ad H ls locs cells slots C hR hL (ok_tl (ok_tl hst)) hlo hc hs hQ)
theorem aw_icmp_lt {x y : Int32} {off : Int} {tgt : Nat} (hd : decode (mC M) pc = .ok (.if_icmp .lt off, 3)) (ht : (pc : Int) + off = (tgt : Int)) (kt : x < y → AW G l M d post σ kk nn tgt L st) (kf : ¬ x < y → AW G l M d post σ kk nn (pc + 3) L st) : AW G l M d post σ kk nn pc L (xI y :: xI x :: st) := by
  intro p e R s m args below meth c Qc ad H ls locs cells slots C hR hL hst hlo hc hs hQ
  exact lv_icmp_lt C.1 C.2.1 hd ht (fun h => kt h p e R s m args below meth c Qc ad H ls locs cells slots C hR hL (ok_tl (ok_tl hst)) hlo hc hs hQ) (fun h => kf h p e R s m args below meth c Qc ad H ls locs cells slots C hR hL (ok_tl (ok_tl hst)) hlo hc hs hQ)
theorem aw_icmp_ge {x y : Int32} {off : Int} {tgt : Nat} (hd : decode (mC M) pc = .ok (.if_icmp .ge off, 3)) (ht : (pc : Int) + off = (tgt : Int)) (kt : y ≤ x → AW G l M d post σ kk nn tgt L st) (kf : ¬ y ≤ x → AW G l M d post σ kk nn (pc + 3) L st) : AW G l M d post σ kk nn pc L (xI y :: xI x :: st) := by
  intro p e R s m args below meth c Qc ad H ls locs cells slots C hR hL hst hlo hc hs hQ
  exact lv_icmp_ge C.1 C.2.1 hd ht (fun h => kt h p e R s m args below meth c Qc ad H ls locs cells slots C hR hL (ok_tl (ok_tl hst)) hlo hc hs hQ) (fun h => kf h p e R s m args below meth c Qc ad H ls locs cells slots C hR hL (ok_tl (ok_tl hst)) hlo hc hs hQ)
theorem aw_icmp_gt {x y : Int32} {off : Int} {tgt : Nat} (hd : decode (mC M) pc = .ok (.if_icmp .gt off, 3)) (ht : (pc : Int) + off = (tgt : Int)) (kt : y < x → AW G l M d post σ kk nn tgt L st) (kf : ¬ y < x → AW G l M d post σ kk nn (pc + 3) L st) : AW G l M d post σ kk nn pc L (xI y :: xI x :: st) := by
  intro p e R s m args below meth c Qc ad H ls locs cells slots C hR hL hst hlo hc hs hQ
  exact lv_icmp_gt C.1 C.2.1 hd ht (fun h => kt h p e R s m args below meth c Qc ad H ls locs cells slots C hR hL (ok_tl (ok_tl hst)) hlo hc hs hQ) (fun h => kf h p e R s m args below meth c Qc ad H ls locs cells slots C hR hL (ok_tl (ok_tl hst)) hlo hc hs hQ)
theorem aw_icmp_le {x y : Int32} {off : Int} {tgt : Nat} (hd : decode (mC M) pc = .ok (.if_icmp .le off, 3)) (ht : (pc : Int) + off = (tgt : Int)) (kt : x ≤ y → AW G l M d post σ kk nn tgt L st) (kf : ¬ x ≤ y → AW G l M d post σ kk nn (pc + 3) L st) : AW G l M d post σ kk nn pc L (xI y :: xI x :: st) := by
  intro p e R s m args below meth c Qc ad H ls locs cells slots C hR hL hst hlo hc hs hQ
  exact lv_icmp_le C.1 C.2.1 hd ht (fun h => kt h p e R s m args below meth c Qc ad H ls locs cells slots C hR hL (ok_tl (ok_tl hst)) hlo hc hs hQ) (fun h => kf h p e R s m args below meth c Qc ad H ls locs cells slots C hR hL (ok_tl (ok_tl hst)) hlo hc hs hQ)
theorem aw_goto {off : Int} {tgt : Nat} (hd : decode (mC M) pc = .ok (.goto off, 3)) (ht : (pc : Int) + off = (tgt : Int)) (k : AW G l M d post σ kk nn tgt L st) : AW G l M d post σ kk nn pc L st := by
  intro p e R s m args below meth c Qc ad H ls locs cells slots C hR hL hst hlo hc hs hQ
  exact lv_goto C.1 C.2.1 hd ht (k p e R s m args below meth c Qc ad H ls locs cells slots C hR hL hst hlo hc hs hQ)
theorem aw_ifnull {r : Option Nm} {off : Int} {tgt : Nat} (hd : decode (mC M) pc = .ok (.ifnull off, 3)) (ht : (pc : Int) + off = (tgt : Int)) (kt : r = none → AW G l M d post σ kk nn tgt L st) (kf : ∀ n, r = some n → AW G l M d post σ kk nn (pc + 3) L st) : AW G l M d post σ kk nn pc L (xR r :: st) := by
  intro p e R s m args below meth c Qc ad H ls locs cells slots C hR hL hst hlo hc hs hQ
  cases r with
  | none => exact lv_ifnullN C.1 C.2.1 hd ht (kt rfl p e R s m args below meth c Qc ad H ls locs cells slots C hR hL (ok_tl hst) hlo hc hs hQ)
  | some n => exact lv_ifnull C.1 C.2.1 hd (kf n rfl p e R s m args below meth c Qc ad H ls locs cells slots C hR hL (ok_tl hst) hlo hc hs hQ)
theorem aw_ifnonnull {r : Option Nm} {off : Int} {tgt : Nat} (hd : decode (mC M) pc = .ok (.ifnonnull off, 3)) (ht : (pc : Int) + off = (tgt : Int)) (kt : ∀ n, r = some n → AW G l M d post σ kk nn tgt L st) (kf : r = none → AW G l M d post σ kk nn (pc + 3) L st) : AW G l M d post σ kk nn pc L (xR r :: st) := by
  intro p e R s m args below meth c Qc ad H ls locs cells slots C hR hL hst hlo hc hs hQ
  cases r with
  | none => exact lv_ifnonnullN C.1 C.2.1 hd (kf rfl p e R s m args below meth c Qc ad H ls locs cells slots C hR hL (ok_tl hst) hlo hc hs hQ)
  | some n => exact lv_ifnonnull C.1 C.2.1 hd ht (kt n rfl p e R s m args below meth c Qc ad H ls locs cells slots C hR hL (ok_tl hst) hlo hc hs hQ)
theorem aw_switchIn {dflt lo hi : Int} {offs : Array Int} {len : Nat} {x : Int32} {off : Int} {tgt : Nat} (hd : decode (mC M) pc = .ok (.tableswitch dflt lo hi offs, len)) (h1 : ¬ x.toInt < lo) (h2 : ¬ hi < x.toInt) (ho : offs[(x.toInt - lo).toNat]? = some off) (ht : (pc : Int) + off = (tgt : Int)) (k : AW G l M d post σ kk nn tgt L st) : AW G l M d post σ kk nn pc L (xI x :: st) := by
  intro p e R s m args below meth c Qc ad H ls locs cells slots C hR hL hst hlo hc hs hQ
  exact lv_tableIn C.1 C.2.1 hd h1 h2 ho ht (k p e R s m args below meth c Qc ad H ls locs cells slots C hR hL (ok_tl hst) hlo hc hs hQ)
theorem aw_switchOut {dflt lo hi : Int} {offs : Array Int} {len : Nat} {x : Int32} {tgt : Nat} (hd : decode (mC M) pc = .ok (.tableswitch dflt lo hi offs, len)) (h : x.toInt < lo ∨ hi < x.toInt) (ht : (pc : Int) + dflt = (tgt : Int)) (k : AW G l M d post σ kk nn tgt L st) : AW G l M d post σ kk nn pc L (xI x :: st) := by
  intro p e R s m args below meth c Qc ad H ls locs cells slots C hR hL hst hlo hc hs hQ
  exact lv_tableOut C.1 C.2.1 hd h ht (k p e R s m args below meth c Qc ad H ls locs cells slots C hR hL (ok_tl hst) hlo hc hs hQ)
end ROWS1
end
section
/-! Rows that read and write the heap; new objects and arrays; calls; ends. -/
section HEAP0
variable {G : GG} {ad : Nat → Nat → Nat} {σ σ' : AS} {H H' : Heap} {c i : Nat}
theorem acell_eq (h : (∀ j, gA σ' c i j = gA σ c i j) ∧ (∀ j, gQ σ' c i j = gQ σ c i j) ∧ (∀ j, gL σ' c i j = gL σ c i j) ∧ gN σ' c i = gN σ c i) : acell G ad σ' c i = acell G ad σ c i := by
  obtain ⟨h1, h2, h3, h4⟩ := h
  have e1 : gA σ' c i = gA σ c i := funext h1
  have e2 : gQ σ' c i = gQ σ c i := funext h2
  have e3 : gL σ' c i = gL σ c i := funext h3
  unfold acell
  rw [e1, e2, e3, h4]
theorem fv_eq {f : Nat} (h1 : gI σ' c f i = gI σ c f i) (h2 : gR σ' c f i = gR σ c f i) : fv ad σ' c i f = fv ad σ c i f := by unfold fv; rw [h1, h2]
/-- one object or array was written -/
theorem rep_set (hR : Rep G ad σ H) (hi : i < cnt σ c) (hnf : ¬ fixd c i) (z : H'.size = H.size) (oq : ∀ q, q ≠ ad c i → H'[q]? = H[q]?) (hcnt : ∀ x, cnt σ' x = cnt σ x)
    (obj : ∀ r, vwCl[c]? = some r → t_OB (ad c i) (G.1.1 c) r.2.2 (G.1.2 c) H' (fv ad σ' c i)) (arr : 20 ≤ c → c < 28 → H'[ad c i]? = some (acell G ad σ' c i))
    (oI : ∀ x f y, ¬ (x = c ∧ y = i) → gI σ' x f y = gI σ x f y) (oR : ∀ x f y, ¬ (x = c ∧ y = i) → gR σ' x f y = gR σ x f y)
    (oA : ∀ x y, ¬ (x = c ∧ y = i) → (∀ j, gA σ' x y j = gA σ x y j) ∧ (∀ j, gQ σ' x y j = gQ σ x y j) ∧ (∀ j, gL σ' x y j = gL σ x y j)) (oN : ∀ x y, gN σ' x y = gN σ x y)
    (kR : ∀ f, okn σ (gR σ' c f i)) (kQ : ∀ j, okn σ (gQ σ' c i j)) : Rep G ad σ' H' := by
  obtain ⟨h1, h2, h3, h4, h5, h6, h7, h8⟩ := hR
  have hgB : gB G ≤ ad c i := (h4 c i hi).2.1 hnf
  have ne : ∀ x y, y < cnt σ x → ¬ (x = c ∧ y = i) → ad x y ≠ ad c i := fun x y hy hn e => by
    have := h3 c i x y hi hy hnf e.symm
    exact hn ⟨this.1.symm, this.2.symm⟩
  have okc : ∀ r, okn σ r → okn σ' r := fun r h n e => by rw [hcnt]; exact h n e
  refine ⟨fun x y hy r hr => ?_, fun x y hx hx2 hy => ?_, fun x y x' y' hy hy' => ?_, fun x y hy => ?_, ⟨by rw [z]; exact h5.1, fun q hq => ?_⟩, fun x f y hy => ?_, fun x y j hy => ?_, ?_⟩
  · rw [hcnt] at hy
    by_cases hn : x = c ∧ y = i
    · obtain ⟨rfl, rfl⟩ := hn
      exact obj r hr
    · have := (h1 x y hy r hr).kept (oq _ (ne x y hy hn))
      exact this.to (fun f _ => (fv_eq (oI x f y hn) (oR x f y hn)).symm)
  · rw [hcnt] at hy
    by_cases hn : x = c ∧ y = i
    · obtain ⟨rfl, rfl⟩ := hn
      exact arr hx hx2
    · rw [oq _ (ne x y hy hn), h2 x y hx hx2 hy, acell_eq ⟨(oA x y hn).1, (oA x y hn).2.1, (oA x y hn).2.2, oN x y⟩]
  · rw [hcnt] at hy hy'
    exact h3 x y x' y' hy hy'
  · rw [hcnt] at hy
    rw [z]
    exact h4 x y hy
  · rw [oq q (fun e => by omega)]
    exact h5.2 q hq
  · rw [hcnt] at hy
    by_cases hn : x = c ∧ y = i
    · obtain ⟨rfl, rfl⟩ := hn
      exact okc _ (kR f)
    · rw [oR x f y hn]
      exact okc _ (h6 x f y hy)
  · rw [hcnt] at hy
    by_cases hn : x = c ∧ y = i
    · obtain ⟨rfl, rfl⟩ := hn
      exact okc _ (kQ j)
    · rw [(oA x y hn).2.1]
      exact okc _ (h7 x y j hy)
  · rw [oN, hcnt, hcnt, hcnt]
    exact h8
def adU (ad : Nat → Nat → Nat) (c i q : Nat) : Nat → Nat → Nat := fun x y => if x = c ∧ y = i then q else ad x y
theorem adU_self {q : Nat} : adU ad c i q c i = q := if_pos ⟨rfl, rfl⟩
theorem adU_ne {q x y : Nat} (h : ¬ (x = c ∧ y = i)) : adU ad c i q x y = ad x y := if_neg h
/-- a new object or array at the heap's end -/
theorem rep_new (hR : Rep G ad σ H) (hc : c ≠ 30 ∧ c ≠ 31 ∧ c ≠ 27 ∧ (c = 23 → 0 < cnt σ 23)) (z : H'.size = H.size + 1) (oq : ∀ q, q < H.size → H'[q]? = H[q]?) (hcnt : ∀ x, cnt σ' x = if x = c then cnt σ c + 1 else cnt σ x)
    (obj : ∀ r, vwCl[c]? = some r → t_OB H.size (G.1.1 c) r.2.2 (G.1.2 c) H' (fv (adU ad c (cnt σ c) H.size) σ' c (cnt σ c))) (arr : 20 ≤ c → c < 28 → H'[H.size]? = some (acell G (adU ad c (cnt σ c) H.size) σ' c (cnt σ c)))
    (oI : ∀ x f y, ¬ (x = c ∧ y = cnt σ c) → gI σ' x f y = gI σ x f y) (oR : ∀ x f y, ¬ (x = c ∧ y = cnt σ c) → gR σ' x f y = gR σ x f y)
    (oA : ∀ x y, ¬ (x = c ∧ y = cnt σ c) → (∀ j, gA σ' x y j = gA σ x y j) ∧ (∀ j, gQ σ' x y j = gQ σ x y j) ∧ (∀ j, gL σ' x y j = gL σ x y j) ∧ gN σ' x y = gN σ x y)
    (kR : ∀ f, gR σ' c f (cnt σ c) = none ∨ ¬ c < 14) (kQ : ∀ j, gQ σ' c (cnt σ c) j = none ∨ c < 14) (kR2 : ∀ f, okn σ (gR σ' c f (cnt σ c))) (kQ2 : ∀ j, okn σ (gQ σ' c (cnt σ c) j)) : Rep G (adU ad c (cnt σ c) H.size) σ' H' ∧ Ext σ ad σ' (adU ad c (cnt σ c) H.size) := by
  obtain ⟨h1, h2, h3, h4, h5, h6, h7, h8⟩ := hR
  have ne : ∀ x y, y < cnt σ x → ¬ (x = c ∧ y = cnt σ c) := fun x y hy hn => by obtain ⟨rfl, rfl⟩ := hn; omega
  have old : ∀ x y, y < cnt σ' x → ¬ (x = c ∧ y = cnt σ c) → y < cnt σ x := fun x y hy hn => by
    rw [hcnt] at hy
    split at hy
    · rename_i hx
      subst hx
      have : y ≠ cnt σ x := fun e => hn ⟨rfl, e⟩
      omega
    · exact hy
  have up : ∀ x y, y < cnt σ x → y < cnt σ' x := fun x y hy => by
    rw [hcnt]
    split
    · rename_i hx
      subst hx
      omega
    · exact hy
  have hE : Ext σ ad σ' (adU ad c (cnt σ c) H.size) := fun x y hy => ⟨up x y hy, adU_ne (ne x y hy)⟩
  have nf : ¬ fixd c (cnt σ c) := by
    rintro (⟨e, f⟩ | ⟨e, f⟩ | e | e)
    · have := hc.2.2.2 e
      subst e
      omega
    · exact hc.2.2.1 e
    · exact hc.1 e
    · exact hc.2.1 e
  have lt : ∀ x y, y < cnt σ x → ad x y < H.size := fun x y hy => (h4 x y hy).1
  refine ⟨⟨fun x y hy r hr => ?_, fun x y hx hx2 hy => ?_, fun x y x' y' hy hy' hf hxy => ?_, fun x y hy => ?_, ⟨by rw [z]; have := h5.1; omega, fun q hq => ?_⟩, fun x f y hy => ?_, fun x y j hy => ?_, ?_⟩, hE⟩
  · by_cases hn : x = c ∧ y = cnt σ c
    · obtain ⟨rfl, rfl⟩ := hn
      rw [adU_self]
      exact obj r hr
    · have hy := old x y hy hn
      rw [adU_ne hn]
      refine ((h1 x y hy r hr).kept (oq _ (lt x y hy))).to (fun f _ => ?_)
      unfold fv
      rw [oI x f y hn, oR x f y hn]
      split
      · rw [ext_mapn hE (h6 x f y hy)]
      · rfl
  · by_cases hn : x = c ∧ y = cnt σ c
    · obtain ⟨rfl, rfl⟩ := hn
      rw [adU_self]
      exact arr hx hx2
    · have hy := old x y hy hn
      rw [adU_ne hn, oq _ (lt x y hy), h2 x y hx hx2 hy]
      have e1 : gA σ' x y = gA σ x y := funext (oA x y hn).1
      have e2 : gQ σ' x y = gQ σ x y := funext (oA x y hn).2.1
      have e3 : gL σ' x y = gL σ x y := funext (oA x y hn).2.2.1
      have e4 : (fun j => va_rf ((gQ σ x y j).map (adn (adU ad c (cnt σ c) H.size)))) = (fun j => va_rf ((gQ σ x y j).map (adn ad))) := funext fun j => by rw [ext_mapn hE (h7 x y j hy)]
      unfold acell
      rw [e1, e2, e3, e4, (oA x y hn).2.2.2]
  · by_cases hn : x = c ∧ y = cnt σ c
    · by_cases hn' : x' = c ∧ y' = cnt σ c
      · exact ⟨hn.1.trans hn'.1.symm, hn.2.trans hn'.2.symm⟩
      · have hy' := old x' y' hy' hn'
        obtain ⟨rfl, rfl⟩ := hn
        rw [adU_self, adU_ne hn'] at hxy
        have := lt x' y' hy'
        omega
    · have hy := old x y hy hn
      by_cases hn' : x' = c ∧ y' = cnt σ c
      · obtain ⟨rfl, rfl⟩ := hn'
        rw [adU_self, adU_ne hn] at hxy
        have := lt x y hy
        omega
      · have hy' := old x' y' hy' hn'
        rw [adU_ne hn, adU_ne hn'] at hxy
        exact h3 x y x' y' hy hy' hf hxy
  · by_cases hn : x = c ∧ y = cnt σ c
    · obtain ⟨rfl, rfl⟩ := hn
      rw [adU_self]
      exact ⟨by omega, fun _ => h5.1, fun h => absurd h nf⟩
    · have hy := old x y hy hn
      rw [adU_ne hn]
      obtain ⟨g1, g2, g3⟩ := h4 x y hy
      exact ⟨by omega, g2, g3⟩
  · rw [oq q (by have := h5.1; omega)]
    exact h5.2 q hq
  · by_cases hn : x = c ∧ y = cnt σ c
    · obtain ⟨rfl, rfl⟩ := hn
      exact ext_okn hE (kR2 f)
    · rw [oR x f y hn]
      exact ext_okn hE (h6 x f y (old x y hy hn))
  · by_cases hn : x = c ∧ y = cnt σ c
    · obtain ⟨rfl, rfl⟩ := hn
      exact ext_okn hE (kQ2 j)
    · rw [(oA x y hn).2.1]
      exact ext_okn hE (h7 x y j (old x y hy hn))
  · obtain ⟨a1, a2, a3, a4⟩ := h8
    have n23 : ¬ (23 = c ∧ 0 = cnt σ c) := fun h => by
      have := hc.2.2.2 h.1.symm
      rw [h.1] at this
      omega
    refine ⟨?_, up _ _ a2, ?_, ?_⟩
    · rw [(oA 23 0 n23).2.2.2]; exact a1
    · rw [hcnt, if_neg (Ne.symm hc.1)]; exact a3
    · rw [hcnt, if_neg (Ne.symm hc.2.1)]; exact a4
end HEAP0
/-- a field's place in the tables -/
def FLo (own : String) (c f idx : Nat) : Prop := ∃ (r : vw_C) (ref : String), vwCl[c]? = some r ∧ f < r.2.2 ∧ Cond.fieldLink own idx ref (r.2.1 f).2.1 (r.2.1 f).2.2.1 ∈ TW ∧ ((r.2.1 f).1 = ref ∨ Cond.sameField ref (r.2.1 f).1 (r.2.1 f).2.1 (r.2.1 f).2.2.1 ∈ TW)
abbrev FL (M : Mth) (c f idx : Nat) : Prop := FLo (mO M) c f idx
section ROWS2
variable {G : GG} {l : Launch} {M : Mth} {d : Nat} {post : Option AVal → AS → Prop} {σ : AS} {kk nn pc : Nat} {L : List (Option AVal)} {st : List AVal}
theorem aw_get {c f i idx : Nat} (hf : FL M c f idx) (hd : decode (mC M) pc = .ok (.getfield idx, 3)) {w : AVal} (hw : w = if isRf c f = true then xR (gR σ c f i) else xI (gI σ c f i)) (k : AW G l M d post σ kk nn (pc + 3) L (w :: st)) : AW G l M d post σ kk nn pc L (xR (some (c, i)) :: st) := by
  intro p e R s m args below meth co Qc ad H ls locs cells slots C hR hL hst hlo hc hs hQ
  have hi : i < cnt σ c := ok_hd hst _ rfl
  obtain ⟨r, ref, hr, hk, hlink, hsame⟩ := hf
  obtain ⟨cell, q1, q2, q3, q4⟩ := hR.1 c i hi r hr
  obtain ⟨hS, hfc, kC, hkC, hkind⟩ := C.2.2.2.2.2.2.2.2.1.1.1 c _ hr
  obtain ⟨cf, kf, fi, fd, hfd, hsl⟩ := hS f hk
  have hts := C.2.2.2.2.2.1
  have hsame' : s.fieldFound? ref (r.2.1 f).2.1 (r.2.1 f).2.2.1 = some (cf, kf, fi, fd) := by
    rcases hsame with e | e
    · rw [← e]; exact hfd
    · exact u_same (hts _ e) _ hfd
  have hv : cv ad w = fv ad σ c i f := by
    rw [hw]
    unfold fv
    split <;> rfl
  refine W.getf C.1 C.2.1 C.2.2.2.2.1 (hts _ hlink) hsame' (u_facts hfc hkC (u_lays hts (cls_in hr) hk) hfd).1 q1 (by rw [q3]; exact fun h => by cases h) (v := cv ad w) (by rw [hsl, q4 f hk, hv]) rfl rfl hd ?_
  refine k p e R s m args below meth co Qc ad H ls locs cells slots C hR hL (ok_c ?_ (ok_tl hst)) hlo hc hs hQ
  rw [hw]
  split
  · exact hR.2.2.2.2.2.1 c f i hi
  · trivial
theorem aw_getI {c f i idx : Nat} (hf : FL M c f idx) (hr : isRf c f = false) (hd : decode (mC M) pc = .ok (.getfield idx, 3)) (k : AW G l M d post σ kk nn (pc + 3) L (xI (gI σ c f i) :: st)) : AW G l M d post σ kk nn pc L (xR (some (c, i)) :: st) := aw_get hf hd (by rw [hr]; rfl) k
theorem aw_getR {c f i idx : Nat} (hf : FL M c f idx) (hr : isRf c f = true) (hd : decode (mC M) pc = .ok (.getfield idx, 3)) (k : AW G l M d post σ kk nn (pc + 3) L (xR (gR σ c f i) :: st)) : AW G l M d post σ kk nn pc L (xR (some (c, i)) :: st) := aw_get hf hd (by rw [hr]; rfl) k
/-- a field written: final ones in their own constructor -/
theorem aw_put0 {c f i idx : Nat} (hf : FL M c f idx) (hnx : ¬ fixd c i) (hfin : ∀ r, vwCl[c]? = some r → (r.2.1 f).2.2.2 = false ∨ ((mY M).name = "<init>" ∧ (r.2.1 f).1 = mO M)) (hd : decode (mC M) pc = .ok (.putfield idx, 3)) {w : AVal} {σ' : AS} (hn : narrow (tyT c f) (cv (fun _ _ => 0) w) = cv (fun _ _ => 0) w) (hfit : fits (tyT c f) (cv (fun _ _ => 0) w) = true)
    (hσ : (isRf c f = false ∧ ∃ x, w = xI x ∧ σ' = sI σ c f i x) ∨ (isRf c f = true ∧ ∃ r, w = xR r ∧ σ' = sR σ c f i r)) (k : AW G l M d post σ' kk nn (pc + 3) L st) : AW G l M d post σ kk nn pc L (w :: xR (some (c, i)) :: st) := by
  intro p e R s m args below meth co Qc ad H ls locs cells slots C hR hL hst hlo hc hs hQ
  have hi : i < cnt σ c := ok_hd (ok_tl hst) _ rfl
  obtain ⟨r, ref, hr, hk, hlink, hsame⟩ := hf
  obtain ⟨cell, q1, q2, q3, q4⟩ := hR.1 c i hi r hr
  have hKv := C.2.2.2.2.2.2.2.2.1.1
  obtain ⟨hS, hfc, kC, hkC, hkind⟩ := hKv.1 c _ hr
  obtain ⟨cf, kf, fi, fd, hfd, hsl⟩ := hS f hk
  have hts := C.2.2.2.2.2.1
  have hown := C.2.2.2.2.1
  have hap := va_apart (own := mO M) hts (cls_in hr) (tyT c) (cls_ty hr) (cls_nm hr) hKv hr
  have hsame' : s.fieldFound? ref (r.2.1 f).2.1 (r.2.1 f).2.2.1 = some (cf, kf, fi, fd) := by
    rcases hsame with e | e
    · rw [← e]; exact hfd
    · exact u_same (hts _ e) _ hfd
  have hst' := (u_facts hfc hkC (u_lays hts (cls_in hr) hk) hfd).1
  have hnw : narrow (tyT c f) (cv ad w) = cv ad w := by
    rcases hσ with ⟨-, x, rfl, -⟩ | ⟨-, q, rfl, -⟩
    · exact hn
    · cases q with
      | none => exact hn
      | some n => cases h : tyT c f <;> rfl
  have hft : fits (tyT c f) (cv ad w) = true := by
    rcases hσ with ⟨-, x, rfl, -⟩ | ⟨-, q, rfl, -⟩
    · exact hfit
    · cases q with
      | none => exact hfit
      | some n =>
        cases h : tyT c f <;> rw [h] at hfit <;> first | rfl | cases hfit
  have fin : ∀ H' : Heap, H'[ad c i]? = some (cell.setSlot fd.slot (cv ad w)) → H'.size = H.size → (∀ q, q ≠ ad c i → H'[q]? = H[q]?) → W p l e R s m args below meth co H' (locs ++ [⟨ad c i, fd.slot⟩]) cells slots (MQ below Qc args s R.cells R.slots (gA0 G)) (F0 m (pc + 3) ls (st.map (cv ad))) := by
    intro H' e1 e2 e3
    rw [hsl] at e1
    have hcnt : ∀ x, cnt σ' x = cnt σ x := by
      rcases hσ with ⟨-, x, -, rfl⟩ | ⟨-, q, -, rfl⟩ <;> exact fun _ => rfl
    have hE : Ext σ ad σ' ad := fun x y h => ⟨by rw [hcnt]; exact h, rfl⟩
    have hV : ∀ j, updV (fv ad σ c i) f (cv ad w) j = fv ad σ' c i j := by
      intro j
      unfold updV
      by_cases hj : j = f
      · subst hj
        rw [if_pos rfl]
        rcases hσ with ⟨h0, x, rfl, rfl⟩ | ⟨h0, q, rfl, rfl⟩
        · unfold fv; rw [h0, gI_sI]; simp [cv]
        · unfold fv; rw [h0, gR_sR]; simp [cv]
      · rw [if_neg hj]
        rcases hσ with ⟨h0, x, rfl, rfl⟩ | ⟨h0, q, rfl, rfl⟩
        · exact (fv_eq (σ := σ) (σ' := sI σ c f i x) (c := c) (i := i) (f := j) (by rw [gI_sI, if_neg (fun z => hj z.2.1)]) rfl).symm
        · exact (fv_eq (σ := σ) (σ' := sR σ c f i q) (c := c) (i := i) (f := j) rfl (by rw [gR_sR, if_neg (fun z => hj z.2.1)])).symm
    have hR' : Rep G ad σ' H' := by
      refine rep_set hR hi hnx e2 e3 hcnt (fun r' hr' => ?_) (fun h20 _ => absurd (cls_lt hr) (by omega)) ?_ ?_ ?_ ?_ ?_ ?_
      · cases hr.symm.trans hr'
        exact t_OB.to (V := updV (fv ad σ c i) f (cv ad w)) ⟨_, e1, q2, q3, t_set q4 hap hk (cv ad w)⟩ (fun j _ => hV j)
      · rcases hσ with ⟨h0, x, -, rfl⟩ | ⟨h0, q, -, rfl⟩
        · intro x' f' y' hne; rw [gI_sI, if_neg (fun z => hne ⟨z.1, z.2.2⟩)]
        · intro _ _ _ _; rfl
      · rcases hσ with ⟨h0, x, -, rfl⟩ | ⟨h0, q, -, rfl⟩
        · intro _ _ _ _; rfl
        · intro x' f' y' hne; rw [gR_sR, if_neg (fun z => hne ⟨z.1, z.2.2⟩)]
      · rcases hσ with ⟨h0, x, -, rfl⟩ | ⟨h0, q, -, rfl⟩ <;> exact fun _ _ _ => ⟨fun _ => rfl, fun _ => rfl, fun _ => rfl⟩
      · rcases hσ with ⟨h0, x, -, rfl⟩ | ⟨h0, q, -, rfl⟩ <;> exact fun _ _ => rfl
      · intro f'
        rcases hσ with ⟨h0, x, -, rfl⟩ | ⟨h0, q, rfl, rfl⟩
        · exact hR.2.2.2.2.2.1 c f' i hi
        · rw [gR_sR]
          split
          · exact ok_hd hst
          · exact hR.2.2.2.2.2.1 c f' i hi
      · intro j
        rcases hσ with ⟨h0, x, -, rfl⟩ | ⟨h0, q, -, rfl⟩ <;> exact hR.2.2.2.2.2.2.1 c i j hi
    refine k p e R s m args below meth co Qc ad H' ls _ cells slots C hR' (hL.ext hE) (fun v hv => ext_okv hE (ok_tl (ok_tl hst) v hv)) (fun q hq => ?_) hc hs (fun v ad' σ2 t hW hR2 hE2 => hQ v ad' σ2 t hW hR2 (hE.tr hE2))
    rcases List.mem_append.mp hq with h | h
    · exact hlo q h
    · rw [List.mem_singleton.mp h]
      exact (hR.2.2.2.1 c i hi).2.1 hnx
  cases hff : (r.2.1 f).2.2.2 with
  | false =>
    have hlay := hts _ (cls_in hr _ (u_in_lay hk))
    unfold u_lay at hlay
    rw [if_neg (by rw [hff]; decide)] at hlay
    have h6 := u_store hfc hkC hkind hlay hfd (cls_ty hr f hk) hnw hft
    exact W.putK C.1 C.2.1 (f := fd) ⟨hown, hts _ hlink, ⟨_, _, _, hsame'⟩, hst'⟩ (by rw [q2]; exact h6) q1 q3 (by rw [hsl]; exact k2_hasslot (q4 f hk)) rfl rfl hd fin
  | true =>
    rcases hfin r hr with h | ⟨h1, h2⟩
    · rw [hff] at h; cases h
    · have hlay := hts _ (cls_in hr _ (u_in_lay hk))
      unfold u_lay at hlay
      rw [if_pos hff] at hlay
      have hcf : m.cls = cf := by
        obtain ⟨_, _, c', _, _, _, -, -, hf', -, -, -, hown2, -⟩ := Cond.laysFinal_spec hlay
        have e1 : c' = cf := by have := hfd.symm.trans hf'; simp at this; exact this.1.symm
        rw [h2] at hown2
        rw [← e1]; exact Option.some.inj (hown.symm.trans hown2)
      have h6 := u_fits hfc hkC hkind (Or.inr hlay) hfd (cls_ty hr f hk) hnw hft
      exact W.putFinK C.1 C.2.1 hown (hts _ hlink) hsame' hst' hcf (C.2.2.2.2.2.2.2.1.trans h1) (by rw [q2]; exact h6) q1 q3 (by rw [hsl]; exact k2_hasslot (q4 f hk)) rfl rfl hd fin
theorem aw_putI {c f i idx : Nat} {x : Int32} (hf : FL M c f idx) (hc14 : c < 20) (hfin : ∀ r, vwCl[c]? = some r → (r.2.1 f).2.2.2 = false ∨ ((mY M).name = "<init>" ∧ (r.2.1 f).1 = mO M)) (hd : decode (mC M) pc = .ok (.putfield idx, 3)) (hr : isRf c f = false) (hn : narrow (tyT c f) (.int x) = .int x ∧ fits (tyT c f) (.int x) = true) (k : AW G l M d post (sI σ c f i x) kk nn (pc + 3) L st) : AW G l M d post σ kk nn pc L (xI x :: xR (some (c, i)) :: st) :=
  aw_put0 hf (by unfold fixd; omega) hfin hd (w := xI x) hn.1 hn.2 (Or.inl ⟨hr, x, rfl, rfl⟩) k
theorem aw_putR {c f i idx : Nat} {r : Option Nm} (hf : FL M c f idx) (hc14 : c < 20) (hfin : ∀ r, vwCl[c]? = some r → (r.2.1 f).2.2.2 = false ∨ ((mY M).name = "<init>" ∧ (r.2.1 f).1 = mO M)) (hd : decode (mC M) pc = .ok (.putfield idx, 3)) (hr : isRf c f = true) (hft : fits (tyT c f) .null = true ∧ fits (tyT c f) (.ref 0) = true) (k : AW G l M d post (sR σ c f i r) kk nn (pc + 3) L st) : AW G l M d post σ kk nn pc L (xR r :: xR (some (c, i)) :: st) := by
  refine aw_put0 hf (by unfold fixd; omega) hfin hd (w := xR r) ?_ ?_ (Or.inr ⟨hr, r, rfl, rfl⟩) k
  · cases r <;> cases tyT c f <;> rfl
  · cases r with
    | none => exact hft.1
    | some n => exact hft.2

/-- array cells by their sort -/
theorem acell_i (ad : Nat → Nat → Nat) {c i t : Nat} (h : aty c = t) (h3 : t ≠ 3) (h4 : t ≠ 4) : acell G ad σ c i = arrV (G.2.1 t) (gN σ c i) (fun j => .int (gA σ c i j)) := by
  unfold acell
  rw [h]
  split
  · exact absurd rfl h3
  · exact absurd rfl h4
  · rfl
theorem acell_q (ad : Nat → Nat → Nat) {i : Nat} : acell G ad σ 23 i = arrV (G.2.1 3) (gN σ 23 i) (fun j => va_rf ((gQ σ 23 i j).map (adn ad))) := rfl
theorem acell_l (ad : Nat → Nat → Nat) {i : Nat} : acell G ad σ 24 i = arrV (G.2.1 4) (gN σ 24 i) (fun j => .long (gL σ 24 i j)) := rfl
theorem acell_size (ad : Nat → Nat → Nat) (c i : Nat) : (acell G ad σ c i).slots.size = gN σ c i := by
  unfold acell
  split <;> exact arrV_size _ _ _
theorem vp_in_lt {x : Int32} {n : Nat} (h : vp_in x n) : x.toNatClampNeg < n := Nat.not_le.mp fun q => h (Or.inr q)
theorem KK.ty {U : State} (h : KK G U) (t : Nat) {q : ClassId × FieldType} (hq : (tysG G)[t]? = some q) : ArrOfT U q.1 q.2 := (h.1.2 t q hq).1
theorem aw_iald {c i : Nat} {j : Int32} (hd : decode (mC M) pc = .ok (.iaload, 1)) (hcc : 20 ≤ c ∧ c < 28 ∧ aty c = 0) (hin : vp_in j (gN σ c i)) (k : AW G l M d post σ kk nn (pc + 1) L (xI (gA σ c i j.toNatClampNeg) :: st)) : AW G l M d post σ kk nn pc L (xI j :: xR (some (c, i)) :: st) := by
  intro p e R s m args below meth co Qc ad H ls locs cells slots C hR hL hst hlo hc hs hQ
  have hi : i < cnt σ c := ok_hd (ok_tl hst) _ rfl
  have hcell := hR.2.1 c i hcc.1 hcc.2.1 hi
  rw [acell_i ad (c := c) (i := i) (t := 0) hcc.2.2 (by decide) (by decide)] at hcell
  exact W.iald (v := .int (gA σ c i j.toNatClampNeg)) C.1 C.2.1 hcell (C.2.2.2.2.2.2.2.2.1.ty 0 rfl _ _) (fun h => by cases h) (by rw [arrV_size]; exact hin) (arrV_read _ _ (vp_in_lt hin)) rfl rfl hd (k p e R s m args below meth co Qc ad H ls locs cells slots C hR hL (ok_c ok_t (ok_tl (ok_tl hst))) hlo hc hs hQ)
theorem aw_zald {i : Nat} {j : Int32} (hd : decode (mC M) pc = .ok (.baload, 1)) (hin : vp_in j (gN σ 21 i)) (k : AW G l M d post σ kk nn (pc + 1) L (xI (gA σ 21 i j.toNatClampNeg) :: st)) : AW G l M d post σ kk nn pc L (xI j :: xR (some (21, i)) :: st) := by
  intro p e R s m args below meth co Qc ad H ls locs cells slots C hR hL hst hlo hc hs hQ
  have hi : i < cnt σ 21 := ok_hd (ok_tl hst) _ rfl
  have hcell := hR.2.1 21 i (by decide) (by decide) hi
  rw [acell_i ad (c := 21) (i := i) (t := 1) rfl (by decide) (by decide)] at hcell
  exact W.zald (v := .int (gA σ 21 i j.toNatClampNeg)) C.1 C.2.1 hcell (C.2.2.2.2.2.2.2.2.1.ty 1 rfl _ _) (fun h => by cases h) (by rw [arrV_size]; exact hin) (arrV_read _ _ (vp_in_lt hin)) rfl rfl hd (k p e R s m args below meth co Qc ad H ls locs cells slots C hR hL (ok_c ok_t (ok_tl (ok_tl hst))) hlo hc hs hQ)
theorem aw_bald {i : Nat} {j : Int32} (hd : decode (mC M) pc = .ok (.baload, 1)) (hin : vp_in j (gN σ 22 i)) (k : AW G l M d post σ kk nn (pc + 1) L (xI (gA σ 22 i j.toNatClampNeg) :: st)) : AW G l M d post σ kk nn pc L (xI j :: xR (some (22, i)) :: st) := by
  intro p e R s m args below meth co Qc ad H ls locs cells slots C hR hL hst hlo hc hs hQ
  have hi : i < cnt σ 22 := ok_hd (ok_tl hst) _ rfl
  have hcell := hR.2.1 22 i (by decide) (by decide) hi
  rw [acell_i ad (c := 22) (i := i) (t := 2) rfl (by decide) (by decide)] at hcell
  exact W.bald (v := .int (gA σ 22 i j.toNatClampNeg)) C.1 C.2.1 hcell (C.2.2.2.2.2.2.2.2.1.ty 2 rfl _ _) (fun h => by cases h) (by rw [arrV_size]; exact hin) (arrV_read _ _ (vp_in_lt hin)) rfl rfl hd (k p e R s m args below meth co Qc ad H ls locs cells slots C hR hL (ok_c ok_t (ok_tl (ok_tl hst))) hlo hc hs hQ)
theorem aw_aald {i : Nat} {j : Int32} (hd : decode (mC M) pc = .ok (.aaload, 1)) (hin : vp_in j (gN σ 23 i)) (k : AW G l M d post σ kk nn (pc + 1) L (xR (gQ σ 23 i j.toNatClampNeg) :: st)) : AW G l M d post σ kk nn pc L (xI j :: xR (some (23, i)) :: st) := by
  intro p e R s m args below meth co Qc ad H ls locs cells slots C hR hL hst hlo hc hs hQ
  have hi : i < cnt σ 23 := ok_hd (ok_tl hst) _ rfl
  have hcell := hR.2.1 23 i (by decide) (by decide) hi
  rw [acell_q ad] at hcell
  exact W.aald (v := va_rf ((gQ σ 23 i j.toNatClampNeg).map (adn ad))) (ty := .object "java/lang/Object") C.1 C.2.1 hcell (C.2.2.2.2.2.2.2.2.1.ty 3 rfl _ _) rfl (fun h => by cases h) (by rw [arrV_size]; exact hin) (arrV_read _ _ (vp_in_lt hin)) rfl rfl hd (k p e R s m args below meth co Qc ad H ls locs cells slots C hR hL (ok_c (hR.2.2.2.2.2.2.1 23 i _ hi) (ok_tl (ok_tl hst))) hlo hc hs hQ)
theorem aw_lald {i : Nat} {j : Int32} (hd : decode (mC M) pc = .ok (.laload, 1)) (hin : vp_in j (gN σ 24 i)) (k : AW G l M d post σ kk nn (pc + 1) L (xL (gL σ 24 i j.toNatClampNeg) :: st)) : AW G l M d post σ kk nn pc L (xI j :: xR (some (24, i)) :: st) := by
  intro p e R s m args below meth co Qc ad H ls locs cells slots C hR hL hst hlo hc hs hQ
  have hi : i < cnt σ 24 := ok_hd (ok_tl hst) _ rfl
  have hcell := hR.2.1 24 i (by decide) (by decide) hi
  rw [acell_l ad] at hcell
  exact W.lald (v := .long (gL σ 24 i j.toNatClampNeg)) C.1 C.2.1 hcell (C.2.2.2.2.2.2.2.2.1.ty 4 rfl _ _) (fun h => by cases h) (by rw [arrV_size]; exact hin) (arrV_read _ _ (vp_in_lt hin)) rfl rfl hd (k p e R s m args below meth co Qc ad H ls locs cells slots C hR hL (ok_c ok_tL (ok_tl (ok_tl hst))) hlo hc hs hQ)
theorem aty_3 {c : Nat} (h : aty c = 3) : c = 23 := by
  unfold aty at h
  split at h <;> first | rfl | cases h
theorem aty_4 {c : Nat} (h : aty c = 4) : c = 24 := by
  unfold aty at h
  split at h <;> first | rfl | cases h
theorem aty_r (c : Nat) : aty c = 0 ∨ aty c = 1 ∨ aty c = 2 ∨ aty c = 3 ∨ aty c = 4 := by
  unfold aty
  split <;> decide
theorem aw_alen {c i : Nat} (hd : decode (mC M) pc = .ok (.arraylength, 1)) (hcc : 20 ≤ c ∧ c < 28) (k : AW G l M d post σ kk nn (pc + 1) L (xI (nI (gN σ c i)) :: st)) : AW G l M d post σ kk nn pc L (xR (some (c, i)) :: st) := by
  intro p e R s m args below meth co Qc ad H ls locs cells slots C hR hL hst hlo hc hs hQ
  have hi : i < cnt σ c := ok_hd hst _ rfl
  have hcell := hR.2.1 c i hcc.1 hcc.2 hi
  have K := C.2.2.2.2.2.2.2.2.1
  have fin : ∀ (ty : FieldType), s.isArrayOf (acell G ad σ c i) ty → W p l e R s m args below meth co H locs cells slots (MQ below Qc args s R.cells R.slots (gA0 G)) (F0 m pc ls ((xR (some (c, i)) :: st).map (cv ad))) := fun ty harr => W.alen (n := nI (gN σ c i)) C.1 C.2.1 hcell harr (by rw [acell_size] <;> rfl) rfl rfl hd (k p e R s m args below meth co Qc ad H ls locs cells slots C hR hL (ok_c ok_t (ok_tl hst)) hlo hc hs hQ)
  rcases aty_r c with h | h | h | h | h
  · exact fin _ (by rw [acell_i ad h (by decide) (by decide)]; exact K.ty 0 rfl _ _)
  · exact fin _ (by rw [acell_i ad h (by decide) (by decide)]; exact K.ty 1 rfl _ _)
  · exact fin _ (by rw [acell_i ad h (by decide) (by decide)]; exact K.ty 2 rfl _ _)
  · have := aty_3 h
    subst this
    exact fin _ (K.ty 3 rfl _ _)
  · have := aty_4 h
    subst this
    exact fin _ (K.ty 4 rfl _ _)
/-- an array's place was written -/
theorem rep_ast {ad : Nat → Nat → Nat} {H H' : Heap} {σ' : AS} {c i : Nat} (hR : Rep G ad σ H) (hi : i < cnt σ c) (hc : 20 ≤ c ∧ c < 28) (hnf : ¬ fixd c i) (z : H'.size = H.size) (oq : ∀ q, q ≠ ad c i → H'[q]? = H[q]?) (e : H'[ad c i]? = some (acell G ad σ' c i)) (h0 : σ'.1 = σ.1 ∧ σ'.2.1 = σ.2.1 ∧ σ'.2.2.1 = σ.2.2.1 ∧ σ'.2.2.2.1 = σ.2.2.2.1)
    (oA : ∀ x y, ¬ (x = c ∧ y = i) → (∀ j, gA σ' x y j = gA σ x y j) ∧ (∀ j, gQ σ' x y j = gQ σ x y j) ∧ (∀ j, gL σ' x y j = gL σ x y j)) (kQ : ∀ j, okn σ (gQ σ' c i j)) : Rep G ad σ' H' := by
  obtain ⟨g1, g2, g3, g4⟩ := h0
  have n14 : ∀ r, vwCl[c]? = some r → False := fun r h => by have := cls_lt h; omega
  refine rep_set hR hi hnf z oq (fun x => congrFun g1 x) (fun r hr => (n14 r hr).elim) (fun _ _ => e) (fun x f y _ => congrFun (congrFun (congrFun g2 x) f) y) (fun x f y _ => congrFun (congrFun (congrFun g3 x) f) y) oA (fun x y => congrFun (congrFun g4 x) y) (fun f => ?_) kQ
  have : gR σ' c f i = gR σ c f i := congrFun (congrFun (congrFun g3 c) f) i
  rw [this]
  exact hR.2.2.2.2.2.1 c f i hi
theorem aw_iast {c i : Nat} {j x : Int32} (hd : decode (mC M) pc = .ok (.iastore, 1)) (hcc : 20 ≤ c ∧ c < 27 ∧ aty c = 0) (hin : vp_in j (gN σ c i)) (k : AW G l M d post (sA σ c i j.toNatClampNeg x) kk nn (pc + 1) L st) : AW G l M d post σ kk nn pc L (xI x :: xI j :: xR (some (c, i)) :: st) := by
  intro p e R s m args below meth co Qc ad H ls locs cells slots C hR hL hst hlo hc hs hQ
  have hi : i < cnt σ c := ok_hd (ok_tl (ok_tl hst)) _ rfl
  have hcell := hR.2.1 c i hcc.1 (by omega) hi
  have e0 := acell_i (G := G) (σ := σ) ad (c := c) (i := i) (t := 0) hcc.2.2 (by decide) (by decide)
  rw [e0] at hcell
  refine W.iast C.1 C.2.1 hcell (C.2.2.2.2.2.2.2.2.1.ty 0 rfl _ _) (fun h => by cases h) (by rw [arrV_size]; exact hin) rfl rfl hd (fun H' e1 z oq => ?_)
  have hE : Ext σ ad (sA σ c i j.toNatClampNeg x) ad := fun _ _ h => ⟨h, rfl⟩
  have hnf : ¬ fixd c i := (by have h23 : c ≠ 23 := (fun h => by rw [h] at hcc; exact absurd hcc.2.2 (by decide)); unfold fixd; omega)
  refine k p e R s m args below meth co Qc ad H' ls _ cells slots C (rep_ast hR hi ⟨hcc.1, by omega⟩ hnf z oq ?_ ⟨rfl, rfl, rfl, rfl⟩ ?_ ?_) (hL.ext hE) (fun v hv => ext_okv hE (ok_tl (ok_tl (ok_tl hst)) v hv)) (fun q hq => ?_) hc hs (fun v ad' σ2 t hW hR2 hE2 => hQ v ad' σ2 t hW hR2 (hE.tr hE2))
  · rw [e1, acell_i ad (c := c) (i := i) (t := 0) hcc.2.2 (by decide) (by decide)]
    have ef : updV (fun j => Value.int (gA σ c i j)) j.toNatClampNeg (.int x) = (fun j2 => Value.int (gA (sA σ c i j.toNatClampNeg x) c i j2)) := by
      funext q
      rw [gA_sA]
      unfold updV
      by_cases hq : q = j.toNatClampNeg
      · rw [if_pos hq, if_pos ⟨rfl, rfl, hq⟩]
      · rw [if_neg hq, if_neg (fun h => hq h.2.2)]
    exact congrArg some ((arrV_store _ _ _ _ (.int x)).trans (congrArg (fun f => arrV _ _ f) ef))
  · intro x y hne
    exact ⟨fun j2 => by rw [gA_sA, if_neg (fun h => hne ⟨h.1, h.2.1⟩)], fun _ => rfl, fun _ => rfl⟩
  · exact fun j2 => hR.2.2.2.2.2.2.1 c i j2 hi
  · rcases List.mem_append.mp hq with h | h
    · exact hlo q h
    · rw [List.mem_singleton.mp h]
      exact (hR.2.2.2.1 c i hi).2.1 hnf
theorem aw_zast {i : Nat} {j x : Int32} (hd : decode (mC M) pc = .ok (.bastore, 1)) (hin : vp_in j (gN σ 21 i)) (k : AW G l M d post (sA σ 21 i j.toNatClampNeg (vp_nar .boolean x)) kk nn (pc + 1) L st) : AW G l M d post σ kk nn pc L (xI x :: xI j :: xR (some (21, i)) :: st) := by
  intro p e R s m args below meth co Qc ad H ls locs cells slots C hR hL hst hlo hc hs hQ
  have hi : i < cnt σ 21 := ok_hd (ok_tl (ok_tl hst)) _ rfl
  have hcell := hR.2.1 21 i (by decide) (by decide) hi
  have e0 := acell_i (G := G) (σ := σ) ad (c := 21) (i := i) (t := 1) rfl (by decide) (by decide)
  rw [e0] at hcell
  refine W.zast C.1 C.2.1 hcell (C.2.2.2.2.2.2.2.2.1.ty 1 rfl _ _) (fun h => by cases h) (by rw [arrV_size]; exact hin) rfl rfl hd (fun H' e1 z oq => ?_)
  have hE : Ext σ ad (sA σ 21 i j.toNatClampNeg (vp_nar .boolean x)) ad := fun _ _ h => ⟨h, rfl⟩
  have hnf : ¬ fixd 21 i := (by unfold fixd; omega)
  refine k p e R s m args below meth co Qc ad H' ls _ cells slots C (rep_ast hR hi (by decide) hnf z oq ?_ ⟨rfl, rfl, rfl, rfl⟩ ?_ ?_) (hL.ext hE) (fun v hv => ext_okv hE (ok_tl (ok_tl (ok_tl hst)) v hv)) (fun q hq => ?_) hc hs (fun v ad' σ2 t hW hR2 hE2 => hQ v ad' σ2 t hW hR2 (hE.tr hE2))
  · rw [e1, acell_i ad (c := 21) (i := i) (t := 1) rfl (by decide) (by decide)]
    have ef : updV (fun j => Value.int (gA σ 21 i j)) j.toNatClampNeg (.int (vp_nar .boolean x)) = (fun j2 => Value.int (gA (sA σ 21 i j.toNatClampNeg (vp_nar .boolean x)) 21 i j2)) := by
      funext q
      rw [gA_sA]
      unfold updV
      by_cases hq : q = j.toNatClampNeg
      · rw [if_pos hq, if_pos ⟨rfl, rfl, hq⟩]
      · rw [if_neg hq, if_neg (fun h => hq h.2.2)]
    exact congrArg some ((arrV_store _ _ _ _ (.int (vp_nar .boolean x))).trans (congrArg (fun f => arrV _ _ f) ef))
  · intro x y hne
    exact ⟨fun j2 => by rw [gA_sA, if_neg (fun h => hne ⟨h.1, h.2.1⟩)], fun _ => rfl, fun _ => rfl⟩
  · exact fun j2 => hR.2.2.2.2.2.2.1 21 i j2 hi
  · rcases List.mem_append.mp hq with h | h
    · exact hlo q h
    · rw [List.mem_singleton.mp h]
      exact (hR.2.2.2.1 21 i hi).2.1 hnf
theorem aw_bast {i : Nat} {j x : Int32} (hd : decode (mC M) pc = .ok (.bastore, 1)) (hin : vp_in j (gN σ 22 i)) (k : AW G l M d post (sA σ 22 i j.toNatClampNeg (vp_nar .byte x)) kk nn (pc + 1) L st) : AW G l M d post σ kk nn pc L (xI x :: xI j :: xR (some (22, i)) :: st) := by
  intro p e R s m args below meth co Qc ad H ls locs cells slots C hR hL hst hlo hc hs hQ
  have hi : i < cnt σ 22 := ok_hd (ok_tl (ok_tl hst)) _ rfl
  have hcell := hR.2.1 22 i (by decide) (by decide) hi
  have e0 := acell_i (G := G) (σ := σ) ad (c := 22) (i := i) (t := 2) rfl (by decide) (by decide)
  rw [e0] at hcell
  refine W.bast C.1 C.2.1 hcell (C.2.2.2.2.2.2.2.2.1.ty 2 rfl _ _) (fun h => by cases h) (by rw [arrV_size]; exact hin) rfl rfl hd (fun H' e1 z oq => ?_)
  have hE : Ext σ ad (sA σ 22 i j.toNatClampNeg (vp_nar .byte x)) ad := fun _ _ h => ⟨h, rfl⟩
  have hnf : ¬ fixd 22 i := (by unfold fixd; omega)
  refine k p e R s m args below meth co Qc ad H' ls _ cells slots C (rep_ast hR hi (by decide) hnf z oq ?_ ⟨rfl, rfl, rfl, rfl⟩ ?_ ?_) (hL.ext hE) (fun v hv => ext_okv hE (ok_tl (ok_tl (ok_tl hst)) v hv)) (fun q hq => ?_) hc hs (fun v ad' σ2 t hW hR2 hE2 => hQ v ad' σ2 t hW hR2 (hE.tr hE2))
  · rw [e1, acell_i ad (c := 22) (i := i) (t := 2) rfl (by decide) (by decide)]
    have ef : updV (fun j => Value.int (gA σ 22 i j)) j.toNatClampNeg (.int (vp_nar .byte x)) = (fun j2 => Value.int (gA (sA σ 22 i j.toNatClampNeg (vp_nar .byte x)) 22 i j2)) := by
      funext q
      rw [gA_sA]
      unfold updV
      by_cases hq : q = j.toNatClampNeg
      · rw [if_pos hq, if_pos ⟨rfl, rfl, hq⟩]
      · rw [if_neg hq, if_neg (fun h => hq h.2.2)]
    exact congrArg some ((arrV_store _ _ _ _ (.int (vp_nar .byte x))).trans (congrArg (fun f => arrV _ _ f) ef))
  · intro x y hne
    exact ⟨fun j2 => by rw [gA_sA, if_neg (fun h => hne ⟨h.1, h.2.1⟩)], fun _ => rfl, fun _ => rfl⟩
  · exact fun j2 => hR.2.2.2.2.2.2.1 22 i j2 hi
  · rcases List.mem_append.mp hq with h | h
    · exact hlo q h
    · rw [List.mem_singleton.mp h]
      exact (hR.2.2.2.1 22 i hi).2.1 hnf
theorem aw_last {i : Nat} {j : Int32} {x : Int64} (hd : decode (mC M) pc = .ok (.lastore, 1)) (hin : vp_in j (gN σ 24 i)) (k : AW G l M d post (sL σ 24 i j.toNatClampNeg x) kk nn (pc + 1) L st) : AW G l M d post σ kk nn pc L (xL x :: xI j :: xR (some (24, i)) :: st) := by
  intro p e R s m args below meth co Qc ad H ls locs cells slots C hR hL hst hlo hc hs hQ
  have hi : i < cnt σ 24 := ok_hd (ok_tl (ok_tl hst)) _ rfl
  have hcell := hR.2.1 24 i (by decide) (by decide) hi
  rw [acell_l ad] at hcell
  refine W.last C.1 C.2.1 hcell (C.2.2.2.2.2.2.2.2.1.ty 4 rfl _ _) (fun h => by cases h) (by rw [arrV_size]; exact hin) rfl rfl hd (fun H' e1 z oq => ?_)
  have hE : Ext σ ad (sL σ 24 i j.toNatClampNeg x) ad := fun _ _ h => ⟨h, rfl⟩
  have hnf : ¬ fixd 24 i := by unfold fixd; omega
  refine k p e R s m args below meth co Qc ad H' ls _ cells slots C (rep_ast hR hi (by decide) hnf z oq ?_ ⟨rfl, rfl, rfl, rfl⟩ ?_ ?_) (hL.ext hE) (fun v hv => ext_okv hE (ok_tl (ok_tl (ok_tl hst)) v hv)) (fun q hq => ?_) hc hs (fun v ad' σ2 t hW hR2 hE2 => hQ v ad' σ2 t hW hR2 (hE.tr hE2))
  · rw [e1, acell_l ad]
    have ef : updV (fun j => Value.long (gL σ 24 i j)) j.toNatClampNeg (.long x) = (fun j2 => Value.long (gL (sL σ 24 i j.toNatClampNeg x) 24 i j2)) := by
      funext q
      rw [gL_sL]
      unfold updV
      by_cases hq : q = j.toNatClampNeg
      · rw [if_pos hq, if_pos ⟨rfl, rfl, hq⟩]
      · rw [if_neg hq, if_neg (fun h => hq h.2.2)]
    exact congrArg some ((arrV_store _ _ _ _ (.long x)).trans (congrArg (fun f => arrV _ _ f) ef))
  · intro x y hne
    exact ⟨fun _ => rfl, fun _ => rfl, fun j2 => by rw [gL_sL, if_neg (fun h => hne ⟨h.1, h.2.1⟩)]⟩
  · exact fun j2 => hR.2.2.2.2.2.2.1 24 i j2 hi
  · rcases List.mem_append.mp hq with h | h
    · exact hlo q h
    · rw [List.mem_singleton.mp h]
      exact (hR.2.2.2.1 24 i hi).2.1 hnf
/-- objects that may lie in a row of Objects -/
def inObj (r : Option Nm) : Prop := ∀ n, r = some n → n.1 < 14
theorem cast_in : ∀ c, c < 14 → (vwCl.getD c ("", TX0, 0)).1 ∈ castW := by decide +kernel
theorem any_of {ad : Nat → Nat → Nat} {H : Heap} {s : State} (hR : Rep G ad σ H) (hK : KK G s) {n : Nm} (h14 : n.1 < 14) (hok : n.2 < cnt σ n.1) : va_Any "java/lang/Object" s H (adn ad n) := by
  obtain ⟨c, i⟩ := n
  obtain ⟨r, hr⟩ : ∃ r, vwCl[c]? = some r := ⟨_, List.getElem?_eq_getElem (show c < vwCl.length from h14)⟩
  obtain ⟨cell, q1, q2, q3, -⟩ := hR.1 c i hok r hr
  obtain ⟨-, hfc, kC, hkC, hkind⟩ := hK.1.1 c _ hr
  have hcast : va_Nw (.castable r.1 "java/lang/Object") s := hK.2.2.1 r.1 (by
    have h := cast_in c h14
    rw [cls_getD hr] at h
    exact h)
  obtain ⟨c0, t0, f1, f2, f3⟩ := Cond.castable_spec (va_Nw.use (A := #[]) rfl hcast)
  refine ⟨cell, q1, by rw [q3]; rfl, ⟨kC, by rw [q2]; exact hkC⟩, fun comp hcomp => ?_⟩
  cases f2.symm.trans hcomp
  cases hfc.symm.trans f1
  rw [q2]
  exact f3
theorem aw_aast {i : Nat} {j : Int32} {r : Option Nm} (hd : decode (mC M) pc = .ok (.aastore, 1)) (hin : vp_in j (gN σ 23 i)) (hob : inObj r) (k : AW G l M d post (sQ σ 23 i j.toNatClampNeg r) kk nn (pc + 1) L st) : AW G l M d post σ kk nn pc L (xR r :: xI j :: xR (some (23, i)) :: st) := by
  intro p e R s m args below meth co Qc ad H ls locs cells slots C hR hL hst hlo hc hs hQ
  have hi : i < cnt σ 23 := ok_hd (ok_tl (ok_tl hst)) _ rfl
  have hcell := hR.2.1 23 i (by decide) (by decide) hi
  rw [acell_q ad] at hcell
  have K := C.2.2.2.2.2.2.2.2.1
  have hE : Ext σ ad (sQ σ 23 i j.toNatClampNeg r) ad := fun _ _ h => ⟨h, rfl⟩
  have hlt := vp_in_lt hin
  have hi0 : i ≠ 0 := fun h => by rw [h, hR.2.2.2.2.2.2.2.1] at hlt; omega
  have hnf : ¬ fixd 23 i := by unfold fixd; omega
  have fin : ∀ H' : Heap, H'[ad 23 i]? = some ((arrV (G.2.1 3) (gN σ 23 i) (fun j => va_rf ((gQ σ 23 i j).map (adn ad)))).setSlot j.toNatClampNeg (cv ad (xR r))) → H'.size = H.size → (∀ q, q ≠ ad 23 i → H'[q]? = H[q]?) → W p l e R s m args below meth co H' (locs ++ [⟨ad 23 i, j.toNatClampNeg⟩]) cells slots (MQ below Qc args s R.cells R.slots (gA0 G)) (F0 m (pc + 1) ls (st.map (cv ad))) := by
    intro H' e1 z oq
    refine k p e R s m args below meth co Qc ad H' ls _ cells slots C (rep_ast hR hi (by decide) hnf z oq ?_ ⟨rfl, rfl, rfl, rfl⟩ ?_ ?_) (hL.ext hE) (fun v hv => ext_okv hE (ok_tl (ok_tl (ok_tl hst)) v hv)) (fun q hq => ?_) hc hs (fun v ad' σ2 t hW hR2 hE2 => hQ v ad' σ2 t hW hR2 (hE.tr hE2))
    · rw [e1, acell_q ad, arrV_store]
      have ef : updV (fun j => va_rf ((gQ σ 23 i j).map (adn ad))) j.toNatClampNeg (cv ad (xR r)) = (fun j2 => va_rf ((gQ (sQ σ 23 i j.toNatClampNeg r) 23 i j2).map (adn ad))) := by
        funext q
        rw [gQ_sQ]
        unfold updV
        by_cases hq : q = j.toNatClampNeg
        · rw [if_pos hq, if_pos ⟨rfl, rfl, hq⟩]; rfl
        · rw [if_neg hq, if_neg (fun h => hq h.2.2)]
      exact congrArg (fun f => some (arrV _ _ f)) ef
    · intro x y hne
      exact ⟨fun _ => rfl, fun j2 => by rw [gQ_sQ, if_neg (fun h => hne ⟨h.1, h.2.1⟩)], fun _ => rfl⟩
    · intro j2
      rw [gQ_sQ]
      split
      · exact ok_hd hst
      · exact hR.2.2.2.2.2.2.1 23 i j2 hi
    · rcases List.mem_append.mp hq with h | h
      · exact hlo q h
      · rw [List.mem_singleton.mp h]
        exact (hR.2.2.2.1 23 i hi).2.1 hnf
  cases r with
  | none => exact va_WaastN (C := "java/lang/Object") C.1 C.2.1 hcell (K.ty 3 rfl _ _) (fun h => by cases h) (by rw [arrV_size]; exact hin) rfl rfl hd fin
  | some n =>
    obtain ⟨cellV, g1, g3, ⟨kC, hkC⟩, hasg⟩ := any_of hR K (hob n rfl) (ok_hd hst n rfl)
    obtain ⟨kA, comp, k1, k2, k3, -⟩ := (K.1.2 3 _ rfl).2
    obtain ⟨kE, hkE, -⟩ := Vm.findClass_spec k3
    exact W.aast C.1 C.2.1 hcell (fun q h => by cases h) (fun h => by cases h) k1 k2 rfl hkE ⟨fun q => hin (Or.inl q), by show _ < (arrV _ _ _).slots.size; rw [arrV_size]; exact hlt⟩ g1 (fun q h => by rw [h] at g3; cases g3) hkC (hasg _ k3) rfl rfl hd fin

end ROWS2
end
section
/-! Rows of new cells, of calls, of ends. -/
section ROWS3
variable {G : GG} {l : Launch} {M : Mth} {d : Nat} {post : Option AVal → AS → Prop} {σ : AS} {kk nn pc : Nat} {L : List (Option AVal)} {st : List AVal}
theorem cls_def0 : ∀ c, c < 14 → ∀ f, f < (vwCl.getD c ("", TX0, 0)).2.2 → defaultValue (tyT c f) = if isRf c f = true then .null else .int 0 := by decide +kernel
theorem cls_def {c : Nat} {r : vw_C} (h : vwCl[c]? = some r) : ∀ f, f < r.2.2 → defaultValue (tyT c f) = if isRf c f = true then .null else .int 0 := by
  have := cls_def0 c (cls_lt h)
  rw [cls_getD h] at this
  exact this
/-- a new cell: what goes on -/
theorem aw_fresh {p : Program} {e : Env} {R : Room} {s : State} {m : MethodId} {args : Array Value} {below : List Frame} {meth : Method} {co : Code} {Qc : Array Value → State → Outcome → State → Prop} {ad : Nat → Nat → Nat} {H H1 : Heap} {ls : Array Slot} {locs : List Loc} {cells slots : Nat} {c n pc2 : Nat} (k : AW G l M d post (nA σ c n) kk nn pc2 L (xR (some (c, cnt σ c)) :: st)) (C : Cx G M d p R s m args meth co) (hL : LR σ ad (mL M) L ls) (hst : ∀ v ∈ st, okv σ v) (hlo : ∀ q ∈ locs, gB G ≤ q.base) (hc : cells + kk ≤ R.cells) (hs : slots + nn ≤ R.slots)
    (hQ : ∀ (v : Option AVal) (ad' : Nat → Nat → Nat) (σ' : AS) (t : State), s.WarmedH t.vm → Rep G ad' σ' t.heap → Ext σ ad σ' ad' → (∀ w ∈ v, okv σ' w) → post v σ' → Qc args s (.returned (v.map (cv ad'))) t) (hR' : Rep G (adU ad c (cnt σ c) H.size) (nA σ c n) H1) (hE : Ext σ ad (nA σ c n) (adU ad c (cnt σ c) H.size)) :
    W p l e R s m args below meth co H1 locs cells slots (MQ below Qc args s R.cells R.slots (gA0 G)) (F0 m pc2 ls (.ref H.size :: st.map (cv ad))) := by
  have e2 := ext_cvs hE hst
  have h := k p e R s m args below meth co Qc _ H1 ls locs cells slots C hR' (hL.ext hE) (ok_c (fun n h => by cases h; show cnt σ c < cnt (nA σ c _) c; rw [cnt_nA, if_pos rfl]; omega) (fun v hv => ext_okv hE (hst v hv))) hlo hc hs (fun v ad' σ2 t hW hR2 hE2 => hQ v ad' σ2 t hW hR2 (hE.tr hE2))
  rw [List.map_cons, e2] at h
  have e3 : cv (adU ad c (cnt σ c) H.size) (xR (some (c, cnt σ c))) = .ref H.size := by
    show va_rf (some (adU ad c (cnt σ c) H.size c (cnt σ c))) = _
    rw [adU_self]
    rfl
  rw [e3] at h
  exact h
theorem rep_nA {ad : Nat → Nat → Nat} {H H' : Heap} {c n : Nat} (hR : Rep G ad σ H) (hc : c ≠ 30 ∧ c ≠ 31 ∧ c ≠ 27 ∧ (c = 23 → 0 < cnt σ 23)) (z : H'.size = H.size + 1) (oq : ∀ q, q < H.size → H'[q]? = H[q]?)
    (obj : ∀ r, vwCl[c]? = some r → t_OB H.size (G.1.1 c) r.2.2 (G.1.2 c) H' (fun f => if isRf c f = true then .null else .int 0)) (arr : 20 ≤ c → c < 28 → H'[H.size]? = some (match aty c with | 3 => arrV (G.2.1 3) n (fun _ => .null) | 4 => arrV (G.2.1 4) n (fun _ => .long 0) | t => arrV (G.2.1 t) n (fun _ => .int 0))) :
    Rep G (adU ad c (cnt σ c) H.size) (nA σ c n) H' ∧ Ext σ ad (nA σ c n) (adU ad c (cnt σ c) H.size) := by
  refine rep_new (σ' := nA σ c n) hR hc z oq (fun x => by rw [cnt_nA]) (fun r hr => (obj r hr).to (fun f _ => ?_)) (fun h1 h2 => (arr h1 h2).trans (congrArg some ?_)) (fun x f y hne => by rw [gI_nA, if_neg hne]) (fun x f y hne => by rw [gR_nA, if_neg hne]) (fun x y hne => ⟨fun j => by rw [gA_nA, if_neg hne], fun j => by rw [gQ_nA, if_neg hne], fun j => by rw [gL_nA, if_neg hne], by rw [gN_nA, if_neg hne]⟩)
    (fun f => Or.inl (by rw [gR_nA, if_pos ⟨rfl, rfl⟩])) (fun j => Or.inl (by rw [gQ_nA, if_pos ⟨rfl, rfl⟩])) (fun f n h => by rw [gR_nA, if_pos ⟨rfl, rfl⟩] at h; cases h) (fun j n h => by rw [gQ_nA, if_pos ⟨rfl, rfl⟩] at h; cases h)
  · unfold fv
    rw [gI_nA, gR_nA, if_pos (show c = c ∧ cnt σ c = cnt σ c from ⟨rfl, rfl⟩), if_pos (show c = c ∧ cnt σ c = cnt σ c from ⟨rfl, rfl⟩)]
    rfl
  · have e1 : gA (nA σ c n) c (cnt σ c) = fun _ => 0 := funext fun j => by rw [gA_nA, if_pos ⟨rfl, rfl⟩]
    have e2 : gQ (nA σ c n) c (cnt σ c) = fun _ => none := funext fun j => by rw [gQ_nA, if_pos ⟨rfl, rfl⟩]
    have e3 : gL (nA σ c n) c (cnt σ c) = fun _ => 0 := funext fun j => by rw [gL_nA, if_pos ⟨rfl, rfl⟩]
    have e4 : gN (nA σ c n) c (cnt σ c) = n := by rw [gN_nA, if_pos ⟨rfl, rfl⟩]
    unfold acell
    rw [e1, e2, e3, e4]
    rfl
/-- new object -/
theorem aw_new {c idx n : Nat} {r : vw_C} (hr : vwCl[c]? = some r) (hn : r.2.2 = n) (hw : Cond.classLink (mO M) idx r.1 ∈ TW ∧ Cond.instantiable r.1 n ∈ TW ∧ Cond.initialized r.1 ∈ TW) (hd : decode (mC M) pc = .ok (.new idx, 3)) (k : AW G l M d post (nO σ c) kk nn (pc + 3) L (xR (some (c, cnt σ c)) :: st)) : AW G l M d post σ (kk + 1) (nn + n) pc L st := by
  intro p e R s m args below meth co Qc ad H ls locs cells slots C hR hL hst hlo hc hs hQ
  subst hn
  have hts := C.2.2.2.2.2.1
  have hKn := C.2.2.2.2.2.2.2.2.1.1.1 c _ hr
  have h14 := cls_lt hr
  refine W.newcK C.1 C.2.1 C.2.2.2.2.1 (hts _ hw.1) (hts _ hw.2.1) (hts _ hw.2.2) rfl hd (by omega) (by omega) hKn.2.1 rfl fun H1 kC hkC e1 z1 o1 => ?_
  obtain ⟨hR', hE⟩ := rep_nA (n := 0) hR (c := c) ⟨by omega, by omega, by omega, fun h => by omega⟩ z1 o1 (fun r' hr' => by
      cases hr.symm.trans hr'
      exact (u_born (tyT c) hts (cls_in hr) hKn hkC e1 (cls_ty hr)).to (fun f hf => cls_def hr f hf)) (fun h20 _ => absurd h14 (by omega))
  exact aw_fresh k C hL hst hlo (by omega) (by omega) hQ hR' hE
/-- new array of numbers; its kind is ours to choose, its sort not -/
theorem aw_newarr (c : Nat) {at0 : ArrayType} {t : Nat} {x : Int32} {N : Nat} (hN : x.toNatClampNeg = N) (hc28 : 20 ≤ c ∧ c < 27 ∧ c ≠ 23) (ht : aty c = t) (hty : (t = 0 ∧ newarray.typeOf at0 = .int) ∨ (t = 1 ∧ newarray.typeOf at0 = .boolean) ∨ (t = 2 ∧ newarray.typeOf at0 = .byte) ∨ (t = 4 ∧ newarray.typeOf at0 = .long)) (hw : Cond.arrayClass (newarray.typeOf at0) ∈ TW) (hd : decode (mC M) pc = .ok (.newarray at0, 2)) (hx : ¬ x < 0) (hbig : N ≤ 60000000) (k : AW G l M d post (nA σ c N) kk nn (pc + 2) L (xR (some (c, cnt σ c)) :: st)) : AW G l M d post σ (kk + 1) (nn + N) pc L (xI x :: st) := by
  intro p e R s m args below meth co Qc ad H ls locs cells slots C hR hL hst hlo hc hs hQ
  have K := C.2.2.2.2.2.2.2.2.1
  have hcb : N * componentBytes (newarray.typeOf at0) ≤ 536870912 := by
    have : componentBytes (newarray.typeOf at0) ≤ 8 := by
      rcases hty with ⟨-, h⟩ | ⟨-, h⟩ | ⟨-, h⟩ | ⟨-, h⟩ <;> rw [h] <;> decide
    calc N * componentBytes (newarray.typeOf at0) ≤ N * 8 := Nat.mul_le_mul_left _ this
      _ ≤ 60000000 * 8 := Nat.mul_le_mul_right _ hbig
      _ ≤ 536870912 := by decide
  refine va_newaK C.1 C.2.1 (C.2.2.2.2.2.1 _ hw) rfl hd rfl hx hN hcb (by omega) (by omega) rfl fun H1 cA e1 z1 o1 hAr hNm => ?_
  have hcA : cA = G.2.1 t := by
    rcases hty with ⟨rfl, h⟩ | ⟨rfl, h⟩ | ⟨rfl, h⟩ | ⟨rfl, h⟩ <;> rw [h] at hNm
    · exact Option.some.inj (hNm.symm.trans (K.1.2 0 _ rfl).2)
    · exact Option.some.inj (hNm.symm.trans (K.1.2 1 _ rfl).2)
    · exact Option.some.inj (hNm.symm.trans (K.1.2 2 _ rfl).2)
    · exact Option.some.inj (hNm.symm.trans (K.1.2 4 _ rfl).2)
  obtain ⟨hR', hE⟩ := rep_nA (n := N) hR (c := c) ⟨by omega, by omega, by omega, fun h => absurd h hc28.2.2⟩ z1 o1 (fun r' hr' => absurd (cls_lt hr') (by omega)) (fun _ _ => by
    rw [e1, hcA]
    rcases hty with ⟨rfl, h⟩ | ⟨rfl, h⟩ | ⟨rfl, h⟩ | ⟨rfl, h⟩ <;> rw [h, ht] <;> rfl)
  exact aw_fresh k C hL (ok_tl hst) hlo (by omega) (by omega) hQ hR' hE
/-- new array of Objects -/
theorem aw_newobj {idx : Nat} {x : Int32} {N : Nat} (hN : x.toNatClampNeg = N) (hw : Cond.classLink (mO M) idx "java/lang/Object" ∈ TW) (hd : decode (mC M) pc = .ok (.anewarray idx, 3)) (hx : ¬ x < 0) (hbig : N ≤ 60000000) (k : AW G l M d post (nA σ 23 N) kk nn (pc + 3) L (xR (some (23, cnt σ 23)) :: st)) : AW G l M d post σ (kk + 1) (nn + N) pc L (xI x :: st) := by
  intro p e R s m args below meth co Qc ad H ls locs cells slots C hR hL hst hlo hc hs hQ
  have K := C.2.2.2.2.2.2.2.2.1
  subst hN
  refine W.anew C.1 C.2.1 C.2.2.2.2.1 (C.2.2.2.2.2.1 _ hw) (va_AO.use K.2.2.2.1.2.1) rfl hd rfl hx (by omega) (by omega) (by omega) fun cA kA comp f1 f2 f3 f4 => ?_
  generalize hH1 : H.push ({ cls := cA, slots := Array.replicate x.toNatClampNeg .null, vm := .none } : Cell) = H1
  have z1 : H1.size = H.size + 1 := by rw [← hH1, Array.size_push]
  have e1 : H1[H.size]? = some (arrV cA x.toNatClampNeg (fun _ => .null)) := by rw [← hH1, Array.getElem?_push_size, ← arrV_new]
  have o1 : ∀ q : Nat, q < H.size → H1[q]? = H[q]? := fun q hq => by rw [← hH1, Array.getElem?_push, if_neg (Nat.ne_of_lt hq)]
  have hcA : cA = G.2.1 3 := by
    obtain ⟨_, _, _, _, _, h4⟩ := (K.1.2 3 _ rfl).2
    exact Option.some.inj (f1.symm.trans h4)
  obtain ⟨hR', hE⟩ := rep_nA (n := x.toNatClampNeg) hR (c := 23) ⟨by omega, by omega, by omega, fun _ => hR.2.2.2.2.2.2.2.2.1⟩ z1 o1 (fun r' hr' => absurd (cls_lt hr') (by omega)) (fun _ _ => by
    rw [e1, hcA]
    rfl)
  exact aw_fresh k C hL (ok_tl hst) hlo (by omega) (by omega) hQ hR' hE
theorem goodIn_cat {big a b : List Cond} (ha : GoodIn big a) (hb : GoodIn big b) : GoodIn big (a ++ b) := fun w h => (List.mem_append.mp h).elim (ha w) (hb w)
theorem cat_le (ad : Nat → Nat → Nat) : ∀ st : List AVal, ((st.map (cv ad)).map fun v => v.category).sum ≤ 2 * st.length
  | [] => Nat.zero_le _
  | v :: st => by
    have h := cat_le ad st
    have : (cv ad v).category ≤ 2 := by rcases lv_cat (cv ad v) with e | e <;> omega
    simp only [List.map_cons, List.sum_cons, List.length_cons]
    omega
theorem toL_map (f : AVal → Value) (v : Option AVal) : (v.map f).toList = v.toList.map f := by cases v <;> rfl
/-- behind a call -/
theorem aw_goOn {p : Program} {e : Env} {R : Room} {s : State} {m : MethodId} {args : Array Value} {below : List Frame} {meth : Method} {co : Code} {Qc : Array Value → State → Outcome → State → Prop} {ad : Nat → Nat → Nat} {H : Heap} {ls : Array Slot} {locs : List Loc} {cells slots mc ms : Nat} {stk : List Value} {Qa : State → Outcome → State → Prop}
    (hr : va_Run p l e R s m args below meth co H locs cells slots mc ms (F0 m pc ls stk) (st.map (cv ad)) Qa (gA0 G)) (C : Cx G M d p R s m args meth co) (hL : LR σ ad (mL M) L ls) (hst : ∀ v ∈ st, okv σ v) (hlo : ∀ q ∈ locs, gB G ≤ q.base) (hc : cells + (kk + mc) ≤ R.cells) (hs : slots + (nn + ms) ≤ R.slots)
    (hQ : ∀ (v : Option AVal) (ad' : Nat → Nat → Nat) (σ' : AS) (t : State), s.WarmedH t.vm → Rep G ad' σ' t.heap → Ext σ ad σ' ad' → (∀ w ∈ v, okv σ' w) → post v σ' → Qc args s (.returned (v.map (cv ad'))) t)
    (hQa : ∀ (st₀ : State) (v : Option Value) (t : State), Qa st₀ (.returned v) t → ∃ (v' : Option AVal) (ad' : Nat → Nat → Nat) (σ' : AS), v = v'.map (cv ad') ∧ Rep G ad' σ' t.heap ∧ Ext σ ad σ' ad' ∧ (∀ w ∈ v', okv σ' w) ∧ AW G l M d post σ' kk nn (pc + 3) L (v'.toList ++ st)) :
    W p l e R s m args below meth co H locs cells slots (MQ below Qc args s R.cells R.slots (gA0 G)) (F0 m pc ls stk) := by
  intro T hT X
  obtain ⟨v, st₀, t, T', Lo, h0, X', hLo, e1, e2, hqa, hgo⟩ := hr T hT X
  obtain ⟨v', ad', σ', rfl, hR', hE, hok, k⟩ := hQa st₀ v t hqa
  have h := k p e R s m args below meth co Qc ad' T'.heap ls (locs ++ Lo) (cells + mc) (slots + ms) C (by rw [e1]; exact hR') (hL.ext hE) (fun w hw => by
      rcases List.mem_append.mp hw with h | h
      · exact hok w (Option.mem_toList.mp h)
      · exact ext_okv hE (hst w h)) (fun q hq => by
      rcases List.mem_append.mp hq with h | h
      · exact hlo q h
      · exact hLo q h) (by omega) (by omega) (fun v ad2 σ2 t hW hR2 hE2 => hQ v ad2 σ2 t hW hR2 (hE.tr hE2))
  rw [List.map_append, ext_cvs hE hst, ← toL_map] at h
  obtain ⟨t2, a1, b1⟩ := h T' rfl X'
  exact ⟨t2, hgo t2 a1, b1⟩
/-- the class of a receiver by its kind -/
def rcls (c : Nat) : String := if c = 30 then "java/lang/String" else (vwCl.getD c ("", TX0, 0)).1
theorem rcv_of {ad : Nat → Nat → Nat} {H : Heap} {s : State} {c i : Nat} (hR : Rep G ad σ H) (hK : KK G s) (h : c < 14 ∨ c = 30) (hok : i < cnt σ c) : ∃ cell : Cell, H[ad c i]? = some cell ∧ cell.vm.isStatics = false ∧ s.vm.findClass (rcls c) = some cell.cls := by
  rcases h with h | rfl
  · obtain ⟨r, hr⟩ : ∃ r, vwCl[c]? = some r := ⟨_, List.getElem?_eq_getElem (show c < vwCl.length from h)⟩
    obtain ⟨cell, q1, q2, q3, -⟩ := hR.1 c i hok r hr
    obtain ⟨-, hfc, -⟩ := hK.1.1 c _ hr
    refine ⟨cell, q1, by rw [q3]; rfl, ?_⟩
    unfold rcls
    rw [if_neg (by omega), cls_getD hr, q2]
    exact hfc
  · obtain ⟨-, -, h3⟩ := hR.2.2.2.1 30 i hok
    obtain ⟨e1, e2⟩ := h3 (Or.inr (Or.inr (Or.inl rfl)))
    have hi : i < 21 := by rw [← hR.2.2.2.2.2.2.2.2.2.1]; exact hok
    obtain ⟨cell, g1, g2, g3, -⟩ := (hK.2.2.2.2.1 i hi).1
    exact ⟨cell, by rw [hR.2.2.2.2.1.2 _ e2, e1]; exact g1, g2, g3⟩
def pcOf (G : GG) (ad : Nat → Nat → Nat) (as : List AVal) (σ : AS) : Array Value → State → Prop := fun v U => v = (as.map (cv ad)).toArray ∧ Rep G ad σ U.heap ∧ (∀ v ∈ as, okv σ v) ∧ KK G U
theorem pcOf_blind {ad : Nat → Nat → Nat} {as : List AVal} : FrameBlind (pcOf G ad as σ) := fun a U g mk ⟨h1, h2, h3, h4⟩ => ⟨h1, h2, h3, KK.blind h4⟩
/-- what the tables say of a callee -/
def MW (M' : Mth) (n : Nat) : Prop := Cond.code (mY M') (mC M') (mL M') (mR M') ∈ TW ∧ Cond.initialized (mY M').cls ∈ TW ∧ mL M' ≤ 22 ∧ ((mY M').cls ≠ "java/lang/invoke/MethodHandle" ∧ (mY M').cls ≠ "java/lang/invoke/VarHandle" ∧ (parseMethodDescriptor (mY M').desc).map (fun d => d.parameters.length) = some n)
theorem mw_good {M' : Mth} {n : Nat} (h : MW M' n) : GoodIn TW (.code (mY M') (mC M') (mL M') (mR M') :: TW) := tw_GoodIn (fun w hw => (List.mem_cons.mp hw).elim (fun e => e ▸ h.1) id)
theorem aw_callV {M' : Mth} {idx n d' mc ms c i : Nat} {as stk : List AVal} (hw : MW M' n) (hcls : rcls c = (mY M').cls ∧ (c < 14 ∨ c = 30)) (hl : Cond.methodLink (mO M) idx (mY M') ∈ TW ∧ Cond.instanceMethod (mY M') ∈ TW ∧ Cond.selects (mY M').cls (mY M') (mY M') ∈ TW) (hn : as.length = n) (hd : decode (mC M) pc = .ok (.invokevirtual idx, 3)) (hstk : stk = as.reverse ++ xR (some (c, i)) :: st) (h4 : st.length ≤ 4)
    (hm : AMet G l M' d' mc ms (xR (some (c, i)) :: as) σ (fun v σ' => AW G l M (d' + 1) post σ' kk nn (pc + 3) L (v.toList ++ st))) : AW G l M (d' + 1) post σ (kk + mc) (nn + ms) pc L stk := by
  intro p e R s m args below meth co Qc ad H ls locs cells slots C hR hL hst hlo hc hs hQ
  subst hstk
  have hts := C.2.2.2.2.2.1
  have K := C.2.2.2.2.2.2.2.2.1
  have hokr : okv σ (xR (some (c, i))) := hst _ (List.mem_append_right _ List.mem_cons_self)
  have hokst : ∀ v ∈ st, okv σ v := fun v hv => hst v (List.mem_append_right _ (List.mem_cons_of_mem _ hv))
  have hoka : ∀ v ∈ xR (some (c, i)) :: as, okv σ v := ok_c hokr (fun v hv => hst v (List.mem_append_left _ (List.mem_reverse.mpr hv)))
  have hfr := C.2.2.2.2.2.2.2.2.2
  refine aw_goOn (va_runV (Ts := TW) (own := mO M) (C := (mY M').cls) (y := mY M') (b := ad c i) (As := as.map (cv ad)) (rest := st.map (cv ad)) ⟨C.1, C.2.1, C.2.2.1, C.2.2.2.2.1, hts⟩ (hm ad) (cwV n hts (goodIn_cat (tw_GoodIn (fun w h => ?_)) (mw_good hw)) rfl rfl rfl ⟨rfl, hw.2.2.2⟩ ⟨hfr.1, by have := hfr.2; have := hw.2.2.1; show 8 + (mL M' + 11) + 41 * d' ≤ R.locals; omega⟩) ⟨pcOf_blind (as := xR (some (c, i)) :: as), by rw [← hcls.1]; exact rcv_of hR K hcls.2 (hokr _ rfl), fun U hU hW => ⟨rfl, by rw [hU]; exact hR, hoka, KK.warm hW K⟩⟩ rfl (by rw [List.length_map]; exact hn) hL.1 (by rw [List.map_append, List.map_reverse]; rfl) (lv_room (Nat.le_trans (cat_le ad st) (by omega))) hd ⟨by omega, by omega⟩) C hL hokst hlo hc hs hQ (fun st₀ v t ⟨v', ad', σ', e, h2, h3, h4, h5⟩ => ⟨v', ad', σ', Outcome.returned.inj e, h2, h3, h4, h5⟩)
  rcases List.mem_cons.mp h with rfl | h
  · exact hl.1
  · rcases List.mem_cons.mp h with rfl | h
    · exact hl.2.1
    · rcases List.mem_cons.mp h with rfl | h
      · exact hl.2.2
      · rcases List.mem_cons.mp h with rfl | h
        · exact hw.2.1
        · cases h

theorem aw_callS {M' : Mth} {idx n d' mc ms : Nat} {as stk : List AVal} (hw : MW M' n) (hl : Cond.methodLink (mO M) idx (mY M') ∈ TW ∧ Cond.static (mY M') ∈ TW) (hn : as.length = n) (hd : decode (mC M) pc = .ok (.invokestatic idx, 3)) (hstk : stk = as.reverse ++ st) (h4 : st.length ≤ 4)
    (hm : AMet G l M' d' mc ms (as) σ (fun v σ' => AW G l M (d' + 1) post σ' kk nn (pc + 3) L (v.toList ++ st))) : AW G l M (d' + 1) post σ (kk + mc) (nn + ms) pc L stk := by
  intro p e R s m args below meth co Qc ad H ls locs cells slots C hR hL hst hlo hc hs hQ
  subst hstk
  have hts := C.2.2.2.2.2.1
  have K := C.2.2.2.2.2.2.2.2.1
  have hokst : ∀ v ∈ st, okv σ v := fun v hv => hst v (List.mem_append_right _ hv)
  have hoka : ∀ v ∈ as, okv σ v := fun v hv => hst v (List.mem_append_left _ (List.mem_reverse.mpr hv))
  have hfr := C.2.2.2.2.2.2.2.2.2
  have hroom : mL M' + 11 + 8 + 41 * d' ≤ R.locals := by have := hfr.2; have := hw.2.2.1; omega
  refine aw_goOn (va_runS (Ts := TW) (own := mO M) (y := mY M') (As := as.map (cv ad)) (rest := st.map (cv ad)) ⟨C.1, C.2.1, C.2.2.1, C.2.2.2.2.1, hts⟩ (hm ad) (va_cwS n hts (goodIn_cat (tw_GoodIn (fun w h => ?_)) (mw_good hw)) rfl rfl rfl hw.2.2.2 ⟨hfr.1, by show 8 + (mL M' + 11) + 41 * d' ≤ R.locals; omega⟩) ⟨pcOf_blind (as := as), fun U hU hW => ⟨rfl, by rw [hU]; exact hR, hoka, KK.warm hW K⟩⟩ rfl (by rw [List.length_map]; exact hn) hL.1 (by rw [List.map_append, List.map_reverse]) (lv_room (Nat.le_trans (cat_le ad st) (by omega))) hd ⟨by omega, by omega⟩) C hL hokst hlo hc hs hQ (fun st₀ v t ⟨v', ad', σ', e, h2, h3, h4, h5⟩ => ⟨v', ad', σ', Outcome.returned.inj e, h2, h3, h4, h5⟩)
  rcases List.mem_cons.mp h with rfl | h
  · exact hl.1
  · rcases List.mem_cons.mp h with rfl | h
    · exact hl.2
    · rcases List.mem_cons.mp h with rfl | h
      · exact hw.2.1
      · cases h
theorem aw_callSN {M' : Mth} {idx n d' mc ms  : Nat} {as stk : List AVal} (hw : MW M' n) {host : String} (hl : (mO M, idx, mY M', host) ∈ nestW ∧ Cond.static (mY M') ∈ TW) (hn : as.length = n) (hd : decode (mC M) pc = .ok (.invokestatic idx, 3)) (hstk : stk = as.reverse ++ st) (h4 : st.length ≤ 4)
    (hm : AMet G l M' d' mc ms (as) σ (fun v σ' => AW G l M (d' + 1) post σ' kk nn (pc + 3) L (v.toList ++ st))) : AW G l M (d' + 1) post σ (kk + mc) (nn + ms) pc L stk := by
  intro p e R s m args below meth co Qc ad H ls locs cells slots C hR hL hst hlo hc hs hQ
  subst hstk
  have hts := C.2.2.2.2.2.1
  have K := C.2.2.2.2.2.2.2.2.1
  have hokst : ∀ v ∈ st, okv σ v := fun v hv => hst v (List.mem_append_right _ hv)
  have hoka : ∀ v ∈ as, okv σ v := fun v hv => hst v (List.mem_append_left _ (List.mem_reverse.mpr hv))
  have hfr := C.2.2.2.2.2.2.2.2.2
  have hroom : mL M' + 11 + 8 + 41 * d' ≤ R.locals := by have := hfr.2; have := hw.2.2.1; omega
  refine aw_goOn (va_runSN (host := host) (Ts := TW) (own := mO M) (y := mY M') (As := as.map (cv ad)) (rest := st.map (cv ad)) ⟨C.1, C.2.1, C.2.2.1, C.2.2.2.2.1, hts⟩ (hm ad) ⟨(va_cnB n hts (mw_good hw) rfl rfl rfl (K.2.1 _ hl.1) (hts _ hw.2.1) hw.2.2.2 ⟨hfr.1, by show 8 + (mL M' + 11) + 41 * d' ≤ R.locals; omega⟩), hts _ hl.2, trivial⟩ ⟨pcOf_blind (as := as), fun U hU hW => ⟨rfl, by rw [hU]; exact hR, hoka, KK.warm hW K⟩⟩ rfl (by rw [List.length_map]; exact hn) hL.1 (by rw [List.map_append, List.map_reverse]) (lv_room (Nat.le_trans (cat_le ad st) (by omega))) hd ⟨by omega, by omega⟩) C hL hokst hlo hc hs hQ (fun st₀ v t ⟨v', ad', σ', e, h2, h3, h4, h5⟩ => ⟨v', ad', σ', Outcome.returned.inj e, h2, h3, h4, h5⟩)
theorem aw_callI {M' : Mth} {idx n d' mc ms c i : Nat} {as stk : List AVal} (hw : MW M' n) (hret : mR M' = none) (hname : (mY M').name = "<init>") (hl : Cond.methodLink (mO M) idx (mY M') ∈ TW ∧ Cond.instanceMethod (mY M') ∈ TW) (hn : as.length = n) (hd : decode (mC M) pc = .ok (.invokespecial idx, 3)) (hstk : stk = as.reverse ++ xR (some (c, i)) :: st) (h4 : st.length ≤ 4)
    (hm : AMet G l M' d' mc ms (xR (some (c, i)) :: as) σ (fun v σ' => AW G l M (d' + 1) post σ' kk nn (pc + 3) L (v.toList ++ st))) : AW G l M (d' + 1) post σ (kk + mc) (nn + ms) pc L stk := by
  intro p e R s m args below meth co Qc ad H ls locs cells slots C hR hL hst hlo hc hs hQ
  subst hstk
  have hts := C.2.2.2.2.2.1
  have K := C.2.2.2.2.2.2.2.2.1
  have hokr : okv σ (xR (some (c, i))) := hst _ (List.mem_append_right _ List.mem_cons_self)
  have hokst : ∀ v ∈ st, okv σ v := fun v hv => hst v (List.mem_append_right _ (List.mem_cons_of_mem _ hv))
  have hoka : ∀ v ∈ xR (some (c, i)) :: as, okv σ v := ok_c hokr (fun v hv => hst v (List.mem_append_left _ (List.mem_reverse.mpr hv)))
  have hfr := C.2.2.2.2.2.2.2.2.2
  have hroom : mL M' + 11 + 8 + 41 * d' ≤ R.locals := by have := hfr.2; have := hw.2.2.1; omega
  refine aw_goOn (va_runI (Ts := TW) (own := mO M) (y := mY M') (As := as.map (cv ad)) (rest := st.map (cv ad)) (bytes := mC M') (maxL := mL M') (b := ad c i) ⟨C.1, C.2.1, C.2.2.1, C.2.2.2.2.1, hts⟩ (hm ad) (cwI (ws' := TW) n hts (mw_good hw) (by rw [hret]) rfl rfl (hts _ hw.2.1) (hts _ hl.1) (hts _ hl.2) hname hw.2.2.2 ⟨hfr.1, by show 8 + (mL M' + 11) + 41 * d' ≤ R.locals; omega⟩) ⟨pcOf_blind (as := xR (some (c, i)) :: as), fun U hU hW => ⟨rfl, by rw [hU]; exact hR, hoka, KK.warm hW K⟩⟩ rfl (by rw [List.length_map]; exact hn) hL.1 (by rw [List.map_append, List.map_reverse]; rfl) (lv_room (Nat.le_trans (cat_le ad st) (by omega))) hd ⟨by omega, by omega⟩) C hL hokst hlo hc hs hQ (fun st₀ v t ⟨v', ad', σ', e, h2, h3, h4, h5⟩ => ⟨v', ad', σ', Outcome.returned.inj e, h2, h3, h4, h5⟩)
theorem aw_callIN {M' : Mth} {idx n d' mc ms c i : Nat} {as stk : List AVal} (hw : MW M' n) {host : String} (hret : mR M' = none) (hname : (mY M').name = "<init>") (hl : (mO M, idx, mY M', host) ∈ nestW ∧ Cond.instanceMethod (mY M') ∈ TW) (hn : as.length = n) (hd : decode (mC M) pc = .ok (.invokespecial idx, 3)) (hstk : stk = as.reverse ++ xR (some (c, i)) :: st) (h4 : st.length ≤ 4)
    (hm : AMet G l M' d' mc ms (xR (some (c, i)) :: as) σ (fun v σ' => AW G l M (d' + 1) post σ' kk nn (pc + 3) L (v.toList ++ st))) : AW G l M (d' + 1) post σ (kk + mc) (nn + ms) pc L stk := by
  intro p e R s m args below meth co Qc ad H ls locs cells slots C hR hL hst hlo hc hs hQ
  subst hstk
  have hts := C.2.2.2.2.2.1
  have K := C.2.2.2.2.2.2.2.2.1
  have hokr : okv σ (xR (some (c, i))) := hst _ (List.mem_append_right _ List.mem_cons_self)
  have hokst : ∀ v ∈ st, okv σ v := fun v hv => hst v (List.mem_append_right _ (List.mem_cons_of_mem _ hv))
  have hoka : ∀ v ∈ xR (some (c, i)) :: as, okv σ v := ok_c hokr (fun v hv => hst v (List.mem_append_left _ (List.mem_reverse.mpr hv)))
  have hfr := C.2.2.2.2.2.2.2.2.2
  have hroom : mL M' + 11 + 8 + 41 * d' ≤ R.locals := by have := hfr.2; have := hw.2.2.1; omega
  refine aw_goOn (va_runIN (host := host) (Ts := TW) (own := mO M) (y := mY M') (As := as.map (cv ad)) (rest := st.map (cv ad)) (bytes := mC M') (maxL := mL M') (b := ad c i) ⟨C.1, C.2.1, C.2.2.1, C.2.2.2.2.1, hts⟩ (hm ad) ⟨va_cnB (ws' := TW) n hts (mw_good hw) (by rw [hret]) rfl rfl (K.2.1 _ hl.1) (hts _ hw.2.1) hw.2.2.2 ⟨hfr.1, by show 8 + (mL M' + 11) + 41 * d' ≤ R.locals; omega⟩, hname, hts _ hl.2⟩ ⟨pcOf_blind (as := xR (some (c, i)) :: as), fun U hU hW => ⟨rfl, by rw [hU]; exact hR, hoka, KK.warm hW K⟩⟩ rfl (by rw [List.length_map]; exact hn) hL.1 (by rw [List.map_append, List.map_reverse]; rfl) (lv_room (Nat.le_trans (cat_le ad st) (by omega))) hd ⟨by omega, by omega⟩) C hL hokst hlo hc hs hQ (fun st₀ v t ⟨v', ad', σ', e, h2, h3, h4, h5⟩ => ⟨v', ad', σ', Outcome.returned.inj e, h2, h3, h4, h5⟩)
theorem aw_objInit {idx c i d' : Nat} (hw : Cond.methodLink (mO M) idx Lib.objectInit ∈ TW ∧ Cond.instanceMethod Lib.objectInit ∈ TW ∧ Cond.code Lib.objectInit ⟨#[0xb1]⟩ 1 none ∈ TW) (hd : decode (mC M) pc = .ok (.invokespecial idx, 3)) (h4 : st.length ≤ 4) (k : AW G l M (d' + 1) post σ kk nn (pc + 3) L st) : AW G l M (d' + 1) post σ kk nn pc L (xR (some (c, i)) :: st) := by
  intro p e R s m args below meth co Qc ad H ls locs cells slots C hR hL hst hlo hc hs hQ
  have hts := C.2.2.2.2.2.1
  have hfr := C.2.2.2.2.2.2.2.2.2
  refine W.objInit (rest := st.map (cv ad)) C.1 C.2.1 C.2.2.2.2.1 (hts _ hw.1) (hts _ hw.2.1) (hts _ hw.2.2) rfl (by rw [C.2.2.1]; exact hL.1) rfl hd (by have := hfr.1; omega) ?_ (k p e R s m args below meth co Qc ad H ls locs cells slots C hR hL (ok_tl hst) hlo hc hs hQ)
  have h1 := cat_le ad st
  have h2 := lv_room (m := m) (pc := pc) (ls := ls) (rest := []) (st := st.map (cv ad)) (by omega)
  have h3 := hfr.2
  show 2 * (F0 m pc ls _).monitorRoom + _ + 12 ≤ _
  have h5 : (F0 m pc ls ((xR (some (c, i)) :: st).map (cv ad))).monitorRoom = (F0 m pc ls []).monitorRoom := rfl
  rw [h5]
  omega
theorem aw_castN {idx : Nat} (hd : decode (mC M) pc = .ok (.checkcast idx, 3)) (k : AW G l M d post σ kk nn (pc + 3) L (xR none :: st)) : AW G l M d post σ kk nn pc L (xR none :: st) := by
  intro p e R s m args below meth co Qc ad H ls locs cells slots C hR hL hst hlo hc hs hQ
  exact lv_castN C.1 C.2.1 hd (k p e R s m args below meth co Qc ad H ls locs cells slots C hR hL hst hlo hc hs hQ)
theorem aw_cast {idx c i : Nat} (h14 : c < 14 ∨ c = 30) (hw : Cond.classLink (mO M) idx (rcls c) ∈ TW) (hd : decode (mC M) pc = .ok (.checkcast idx, 3)) (k : AW G l M d post σ kk nn (pc + 3) L (xR (some (c, i)) :: st)) : AW G l M d post σ kk nn pc L (xR (some (c, i)) :: st) := by
  intro p e R s m args below meth co Qc ad H ls locs cells slots C hR hL hst hlo hc hs hQ
  exact va_castE C.1 C.2.1 C.2.2.2.2.1 (C.2.2.2.2.2.1 _ hw) (rcv_of hR C.2.2.2.2.2.2.2.2.1 h14 (ok_hd hst _ rfl)) hd (k p e R s m args below meth co Qc ad H ls locs cells slots C hR hL hst hlo hc hs hQ)
theorem aw_ldcS {idx i : Nat} {tx : String} (hw : (mO M, idx, tx, i) ∈ strW) (hi : i < 21) (hd : decode (mC M) pc = .ok (.ldc idx, 2)) (k : AW G l M d post σ kk nn (pc + 2) L (xR (some (30, i)) :: st)) : AW G l M d post σ kk nn pc L st := by
  intro p e R s m args below meth co Qc ad H ls locs cells slots C hR hL hst hlo hc hs hQ
  have hc30 : i < cnt σ 30 := by rw [hR.2.2.2.2.2.2.2.2.2.1]; exact hi
  have e9 := ((hR.2.2.2.1 30 i hc30).2.2 (Or.inr (Or.inr (Or.inl rfl)))).1
  have hv := C.2.2.2.2.2.2.2.2.1.2.2.2.2.2.1 _ hw
  have h := k p e R s m args below meth co Qc ad H ls locs cells slots C hR hL (ok_c (fun n h => by cases h; exact hc30) hst) hlo hc hs hQ
  exact va_ldcS (q := ad 30 i) C.1 C.2.1 C.2.2.2.2.1 (by rw [e9]; exact hv) hd h
theorem aw_ldcwS {idx i : Nat} {tx : String} (hw : (mO M, idx, tx, i) ∈ strW) (hi : i < 21) (hd : decode (mC M) pc = .ok (.ldc_w idx, 3)) (k : AW G l M d post σ kk nn (pc + 3) L (xR (some (30, i)) :: st)) : AW G l M d post σ kk nn pc L st := by
  intro p e R s m args below meth co Qc ad H ls locs cells slots C hR hL hst hlo hc hs hQ
  have hc30 : i < cnt σ 30 := by rw [hR.2.2.2.2.2.2.2.2.2.1]; exact hi
  have e9 := ((hR.2.2.2.1 30 i hc30).2.2 (Or.inr (Or.inr (Or.inl rfl)))).1
  have hv := C.2.2.2.2.2.2.2.2.1.2.2.2.2.2.1 _ hw
  have h := k p e R s m args below meth co Qc ad H ls locs cells slots C hR hL (ok_c (fun n h => by cases h; exact hc30) hst) hlo hc hs hQ
  intro T hT X
  obtain ⟨t, a1, b1⟩ := h T hT X
  exact ⟨t, X.ldcStringW C.1 C.2.2.2.2.1 (text := tx) (a := ad 30 i) hv.1 (by rw [e9]; exact hv.2) (g := F0 m pc ls (st.map (cv ad))) rfl (by rw [C.2.1]; exact hd) t a1, b1⟩
theorem aw_ret {x : Int32} {ty : FieldType} (hd : decode (mC M) pc = .ok (.ireturn, 1)) (hr : mR M = some ty) (hn : narrow ty (.int x) = .int x) (k : post (some (xI x)) σ) : AW G l M d post σ kk nn pc L [xI x] := by
  intro p e R s m args below meth co Qc ad H ls locs cells slots C hR hL hst hlo hc hs hQ
  refine W.widen (k := R.cells) (n := R.slots) (by omega) (by omega) ?_
  exact W.zret C.1 C.2.1 (C.2.2.2.1.trans hr) hn (fun t ht hW => hQ (some (xI x)) ad σ t hW (by rw [ht]; exact hR) Ext.rf (fun w hw => by cases hw; trivial) k) hlo hd C.2.2.2.2.2.2.1
theorem aw_vret (hd : decode (mC M) pc = .ok (.return_, 1)) (hr : mR M = none) (k : post none σ) : AW G l M d post σ kk nn pc L [] := by
  intro p e R s m args below meth co Qc ad H ls locs cells slots C hR hL hst hlo hc hs hQ
  refine W.widen (k := R.cells) (n := R.slots) (by omega) (by omega) ?_
  exact W.vret C.1 C.2.1 (C.2.2.2.1.trans hr) (fun t ht hW => hQ none ad σ t hW (by rw [ht]; exact hR) Ext.rf (fun w hw => by cases hw) k) hlo hd C.2.2.2.2.2.2.1
theorem aw_aret {r : Option Nm} {rt : FieldType} (hd : decode (mC M) pc = .ok (.areturn, 1)) (hr : mR M = some rt) (hrt : (∃ n, rt = .object n) ∨ ∃ t, rt = .array t) (k : post (some (xR r)) σ) : AW G l M d post σ kk nn pc L [xR r] := by
  intro p e R s m args below meth co Qc ad H ls locs cells slots C hR hL hst hlo hc hs hQ
  refine W.widen (k := R.cells) (n := R.slots) (by omega) (by omega) ?_
  exact W.aret (v := cv ad (xR r)) C.1 C.2.1 (C.2.2.2.1.trans hr) hrt (by cases r with | none => exact Or.inl rfl | some n => exact Or.inr ⟨_, rfl⟩) (fun t ht hW => hQ (some (xR r)) ad σ t hW (by rw [ht]; exact hR) Ext.rf (fun w hw => by cases hw; exact ok_hd hst) k) hlo hd C.2.2.2.2.2.2.1
theorem aw_lret {x : Int64} (hd : decode (mC M) pc = .ok (.lreturn, 1)) (hr : mR M = some .long) (k : post (some (xL x)) σ) : AW G l M d post σ kk nn pc L [xL x] := by
  intro p e R s m args below meth co Qc ad H ls locs cells slots C hR hL hst hlo hc hs hQ
  refine W.widen (k := R.cells) (n := R.slots) (by omega) (by omega) ?_
  exact W.lret C.1 C.2.1 (C.2.2.2.1.trans hr) (fun t ht hW => hQ (some (xL x)) ad σ t hW (by rw [ht]; exact hR) Ext.rf (fun w hw => by cases hw; trivial) k) hlo hd C.2.2.2.2.2.2.1
/-- names apart are addresses apart: for references of which one is no fixed one -/
def acmpOK (r q : Option Nm) : Prop := ∀ n m, r = some n → q = some m → ¬ fixd n.1 n.2 ∨ ¬ fixd m.1 m.2 ∨ n = m ∨ n.1 = m.1
theorem acmp_iff {ad : Nat → Nat → Nat} {H : Heap} {r q : Option Nm} (hR : Rep G ad σ H) (h1 : okn σ r) (h2 : okn σ q) (h : ∀ n m, r = some n → q = some m → ¬ fixd n.1 n.2 ∨ ¬ fixd m.1 m.2 ∨ n = m) : (r.map (adn ad) = q.map (adn ad)) ↔ r = q := by
  refine ⟨fun e => ?_, fun e => by rw [e]⟩
  cases r with
  | none => cases q with
    | none => rfl
    | some m => cases e
  | some n => cases q with
    | none => cases e
    | some m =>
      have e' : ad n.1 n.2 = ad m.1 m.2 := Option.some.inj e
      rcases h n m rfl rfl with g | g | g
      · have := hR.2.2.1 n.1 n.2 m.1 m.2 (h1 n rfl) (h2 m rfl) g e'
        exact congrArg some (Prod.ext this.1 this.2)
      · have := hR.2.2.1 m.1 m.2 n.1 n.2 (h2 m rfl) (h1 n rfl) g e'.symm
        exact congrArg some (Prod.ext this.1.symm this.2.symm)
      · rw [g]
theorem aw_acmp_eq {r q : Option Nm} {off : Int} {tgt : Nat} (hd : decode (mC M) pc = .ok (.if_acmp .eq off, 3)) (ht : (pc : Int) + off = (tgt : Int)) (h : ∀ n m, r = some n → q = some m → ¬ fixd n.1 n.2 ∨ ¬ fixd m.1 m.2 ∨ n = m) (kt : r = q → AW G l M d post σ kk nn tgt L st) (kf : ¬ r = q → AW G l M d post σ kk nn (pc + 3) L st) : AW G l M d post σ kk nn pc L (xR q :: xR r :: st) := by
  intro p e R s m args below meth co Qc ad H ls locs cells slots C hR hL hst hlo hc hs hQ
  have hi := acmp_iff hR (ok_hd (ok_tl hst)) (ok_hd hst) h
  exact lv_acmp_eq C.1 C.2.1 hd ht (fun e' => kt (hi.mp e') p e R s m args below meth co Qc ad H ls locs cells slots C hR hL (ok_tl (ok_tl hst)) hlo hc hs hQ) (fun e' => kf (fun x => e' (hi.mpr x)) p e R s m args below meth co Qc ad H ls locs cells slots C hR hL (ok_tl (ok_tl hst)) hlo hc hs hQ)
theorem aw_acmp_ne {r q : Option Nm} {off : Int} {tgt : Nat} (hd : decode (mC M) pc = .ok (.if_acmp .ne off, 3)) (ht : (pc : Int) + off = (tgt : Int)) (h : ∀ n m, r = some n → q = some m → ¬ fixd n.1 n.2 ∨ ¬ fixd m.1 m.2 ∨ n = m) (kt : ¬ r = q → AW G l M d post σ kk nn tgt L st) (kf : r = q → AW G l M d post σ kk nn (pc + 3) L st) : AW G l M d post σ kk nn pc L (xR q :: xR r :: st) := by
  intro p e R s m args below meth co Qc ad H ls locs cells slots C hR hL hst hlo hc hs hQ
  have hi := acmp_iff hR (ok_hd (ok_tl hst)) (ok_hd hst) h
  exact lv_acmp_ne C.1 C.2.1 hd ht (fun e' => kt (fun x => e' (hi.mpr x)) p e R s m args below meth co Qc ad H ls locs cells slots C hR hL (ok_tl (ok_tl hst)) hlo hc hs hQ) (fun e' => kf (hi.mp e') p e R s m args below meth co Qc ad H ls locs cells slots C hR hL (ok_tl (ok_tl hst)) hlo hc hs hQ)
theorem gb_S {ad : Nat → Nat → Nat} {H : Heap} (hR : Rep G ad σ H) : va_S (gA0 G) (gH G) H [] ∨ True := Or.inr trivial
/-- the static of ArrayList that holds the empty array -/
theorem aw_getsE {idx : Nat} (hw : Cond.fieldLink (mO M) idx "java/util/ArrayList" "DEFAULTCAPACITY_EMPTY_ELEMENTDATA" "[Ljava/lang/Object;" ∈ TW) (hd : decode (mC M) pc = .ok (.getstatic idx, 3)) (k : AW G l M d post σ kk nn (pc + 3) L (xR (some (23, 0)) :: st)) : AW G l M d post σ kk nn pc L st := by
  intro p e R s m args below meth co Qc ad H ls locs cells slots C hR hL hst hlo hc hs hQ
  have K := C.2.2.2.2.2.2.2.2.1
  have h0 : 0 < cnt σ 23 := hR.2.2.2.2.2.2.2.2.1
  have e1 := ((hR.2.2.2.1 23 0 h0).2.2 (Or.inl ⟨rfl, rfl⟩)).1
  obtain ⟨cf, kf, fi, f, a, cell, h1, h2, h3, h4, h5, h6, h7, h8⟩ := K.2.2.2.2.2.2.1
  have h := k p e R s m args below meth co Qc ad H ls locs cells slots C hR hL (ok_c (fun n h => by cases h; exact h0) hst) hlo hc hs hQ
  refine W.gets (v := .ref (ad 23 0)) C.1 C.2.1 C.2.2.2.2.1 (C.2.2.2.2.2.1 _ hw) h1 h2 h3 h4 (by rw [hR.2.2.2.2.1.2 a (Nat.not_le.mp h8)]; exact h5) (fun e => by rw [e] at h6; cases h6) (by rw [e1]; exact h7) rfl hd h
/-- String.COMPACT_STRINGS -/
theorem aw_getsC {idx : Nat} (hw : Cond.fieldLink (mO M) idx "java/lang/String" "COMPACT_STRINGS" "Z" ∈ TW) (hd : decode (mC M) pc = .ok (.getstatic idx, 3)) (k : AW G l M d post σ kk nn (pc + 3) L (xI 1 :: st)) : AW G l M d post σ kk nn pc L st := by
  intro p e R s m args below meth co Qc ad H ls locs cells slots C hR hL hst hlo hc hs hQ
  have K := C.2.2.2.2.2.2.2.2.1
  obtain ⟨cf, kf, fi, f, a, cell, h1, h2, h3, h4, h5, h6, h7, h8⟩ := K.2.2.2.2.2.2.2.1
  have h := k p e R s m args below meth co Qc ad H ls locs cells slots C hR hL (ok_c ok_t hst) hlo hc hs hQ
  exact W.gets (v := .int 1) C.1 C.2.1 C.2.2.2.2.1 (C.2.2.2.2.2.1 _ hw) h1 h2 h3 h4 (by rw [hR.2.2.2.2.1.2 a (Nat.not_le.mp h8)]; exact h5) (fun e => by rw [e] at h6; cases h6) h7 rfl hd h
/-- a String constant's fields -/
theorem aw_getCoder {i idx : Nat} (hw : Cond.fieldLink (mO M) idx "java/lang/String" "coder" "B" ∈ TW) (hd : decode (mC M) pc = .ok (.getfield idx, 3)) (k : AW G l M d post σ kk nn (pc + 3) L (xI 0 :: st)) : AW G l M d post σ kk nn pc L (xR (some (30, i)) :: st) := by
  intro p e R s m args below meth co Qc ad H ls locs cells slots C hR hL hst hlo hc hs hQ
  have K := C.2.2.2.2.2.2.2.2.1
  have hok : i < cnt σ 30 := ok_hd hst _ rfl
  obtain ⟨e1, e2⟩ := (hR.2.2.2.1 30 i hok).2.2 (Or.inr (Or.inr (Or.inl rfl)))
  have hi : i < 21 := by rw [← hR.2.2.2.2.2.2.2.2.2.1]; exact hok
  obtain ⟨cf, kf, fi, f, cell, h1, h2, h3, h4, h5, h6⟩ := (K.2.2.2.2.1 i hi).2.1
  have h := k p e R s m args below meth co Qc ad H ls locs cells slots C hR hL (ok_c ok_t (ok_tl hst)) hlo hc hs hQ
  exact W.getf (v := .int 0) C.1 C.2.1 C.2.2.2.2.1 (C.2.2.2.2.2.1 _ hw) h1 h2 (by show H[ad 30 i]? = some cell; rw [hR.2.2.2.2.1.2 _ e2, e1]; exact h3) h4 h5 rfl rfl hd h
/-- a String constant's bytes: two instructions' worth of them are read by their own rows, in the machine's words -/
theorem str_bytes {ad : Nat → Nat → Nat} {H : Heap} {s : State} {i : Nat} (hR : Rep G ad σ H) (K : KK G s) (hok : i < cnt σ 30) : i < 21 ∧ va_OF "java/lang/String" "value" "[B" (.ref (gV G i)) (ad 30 i) (gA0 G) s H ∧ va_T .byte (gV G i) (jsB.getD i []).length (fun j => .int ((jsB.getD i []).getD j 0)) (gA0 G) s H := by
  obtain ⟨e1, e2⟩ := (hR.2.2.2.1 30 i hok).2.2 (Or.inr (Or.inr (Or.inl rfl)))
  have hi : i < 21 := by rw [← hR.2.2.2.2.2.2.2.2.2.1]; exact hok
  obtain ⟨-, -, h3, h4⟩ := K.2.2.2.2.1 i hi
  rw [← e1] at h3
  have kept : ∀ a : Nat, a < (gH G).size → ¬ gA0 G a → H[a]? = (gH G)[a]? := fun a _ h => hR.2.2.2.2.1.2 a (Nat.not_le.mp h)
  exact ⟨hi, h3.kept kept, h4.kept kept⟩
end ROWS3
end
section
/-! More rows: switches by values, fewer locals, row copies, class objects; ends of calls by their kinds. -/
section ROWS4
variable {G : GG} {l : Launch} {M : Mth} {d : Nat} {post : Option AVal → AS → Prop} {σ : AS} {kk nn pc : Nat} {L : List (Option AVal)} {st : List AVal}
def leL : List (Option AVal) → List (Option AVal) → Prop
  | [], _ => True
  | none :: L', [] => leL L' []
  | none :: L', _ :: L => leL L' L
  | some v :: L', a :: L => a = some v ∧ leL L' L
  | some _ :: _, [] => False
theorem leL_get : ∀ (L' L : List (Option AVal)), leL L' L → ∀ i v, lget L' i = some v → lget L i = some v
  | [], L, _, i, v, h => by cases h
  | none :: L', [], hl, 0, v, h => by cases h
  | none :: L', [], hl, i + 1, v, h => by
    have := leL_get L' [] hl i v h
    cases this
  | none :: L', _ :: L, hl, 0, v, h => by cases h
  | none :: L', _ :: L, hl, i + 1, v, h => leL_get L' L hl i v h
  | some w :: L', a :: L, hl, 0, v, h => hl.1.trans h
  | some w :: L', a :: L, hl, i + 1, v, h => leL_get L' L hl.2 i v h
  | some w :: L', [], hl, _, _, _ => hl.elim
theorem AW.weak {L' : List (Option AVal)} (h : AW G l M d post σ kk nn pc L' st) (hl : leL L' L) : AW G l M d post σ kk nn pc L st := by
  intro p e R s m args below meth co Qc ad H ls locs cells slots C hR hL hst hlo hc hs hQ
  exact h p e R s m args below meth co Qc ad H ls locs cells slots C hR ⟨hL.1, hL.2.1, fun i v hv => hL.2.2 i v (leL_get L' L hl i v hv)⟩ hst hlo hc hs hQ
theorem AW.posts {post' : Option AVal → AS → Prop} (h : AW G l M d post σ kk nn pc L st) (hp : ∀ v σ', post v σ' → post' v σ') : AW G l M d post' σ kk nn pc L st := by
  intro p e R s m args below meth co Qc ad H ls locs cells slots C hR hL hst hlo hc hs hQ
  exact h p e R s m args below meth co Qc ad H ls locs cells slots C hR hL hst hlo hc hs (fun v ad' σ' t a b c' d' e' => hQ v ad' σ' t a b c' d' (hp v σ' e'))
theorem AW.room {kk' nn' : Nat} (h : AW G l M d post σ kk nn pc L st) (h1 : kk ≤ kk') (h2 : nn ≤ nn') : AW G l M d post σ kk' nn' pc L st := by
  intro p e R s m args below meth co Qc ad H ls locs cells slots C hR hL hst hlo hc hs hQ
  exact h p e R s m args below meth co Qc ad H ls locs cells slots C hR hL hst hlo (by omega) (by omega) hQ
theorem aw_sw {dflt lo hi : Int} {offs : Array Int} {len : Nat} {x k : Int32} {off : Int} {tgt : Nat} (hd : decode (mC M) pc = .ok (.tableswitch dflt lo hi offs, len)) (hx : x = k) (h1 : ¬ k.toInt < lo) (h2 : ¬ hi < k.toInt) (ho : offs[(k.toInt - lo).toNat]? = some off) (ht : (pc : Int) + off = (tgt : Int)) (kt : AW G l M d post σ kk nn tgt L st) : AW G l M d post σ kk nn pc L (xI x :: st) := by
  subst hx
  exact aw_switchIn hd h1 h2 ho ht kt
theorem i32_eq {x y : Int32} (h : x.toInt = y.toInt) : x = y := Int32.toInt_inj.mp h
/-- answers by their kinds -/
def retI (f : Int32 → AS → Prop) : Option AVal → AS → Prop
  | some (.inl x), σ => f x σ
  | _, _ => False
def retL (f : Int64 → AS → Prop) : Option AVal → AS → Prop
  | some (.inr (.inl x)), σ => f x σ
  | _, _ => False
def retR (f : Option Nm → AS → Prop) : Option AVal → AS → Prop
  | some (.inr (.inr r)), σ => f r σ
  | _, _ => False
def retV (f : AS → Prop) : Option AVal → AS → Prop
  | none, σ => f σ
  | _, _ => False
theorem retI_to {f : Int32 → AS → Prop} {g : Option AVal → AS → Prop} (h : ∀ x σ', f x σ' → g (some (xI x)) σ') : ∀ v σ', retI f v σ' → g v σ' := by
  intro v σ' hv
  rcases v with _ | (x | x | r)
  · exact hv.elim
  · exact h x σ' hv
  · exact hv.elim
  · exact hv.elim
theorem retL_to {f : Int64 → AS → Prop} {g : Option AVal → AS → Prop} (h : ∀ x σ', f x σ' → g (some (xL x)) σ') : ∀ v σ', retL f v σ' → g v σ' := by
  intro v σ' hv
  rcases v with _ | (x | x | r)
  · exact hv.elim
  · exact hv.elim
  · exact h x σ' hv
  · exact hv.elim
theorem retR_to {f : Option Nm → AS → Prop} {g : Option AVal → AS → Prop} (h : ∀ x σ', f x σ' → g (some (xR x)) σ') : ∀ v σ', retR f v σ' → g v σ' := by
  intro v σ' hv
  rcases v with _ | (x | x | r)
  · exact hv.elim
  · exact hv.elim
  · exact hv.elim
  · exact h r σ' hv
theorem retV_to {f : AS → Prop} {g : Option AVal → AS → Prop} (h : ∀ σ', f σ' → g none σ') : ∀ v σ', retV f v σ' → g v σ' := by
  intro v σ' hv
  rcases v with _ | v
  · exact h σ' hv
  · exact hv.elim
/-- System.arraycopy of rows of Objects -/
def cpyS (σ : AS) (i sp dp n k : Nat) : AS := (σ.1, σ.2.1, σ.2.2.1, σ.2.2.2.1, σ.2.2.2.2.1, (fun x y j => if x = 23 ∧ y = k ∧ dp ≤ j ∧ j < dp + n then σ.2.2.2.2.2.1 23 i (sp + (j - dp)) else σ.2.2.2.2.2.1 x y j), σ.2.2.2.2.2.2)
theorem gQ_cpy (σ : AS) (i sp dp n k x y j : Nat) : gQ (cpyS σ i sp dp n k) x y j = if x = 23 ∧ y = k ∧ dp ≤ j ∧ j < dp + n then gQ σ 23 i (sp + (j - dp)) else gQ σ x y j := rfl
theorem aw_copy {idx i k : Nat} {sp dp n : Int32} (hw : Cond.methodLink (mO M) idx arraycopyName ∈ TW ∧ Cond.native arraycopyName ∈ TW ∧ Cond.static arraycopyName ∈ TW ∧ Cond.initialized "java/lang/System" ∈ TW) (hd : decode (mC M) pc = .ok (.invokestatic idx, 3)) (hk : k ≠ 0) (h1 : ¬ sp < 0) (h2 : ¬ dp < 0) (h3 : ¬ n < 0) (h4 : sp.toNatClampNeg + n.toNatClampNeg ≤ gN σ 23 i) (h5 : dp.toNatClampNeg + n.toNatClampNeg ≤ gN σ 23 k) (hob : ∀ j, inObj (gQ σ 23 i j)) (h0 : st.length ≤ 4)
    (k2 : AW G l M (d + 1) post (cpyS σ i sp.toNatClampNeg dp.toNatClampNeg n.toNatClampNeg k) kk nn (pc + 3) L st) : AW G l M (d + 1) post σ kk nn pc L (xI n :: xI dp :: xR (some (23, k)) :: xI sp :: xR (some (23, i)) :: st) := by
  intro p e R s m args below meth co Qc ad H ls locs cells slots C hR hL hst hlo hc hs hQ
  have hts := C.2.2.2.2.2.1
  have K := C.2.2.2.2.2.2.2.2.1
  have hi : i < cnt σ 23 := ok_hd (ok_tl (ok_tl (ok_tl (ok_tl hst)))) _ rfl
  have hkk : k < cnt σ 23 := ok_hd (ok_tl (ok_tl hst)) _ rfl
  have hst' := ok_tl (ok_tl (ok_tl (ok_tl (ok_tl hst))))
  have hc0 := hR.2.1 23 i (by decide) (by decide) hi
  have hc1 := hR.2.1 23 k (by decide) (by decide) hkk
  rw [acell_q ad] at hc0 hc1
  have nn' : ∀ z : Int32, ¬ z < 0 → z.toInt = (z.toNatClampNeg : Int) := by
    intro z hz
    have hz0 : (0 : Int) ≤ z.toInt := by
      have := Int32.not_lt.mp hz
      simpa using Int32.le_iff_toInt_le.mp this
    show z.toInt = ((z.toInt.toNat : Nat) : Int)
    omega
  have hnf : ¬ fixd 23 k := by unfold fixd; omega
  intro T hT X
  obtain ⟨-, k0, hk0, cm0, hkk0⟩ := (K.ty 3 rfl) (gN σ 23 i) (fun j => va_rf ((gQ σ 23 i j).map (adn ad)))
  obtain ⟨-, k1, hk1, cm1, hkk1⟩ := (K.ty 3 rfl) (gN σ 23 k) (fun j => va_rf ((gQ σ 23 k j).map (adn ad)))
  have hfr := C.2.2.2.2.2.2.2.2.2
  obtain ⟨vm', X', step⟩ := X.arraycopy C.1 C.2.2.2.2.1 (hts _ hw.1) (hts _ hw.2.1) (hts _ hw.2.2.1) (hts _ hw.2.2.2) (src := ad 23 i) (dst := ad 23 k) (cs := arrV (G.2.1 3) (gN σ 23 i) (fun j => va_rf ((gQ σ 23 i j).map (adn ad)))) (cd := arrV (G.2.1 3) (gN σ 23 k) (fun j => va_rf ((gQ σ 23 k j).map (adn ad)))) (srcPos := sp) (destPos := dp) (n := n) (by rw [hT]; exact hc0) (by rw [hT]; exact hc1)
    (fun _ h => by cases h) (fun _ h => by cases h) (fun h => by cases h) (fun h => by cases h) hk0 hk1 hkk0 hkk1 rfl h1 h2 h3
    (by rw [nn' sp h1, nn' n h3, arrV_size]; omega) (by rw [nn' dp h2, nn' n h3, arrV_size]; omega)
    (fun vm₁ hal j hj => by
      have e : (arrV (G.2.1 3) (gN σ 23 i) (fun j => va_rf ((gQ σ 23 i j).map (adn ad)))).slots.getD (sp.toNatClampNeg + j) .null = va_rf ((gQ σ 23 i (sp.toNatClampNeg + j)).map (adn ad)) := by
        rw [Array.getD_eq_getD_getElem?, arrV_read _ _ (by omega)]
        rfl
      rw [e]
      cases hy : gQ σ 23 i (sp.toNatClampNeg + j) with
      | none => exact ⟨rfl, trivial⟩
      | some y =>
        obtain ⟨cellV, g1, g2, ⟨kC, hkC⟩, hasg⟩ := any_of hR K (hob _ y hy) (hR.2.2.2.2.2.2.1 23 i _ hi y hy)
        obtain ⟨kA, comp, r1, r2, r3, -⟩ := (K.1.2 3 _ rfl).2
        cases hk1.symm.trans r1
        cases hkk1.symm.trans r2
        obtain ⟨kE, hkE, -⟩ := Vm.findClass_spec r3
        obtain ⟨kC', hkC', -⟩ := hal.2.2 _ _ hkC
        obtain ⟨kE', hkE', -⟩ := hal.2.2 _ _ hkE
        refine ⟨rfl, cellV, (show T.heap[adn ad y]? = some cellV by rw [hT]; exact g1), (fun q h => by rw [h] at g2; cases g2), ⟨kC', hkC'⟩, ⟨kE', hkE'⟩, ?_⟩
        show vm₁.assignable _ _ = true
        rw [hal.assignable]
        exact hasg _ r3)
    (g := F0 m pc ls ((xI n :: xI dp :: xR (some (23, k)) :: xI sp :: xR (some (23, i)) :: st).map (cv ad))) rfl (by rw [C.2.2.1]; exact hL.1) (rest := st.map (cv ad)) rfl (by rw [C.2.1]; exact hd) (by have := hfr.1; omega) (by
      have h6 := cat_le ad st
      have h7 : nativeFrameWords "java/lang/System" "arraycopy" 5 ≤ 20 := by decide
      have h8 := hfr.2
      show 2 * 0 + _ + _ ≤ _
      omega)
  have e1 : copied (arrV (G.2.1 3) (gN σ 23 i) (fun j => va_rf ((gQ σ 23 i j).map (adn ad)))) (arrV (G.2.1 3) (gN σ 23 k) (fun j => va_rf ((gQ σ 23 k j).map (adn ad)))) sp dp n = acell G ad (cpyS σ i sp.toNatClampNeg dp.toNatClampNeg n.toNatClampNeg k) 23 k := by
    rw [acell_q ad]
    refine (va_copied (fun z : Option Nm => va_rf (z.map (adn ad))) (G.2.1 3) (G.2.1 3) (gQ σ 23 i) (gQ σ 23 k) (n0 := gN σ 23 i) (n1 := gN σ 23 k) h4).trans ?_
    refine congrArg (fun f => arrV _ _ f) (funext fun j => ?_)
    rw [gQ_cpy]
    unfold va_cpy
    by_cases hj : dp.toNatClampNeg ≤ j ∧ j < dp.toNatClampNeg + n.toNatClampNeg
    · rw [if_pos hj, if_pos ⟨rfl, rfl, hj⟩]
    · rw [if_neg hj, if_neg (fun h => hj h.2.2)]
  rw [e1] at X' step
  have hl : ad 23 k < H.size := (hR.2.2.2.1 23 k hkk).1
  have hheap : ((T.setVm vm').setCell (ad 23 k) (acell G ad (cpyS σ i sp.toNatClampNeg dp.toNatClampNeg n.toNatClampNeg k) 23 k)).heap = H.setIfInBounds (ad 23 k) (acell G ad (cpyS σ i sp.toNatClampNeg dp.toNatClampNeg n.toNatClampNeg k) 23 k) := by rw [← hT]; rfl
  have hE : Ext σ ad (cpyS σ i sp.toNatClampNeg dp.toNatClampNeg n.toNatClampNeg k) ad := fun _ _ h => ⟨h, rfl⟩
  have hR' : Rep G ad (cpyS σ i sp.toNatClampNeg dp.toNatClampNeg n.toNatClampNeg k) (H.setIfInBounds (ad 23 k) (acell G ad (cpyS σ i sp.toNatClampNeg dp.toNatClampNeg n.toNatClampNeg k) 23 k)) := by
    refine rep_ast hR hkk (by decide) hnf (by simp) (fun q hq => by simp [Array.getElem?_setIfInBounds, Ne.symm hq]) (by simp [Array.getElem?_setIfInBounds, hl]) ⟨rfl, rfl, rfl, rfl⟩ (fun x y hne => ⟨fun _ => rfl, fun j => ?_, fun _ => rfl⟩) (fun j => ?_)
    · rw [gQ_cpy, if_neg (fun h => hne ⟨h.1, h.2.1⟩)]
    · rw [gQ_cpy]
      split
      · exact hR.2.2.2.2.2.2.1 23 i _ hi
      · exact hR.2.2.2.2.2.2.1 23 k _ hkk
  obtain ⟨t, a1, b1⟩ := k2 p e R s m args below meth co Qc ad _ ls _ cells slots C hR' (hL.ext hE) (fun v hv => ext_okv hE (hst' v hv)) (fun q hq => by
      rcases List.mem_append.mp hq with h | h
      · exact hlo q h
      · obtain ⟨z, -, hz⟩ := List.mem_map.mp h
        rw [← hz]
        exact (hR.2.2.2.1 23 k hkk).2.1 hnf) hc hs (fun v ad' σ2 t hW hR2 hE2 => hQ v ad' σ2 t hW hR2 (hE.tr hE2)) _ hheap X'
  exact ⟨t, step t a1, b1⟩
theorem aw_ldcM {idx : Nat} (hw : Cond.classLink (mO M) idx "[Ljava/lang/Object;" ∈ TW) (hd : decode (mC M) pc = .ok (.ldc idx, 2)) (k : AW G l M d post σ kk nn (pc + 2) L (xR (some (31, 0)) :: st)) : AW G l M d post σ kk nn pc L st := by
  intro p e R s m args below meth co Qc ad H ls locs cells slots C hR hL hst hlo hc hs hQ
  have h31 : 0 < cnt σ 31 := by rw [hR.2.2.2.2.2.2.2.2.2.2]; decide
  have e9 := ((hR.2.2.2.1 31 0 h31).2.2 (Or.inr (Or.inr (Or.inr rfl)))).1
  have h := k p e R s m args below meth co Qc ad H ls locs cells slots C hR hL (ok_c (fun n h => by cases h; exact h31) hst) hlo hc hs hQ
  exact va_ldcM (mi := ad 31 0) C.1 C.2.1 C.2.2.2.2.1 (C.2.2.2.2.2.1 _ hw) (by rw [e9]; exact C.2.2.2.2.2.2.2.2.1.2.2.2.1.2.2) hd h
theorem aw_getC {idx i : Nat} (hw : Cond.methodLink (mO M) idx ⟨"java/lang/Object", "getClass", "()Ljava/lang/Class;"⟩ ∈ TW ∧ Cond.selects "[Ljava/lang/Object;" ⟨"java/lang/Object", "getClass", "()Ljava/lang/Class;"⟩ ⟨"java/lang/Object", "getClass", "()Ljava/lang/Class;"⟩ ∈ TW ∧ Cond.instanceMethod ⟨"java/lang/Object", "getClass", "()Ljava/lang/Class;"⟩ ∈ TW ∧ Cond.native ⟨"java/lang/Object", "getClass", "()Ljava/lang/Class;"⟩ ∈ TW) (hd : decode (mC M) pc = .ok (.invokevirtual idx, 3)) (h0 : st.length ≤ 4) (k : AW G l M (d + 1) post σ kk nn (pc + 3) L (xR (some (31, 0)) :: st)) : AW G l M (d + 1) post σ kk nn pc L (xR (some (23, i)) :: st) := by
  intro p e R s m args below meth co Qc ad H ls locs cells slots C hR hL hst hlo hc hs hQ
  have hts := C.2.2.2.2.2.1
  have K := C.2.2.2.2.2.2.2.2.1
  have hi : i < cnt σ 23 := ok_hd hst _ rfl
  have h31 : 0 < cnt σ 31 := by rw [hR.2.2.2.2.2.2.2.2.2.2]; decide
  have e9 := ((hR.2.2.2.1 31 0 h31).2.2 (Or.inr (Or.inr (Or.inr rfl)))).1
  have h := k p e R s m args below meth co Qc ad H ls locs cells slots C hR hL (ok_c (fun n h => by cases h; exact h31) (ok_tl hst)) hlo hc hs hQ
  have hcell := hR.2.1 23 i (by decide) (by decide) hi
  rw [acell_q ad] at hcell
  have hfr := C.2.2.2.2.2.2.2.2.2
  obtain ⟨_, _, _, _, _, hnm⟩ := (K.1.2 3 _ rfl).2
  exact va_getC (C := "[Ljava/lang/Object;") (mi := ad 31 0) C.1 C.2.1 (by rw [C.2.2.1]; exact hL.1.symm) C.2.2.2.2.1 (hts _ hw.1) (va_Dc.use K.2.2.2.1.1) (hts _ hw.2.1) (hts _ hw.2.2.1) (hts _ hw.2.2.2) (by rw [e9]; exact K.2.2.2.1.2.2) ⟨_, hcell, rfl, hnm⟩ (by have := hfr.1; omega) (by have h6 := cat_le ad st; have h8 := hfr.2; omega) hd h
end ROWS4
end
section
/-! What never changes once the two objects are made: who refers to whom, how long the arrays are. Rows of calls that make nothing. -/
def stTab : List (Nat × Nat × Nat × Nat × Nat) := [(3, 0, 0, 10, 0), (3, 1, 0, 8, 1), (4, 0, 0, 0, 3), (4, 1, 0, 0, 4), (4, 2, 0, 20, 5), (5, 0, 0, 8, 2), (5, 1, 0, 8, 3), (7, 1, 0, 8, 4), (7, 2, 0, 0, 0), (8, 0, 0, 20, 0), (8, 0, 1, 20, 1), (8, 0, 2, 20, 2), (8, 0, 3, 20, 3), (8, 0, 4, 20, 4), (8, 0, 5, 20, 6), (10, 2, 0, 8, 0), (12, 0, 0, 0, 0), (12, 1, 0, 8, 0), (12, 2, 0, 10, 0), (12, 3, 0, 3, 0), (12, 4, 0, 0, 1), (12, 5, 0, 5, 0), (12, 6, 0, 7, 0), (12, 7, 0, 4, 0), (12, 8, 0, 0, 5), (12, 9, 0, 8, 5), (13, 3, 0, 26, 0), (13, 4, 0, 26, 1), (13, 5, 0, 26, 2), (13, 6, 0, 26, 3), (13, 7, 0, 26, 4), (13, 8, 0, 21, 0), (13, 9, 0, 26, 5), (13, 10, 0, 26, 6), (13, 11, 0, 26, 7), (13, 14, 0, 26, 8), (13, 15, 0, 26, 9), (13, 16, 0, 22, 0), (13, 30, 0, 22, 1), (13, 32, 0, 26, 10), (13, 33, 0, 26, 11), (13, 34, 0, 26, 12), (13, 35, 0, 26, 13), (13, 36, 0, 26, 14), (13, 38, 0, 26, 15), (13, 39, 0, 26, 16), (13, 40, 0, 26, 17), (13, 41, 0, 26, 18), (13, 42, 0, 26, 19), (13, 43, 0, 26, 20), (13, 44, 0, 21, 1), (13, 45, 0, 26, 21), (13, 46, 0, 21, 2), (13, 47, 0, 26, 22), (13, 50, 0, 26, 23), (13, 51, 0, 26, 24), (13, 52, 0, 26, 25), (13, 53, 0, 26, 26), (13, 54, 0, 21, 3), (13, 56, 0, 26, 27), (13, 57, 0, 26, 28), (13, 58, 0, 26, 29), (13, 59, 0, 26, 30), (13, 60, 0, 26, 31), (13, 61, 0, 26, 32), (13, 62, 0, 26, 33), (13, 63, 0, 21, 4), (13, 64, 0, 26, 34), (13, 65, 0, 26, 35), (13, 66, 0, 26, 36)]
def lenTab : List (Nat × Nat × Nat) := [(20, 0, 1000), (20, 1, 1000), (20, 2, 2600), (20, 3, 2600), (20, 4, 6), (20, 5, 5), (20, 6, 40), (21, 0, 40), (21, 1, 40), (21, 2, 40), (21, 3, 240), (21, 4, 40), (22, 0, 1000), (22, 1, 1000), (26, 0, 40), (26, 1, 40), (26, 2, 40), (26, 3, 40), (26, 4, 40), (26, 5, 40), (26, 6, 40), (26, 7, 40), (26, 8, 2600), (26, 9, 2600), (26, 10, 6), (26, 11, 6), (26, 12, 6), (26, 13, 6), (26, 14, 6), (26, 15, 6), (26, 16, 6), (26, 17, 6), (26, 18, 6), (26, 19, 6), (26, 20, 40), (26, 21, 6), (26, 22, 40), (26, 23, 30), (26, 24, 240), (26, 25, 240), (26, 26, 240), (26, 27, 2400), (26, 28, 2400), (26, 29, 2400), (26, 30, 2400), (26, 31, 2400), (26, 32, 2400), (26, 33, 5), (26, 34, 40), (26, 35, 40), (26, 36, 40)]
def St (σ : AS) : Prop := (∀ t ∈ stTab, gR σ t.1 t.2.1 t.2.2.1 = some t.2.2.2 ∧ t.2.2.1 < cnt σ t.1) ∧ (∀ t ∈ lenTab, gN σ t.1 t.2.1 = t.2.2 ∧ t.2.1 < cnt σ t.1)
theorem St.get {σ : AS} (h : St σ) (c f i K j : Nat) (hm : (c, f, i, K, j) ∈ stTab) : gR σ c f i = some (K, j) := (h.1 _ hm).1
theorem St.len {σ : AS} (h : St σ) (K j n : Nat) (hm : (K, j, n) ∈ lenTab) : gN σ K j = n := (h.2 _ hm).1
theorem St.sI {σ : AS} {c f i : Nat} {v : Int32} (h : St σ) : St (sI σ c f i v) := h
theorem St.sA {σ : AS} {c f i : Nat} {v : Int32} (h : St σ) : St (sA σ c f i v) := h
theorem St.sQ {σ : AS} {c f i : Nat} {v : Option Nm} (h : St σ) : St (sQ σ c f i v) := h
theorem St.sL {σ : AS} {c f i : Nat} {v : Int64} (h : St σ) : St (sL σ c f i v) := h
theorem St.cpy {σ : AS} {a b c e f : Nat} (h : St σ) : St (cpyS σ a b c e f) := h
theorem St.sR {σ : AS} {c f i : Nat} {v : Option Nm} (h : St σ) (hn : (stTab.all fun t => !(t.1 == c && t.2.1 == f)) = true) : St (sR σ c f i v) := by
  refine ⟨fun t ht => ?_, h.2⟩
  have h1 := List.all_eq_true.mp hn t ht
  rw [gR_sR, if_neg (fun e => by simp [e.1, e.2.1] at h1)]
  exact h.1 t ht
theorem St.nA {σ : AS} {c n : Nat} (h : St σ) : St (nA σ c n) := by
  refine ⟨fun t ht => ?_, fun t ht => ?_⟩
  · obtain ⟨h1, h2⟩ := h.1 t ht
    rw [gR_nA, cnt_nA]
    refine ⟨by rw [if_neg (fun e => by rw [e.1] at h2; omega)]; exact h1, ?_⟩
    split
    · rename_i e; rw [e] at h2; omega
    · exact h2
  · obtain ⟨h1, h2⟩ := h.2 t ht
    rw [gN_nA, cnt_nA]
    refine ⟨by rw [if_neg (fun e => by rw [e.1] at h2; omega)]; exact h1, ?_⟩
    split
    · rename_i e; rw [e] at h2; omega
    · exact h2
theorem vp_of {x : Int32} {n m : Nat} (e : n = m) (h : vp_in x m) : vp_in x n := e ▸ h
theorem gI_self {σ : AS} {c f i : Nat} {v : Int32} : gI (sI σ c f i v) c f i = v := if_pos ⟨rfl, rfl, rfl⟩
theorem gR_self {σ : AS} {c f i : Nat} {v : Option Nm} : gR (sR σ c f i v) c f i = v := if_pos ⟨rfl, rfl, rfl⟩
theorem gA_self {σ : AS} {c i j : Nat} {v : Int32} : gA (sA σ c i j v) c i j = v := if_pos ⟨rfl, rfl, rfl⟩
theorem gQ_self {σ : AS} {c i j : Nat} {v : Option Nm} : gQ (sQ σ c i j v) c i j = v := if_pos ⟨rfl, rfl, rfl⟩
theorem gL_self {σ : AS} {c i j : Nat} {v : Int64} : gL (sL σ c i j v) c i j = v := if_pos ⟨rfl, rfl, rfl⟩
/-- a field may be written: it isn't final, or it is its own class's constructor -/
def finOK (M : Mth) (c f : Nat) : Prop := ∀ r, vwCl[c]? = some r → (r.2.1 f).2.2.2 = false ∨ ((mY M).name = "<init>" ∧ (r.2.1 f).1 = mO M)
theorem fin_no {M : Mth} {c f : Nat} {r : vw_C} (h : vwCl[c]? = some r) (k : (r.2.1 f).2.2.2 = false) : ∀ r, vwCl[c]? = some r → (r.2.1 f).2.2.2 = false ∨ ((mY M).name = "<init>" ∧ (r.2.1 f).1 = mO M) := fun r' h' => by
  cases h.symm.trans h'
  exact Or.inl k
theorem fin_init {M : Mth} {c f : Nat} {r : vw_C} (h : vwCl[c]? = some r) (k : (mY M).name = "<init>") (k2 : (r.2.1 f).1 = mO M) : ∀ r, vwCl[c]? = some r → (r.2.1 f).2.2.2 = false ∨ ((mY M).name = "<init>" ∧ (r.2.1 f).1 = mO M) := fun r' h' => by
  cases h.symm.trans h'
  exact Or.inr ⟨k, k2⟩
section ROWS5
variable {G : GG} {l : Launch} {M : Mth} {d : Nat} {post : Option AVal → AS → Prop} {σ : AS} {kk nn pc : Nat} {L : List (Option AVal)} {st : List AVal}
theorem aw_getIv {c f i idx : Nat} {x : Int32} (hf : FL M c f idx) (hr : isRf c f = false) (hx : gI σ c f i = x) (hd : decode (mC M) pc = .ok (.getfield idx, 3)) (k : AW G l M d post σ kk nn (pc + 3) L (xI x :: st)) : AW G l M d post σ kk nn pc L (xR (some (c, i)) :: st) := aw_getI hf hr hd (by rw [hx]; exact k)
theorem aw_getRv {c f i idx : Nat} {r : Option Nm} (hf : FL M c f idx) (hr : isRf c f = true) (hx : gR σ c f i = r) (hd : decode (mC M) pc = .ok (.getfield idx, 3)) (k : AW G l M d post σ kk nn (pc + 3) L (xR r :: st)) : AW G l M d post σ kk nn pc L (xR (some (c, i)) :: st) := aw_getR hf hr hd (by rw [hx]; exact k)
theorem aw_alenv {c i n : Nat} (hx : gN σ c i = n) (hd : decode (mC M) pc = .ok (.arraylength, 1)) (hcc : 20 ≤ c ∧ c < 28) (k : AW G l M d post σ kk nn (pc + 1) L (xI (nI n) :: st)) : AW G l M d post σ kk nn pc L (xR (some (c, i)) :: st) := aw_alen hd hcc (by rw [hx]; exact k)
theorem aw_toI {f : Int32 → AS → Prop} (h : ∀ x σ', f x σ' → AW G l M d post σ' kk nn pc L (xI x :: st)) : ∀ v σ', retI f v σ' → AW G l M d post σ' kk nn pc L (v.toList ++ st) := retI_to (g := fun v σ' => AW G l M d post σ' kk nn pc L (v.toList ++ st)) h
theorem aw_toL {f : Int64 → AS → Prop} (h : ∀ x σ', f x σ' → AW G l M d post σ' kk nn pc L (xL x :: st)) : ∀ v σ', retL f v σ' → AW G l M d post σ' kk nn pc L (v.toList ++ st) := retL_to (g := fun v σ' => AW G l M d post σ' kk nn pc L (v.toList ++ st)) h
theorem aw_toR {f : Option Nm → AS → Prop} (h : ∀ x σ', f x σ' → AW G l M d post σ' kk nn pc L (xR x :: st)) : ∀ v σ', retR f v σ' → AW G l M d post σ' kk nn pc L (v.toList ++ st) := retR_to (g := fun v σ' => AW G l M d post σ' kk nn pc L (v.toList ++ st)) h
theorem aw_toV {f : AS → Prop} (h : ∀ σ', f σ' → AW G l M d post σ' kk nn pc L st) : ∀ v σ', retV f v σ' → AW G l M d post σ' kk nn pc L (v.toList ++ st) := retV_to (g := fun v σ' => AW G l M d post σ' kk nn pc L (v.toList ++ st)) h
theorem aw_callV0 {M' : Mth} {idx n d' c i : Nat} {as stk : List AVal} (hw : MW M' n) (hcls : rcls c = (mY M').cls ∧ (c < 14 ∨ c = 30)) (hl : Cond.methodLink (mO M) idx (mY M') ∈ TW ∧ Cond.instanceMethod (mY M') ∈ TW ∧ Cond.selects (mY M').cls (mY M') (mY M') ∈ TW) (hn : as.length = n) (hd : decode (mC M) pc = .ok (.invokevirtual idx, 3)) (hstk : stk = as.reverse ++ xR (some (c, i)) :: st) (h4 : st.length ≤ 4)
    (hm : AMet G l M' d' 0 0 (xR (some (c, i)) :: as) σ (fun v σ' => AW G l M (d' + 1) post σ' kk nn (pc + 3) L (v.toList ++ st))) : AW G l M (d' + 1) post σ kk nn pc L stk := aw_callV hw hcls hl hn hd hstk h4 hm
theorem aw_callS0 {M' : Mth} {idx n d' : Nat} {as stk : List AVal} (hw : MW M' n) (hl : Cond.methodLink (mO M) idx (mY M') ∈ TW ∧ Cond.static (mY M') ∈ TW) (hn : as.length = n) (hd : decode (mC M) pc = .ok (.invokestatic idx, 3)) (hstk : stk = as.reverse ++ st) (h4 : st.length ≤ 4)
    (hm : AMet G l M' d' 0 0 as σ (fun v σ' => AW G l M (d' + 1) post σ' kk nn (pc + 3) L (v.toList ++ st))) : AW G l M (d' + 1) post σ kk nn pc L stk := aw_callS hw hl hn hd hstk h4 hm
theorem aw_callSN0 {M' : Mth} {idx n d' : Nat} {as stk : List AVal} {host : String} (hw : MW M' n) (hl : (mO M, idx, mY M', host) ∈ nestW ∧ Cond.static (mY M') ∈ TW) (hn : as.length = n) (hd : decode (mC M) pc = .ok (.invokestatic idx, 3)) (hstk : stk = as.reverse ++ st) (h4 : st.length ≤ 4)
    (hm : AMet G l M' d' 0 0 as σ (fun v σ' => AW G l M (d' + 1) post σ' kk nn (pc + 3) L (v.toList ++ st))) : AW G l M (d' + 1) post σ kk nn pc L stk := aw_callSN hw hl hn hd hstk h4 hm
theorem aw_callI0 {M' : Mth} {idx n d' c i : Nat} {as stk : List AVal} (hw : MW M' n) (hret : mR M' = none) (hname : (mY M').name = "<init>") (hl : Cond.methodLink (mO M) idx (mY M') ∈ TW ∧ Cond.instanceMethod (mY M') ∈ TW) (hn : as.length = n) (hd : decode (mC M) pc = .ok (.invokespecial idx, 3)) (hstk : stk = as.reverse ++ xR (some (c, i)) :: st) (h4 : st.length ≤ 4)
    (hm : AMet G l M' d' 0 0 (xR (some (c, i)) :: as) σ (fun v σ' => AW G l M (d' + 1) post σ' kk nn (pc + 3) L (v.toList ++ st))) : AW G l M (d' + 1) post σ kk nn pc L stk := aw_callI hw hret hname hl hn hd hstk h4 hm
end ROWS5
end
section
/-! Methods, and their places in the tables. -/
abbrev M_J0_charAt_5068e : Mth := (yJ0_charAt_5068e, cJ0_charAt_5068e, 2, (some .char))
abbrev M_J0_checkIndex_df160 : Mth := (yJ0_checkIndex_df160, cJ0_checkIndex_df160, 2, none)
abbrev M_J0_coder_7d493 : Mth := (yJ0_coder_7d493, cJ0_coder_7d493, 1, (some .byte))
abbrev M_J0_isLatin1_aae02 : Mth := (yJ0_isLatin1_aae02, cJ0_isLatin1_aae02, 1, (some .boolean))
abbrev M_J0_length_8abf5 : Mth := (yJ0_length_8abf5, cJ0_length_8abf5, 1, (some .int))
abbrev M_J15_checkIndex_7cf53 : Mth := (yJ15_checkIndex_7cf53, cJ15_checkIndex_7cf53, 2, (some .int))
abbrev M_J1_charAt_3b067 : Mth := (yJ1_charAt_3b067, cJ1_charAt_3b067, 2, (some .char))
abbrev M_J2_charAt_3b067 : Mth := (yJ2_charAt_3b067, cJ2_charAt_3b067, 2, (some .char))
abbrev M_J2_checkIndex_2214a : Mth := (yJ2_checkIndex_2214a, cJ2_checkIndex_2214a, 2, none)
abbrev M_J2_getChar_3b067 : Mth := (yJ2_getChar_3b067, cJ2_getChar_3b067, 2, (some .char))
abbrev M_J2_length_9d52b : Mth := (yJ2_length_9d52b, cJ2_length_9d52b, 1, (some .int))
abbrev M_J3_checkIndex_8e157 : Mth := (yJ3_checkIndex_8e157, cJ3_checkIndex_8e157, 3, (some .int))
abbrev M_J7_copyOf_1904c : Mth := (yJ7_copyOf_1904c, cJ7_copyOf_1904c, 2, (some (.array (.object "java/lang/Object"))))
abbrev M_J7_copyOf_6403c : Mth := (yJ7_copyOf_6403c, cJ7_copyOf_6403c, 4, (some (.array (.object "java/lang/Object"))))
abbrev M_J8_hugeLength_7cf53 : Mth := (yJ8_hugeLength_7cf53, cJ8_hugeLength_7cf53, 3, (some .int))
abbrev M_J8_newLength_cabcc : Mth := (yJ8_newLength_cabcc, cJ8_newLength_cabcc, 4, (some .int))
abbrev M_J9_max_7cf53 : Mth := (yJ9_max_7cf53, cJ9_max_7cf53, 2, (some .int))
abbrev M_J9_min_7cf53 : Mth := (yJ9_min_7cf53, cJ9_min_7cf53, 2, (some .int))
abbrev M_Jx4a65c_add_72be8 : Mth := (yJx4a65c_add_72be8, cJx4a65c_add_72be8, 4, none)
abbrev M_Jx4a65c_add_7a177 : Mth := (yJx4a65c_add_7a177, cJx4a65c_add_7a177, 5, none)
abbrev M_Jx4a65c_add_9ea2d : Mth := (yJx4a65c_add_9ea2d, cJx4a65c_add_9ea2d, 2, (some .boolean))
abbrev M_Jx4a65c_clear_da8c8 : Mth := (yJx4a65c_clear_da8c8, cJx4a65c_clear_da8c8, 4, none)
abbrev M_Jx4a65c_elementData_915e3 : Mth := (yJx4a65c_elementData_915e3, cJx4a65c_elementData_915e3, 2, (some (.object "java/lang/Object")))
abbrev M_Jx4a65c_get_915e3 : Mth := (yJx4a65c_get_915e3, cJx4a65c_get_915e3, 2, (some (.object "java/lang/Object")))
abbrev M_Jx4a65c_grow_92f84 : Mth := (yJx4a65c_grow_92f84, cJx4a65c_grow_92f84, 4, (some (.array (.object "java/lang/Object"))))
abbrev M_Jx4a65c_grow_d5877 : Mth := (yJx4a65c_grow_d5877, cJx4a65c_grow_d5877, 1, (some (.array (.object "java/lang/Object"))))
abbrev M_Jx4a65c_init_da8c8 : Mth := (yJx4a65c_init_da8c8, cJx4a65c_init_da8c8, 1, none)
abbrev M_Jx4a65c_isEmpty_aae02 : Mth := (yJx4a65c_isEmpty_aae02, cJx4a65c_isEmpty_aae02, 1, (some .boolean))
abbrev M_Jx4a65c_rangeCheckForAdd_d00df : Mth := (yJx4a65c_rangeCheckForAdd_d00df, cJx4a65c_rangeCheckForAdd_d00df, 2, none)
abbrev M_Jx4a65c_size_8abf5 : Mth := (yJx4a65c_size_8abf5, cJx4a65c_size_8abf5, 1, (some .int))
abbrev M_Jxa1e45_init_da8c8 : Mth := (yJxa1e45_init_da8c8, cJxa1e45_init_da8c8, 1, none)
abbrev M_Jxc12de_init_da8c8 : Mth := (yJxc12de_init_da8c8, cJxc12de_init_da8c8, 1, none)
abbrev M_L_law : Mth := (yL_law, cL_law, 7, some .boolean)
abbrev M_L_seen : Mth := (yL_seen, cL_seen, 6, (some .int))
abbrev M_X0_init : Mth := (yX0_init, cX0_init, 2, none)
abbrev M_X0_readFrom : Mth := (yX0_readFrom, cX0_readFrom, 4, (some .boolean))
abbrev M_X0_worth : Mth := (yX0_worth, cX0_worth, 5, (some .int))
abbrev M_X10_answer : Mth := (yX10_answer, cX10_answer, 2, (some .int))
abbrev M_X10_earned : Mth := (yX10_earned, cX10_earned, 1, (some .int))
abbrev M_X10_init : Mth := (yX10_init, cX10_init, 4, none)
abbrev M_X10_send : Mth := (yX10_send, cX10_send, 2, none)
abbrev M_X11_about : Mth := (yX11_about, cX11_about, 4, (some .int))
abbrev M_X11_addBytes : Mth := (yX11_addBytes, cX11_addBytes, 3, none)
abbrev M_X11_agree : Mth := (yX11_agree, cX11_agree, 3, (some .int))
abbrev M_X11_ask : Mth := (yX11_ask, cX11_ask, 4, (some .int))
abbrev M_X11_asks : Mth := (yX11_asks, cX11_asks, 2, (some .int))
abbrev M_X11_away : Mth := (yX11_away, cX11_away, 4, (some .boolean))
abbrev M_X11_buses : Mth := (yX11_buses, cX11_buses, 6, (some .int))
abbrev M_X11_called : Mth := (yX11_called, cX11_called, 3, (some .int))
abbrev M_X11_count : Mth := (yX11_count, cX11_count, 2, (some .int))
abbrev M_X11_end : Mth := (yX11_end, cX11_end, 2, (some .int))
abbrev M_X11_feed : Mth := (yX11_feed, cX11_feed, 6, (some .int))
abbrev M_X11_find : Mth := (yX11_find, cX11_find, 2, (some (.object "ExtrasOffice$Person")))
abbrev M_X11_findRecord : Mth := (yX11_findRecord, cX11_findRecord, 5, (some (.object "ExtrasOffice$Turn")))
abbrev M_X11_fits : Mth := (yX11_fits, cX11_fits, 7, (some .int))
abbrev M_X11_init : Mth := (yX11_init, cX11_init, 1, none)
abbrev M_X11_isScene : Mth := (yX11_isScene, cX11_isScene, 1, (some .boolean))
abbrev M_X11_lacks : Mth := (yX11_lacks, cX11_lacks, 2, (some .int))
abbrev M_X11_lay : Mth := (yX11_lay, cX11_lay, 1, (some .int))
abbrev M_X11_moved : Mth := (yX11_moved, cX11_moved, 2, (some .int))
abbrev M_X11_no : Mth := (yX11_no, cX11_no, 4, (some .int))
abbrev M_X11_pay : Mth := (yX11_pay, cX11_pay, 8, (some .long))
abbrev M_X11_person : Mth := (yX11_person, cX11_person, 8, (some .int))
abbrev M_X11_place : Mth := (yX11_place, cX11_place, 1, (some .int))
abbrev M_X11_record : Mth := (yX11_record, cX11_record, 5, (some .int))
abbrev M_X11_retake : Mth := (yX11_retake, cX11_retake, 6, (some .int))
abbrev M_X11_seen : Mth := (yX11_seen, cX11_seen, 4, (some .int))
abbrev M_X11_sendAll : Mth := (yX11_sendAll, cX11_sendAll, 5, (some .int))
abbrev M_X11_step : Mth := (yX11_step, cX11_step, 4, (some .int))
abbrev M_X11_tell : Mth := (yX11_tell, cX11_tell, 4, (some .int))
abbrev M_X11_within : Mth := (yX11_within, cX11_within, 3, (some .boolean))
abbrev M_X12_about : Mth := (yX12_about, cX12_about, 3, (some .int))
abbrev M_X12_agree : Mth := (yX12_agree, cX12_agree, 1, (some .int))
abbrev M_X12_all : Mth := (yX12_all, cX12_all, 4, (some .boolean))
abbrev M_X12_allCalled : Mth := (yX12_allCalled, cX12_allCalled, 3, (some .int))
abbrev M_X12_ask : Mth := (yX12_ask, cX12_ask, 3, (some .int))
abbrev M_X12_asks : Mth := (yX12_asks, cX12_asks, 3, (some .int))
abbrev M_X12_away : Mth := (yX12_away, cX12_away, 3, (some .boolean))
abbrev M_X12_buses : Mth := (yX12_buses, cX12_buses, 5, (some .int))
abbrev M_X12_called : Mth := (yX12_called, cX12_called, 2, (some .int))
abbrev M_X12_calledIn : Mth := (yX12_calledIn, cX12_calledIn, 4, (some .int))
abbrev M_X12_canBe : Mth := (yX12_canBe, cX12_canBe, 3, (some .boolean))
abbrev M_X12_count : Mth := (yX12_count, cX12_count, 2, (some .int))
abbrev M_X12_doesFit : Mth := (yX12_doesFit, cX12_doesFit, 3, (some .boolean))
abbrev M_X12_dresses : Mth := (yX12_dresses, cX12_dresses, 5, none)
abbrev M_X12_either : Mth := (yX12_either, cX12_either, 4, (some .boolean))
abbrev M_X12_end : Mth := (yX12_end, cX12_end, 2, (some .int))
abbrev M_X12_fact : Mth := (yX12_fact, cX12_fact, 3, (some .int))
abbrev M_X12_fails : Mth := (yX12_fails, cX12_fails, 2, none)
abbrev M_X12_feed : Mth := (yX12_feed, cX12_feed, 8, (some .int))
abbrev M_X12_first : Mth := (yX12_first, cX12_first, 3, (some .int))
abbrev M_X12_fits : Mth := (yX12_fits, cX12_fits, 4, (some .int))
abbrev M_X12_init : Mth := (yX12_init, cX12_init, 1, none)
abbrev M_X12_is : Mth := (yX12_is, cX12_is, 2, (some .boolean))
abbrev M_X12_isAsk : Mth := (yX12_isAsk, cX12_isAsk, 2, (some .boolean))
abbrev M_X12_isDigit : Mth := (yX12_isDigit, cX12_isDigit, 1, (some .boolean))
abbrev M_X12_isPerson : Mth := (yX12_isPerson, cX12_isPerson, 2, (some .boolean))
abbrev M_X12_isRecord : Mth := (yX12_isRecord, cX12_isRecord, 3, (some .boolean))
abbrev M_X12_isRoom : Mth := (yX12_isRoom, cX12_isRoom, 5, (some .boolean))
abbrev M_X12_isSmall : Mth := (yX12_isSmall, cX12_isSmall, 1, (some .boolean))
abbrev M_X12_isWord : Mth := (yX12_isWord, cX12_isWord, 3, (some .boolean))
abbrev M_X12_lacks : Mth := (yX12_lacks, cX12_lacks, 2, (some .int))
abbrev M_X12_lay : Mth := (yX12_lay, cX12_lay, 5, (some .int))
abbrev M_X12_mends : Mth := (yX12_mends, cX12_mends, 7, (some .boolean))
abbrev M_X12_moved : Mth := (yX12_moved, cX12_moved, 2, (some .int))
abbrev M_X12_next : Mth := (yX12_next, cX12_next, 2, none)
abbrev M_X12_nextComing : Mth := (yX12_nextComing, cX12_nextComing, 3, (some .int))
abbrev M_X12_next_ : Mth := (yX12_next_, cX12_next_, 1, (some .int))
abbrev M_X12_no : Mth := (yX12_no, cX12_no, 6, (some .int))
abbrev M_X12_nobody : Mth := (yX12_nobody, cX12_nobody, 2, none)
abbrev M_X12_number : Mth := (yX12_number, cX12_number, 4, (some .int))
abbrev M_X12_one : Mth := (yX12_one, cX12_one, 7, (some .boolean))
abbrev M_X12_pay : Mth := (yX12_pay, cX12_pay, 7, (some .long))
abbrev M_X12_person : Mth := (yX12_person, cX12_person, 6, (some .int))
abbrev M_X12_place : Mth := (yX12_place, cX12_place, 1, (some .int))
abbrev M_X12_quarters : Mth := (yX12_quarters, cX12_quarters, 2, (some .int))
abbrev M_X12_readAsk : Mth := (yX12_readAsk, cX12_readAsk, 2, none)
abbrev M_X12_readTerm : Mth := (yX12_readTerm, cX12_readTerm, 3, none)
abbrev M_X12_reckons : Mth := (yX12_reckons, cX12_reckons, 3, none)
abbrev M_X12_record : Mth := (yX12_record, cX12_record, 5, (some .int))
abbrev M_X12_retake : Mth := (yX12_retake, cX12_retake, 4, (some .int))
abbrev M_X12_see : Mth := (yX12_see, cX12_see, 2, (some .int))
abbrev M_X12_seen : Mth := (yX12_seen, cX12_seen, 4, (some .int))
abbrev M_X12_starts : Mth := (yX12_starts, cX12_starts, 4, none)
abbrev M_X12_step : Mth := (yX12_step, cX12_step, 9, (some .int))
abbrev M_X12_tell : Mth := (yX12_tell, cX12_tell, 3, (some .int))
abbrev M_X12_thrown : Mth := (yX12_thrown, cX12_thrown, 1, (some .int))
abbrev M_X12_times : Mth := (yX12_times, cX12_times, 6, (some .int))
abbrev M_X12_wants : Mth := (yX12_wants, cX12_wants, 2, none)
abbrev M_X12_wants_ : Mth := (yX12_wants_, cX12_wants_, 2, none)
abbrev M_X12_within : Mth := (yX12_within, cX12_within, 3, (some .boolean))
abbrev M_X12_worth : Mth := (yX12_worth, cX12_worth, 8, (some .int))
abbrev M_X1_answer : Mth := (yX1_answer, cX1_answer, 2, (some .int))
abbrev M_X1_highest : Mth := (yX1_highest, cX1_highest, 1, (some .int))
abbrev M_X1_holds : Mth := (yX1_holds, cX1_holds, 3, (some .boolean))
abbrev M_X1_init : Mth := (yX1_init, cX1_init, 2, none)
abbrev M_X1_isOpenTo : Mth := (yX1_isOpenTo, cX1_isOpenTo, 3, (some .boolean))
abbrev M_X1_suits : Mth := (yX1_suits, cX1_suits, 8, (some .boolean))
abbrev M_X1_takeSteps : Mth := (yX1_takeSteps, cX1_takeSteps, 3, none)
abbrev M_X2_init : Mth := (yX2_init, cX2_init, 2, none)
abbrev M_X2_markHere : Mth := (yX2_markHere, cX2_markHere, 1, (some .int))
abbrev M_X2_read : Mth := (yX2_read, cX2_read, 4, (some (.object "java/util/ArrayList")))
abbrev M_X2_readAny : Mth := (yX2_readAny, cX2_readAny, 5, (some .boolean))
abbrev M_X2_readHead : Mth := (yX2_readHead, cX2_readHead, 2, (some .boolean))
abbrev M_X2_readMark : Mth := (yX2_readMark, cX2_readMark, 3, (some .boolean))
abbrev M_X2_readOne : Mth := (yX2_readOne, cX2_readOne, 3, (some .boolean))
abbrev M_X3_comeAll : Mth := (yX3_comeAll, cX3_comeAll, 8, none)
abbrev M_X3_dressAll : Mth := (yX3_dressAll, cX3_dressAll, 5, none)
abbrev M_X3_firstFree : Mth := (yX3_firstFree, cX3_firstFree, 4, (some .int))
abbrev M_X3_following : Mth := (yX3_following, cX3_following, 1, (some .int))
abbrev M_X3_init : Mth := (yX3_init, cX3_init, 1, none)
abbrev M_X3_queue : Mth := (yX3_queue, cX3_queue, 3, none)
abbrev M_X4_add : Mth := (yX4_add, cX4_add, 3, (some .int))
abbrev M_X4_howOften : Mth := (yX4_howOften, cX4_howOften, 6, (some .int))
abbrev M_X4_init : Mth := (yX4_init, cX4_init, 1, none)
abbrev M_X4_size : Mth := (yX4_size, cX4_size, 1, (some .int))
abbrev M_X5_answer : Mth := (yX5_answer, cX5_answer, 2, (some .int))
abbrev M_X5_canBeIn : Mth := (yX5_canBeIn, cX5_canBeIn, 2, (some .boolean))
abbrev M_X5_init : Mth := (yX5_init, cX5_init, 7, none)
abbrev M_X5_moveTo : Mth := (yX5_moveTo, cX5_moveTo, 2, none)
abbrev M_X5_wasIn : Mth := (yX5_wasIn, cX5_wasIn, 2, (some .boolean))
abbrev M_X6_dismissAll : Mth := (yX6_dismissAll, cX6_dismissAll, 2, none)
abbrev M_X6_find : Mth := (yX6_find, cX6_find, 2, (some (.object "ExtrasOffice$Ask")))
abbrev M_X6_firstOfRow : Mth := (yX6_firstOfRow, cX6_firstOfRow, 6, (some (.object "ExtrasOffice$Person")))
abbrev M_X6_init : Mth := (yX6_init, cX6_init, 2, none)
abbrev M_X6_layFor : Mth := (yX6_layFor, cX6_layFor, 4, none)
abbrev M_X6_lookWhoIsOpen : Mth := (yX6_lookWhoIsOpen, cX6_lookWhoIsOpen, 5, none)
abbrev M_X6_makeRoom : Mth := (yX6_makeRoom, cX6_makeRoom, 6, (some .boolean))
abbrev M_X6_measureRows : Mth := (yX6_measureRows, cX6_measureRows, 4, none)
abbrev M_X6_mend : Mth := (yX6_mend, cX6_mend, 7, none)
abbrev M_X6_seat : Mth := (yX6_seat, cX6_seat, 3, none)
abbrev M_X6_seatAllInLeast : Mth := (yX6_seatAllInLeast, cX6_seatAllInLeast, 3, none)
abbrev M_X6_seatElsewhere : Mth := (yX6_seatElsewhere, cX6_seatElsewhere, 6, (some .boolean))
abbrev M_X6_size : Mth := (yX6_size, cX6_size, 3, (some .int))
abbrev M_X6_startWith : Mth := (yX6_startWith, cX6_startWith, 2, none)
abbrev M_X7_add : Mth := (yX7_add, cX7_add, 2, none)
abbrev M_X7_at : Mth := (yX7_at, cX7_at, 2, (some .int))
abbrev M_X7_init : Mth := (yX7_init, cX7_init, 2, none)
abbrev M_X8_init : Mth := (yX8_init, cX8_init, 2, none)
abbrev M_X8_kindAt : Mth := (yX8_kindAt, cX8_kindAt, 1, (some .int))
abbrev M_X8_quarters : Mth := (yX8_quarters, cX8_quarters, 2, (some .int))
abbrev M_X8_readNumbers : Mth := (yX8_readNumbers, cX8_readNumbers, 2, (some .boolean))
abbrev M_X8_worth : Mth := (yX8_worth, cX8_worth, 3, (some .int))
abbrev M_X9_advance : Mth := (yX9_advance, cX9_advance, 1, none)
abbrev M_X9_atEnd : Mth := (yX9_atEnd, cX9_atEnd, 1, (some .boolean))
abbrev M_X9_begin : Mth := (yX9_begin, cX9_begin, 1, none)
abbrev M_X9_fail : Mth := (yX9_fail, cX9_fail, 2, (some .boolean))
abbrev M_X9_init : Mth := (yX9_init, cX9_init, 2, none)
abbrev M_X9_isSign : Mth := (yX9_isSign, cX9_isSign, 2, (some .boolean))
abbrev M_X9_isWord : Mth := (yX9_isWord, cX9_isWord, 3, (some .boolean))
abbrev M_X9_kindOf : Mth := (yX9_kindOf, cX9_kindOf, 1, (some .int))
abbrev M_X9_passNumber : Mth := (yX9_passNumber, cX9_passNumber, 4, (some .int))
abbrev M_X9_passNumberAfter : Mth := (yX9_passNumberAfter, cX9_passNumberAfter, 4, (some .int))
abbrev M_X9_passSign : Mth := (yX9_passSign, cX9_passSign, 2, (some .boolean))
abbrev M_X9_passWord : Mth := (yX9_passWord, cX9_passWord, 2, (some .boolean))
theorem mw_J0_charAt_5068e : MW M_J0_charAt_5068e 1 := ⟨(tw_at 504 (by decide +kernel) (by decide +kernel)), (tw_at 75 (by decide +kernel) (by decide +kernel)), by decide, by decide, by decide, by decide +kernel⟩
theorem mw_J0_checkIndex_df160 : MW M_J0_checkIndex_df160 2 := ⟨(tw_at 514 (by decide +kernel) (by decide +kernel)), (tw_at 75 (by decide +kernel) (by decide +kernel)), by decide, by decide, by decide, by decide +kernel⟩
theorem mw_J0_coder_7d493 : MW M_J0_coder_7d493 0 := ⟨(tw_at 498 (by decide +kernel) (by decide +kernel)), (tw_at 75 (by decide +kernel) (by decide +kernel)), by decide, by decide, by decide, by decide +kernel⟩
theorem mw_J0_isLatin1_aae02 : MW M_J0_isLatin1_aae02 0 := ⟨(tw_at 508 (by decide +kernel) (by decide +kernel)), (tw_at 75 (by decide +kernel) (by decide +kernel)), by decide, by decide, by decide, by decide +kernel⟩
theorem mw_J0_length_8abf5 : MW M_J0_length_8abf5 0 := ⟨(tw_at 494 (by decide +kernel) (by decide +kernel)), (tw_at 75 (by decide +kernel) (by decide +kernel)), by decide, by decide, by decide, by decide +kernel⟩
theorem mw_J15_checkIndex_7cf53 : MW M_J15_checkIndex_7cf53 2 := ⟨(tw_at 433 (by decide +kernel) (by decide +kernel)), (tw_at 73 (by decide +kernel) (by decide +kernel)), by decide, by decide, by decide, by decide +kernel⟩
theorem mw_J1_charAt_3b067 : MW M_J1_charAt_3b067 2 := ⟨(tw_at 511 (by decide +kernel) (by decide +kernel)), (tw_at 76 (by decide +kernel) (by decide +kernel)), by decide, by decide, by decide, by decide +kernel⟩
theorem mw_J2_charAt_3b067 : MW M_J2_charAt_3b067 2 := ⟨(tw_at 520 (by decide +kernel) (by decide +kernel)), (tw_at 77 (by decide +kernel) (by decide +kernel)), by decide, by decide, by decide, by decide +kernel⟩
theorem mw_J2_checkIndex_2214a : MW M_J2_checkIndex_2214a 2 := ⟨(tw_at 523 (by decide +kernel) (by decide +kernel)), (tw_at 77 (by decide +kernel) (by decide +kernel)), by decide, by decide, by decide, by decide +kernel⟩
theorem mw_J2_getChar_3b067 : MW M_J2_getChar_3b067 2 := ⟨(tw_at 530 (by decide +kernel) (by decide +kernel)), (tw_at 77 (by decide +kernel) (by decide +kernel)), by decide, by decide, by decide, by decide +kernel⟩
theorem mw_J2_length_9d52b : MW M_J2_length_9d52b 1 := ⟨(tw_at 526 (by decide +kernel) (by decide +kernel)), (tw_at 77 (by decide +kernel) (by decide +kernel)), by decide, by decide, by decide, by decide +kernel⟩
theorem mw_J3_checkIndex_8e157 : MW M_J3_checkIndex_8e157 3 := ⟨(tw_at 436 (by decide +kernel) (by decide +kernel)), (tw_at 74 (by decide +kernel) (by decide +kernel)), by decide, by decide, by decide, by decide +kernel⟩
theorem mw_J7_copyOf_1904c : MW M_J7_copyOf_1904c 2 := ⟨(tw_at 385 (by decide +kernel) (by decide +kernel)), (tw_at 71 (by decide +kernel) (by decide +kernel)), by decide, by decide, by decide, by decide +kernel⟩
theorem mw_J7_copyOf_6403c : MW M_J7_copyOf_6403c 3 := ⟨(tw_at 407 (by decide +kernel) (by decide +kernel)), (tw_at 71 (by decide +kernel) (by decide +kernel)), by decide, by decide, by decide, by decide +kernel⟩
theorem mw_J8_hugeLength_7cf53 : MW M_J8_hugeLength_7cf53 2 := ⟨(tw_at 382 (by decide +kernel) (by decide +kernel)), (tw_at 69 (by decide +kernel) (by decide +kernel)), by decide, by decide, by decide, by decide +kernel⟩
theorem mw_J8_newLength_cabcc : MW M_J8_newLength_cabcc 3 := ⟨(tw_at 375 (by decide +kernel) (by decide +kernel)), (tw_at 69 (by decide +kernel) (by decide +kernel)), by decide, by decide, by decide, by decide +kernel⟩
theorem mw_J9_max_7cf53 : MW M_J9_max_7cf53 2 := ⟨(tw_at 378 (by decide +kernel) (by decide +kernel)), (tw_at 70 (by decide +kernel) (by decide +kernel)), by decide, by decide, by decide, by decide +kernel⟩
theorem mw_J9_min_7cf53 : MW M_J9_min_7cf53 2 := ⟨(tw_at 413 (by decide +kernel) (by decide +kernel)), (tw_at 70 (by decide +kernel) (by decide +kernel)), by decide, by decide, by decide, by decide +kernel⟩
theorem mw_Jx4a65c_add_72be8 : MW M_Jx4a65c_add_72be8 3 := ⟨(tw_at 364 (by decide +kernel) (by decide +kernel)), (tw_at 60 (by decide +kernel) (by decide +kernel)), by decide, by decide, by decide, by decide +kernel⟩
theorem mw_Jx4a65c_add_7a177 : MW M_Jx4a65c_add_7a177 2 := ⟨(tw_at 917 (by decide +kernel) (by decide +kernel)), (tw_at 60 (by decide +kernel) (by decide +kernel)), by decide, by decide, by decide, by decide +kernel⟩
theorem mw_Jx4a65c_add_9ea2d : MW M_Jx4a65c_add_9ea2d 1 := ⟨(tw_at 360 (by decide +kernel) (by decide +kernel)), (tw_at 60 (by decide +kernel) (by decide +kernel)), by decide, by decide, by decide, by decide +kernel⟩
theorem mw_Jx4a65c_clear_da8c8 : MW M_Jx4a65c_clear_da8c8 0 := ⟨(tw_at 859 (by decide +kernel) (by decide +kernel)), (tw_at 60 (by decide +kernel) (by decide +kernel)), by decide, by decide, by decide, by decide +kernel⟩
theorem mw_Jx4a65c_elementData_915e3 : MW M_Jx4a65c_elementData_915e3 1 := ⟨(tw_at 440 (by decide +kernel) (by decide +kernel)), (tw_at 60 (by decide +kernel) (by decide +kernel)), by decide, by decide, by decide, by decide +kernel⟩
theorem mw_Jx4a65c_get_915e3 : MW M_Jx4a65c_get_915e3 1 := ⟨(tw_at 430 (by decide +kernel) (by decide +kernel)), (tw_at 60 (by decide +kernel) (by decide +kernel)), by decide, by decide, by decide, by decide +kernel⟩
theorem mw_Jx4a65c_grow_92f84 : MW M_Jx4a65c_grow_92f84 1 := ⟨(tw_at 372 (by decide +kernel) (by decide +kernel)), (tw_at 60 (by decide +kernel) (by decide +kernel)), by decide, by decide, by decide, by decide +kernel⟩
theorem mw_Jx4a65c_grow_d5877 : MW M_Jx4a65c_grow_d5877 0 := ⟨(tw_at 368 (by decide +kernel) (by decide +kernel)), (tw_at 60 (by decide +kernel) (by decide +kernel)), by decide, by decide, by decide, by decide +kernel⟩
theorem mw_Jx4a65c_init_da8c8 : MW M_Jx4a65c_init_da8c8 0 := ⟨(tw_at 98 (by decide +kernel) (by decide +kernel)), (tw_at 60 (by decide +kernel) (by decide +kernel)), by decide, by decide, by decide, by decide +kernel⟩
theorem mw_Jx4a65c_isEmpty_aae02 : MW M_Jx4a65c_isEmpty_aae02 0 := ⟨(tw_at 787 (by decide +kernel) (by decide +kernel)), (tw_at 60 (by decide +kernel) (by decide +kernel)), by decide, by decide, by decide, by decide +kernel⟩
theorem mw_Jx4a65c_rangeCheckForAdd_d00df : MW M_Jx4a65c_rangeCheckForAdd_d00df 1 := ⟨(tw_at 921 (by decide +kernel) (by decide +kernel)), (tw_at 60 (by decide +kernel) (by decide +kernel)), by decide, by decide, by decide, by decide +kernel⟩
theorem mw_Jx4a65c_size_8abf5 : MW M_Jx4a65c_size_8abf5 0 := ⟨(tw_at 292 (by decide +kernel) (by decide +kernel)), (tw_at 60 (by decide +kernel) (by decide +kernel)), by decide, by decide, by decide, by decide +kernel⟩
theorem mw_Jxa1e45_init_da8c8 : MW M_Jxa1e45_init_da8c8 0 := ⟨(tw_at 104 (by decide +kernel) (by decide +kernel)), (tw_at 58 (by decide +kernel) (by decide +kernel)), by decide, by decide, by decide, by decide +kernel⟩
theorem mw_Jxc12de_init_da8c8 : MW M_Jxc12de_init_da8c8 0 := ⟨(tw_at 101 (by decide +kernel) (by decide +kernel)), (tw_at 59 (by decide +kernel) (by decide +kernel)), by decide, by decide, by decide, by decide +kernel⟩
-- no words of L_law
-- no words of L_seen
theorem mw_X0_init : MW M_X0_init 1 := ⟨(tw_at 687 (by decide +kernel) (by decide +kernel)), (tw_at 79 (by decide +kernel) (by decide +kernel)), by decide, by decide, by decide, by decide +kernel⟩
theorem mw_X0_readFrom : MW M_X0_readFrom 1 := ⟨(tw_at 703 (by decide +kernel) (by decide +kernel)), (tw_at 79 (by decide +kernel) (by decide +kernel)), by decide, by decide, by decide, by decide +kernel⟩
theorem mw_X0_worth : MW M_X0_worth 2 := ⟨(tw_at 966 (by decide +kernel) (by decide +kernel)), (tw_at 79 (by decide +kernel) (by decide +kernel)), by decide, by decide, by decide, by decide +kernel⟩
theorem mw_X10_answer : MW M_X10_answer 1 := ⟨(tw_at 958 (by decide +kernel) (by decide +kernel)), (tw_at 81 (by decide +kernel) (by decide +kernel)), by decide, by decide, by decide, by decide +kernel⟩
theorem mw_X10_earned : MW M_X10_earned 0 := ⟨(tw_at 962 (by decide +kernel) (by decide +kernel)), (tw_at 81 (by decide +kernel) (by decide +kernel)), by decide, by decide, by decide, by decide +kernel⟩
theorem mw_X10_init : MW M_X10_init 3 := ⟨(tw_at 871 (by decide +kernel) (by decide +kernel)), (tw_at 81 (by decide +kernel) (by decide +kernel)), by decide, by decide, by decide, by decide +kernel⟩
theorem mw_X10_send : MW M_X10_send 1 := ⟨(tw_at 940 (by decide +kernel) (by decide +kernel)), (tw_at 81 (by decide +kernel) (by decide +kernel)), by decide, by decide, by decide, by decide +kernel⟩
theorem mw_X11_about : MW M_X11_about 2 := ⟨(tw_at 1008 (by decide +kernel) (by decide +kernel)), (tw_at 57 (by decide +kernel) (by decide +kernel)), by decide, by decide, by decide, by decide +kernel⟩
theorem mw_X11_addBytes : MW M_X11_addBytes 1 := ⟨(tw_at 448 (by decide +kernel) (by decide +kernel)), (tw_at 57 (by decide +kernel) (by decide +kernel)), by decide, by decide, by decide, by decide +kernel⟩
theorem mw_X11_agree : MW M_X11_agree 0 := ⟨(tw_at 682 (by decide +kernel) (by decide +kernel)), (tw_at 57 (by decide +kernel) (by decide +kernel)), by decide, by decide, by decide, by decide +kernel⟩
theorem mw_X11_ask : MW M_X11_ask 2 := ⟨(tw_at 1000 (by decide +kernel) (by decide +kernel)), (tw_at 57 (by decide +kernel) (by decide +kernel)), by decide, by decide, by decide, by decide +kernel⟩
theorem mw_X11_asks : MW M_X11_asks 0 := ⟨(tw_at 460 (by decide +kernel) (by decide +kernel)), (tw_at 57 (by decide +kernel) (by decide +kernel)), by decide, by decide, by decide, by decide +kernel⟩
theorem mw_X11_away : MW M_X11_away 2 := ⟨(tw_at 422 (by decide +kernel) (by decide +kernel)), (tw_at 57 (by decide +kernel) (by decide +kernel)), by decide, by decide, by decide, by decide +kernel⟩
theorem mw_X11_buses : MW M_X11_buses 2 := ⟨(tw_at 996 (by decide +kernel) (by decide +kernel)), (tw_at 57 (by decide +kernel) (by decide +kernel)), by decide, by decide, by decide, by decide +kernel⟩
theorem mw_X11_called : MW M_X11_called 1 := ⟨(tw_at 824 (by decide +kernel) (by decide +kernel)), (tw_at 57 (by decide +kernel) (by decide +kernel)), by decide, by decide, by decide, by decide +kernel⟩
theorem mw_X11_count : MW M_X11_count 1 := ⟨(tw_at 1021 (by decide +kernel) (by decide +kernel)), (tw_at 57 (by decide +kernel) (by decide +kernel)), by decide, by decide, by decide, by decide +kernel⟩
theorem mw_X11_end : MW M_X11_end 1 := ⟨(tw_at 456 (by decide +kernel) (by decide +kernel)), (tw_at 57 (by decide +kernel) (by decide +kernel)), by decide, by decide, by decide, by decide +kernel⟩
theorem mw_X11_feed : MW M_X11_feed 5 := ⟨(tw_at 444 (by decide +kernel) (by decide +kernel)), (tw_at 57 (by decide +kernel) (by decide +kernel)), by decide, by decide, by decide, by decide +kernel⟩
theorem mw_X11_find : MW M_X11_find 1 := ⟨(tw_at 426 (by decide +kernel) (by decide +kernel)), (tw_at 57 (by decide +kernel) (by decide +kernel)), by decide, by decide, by decide, by decide +kernel⟩
theorem mw_X11_findRecord : MW M_X11_findRecord 2 := ⟨(tw_at 954 (by decide +kernel) (by decide +kernel)), (tw_at 57 (by decide +kernel) (by decide +kernel)), by decide, by decide, by decide, by decide +kernel⟩
theorem mw_X11_fits : MW M_X11_fits 3 := ⟨(tw_at 756 (by decide +kernel) (by decide +kernel)), (tw_at 57 (by decide +kernel) (by decide +kernel)), by decide, by decide, by decide, by decide +kernel⟩
theorem mw_X11_init : MW M_X11_init 0 := ⟨(tw_at 90 (by decide +kernel) (by decide +kernel)), (tw_at 57 (by decide +kernel) (by decide +kernel)), by decide, by decide, by decide, by decide +kernel⟩
theorem mw_X11_isScene : MW M_X11_isScene 1 := ⟨(tw_at 983 (by decide +kernel) (by decide +kernel)), (tw_at 57 (by decide +kernel) (by decide +kernel)), by decide, by decide, by decide, by decide +kernel⟩
theorem mw_X11_lacks : MW M_X11_lacks 1 := ⟨(tw_at 992 (by decide +kernel) (by decide +kernel)), (tw_at 57 (by decide +kernel) (by decide +kernel)), by decide, by decide, by decide, by decide +kernel⟩
theorem mw_X11_lay : MW M_X11_lay 0 := ⟨(tw_at 783 (by decide +kernel) (by decide +kernel)), (tw_at 57 (by decide +kernel) (by decide +kernel)), by decide, by decide, by decide, by decide +kernel⟩
theorem mw_X11_moved : MW M_X11_moved 1 := ⟨(tw_at 846 (by decide +kernel) (by decide +kernel)), (tw_at 57 (by decide +kernel) (by decide +kernel)), by decide, by decide, by decide, by decide +kernel⟩
theorem mw_X11_no : MW M_X11_no 1 := ⟨(tw_at 828 (by decide +kernel) (by decide +kernel)), (tw_at 57 (by decide +kernel) (by decide +kernel)), by decide, by decide, by decide, by decide +kernel⟩
theorem mw_X11_pay : MW M_X11_pay 3 := ⟨(tw_at 1016 (by decide +kernel) (by decide +kernel)), (tw_at 57 (by decide +kernel) (by decide +kernel)), by decide, by decide, by decide, by decide +kernel⟩
theorem mw_X11_person : MW M_X11_person 5 := ⟨(tw_at 284 (by decide +kernel) (by decide +kernel)), (tw_at 57 (by decide +kernel) (by decide +kernel)), by decide, by decide, by decide, by decide +kernel⟩
theorem mw_X11_place : MW M_X11_place 0 := ⟨(tw_at 752 (by decide +kernel) (by decide +kernel)), (tw_at 57 (by decide +kernel) (by decide +kernel)), by decide, by decide, by decide, by decide +kernel⟩
theorem mw_X11_record : MW M_X11_record 3 := ⟨(tw_at 950 (by decide +kernel) (by decide +kernel)), (tw_at 57 (by decide +kernel) (by decide +kernel)), by decide, by decide, by decide, by decide +kernel⟩
theorem mw_X11_retake : MW M_X11_retake 2 := ⟨(tw_at 987 (by decide +kernel) (by decide +kernel)), (tw_at 57 (by decide +kernel) (by decide +kernel)), by decide, by decide, by decide, by decide +kernel⟩
theorem mw_X11_seen : MW M_X11_seen 3 := ⟨(tw_at 1033 (by decide +kernel) (by decide +kernel)), (tw_at 57 (by decide +kernel) (by decide +kernel)), by decide, by decide, by decide, by decide +kernel⟩
theorem mw_X11_sendAll : MW M_X11_sendAll 0 := ⟨(tw_at 935 (by decide +kernel) (by decide +kernel)), (tw_at 57 (by decide +kernel) (by decide +kernel)), by decide, by decide, by decide, by decide +kernel⟩
theorem mw_X11_step : MW M_X11_step 2 := ⟨(tw_at 851 (by decide +kernel) (by decide +kernel)), (tw_at 57 (by decide +kernel) (by decide +kernel)), by decide, by decide, by decide, by decide +kernel⟩
theorem mw_X11_tell : MW M_X11_tell 2 := ⟨(tw_at 980 (by decide +kernel) (by decide +kernel)), (tw_at 57 (by decide +kernel) (by decide +kernel)), by decide, by decide, by decide, by decide +kernel⟩
theorem mw_X11_within : MW M_X11_within 3 := ⟨(tw_at 287 (by decide +kernel) (by decide +kernel)), (tw_at 57 (by decide +kernel) (by decide +kernel)), by decide, by decide, by decide, by decide +kernel⟩
theorem mw_X12_about : MW M_X12_about 2 := ⟨(tw_at 1339 (by decide +kernel) (by decide +kernel)), (tw_at 67 (by decide +kernel) (by decide +kernel)), by decide, by decide, by decide, by decide +kernel⟩
theorem mw_X12_agree : MW M_X12_agree 0 := ⟨(tw_at 1509 (by decide +kernel) (by decide +kernel)), (tw_at 67 (by decide +kernel) (by decide +kernel)), by decide, by decide, by decide, by decide +kernel⟩
theorem mw_X12_all : MW M_X12_all 1 := ⟨(tw_at 1423 (by decide +kernel) (by decide +kernel)), (tw_at 67 (by decide +kernel) (by decide +kernel)), by decide, by decide, by decide, by decide +kernel⟩
theorem mw_X12_allCalled : MW M_X12_allCalled 0 := ⟨(tw_at 1576 (by decide +kernel) (by decide +kernel)), (tw_at 67 (by decide +kernel) (by decide +kernel)), by decide, by decide, by decide, by decide +kernel⟩
theorem mw_X12_ask : MW M_X12_ask 2 := ⟨(tw_at 1469 (by decide +kernel) (by decide +kernel)), (tw_at 67 (by decide +kernel) (by decide +kernel)), by decide, by decide, by decide, by decide +kernel⟩
theorem mw_X12_asks : MW M_X12_asks 0 := ⟨(tw_at 1367 (by decide +kernel) (by decide +kernel)), (tw_at 67 (by decide +kernel) (by decide +kernel)), by decide, by decide, by decide, by decide +kernel⟩
theorem mw_X12_away : MW M_X12_away 2 := ⟨(tw_at 1331 (by decide +kernel) (by decide +kernel)), (tw_at 67 (by decide +kernel) (by decide +kernel)), by decide, by decide, by decide, by decide +kernel⟩
theorem mw_X12_buses : MW M_X12_buses 2 := ⟨(tw_at 1568 (by decide +kernel) (by decide +kernel)), (tw_at 67 (by decide +kernel) (by decide +kernel)), by decide, by decide, by decide, by decide +kernel⟩
theorem mw_X12_called : MW M_X12_called 1 := ⟨(tw_at 1493 (by decide +kernel) (by decide +kernel)), (tw_at 67 (by decide +kernel) (by decide +kernel)), by decide, by decide, by decide, by decide +kernel⟩
theorem mw_X12_calledIn : MW M_X12_calledIn 1 := ⟨(tw_at 1473 (by decide +kernel) (by decide +kernel)), (tw_at 67 (by decide +kernel) (by decide +kernel)), by decide, by decide, by decide, by decide +kernel⟩
theorem mw_X12_canBe : MW M_X12_canBe 2 := ⟨(tw_at 1465 (by decide +kernel) (by decide +kernel)), (tw_at 67 (by decide +kernel) (by decide +kernel)), by decide, by decide, by decide, by decide +kernel⟩
theorem mw_X12_count : MW M_X12_count 1 := ⟨(tw_at 1572 (by decide +kernel) (by decide +kernel)), (tw_at 67 (by decide +kernel) (by decide +kernel)), by decide, by decide, by decide, by decide +kernel⟩
theorem mw_X12_doesFit : MW M_X12_doesFit 2 := ⟨(tw_at 1461 (by decide +kernel) (by decide +kernel)), (tw_at 67 (by decide +kernel) (by decide +kernel)), by decide, by decide, by decide, by decide +kernel⟩
theorem mw_X12_dresses : MW M_X12_dresses 1 := ⟨(tw_at 1532 (by decide +kernel) (by decide +kernel)), (tw_at 67 (by decide +kernel) (by decide +kernel)), by decide, by decide, by decide, by decide +kernel⟩
theorem mw_X12_either : MW M_X12_either 1 := ⟨(tw_at 1419 (by decide +kernel) (by decide +kernel)), (tw_at 67 (by decide +kernel) (by decide +kernel)), by decide, by decide, by decide, by decide +kernel⟩
theorem mw_X12_end : MW M_X12_end 1 := ⟨(tw_at 1363 (by decide +kernel) (by decide +kernel)), (tw_at 67 (by decide +kernel) (by decide +kernel)), by decide, by decide, by decide, by decide +kernel⟩
theorem mw_X12_fact : MW M_X12_fact 2 := ⟨(tw_at 1347 (by decide +kernel) (by decide +kernel)), (tw_at 67 (by decide +kernel) (by decide +kernel)), by decide, by decide, by decide, by decide +kernel⟩
theorem mw_X12_fails : MW M_X12_fails 1 := ⟨(tw_at 1400 (by decide +kernel) (by decide +kernel)), (tw_at 67 (by decide +kernel) (by decide +kernel)), by decide, by decide, by decide, by decide +kernel⟩
theorem mw_X12_feed : MW M_X12_feed 5 := ⟨(tw_at 1359 (by decide +kernel) (by decide +kernel)), (tw_at 67 (by decide +kernel) (by decide +kernel)), by decide, by decide, by decide, by decide +kernel⟩
theorem mw_X12_first : MW M_X12_first 0 := ⟨(tw_at 1485 (by decide +kernel) (by decide +kernel)), (tw_at 67 (by decide +kernel) (by decide +kernel)), by decide, by decide, by decide, by decide +kernel⟩
theorem mw_X12_fits : MW M_X12_fits 3 := ⟨(tw_at 1453 (by decide +kernel) (by decide +kernel)), (tw_at 67 (by decide +kernel) (by decide +kernel)), by decide, by decide, by decide, by decide +kernel⟩
theorem mw_X12_init : MW M_X12_init 0 := ⟨(tw_at 1112 (by decide +kernel) (by decide +kernel)), (tw_at 67 (by decide +kernel) (by decide +kernel)), by decide, by decide, by decide, by decide +kernel⟩
theorem mw_X12_is : MW M_X12_is 1 := ⟨(tw_at 1415 (by decide +kernel) (by decide +kernel)), (tw_at 67 (by decide +kernel) (by decide +kernel)), by decide, by decide, by decide, by decide +kernel⟩
theorem mw_X12_isAsk : MW M_X12_isAsk 1 := ⟨(tw_at 1457 (by decide +kernel) (by decide +kernel)), (tw_at 67 (by decide +kernel) (by decide +kernel)), by decide, by decide, by decide, by decide +kernel⟩
theorem mw_X12_isDigit : MW M_X12_isDigit 1 := ⟨(tw_at 1385 (by decide +kernel) (by decide +kernel)), (tw_at 67 (by decide +kernel) (by decide +kernel)), by decide, by decide, by decide, by decide +kernel⟩
theorem mw_X12_isPerson : MW M_X12_isPerson 1 := ⟨(tw_at 1335 (by decide +kernel) (by decide +kernel)), (tw_at 67 (by decide +kernel) (by decide +kernel)), by decide, by decide, by decide, by decide +kernel⟩
theorem mw_X12_isRecord : MW M_X12_isRecord 2 := ⟨(tw_at 1545 (by decide +kernel) (by decide +kernel)), (tw_at 67 (by decide +kernel) (by decide +kernel)), by decide, by decide, by decide, by decide +kernel⟩
theorem mw_X12_isRoom : MW M_X12_isRoom 0 := ⟨(tw_at 1489 (by decide +kernel) (by decide +kernel)), (tw_at 67 (by decide +kernel) (by decide +kernel)), by decide, by decide, by decide, by decide +kernel⟩
theorem mw_X12_isSmall : MW M_X12_isSmall 1 := ⟨(tw_at 1378 (by decide +kernel) (by decide +kernel)), (tw_at 67 (by decide +kernel) (by decide +kernel)), by decide, by decide, by decide, by decide +kernel⟩
theorem mw_X12_isWord : MW M_X12_isWord 1 := ⟨(tw_at 1394 (by decide +kernel) (by decide +kernel)), (tw_at 67 (by decide +kernel) (by decide +kernel)), by decide, by decide, by decide, by decide +kernel⟩
theorem mw_X12_lacks : MW M_X12_lacks 1 := ⟨(tw_at 1564 (by decide +kernel) (by decide +kernel)), (tw_at 67 (by decide +kernel) (by decide +kernel)), by decide, by decide, by decide, by decide +kernel⟩
theorem mw_X12_lay : MW M_X12_lay 0 := ⟨(tw_at 1477 (by decide +kernel) (by decide +kernel)), (tw_at 67 (by decide +kernel) (by decide +kernel)), by decide, by decide, by decide, by decide +kernel⟩
theorem mw_X12_mends : MW M_X12_mends 4 := ⟨(tw_at 1501 (by decide +kernel) (by decide +kernel)), (tw_at 67 (by decide +kernel) (by decide +kernel)), by decide, by decide, by decide, by decide +kernel⟩
theorem mw_X12_moved : MW M_X12_moved 1 := ⟨(tw_at 1505 (by decide +kernel) (by decide +kernel)), (tw_at 67 (by decide +kernel) (by decide +kernel)), by decide, by decide, by decide, by decide +kernel⟩
theorem mw_X12_next : MW M_X12_next 0 := ⟨(tw_at 1375 (by decide +kernel) (by decide +kernel)), (tw_at 67 (by decide +kernel) (by decide +kernel)), by decide, by decide, by decide, by decide +kernel⟩
theorem mw_X12_nextComing : MW M_X12_nextComing 0 := ⟨(tw_at 1536 (by decide +kernel) (by decide +kernel)), (tw_at 67 (by decide +kernel) (by decide +kernel)), by decide, by decide, by decide, by decide +kernel⟩
theorem mw_X12_next_ : MW M_X12_next_ 1 := ⟨(tw_at 1527 (by decide +kernel) (by decide +kernel)), (tw_at 67 (by decide +kernel) (by decide +kernel)), by decide, by decide, by decide, by decide +kernel⟩
theorem mw_X12_no : MW M_X12_no 1 := ⟨(tw_at 1497 (by decide +kernel) (by decide +kernel)), (tw_at 67 (by decide +kernel) (by decide +kernel)), by decide, by decide, by decide, by decide +kernel⟩
theorem mw_X12_nobody : MW M_X12_nobody 0 := ⟨(tw_at 1445 (by decide +kernel) (by decide +kernel)), (tw_at 67 (by decide +kernel) (by decide +kernel)), by decide, by decide, by decide, by decide +kernel⟩
theorem mw_X12_number : MW M_X12_number 2 := ⟨(tw_at 1404 (by decide +kernel) (by decide +kernel)), (tw_at 67 (by decide +kernel) (by decide +kernel)), by decide, by decide, by decide, by decide +kernel⟩
theorem mw_X12_one : MW M_X12_one 1 := ⟨(tw_at 1427 (by decide +kernel) (by decide +kernel)), (tw_at 67 (by decide +kernel) (by decide +kernel)), by decide, by decide, by decide, by decide +kernel⟩
theorem mw_X12_pay : MW M_X12_pay 3 := ⟨(tw_at 1556 (by decide +kernel) (by decide +kernel)), (tw_at 67 (by decide +kernel) (by decide +kernel)), by decide, by decide, by decide, by decide +kernel⟩
theorem mw_X12_person : MW M_X12_person 5 := ⟨(tw_at 1323 (by decide +kernel) (by decide +kernel)), (tw_at 67 (by decide +kernel) (by decide +kernel)), by decide, by decide, by decide, by decide +kernel⟩
theorem mw_X12_place : MW M_X12_place 0 := ⟨(tw_at 1449 (by decide +kernel) (by decide +kernel)), (tw_at 67 (by decide +kernel) (by decide +kernel)), by decide, by decide, by decide, by decide +kernel⟩
theorem mw_X12_quarters : MW M_X12_quarters 2 := ⟨(tw_at 1552 (by decide +kernel) (by decide +kernel)), (tw_at 67 (by decide +kernel) (by decide +kernel)), by decide, by decide, by decide, by decide +kernel⟩
theorem mw_X12_readAsk : MW M_X12_readAsk 0 := ⟨(tw_at 1389 (by decide +kernel) (by decide +kernel)), (tw_at 67 (by decide +kernel) (by decide +kernel)), by decide, by decide, by decide, by decide +kernel⟩
theorem mw_X12_readTerm : MW M_X12_readTerm 0 := ⟨(tw_at 1513 (by decide +kernel) (by decide +kernel)), (tw_at 67 (by decide +kernel) (by decide +kernel)), by decide, by decide, by decide, by decide +kernel⟩
theorem mw_X12_reckons : MW M_X12_reckons 0 := ⟨(tw_at 1481 (by decide +kernel) (by decide +kernel)), (tw_at 67 (by decide +kernel) (by decide +kernel)), by decide, by decide, by decide, by decide +kernel⟩
theorem mw_X12_record : MW M_X12_record 3 := ⟨(tw_at 1541 (by decide +kernel) (by decide +kernel)), (tw_at 67 (by decide +kernel) (by decide +kernel)), by decide, by decide, by decide, by decide +kernel⟩
theorem mw_X12_retake : MW M_X12_retake 2 := ⟨(tw_at 1560 (by decide +kernel) (by decide +kernel)), (tw_at 67 (by decide +kernel) (by decide +kernel)), by decide, by decide, by decide, by decide +kernel⟩
theorem mw_X12_see : MW M_X12_see 1 := ⟨(tw_at 1382 (by decide +kernel) (by decide +kernel)), (tw_at 67 (by decide +kernel) (by decide +kernel)), by decide, by decide, by decide, by decide +kernel⟩
theorem mw_X12_seen : MW M_X12_seen 3 := ⟨(tw_at 1351 (by decide +kernel) (by decide +kernel)), (tw_at 67 (by decide +kernel) (by decide +kernel)), by decide, by decide, by decide, by decide +kernel⟩
theorem mw_X12_starts : MW M_X12_starts 3 := ⟨(tw_at 1371 (by decide +kernel) (by decide +kernel)), (tw_at 67 (by decide +kernel) (by decide +kernel)), by decide, by decide, by decide, by decide +kernel⟩
theorem mw_X12_step : MW M_X12_step 2 := ⟨(tw_at 1524 (by decide +kernel) (by decide +kernel)), (tw_at 67 (by decide +kernel) (by decide +kernel)), by decide, by decide, by decide, by decide +kernel⟩
theorem mw_X12_tell : MW M_X12_tell 2 := ⟨(tw_at 1343 (by decide +kernel) (by decide +kernel)), (tw_at 67 (by decide +kernel) (by decide +kernel)), by decide, by decide, by decide, by decide +kernel⟩
theorem mw_X12_thrown : MW M_X12_thrown 0 := ⟨(tw_at 1107 (by decide +kernel) (by decide +kernel)), (tw_at 67 (by decide +kernel) (by decide +kernel)), by decide, by decide, by decide, by decide +kernel⟩
theorem mw_X12_times : MW M_X12_times 3 := ⟨(tw_at 1355 (by decide +kernel) (by decide +kernel)), (tw_at 67 (by decide +kernel) (by decide +kernel)), by decide, by decide, by decide, by decide +kernel⟩
theorem mw_X12_wants : MW M_X12_wants 1 := ⟨(tw_at 1432 (by decide +kernel) (by decide +kernel)), (tw_at 67 (by decide +kernel) (by decide +kernel)), by decide, by decide, by decide, by decide +kernel⟩
theorem mw_X12_wants_ : MW M_X12_wants_ 1 := ⟨(tw_at 1409 (by decide +kernel) (by decide +kernel)), (tw_at 67 (by decide +kernel) (by decide +kernel)), by decide, by decide, by decide, by decide +kernel⟩
theorem mw_X12_within : MW M_X12_within 3 := ⟨(tw_at 1326 (by decide +kernel) (by decide +kernel)), (tw_at 67 (by decide +kernel) (by decide +kernel)), by decide, by decide, by decide, by decide +kernel⟩
theorem mw_X12_worth : MW M_X12_worth 3 := ⟨(tw_at 1549 (by decide +kernel) (by decide +kernel)), (tw_at 67 (by decide +kernel) (by decide +kernel)), by decide, by decide, by decide, by decide +kernel⟩
theorem mw_X1_answer : MW M_X1_answer 1 := ⟨(tw_at 1004 (by decide +kernel) (by decide +kernel)), (tw_at 78 (by decide +kernel) (by decide +kernel)), by decide, by decide, by decide, by decide +kernel⟩
theorem mw_X1_highest : MW M_X1_highest 1 := ⟨(tw_at 647 (by decide +kernel) (by decide +kernel)), (tw_at 78 (by decide +kernel) (by decide +kernel)), by decide, by decide, by decide, by decide +kernel⟩
theorem mw_X1_holds : MW M_X1_holds 3 := ⟨(tw_at 770 (by decide +kernel) (by decide +kernel)), (tw_at 78 (by decide +kernel) (by decide +kernel)), by decide, by decide, by decide, by decide +kernel⟩
theorem mw_X1_init : MW M_X1_init 1 := ⟨(tw_at 545 (by decide +kernel) (by decide +kernel)), (tw_at 78 (by decide +kernel) (by decide +kernel)), by decide, by decide, by decide, by decide +kernel⟩
theorem mw_X1_isOpenTo : MW M_X1_isOpenTo 2 := ⟨(tw_at 778 (by decide +kernel) (by decide +kernel)), (tw_at 78 (by decide +kernel) (by decide +kernel)), by decide, by decide, by decide, by decide +kernel⟩
theorem mw_X1_suits : MW M_X1_suits 1 := ⟨(tw_at 765 (by decide +kernel) (by decide +kernel)), (tw_at 78 (by decide +kernel) (by decide +kernel)), by decide, by decide, by decide, by decide +kernel⟩
theorem mw_X1_takeSteps : MW M_X1_takeSteps 1 := ⟨(tw_at 660 (by decide +kernel) (by decide +kernel)), (tw_at 78 (by decide +kernel) (by decide +kernel)), by decide, by decide, by decide, by decide +kernel⟩
theorem mw_X2_init : MW M_X2_init 1 := ⟨(tw_at 174 (by decide +kernel) (by decide +kernel)), (tw_at 63 (by decide +kernel) (by decide +kernel)), by decide, by decide, by decide, by decide +kernel⟩
theorem mw_X2_markHere : MW M_X2_markHere 0 := ⟨(tw_at 637 (by decide +kernel) (by decide +kernel)), (tw_at 63 (by decide +kernel) (by decide +kernel)), by decide, by decide, by decide, by decide +kernel⟩
theorem mw_X2_read : MW M_X2_read 0 := ⟨(tw_at 464 (by decide +kernel) (by decide +kernel)), (tw_at 63 (by decide +kernel) (by decide +kernel)), by decide, by decide, by decide, by decide +kernel⟩
theorem mw_X2_readAny : MW M_X2_readAny 1 := ⟨(tw_at 623 (by decide +kernel) (by decide +kernel)), (tw_at 63 (by decide +kernel) (by decide +kernel)), by decide, by decide, by decide, by decide +kernel⟩
theorem mw_X2_readHead : MW M_X2_readHead 1 := ⟨(tw_at 593 (by decide +kernel) (by decide +kernel)), (tw_at 63 (by decide +kernel) (by decide +kernel)), by decide, by decide, by decide, by decide +kernel⟩
theorem mw_X2_readMark : MW M_X2_readMark 0 := ⟨(tw_at 633 (by decide +kernel) (by decide +kernel)), (tw_at 63 (by decide +kernel) (by decide +kernel)), by decide, by decide, by decide, by decide +kernel⟩
theorem mw_X2_readOne : MW M_X2_readOne 1 := ⟨(tw_at 627 (by decide +kernel) (by decide +kernel)), (tw_at 63 (by decide +kernel) (by decide +kernel)), by decide, by decide, by decide, by decide +kernel⟩
theorem mw_X3_comeAll : MW M_X3_comeAll 3 := ⟨(tw_at 855 (by decide +kernel) (by decide +kernel)), (tw_at 66 (by decide +kernel) (by decide +kernel)), by decide, by decide, by decide, by decide +kernel⟩
theorem mw_X3_dressAll : MW M_X3_dressAll 1 := ⟨(tw_at 926 (by decide +kernel) (by decide +kernel)), (tw_at 66 (by decide +kernel) (by decide +kernel)), by decide, by decide, by decide, by decide +kernel⟩
theorem mw_X3_firstFree : MW M_X3_firstFree 1 := ⟨(tw_at 930 (by decide +kernel) (by decide +kernel)), (tw_at 66 (by decide +kernel) (by decide +kernel)), by decide, by decide, by decide, by decide +kernel⟩
theorem mw_X3_following : MW M_X3_following 1 := ⟨(tw_at 865 (by decide +kernel) (by decide +kernel)), (tw_at 66 (by decide +kernel) (by decide +kernel)), by decide, by decide, by decide, by decide +kernel⟩
theorem mw_X3_init : MW M_X3_init 0 := ⟨(tw_at 232 (by decide +kernel) (by decide +kernel)), (tw_at 66 (by decide +kernel) (by decide +kernel)), by decide, by decide, by decide, by decide +kernel⟩
theorem mw_X3_queue : MW M_X3_queue 1 := ⟨(tw_at 913 (by decide +kernel) (by decide +kernel)), (tw_at 66 (by decide +kernel) (by decide +kernel)), by decide, by decide, by decide, by decide +kernel⟩
theorem mw_X4_add : MW M_X4_add 2 := ⟨(tw_at 944 (by decide +kernel) (by decide +kernel)), (tw_at 64 (by decide +kernel) (by decide +kernel)), by decide, by decide, by decide, by decide +kernel⟩
theorem mw_X4_howOften : MW M_X4_howOften 3 := ⟨(tw_at 1102 (by decide +kernel) (by decide +kernel)), (tw_at 64 (by decide +kernel) (by decide +kernel)), by decide, by decide, by decide, by decide +kernel⟩
theorem mw_X4_init : MW M_X4_init 0 := ⟨(tw_at 189 (by decide +kernel) (by decide +kernel)), (tw_at 64 (by decide +kernel) (by decide +kernel)), by decide, by decide, by decide, by decide +kernel⟩
theorem mw_X4_size : MW M_X4_size 0 := ⟨(tw_at 1025 (by decide +kernel) (by decide +kernel)), (tw_at 64 (by decide +kernel) (by decide +kernel)), by decide, by decide, by decide, by decide +kernel⟩
theorem mw_X5_answer : MW M_X5_answer 1 := ⟨(tw_at 1012 (by decide +kernel) (by decide +kernel)), (tw_at 68 (by decide +kernel) (by decide +kernel)), by decide, by decide, by decide, by decide +kernel⟩
theorem mw_X5_canBeIn : MW M_X5_canBeIn 1 := ⟨(tw_at 808 (by decide +kernel) (by decide +kernel)), (tw_at 68 (by decide +kernel) (by decide +kernel)), by decide, by decide, by decide, by decide +kernel⟩
theorem mw_X5_init : MW M_X5_init 6 := ⟨(tw_at 297 (by decide +kernel) (by decide +kernel)), (tw_at 68 (by decide +kernel) (by decide +kernel)), by decide, by decide, by decide, by decide +kernel⟩
theorem mw_X5_moveTo : MW M_X5_moveTo 1 := ⟨(tw_at 678 (by decide +kernel) (by decide +kernel)), (tw_at 68 (by decide +kernel) (by decide +kernel)), by decide, by decide, by decide, by decide +kernel⟩
theorem mw_X5_wasIn : MW M_X5_wasIn 1 := ⟨(tw_at 774 (by decide +kernel) (by decide +kernel)), (tw_at 68 (by decide +kernel) (by decide +kernel)), by decide, by decide, by decide, by decide +kernel⟩
theorem mw_X6_dismissAll : MW M_X6_dismissAll 0 := ⟨(tw_at 671 (by decide +kernel) (by decide +kernel)), (tw_at 65 (by decide +kernel) (by decide +kernel)), by decide, by decide, by decide, by decide +kernel⟩
theorem mw_X6_find : MW M_X6_find 1 := ⟨(tw_at 760 (by decide +kernel) (by decide +kernel)), (tw_at 65 (by decide +kernel) (by decide +kernel)), by decide, by decide, by decide, by decide +kernel⟩
theorem mw_X6_firstOfRow : MW M_X6_firstOfRow 2 := ⟨(tw_at 841 (by decide +kernel) (by decide +kernel)), (tw_at 65 (by decide +kernel) (by decide +kernel)), by decide, by decide, by decide, by decide +kernel⟩
theorem mw_X6_init : MW M_X6_init 1 := ⟨(tw_at 207 (by decide +kernel) (by decide +kernel)), (tw_at 65 (by decide +kernel) (by decide +kernel)), by decide, by decide, by decide, by decide +kernel⟩
theorem mw_X6_layFor : MW M_X6_layFor 1 := ⟨(tw_at 791 (by decide +kernel) (by decide +kernel)), (tw_at 65 (by decide +kernel) (by decide +kernel)), by decide, by decide, by decide, by decide +kernel⟩
theorem mw_X6_lookWhoIsOpen : MW M_X6_lookWhoIsOpen 1 := ⟨(tw_at 795 (by decide +kernel) (by decide +kernel)), (tw_at 65 (by decide +kernel) (by decide +kernel)), by decide, by decide, by decide, by decide +kernel⟩
theorem mw_X6_makeRoom : MW M_X6_makeRoom 3 := ⟨(tw_at 812 (by decide +kernel) (by decide +kernel)), (tw_at 65 (by decide +kernel) (by decide +kernel)), by decide, by decide, by decide, by decide +kernel⟩
theorem mw_X6_measureRows : MW M_X6_measureRows 0 := ⟨(tw_at 837 (by decide +kernel) (by decide +kernel)), (tw_at 65 (by decide +kernel) (by decide +kernel)), by decide, by decide, by decide, by decide +kernel⟩
theorem mw_X6_mend : MW M_X6_mend 2 := ⟨(tw_at 833 (by decide +kernel) (by decide +kernel)), (tw_at 65 (by decide +kernel) (by decide +kernel)), by decide, by decide, by decide, by decide +kernel⟩
theorem mw_X6_seat : MW M_X6_seat 2 := ⟨(tw_at 800 (by decide +kernel) (by decide +kernel)), (tw_at 65 (by decide +kernel) (by decide +kernel)), by decide, by decide, by decide, by decide +kernel⟩
theorem mw_X6_seatAllInLeast : MW M_X6_seatAllInLeast 0 := ⟨(tw_at 816 (by decide +kernel) (by decide +kernel)), (tw_at 65 (by decide +kernel) (by decide +kernel)), by decide, by decide, by decide, by decide +kernel⟩
theorem mw_X6_seatElsewhere : MW M_X6_seatElsewhere 3 := ⟨(tw_at 804 (by decide +kernel) (by decide +kernel)), (tw_at 65 (by decide +kernel) (by decide +kernel)), by decide, by decide, by decide, by decide +kernel⟩
theorem mw_X6_size : MW M_X6_size 0 := ⟨(tw_at 820 (by decide +kernel) (by decide +kernel)), (tw_at 65 (by decide +kernel) (by decide +kernel)), by decide, by decide, by decide, by decide +kernel⟩
theorem mw_X6_startWith : MW M_X6_startWith 1 := ⟨(tw_at 667 (by decide +kernel) (by decide +kernel)), (tw_at 65 (by decide +kernel) (by decide +kernel)), by decide, by decide, by decide, by decide +kernel⟩
theorem mw_X7_add : MW M_X7_add 1 := ⟨(tw_at 452 (by decide +kernel) (by decide +kernel)), (tw_at 61 (by decide +kernel) (by decide +kernel)), by decide, by decide, by decide, by decide +kernel⟩
theorem mw_X7_at : MW M_X7_at 1 := ⟨(tw_at 478 (by decide +kernel) (by decide +kernel)), (tw_at 61 (by decide +kernel) (by decide +kernel)), by decide, by decide, by decide, by decide +kernel⟩
theorem mw_X7_init : MW M_X7_init 1 := ⟨(tw_at 124 (by decide +kernel) (by decide +kernel)), (tw_at 61 (by decide +kernel) (by decide +kernel)), by decide, by decide, by decide, by decide +kernel⟩
theorem mw_X8_init : MW M_X8_init 1 := ⟨(tw_at 718 (by decide +kernel) (by decide +kernel)), (tw_at 80 (by decide +kernel) (by decide +kernel)), by decide, by decide, by decide, by decide +kernel⟩
theorem mw_X8_kindAt : MW M_X8_kindAt 1 := ⟨(tw_at 710 (by decide +kernel) (by decide +kernel)), (tw_at 80 (by decide +kernel) (by decide +kernel)), by decide, by decide, by decide, by decide +kernel⟩
theorem mw_X8_quarters : MW M_X8_quarters 1 := ⟨(tw_at 976 (by decide +kernel) (by decide +kernel)), (tw_at 80 (by decide +kernel) (by decide +kernel)), by decide, by decide, by decide, by decide +kernel⟩
theorem mw_X8_readNumbers : MW M_X8_readNumbers 1 := ⟨(tw_at 739 (by decide +kernel) (by decide +kernel)), (tw_at 80 (by decide +kernel) (by decide +kernel)), by decide, by decide, by decide, by decide +kernel⟩
theorem mw_X8_worth : MW M_X8_worth 2 := ⟨(tw_at 972 (by decide +kernel) (by decide +kernel)), (tw_at 80 (by decide +kernel) (by decide +kernel)), by decide, by decide, by decide, by decide +kernel⟩
theorem mw_X9_advance : MW M_X9_advance 0 := ⟨(tw_at 474 (by decide +kernel) (by decide +kernel)), (tw_at 62 (by decide +kernel) (by decide +kernel)), by decide, by decide, by decide, by decide +kernel⟩
theorem mw_X9_atEnd : MW M_X9_atEnd 0 := ⟨(tw_at 485 (by decide +kernel) (by decide +kernel)), (tw_at 62 (by decide +kernel) (by decide +kernel)), by decide, by decide, by decide, by decide +kernel⟩
theorem mw_X9_begin : MW M_X9_begin 0 := ⟨(tw_at 470 (by decide +kernel) (by decide +kernel)), (tw_at 62 (by decide +kernel) (by decide +kernel)), by decide, by decide, by decide, by decide +kernel⟩
theorem mw_X9_fail : MW M_X9_fail 1 := ⟨(tw_at 540 (by decide +kernel) (by decide +kernel)), (tw_at 62 (by decide +kernel) (by decide +kernel)), by decide, by decide, by decide, by decide +kernel⟩
theorem mw_X9_init : MW M_X9_init 1 := ⟨(tw_at 144 (by decide +kernel) (by decide +kernel)), (tw_at 62 (by decide +kernel) (by decide +kernel)), by decide, by decide, by decide, by decide +kernel⟩
theorem mw_X9_isSign : MW M_X9_isSign 1 := ⟨(tw_at 619 (by decide +kernel) (by decide +kernel)), (tw_at 62 (by decide +kernel) (by decide +kernel)), by decide, by decide, by decide, by decide +kernel⟩
theorem mw_X9_isWord : MW M_X9_isWord 1 := ⟨(tw_at 490 (by decide +kernel) (by decide +kernel)), (tw_at 62 (by decide +kernel) (by decide +kernel)), by decide, by decide, by decide, by decide +kernel⟩
theorem mw_X9_kindOf : MW M_X9_kindOf 1 := ⟨(tw_at 481 (by decide +kernel) (by decide +kernel)), (tw_at 62 (by decide +kernel) (by decide +kernel)), by decide, by decide, by decide, by decide +kernel⟩
theorem mw_X9_passNumber : MW M_X9_passNumber 2 := ⟨(tw_at 607 (by decide +kernel) (by decide +kernel)), (tw_at 62 (by decide +kernel) (by decide +kernel)), by decide, by decide, by decide, by decide +kernel⟩
theorem mw_X9_passNumberAfter : MW M_X9_passNumberAfter 3 := ⟨(tw_at 597 (by decide +kernel) (by decide +kernel)), (tw_at 62 (by decide +kernel) (by decide +kernel)), by decide, by decide, by decide, by decide +kernel⟩
theorem mw_X9_passSign : MW M_X9_passSign 1 := ⟨(tw_at 615 (by decide +kernel) (by decide +kernel)), (tw_at 62 (by decide +kernel) (by decide +kernel)), by decide, by decide, by decide, by decide +kernel⟩
theorem mw_X9_passWord : MW M_X9_passWord 1 := ⟨(tw_at 601 (by decide +kernel) (by decide +kernel)), (tw_at 62 (by decide +kernel) (by decide +kernel)), by decide, by decide, by decide, by decide +kernel⟩
theorem fl_RJx4a65c_48 : FLo RJx4a65c 0 2 48 := ⟨(RJx4a65c, TJx4a65c, 3), "java/util/ArrayList", rfl, by decide, (tw_at 109 (by decide +kernel) (by decide +kernel)), Or.inl rfl⟩
theorem fl_RJx4a65c_63 : FLo RJx4a65c 0 0 63 := ⟨(RJx4a65c, TJx4a65c, 3), "java/util/ArrayList", rfl, by decide, (tw_at 111 (by decide +kernel) (by decide +kernel)), Or.inr (tw_at 112 (by decide +kernel) (by decide +kernel))⟩
theorem fl_RJx4a65c_9 : FLo RJx4a65c 0 1 9 := ⟨(RJx4a65c, TJx4a65c, 3), "java/util/ArrayList", rfl, by decide, (tw_at 108 (by decide +kernel) (by decide +kernel)), Or.inl rfl⟩
theorem fl_RJxc12de_7 : FLo RJxc12de 0 0 7 := ⟨(RJx4a65c, TJx4a65c, 3), "java/util/AbstractList", rfl, by decide, (tw_at 110 (by decide +kernel) (by decide +kernel)), Or.inl rfl⟩
theorem fl_RX0_12 : FLo RX0 1 1 12 := ⟨(RX0, TX0, 2), "ExtrasOffice$Agreement", rfl, by decide, (tw_at 694 (by decide +kernel) (by decide +kernel)), Or.inl rfl⟩
theorem fl_RX0_18 : FLo RX0 1 0 18 := ⟨(RX0, TX0, 2), "ExtrasOffice$Agreement", rfl, by decide, (tw_at 691 (by decide +kernel) (by decide +kernel)), Or.inl rfl⟩
theorem fl_RX0_40 : FLo RX0 9 0 40 := ⟨(RX8, TX8, 4), "ExtrasOffice$Term", rfl, by decide, (tw_at 721 (by decide +kernel) (by decide +kernel)), Or.inl rfl⟩
theorem fl_RX10_15 : FLo RX10 11 1 15 := ⟨(RX10, TX10, 9), "ExtrasOffice$Turn", rfl, by decide, (tw_at 876 (by decide +kernel) (by decide +kernel)), Or.inl rfl⟩
theorem fl_RX10_19 : FLo RX10 11 2 19 := ⟨(RX10, TX10, 9), "ExtrasOffice$Turn", rfl, by decide, (tw_at 878 (by decide +kernel) (by decide +kernel)), Or.inl rfl⟩
theorem fl_RX10_23 : FLo RX10 2 1 23 := ⟨(RX1, TX1, 9), "ExtrasOffice$Ask", rfl, by decide, (tw_at 551 (by decide +kernel) (by decide +kernel)), Or.inl rfl⟩
theorem fl_RX10_28 : FLo RX10 11 3 28 := ⟨(RX10, TX10, 9), "ExtrasOffice$Turn", rfl, by decide, (tw_at 880 (by decide +kernel) (by decide +kernel)), Or.inl rfl⟩
theorem fl_RX10_29 : FLo RX10 2 7 29 := ⟨(RX1, TX1, 9), "ExtrasOffice$Ask", rfl, by decide, (tw_at 567 (by decide +kernel) (by decide +kernel)), Or.inl rfl⟩
theorem fl_RX10_32 : FLo RX10 11 6 32 := ⟨(RX10, TX10, 9), "ExtrasOffice$Turn", rfl, by decide, (tw_at 886 (by decide +kernel) (by decide +kernel)), Or.inl rfl⟩
theorem fl_RX10_33 : FLo RX10 2 3 33 := ⟨(RX1, TX1, 9), "ExtrasOffice$Ask", rfl, by decide, (tw_at 557 (by decide +kernel) (by decide +kernel)), Or.inl rfl⟩
theorem fl_RX10_36 : FLo RX10 11 7 36 := ⟨(RX10, TX10, 9), "ExtrasOffice$Turn", rfl, by decide, (tw_at 887 (by decide +kernel) (by decide +kernel)), Or.inl rfl⟩
theorem fl_RX10_39 : FLo RX10 11 8 39 := ⟨(RX10, TX10, 9), "ExtrasOffice$Turn", rfl, by decide, (tw_at 889 (by decide +kernel) (by decide +kernel)), Or.inl rfl⟩
theorem fl_RX10_43 : FLo RX10 6 7 43 := ⟨(RX5, TX5, 12), "ExtrasOffice$Person", rfl, by decide, (tw_at 317 (by decide +kernel) (by decide +kernel)), Or.inl rfl⟩
theorem fl_RX10_48 : FLo RX10 6 8 48 := ⟨(RX5, TX5, 12), "ExtrasOffice$Person", rfl, by decide, (tw_at 320 (by decide +kernel) (by decide +kernel)), Or.inl rfl⟩
theorem fl_RX10_51 : FLo RX10 11 4 51 := ⟨(RX10, TX10, 9), "ExtrasOffice$Turn", rfl, by decide, (tw_at 883 (by decide +kernel) (by decide +kernel)), Or.inl rfl⟩
theorem fl_RX10_60 : FLo RX10 11 5 60 := ⟨(RX10, TX10, 9), "ExtrasOffice$Turn", rfl, by decide, (tw_at 884 (by decide +kernel) (by decide +kernel)), Or.inl rfl⟩
theorem fl_RX10_63 : FLo RX10 1 0 63 := ⟨(RX0, TX0, 2), "ExtrasOffice$Agreement", rfl, by decide, (tw_at 692 (by decide +kernel) (by decide +kernel)), Or.inl rfl⟩
theorem fl_RX10_9 : FLo RX10 11 0 9 := ⟨(RX10, TX10, 9), "ExtrasOffice$Turn", rfl, by decide, (tw_at 873 (by decide +kernel) (by decide +kernel)), Or.inl rfl⟩
theorem fl_RX11_10 : FLo RX11 12 0 10 := ⟨(RX11, TX11, 11), "ExtrasOffice", rfl, by decide, (tw_at 247 (by decide +kernel) (by decide +kernel)), Or.inl rfl⟩
theorem fl_RX11_101 : FLo RX11 6 6 101 := ⟨(RX5, TX5, 12), "ExtrasOffice$Person", rfl, by decide, (tw_at 314 (by decide +kernel) (by decide +kernel)), Or.inl rfl⟩
theorem fl_RX11_105 : FLo RX11 8 1 105 := ⟨(RX7, TX7, 2), "ExtrasOffice$Row", rfl, by decide, (tw_at 132 (by decide +kernel) (by decide +kernel)), Or.inl rfl⟩
theorem fl_RX11_115 : FLo RX11 10 0 115 := ⟨(RX9, TX9, 7), "ExtrasOffice$Tokens", rfl, by decide, (tw_at 147 (by decide +kernel) (by decide +kernel)), Or.inl rfl⟩
theorem fl_RX11_128 : FLo RX11 1 0 128 := ⟨(RX0, TX0, 2), "ExtrasOffice$Agreement", rfl, by decide, (tw_at 693 (by decide +kernel) (by decide +kernel)), Or.inl rfl⟩
theorem fl_RX11_131 : FLo RX11 10 1 131 := ⟨(RX9, TX9, 7), "ExtrasOffice$Tokens", rfl, by decide, (tw_at 149 (by decide +kernel) (by decide +kernel)), Or.inl rfl⟩
theorem fl_RX11_143 : FLo RX11 12 10 143 := ⟨(RX11, TX11, 11), "ExtrasOffice", rfl, by decide, (tw_at 257 (by decide +kernel) (by decide +kernel)), Or.inl rfl⟩
theorem fl_RX11_150 : FLo RX11 7 0 150 := ⟨(RX6, TX6, 4), "ExtrasOffice$Plan", rfl, by decide, (tw_at 214 (by decide +kernel) (by decide +kernel)), Or.inl rfl⟩
theorem fl_RX11_161 : FLo RX11 2 0 161 := ⟨(RX1, TX1, 9), "ExtrasOffice$Ask", rfl, by decide, (tw_at 550 (by decide +kernel) (by decide +kernel)), Or.inl rfl⟩
theorem fl_RX11_170 : FLo RX11 7 1 170 := ⟨(RX6, TX6, 4), "ExtrasOffice$Plan", rfl, by decide, (tw_at 216 (by decide +kernel) (by decide +kernel)), Or.inl rfl⟩
theorem fl_RX11_200 : FLo RX11 5 2 200 := ⟨(RX4, TX4, 3), "ExtrasOffice$Facts", rfl, by decide, (tw_at 195 (by decide +kernel) (by decide +kernel)), Or.inl rfl⟩
theorem fl_RX11_21 : FLo RX11 12 1 21 := ⟨(RX11, TX11, 11), "ExtrasOffice", rfl, by decide, (tw_at 248 (by decide +kernel) (by decide +kernel)), Or.inl rfl⟩
theorem fl_RX11_222 : FLo RX11 6 8 222 := ⟨(RX5, TX5, 12), "ExtrasOffice$Person", rfl, by decide, (tw_at 323 (by decide +kernel) (by decide +kernel)), Or.inl rfl⟩
theorem fl_RX11_230 : FLo RX11 6 4 230 := ⟨(RX5, TX5, 12), "ExtrasOffice$Person", rfl, by decide, (tw_at 311 (by decide +kernel) (by decide +kernel)), Or.inl rfl⟩
theorem fl_RX11_235 : FLo RX11 11 0 235 := ⟨(RX10, TX10, 9), "ExtrasOffice$Turn", rfl, by decide, (tw_at 875 (by decide +kernel) (by decide +kernel)), Or.inl rfl⟩
theorem fl_RX11_239 : FLo RX11 6 0 239 := ⟨(RX5, TX5, 12), "ExtrasOffice$Person", rfl, by decide, (tw_at 302 (by decide +kernel) (by decide +kernel)), Or.inl rfl⟩
theorem fl_RX11_240 : FLo RX11 11 1 240 := ⟨(RX10, TX10, 9), "ExtrasOffice$Turn", rfl, by decide, (tw_at 877 (by decide +kernel) (by decide +kernel)), Or.inl rfl⟩
theorem fl_RX11_244 : FLo RX11 4 0 244 := ⟨(RX3, TX3, 3), "ExtrasOffice$Dressing", rfl, by decide, (tw_at 237 (by decide +kernel) (by decide +kernel)), Or.inl rfl⟩
theorem fl_RX11_251 : FLo RX11 11 3 251 := ⟨(RX10, TX10, 9), "ExtrasOffice$Turn", rfl, by decide, (tw_at 881 (by decide +kernel) (by decide +kernel)), Or.inl rfl⟩
theorem fl_RX11_254 : FLo RX11 11 7 254 := ⟨(RX10, TX10, 9), "ExtrasOffice$Turn", rfl, by decide, (tw_at 888 (by decide +kernel) (by decide +kernel)), Or.inl rfl⟩
theorem fl_RX11_30 : FLo RX11 12 2 30 := ⟨(RX11, TX11, 11), "ExtrasOffice", rfl, by decide, (tw_at 249 (by decide +kernel) (by decide +kernel)), Or.inl rfl⟩
theorem fl_RX11_39 : FLo RX11 12 3 39 := ⟨(RX11, TX11, 11), "ExtrasOffice", rfl, by decide, (tw_at 250 (by decide +kernel) (by decide +kernel)), Or.inl rfl⟩
theorem fl_RX11_43 : FLo RX11 12 4 43 := ⟨(RX11, TX11, 11), "ExtrasOffice", rfl, by decide, (tw_at 251 (by decide +kernel) (by decide +kernel)), Or.inl rfl⟩
theorem fl_RX11_49 : FLo RX11 12 5 49 := ⟨(RX11, TX11, 11), "ExtrasOffice", rfl, by decide, (tw_at 252 (by decide +kernel) (by decide +kernel)), Or.inl rfl⟩
theorem fl_RX11_58 : FLo RX11 12 6 58 := ⟨(RX11, TX11, 11), "ExtrasOffice", rfl, by decide, (tw_at 253 (by decide +kernel) (by decide +kernel)), Or.inl rfl⟩
theorem fl_RX11_65 : FLo RX11 12 7 65 := ⟨(RX11, TX11, 11), "ExtrasOffice", rfl, by decide, (tw_at 254 (by decide +kernel) (by decide +kernel)), Or.inl rfl⟩
theorem fl_RX11_69 : FLo RX11 12 8 69 := ⟨(RX11, TX11, 11), "ExtrasOffice", rfl, by decide, (tw_at 255 (by decide +kernel) (by decide +kernel)), Or.inl rfl⟩
theorem fl_RX11_72 : FLo RX11 12 9 72 := ⟨(RX11, TX11, 11), "ExtrasOffice", rfl, by decide, (tw_at 256 (by decide +kernel) (by decide +kernel)), Or.inl rfl⟩
theorem fl_RX11_97 : FLo RX11 6 11 97 := ⟨(RX5, TX5, 12), "ExtrasOffice$Person", rfl, by decide, (tw_at 329 (by decide +kernel) (by decide +kernel)), Or.inl rfl⟩
theorem fl_RX12_1 : FLo RX12 13 0 1 := ⟨(RX12, TX12, 68), "ExtrasOfficeModel", rfl, by decide, (tw_at 1114 (by decide +kernel) (by decide +kernel)), Or.inl rfl⟩
theorem fl_RX12_100 : FLo RX12 13 47 100 := ⟨(RX12, TX12, 68), "ExtrasOfficeModel", rfl, by decide, (tw_at 1161 (by decide +kernel) (by decide +kernel)), Or.inl rfl⟩
theorem fl_RX12_103 : FLo RX12 13 50 103 := ⟨(RX12, TX12, 68), "ExtrasOfficeModel", rfl, by decide, (tw_at 1164 (by decide +kernel) (by decide +kernel)), Or.inl rfl⟩
theorem fl_RX12_106 : FLo RX12 13 51 106 := ⟨(RX12, TX12, 68), "ExtrasOfficeModel", rfl, by decide, (tw_at 1165 (by decide +kernel) (by decide +kernel)), Or.inl rfl⟩
theorem fl_RX12_109 : FLo RX12 13 52 109 := ⟨(RX12, TX12, 68), "ExtrasOfficeModel", rfl, by decide, (tw_at 1166 (by decide +kernel) (by decide +kernel)), Or.inl rfl⟩
theorem fl_RX12_112 : FLo RX12 13 53 112 := ⟨(RX12, TX12, 68), "ExtrasOfficeModel", rfl, by decide, (tw_at 1167 (by decide +kernel) (by decide +kernel)), Or.inl rfl⟩
theorem fl_RX12_115 : FLo RX12 13 54 115 := ⟨(RX12, TX12, 68), "ExtrasOfficeModel", rfl, by decide, (tw_at 1168 (by decide +kernel) (by decide +kernel)), Or.inl rfl⟩
theorem fl_RX12_118 : FLo RX12 13 56 118 := ⟨(RX12, TX12, 68), "ExtrasOfficeModel", rfl, by decide, (tw_at 1170 (by decide +kernel) (by decide +kernel)), Or.inl rfl⟩
theorem fl_RX12_121 : FLo RX12 13 57 121 := ⟨(RX12, TX12, 68), "ExtrasOfficeModel", rfl, by decide, (tw_at 1171 (by decide +kernel) (by decide +kernel)), Or.inl rfl⟩
theorem fl_RX12_124 : FLo RX12 13 58 124 := ⟨(RX12, TX12, 68), "ExtrasOfficeModel", rfl, by decide, (tw_at 1172 (by decide +kernel) (by decide +kernel)), Or.inl rfl⟩
theorem fl_RX12_127 : FLo RX12 13 59 127 := ⟨(RX12, TX12, 68), "ExtrasOfficeModel", rfl, by decide, (tw_at 1173 (by decide +kernel) (by decide +kernel)), Or.inl rfl⟩
theorem fl_RX12_13 : FLo RX12 13 3 13 := ⟨(RX12, TX12, 68), "ExtrasOfficeModel", rfl, by decide, (tw_at 1117 (by decide +kernel) (by decide +kernel)), Or.inl rfl⟩
theorem fl_RX12_130 : FLo RX12 13 60 130 := ⟨(RX12, TX12, 68), "ExtrasOfficeModel", rfl, by decide, (tw_at 1174 (by decide +kernel) (by decide +kernel)), Or.inl rfl⟩
theorem fl_RX12_133 : FLo RX12 13 61 133 := ⟨(RX12, TX12, 68), "ExtrasOfficeModel", rfl, by decide, (tw_at 1175 (by decide +kernel) (by decide +kernel)), Or.inl rfl⟩
theorem fl_RX12_136 : FLo RX12 13 62 136 := ⟨(RX12, TX12, 68), "ExtrasOfficeModel", rfl, by decide, (tw_at 1176 (by decide +kernel) (by decide +kernel)), Or.inl rfl⟩
theorem fl_RX12_139 : FLo RX12 13 63 139 := ⟨(RX12, TX12, 68), "ExtrasOfficeModel", rfl, by decide, (tw_at 1177 (by decide +kernel) (by decide +kernel)), Or.inl rfl⟩
theorem fl_RX12_142 : FLo RX12 13 64 142 := ⟨(RX12, TX12, 68), "ExtrasOfficeModel", rfl, by decide, (tw_at 1178 (by decide +kernel) (by decide +kernel)), Or.inl rfl⟩
theorem fl_RX12_145 : FLo RX12 13 65 145 := ⟨(RX12, TX12, 68), "ExtrasOfficeModel", rfl, by decide, (tw_at 1179 (by decide +kernel) (by decide +kernel)), Or.inl rfl⟩
theorem fl_RX12_148 : FLo RX12 13 66 148 := ⟨(RX12, TX12, 68), "ExtrasOfficeModel", rfl, by decide, (tw_at 1180 (by decide +kernel) (by decide +kernel)), Or.inl rfl⟩
theorem fl_RX12_151 : FLo RX12 13 1 151 := ⟨(RX12, TX12, 68), "ExtrasOfficeModel", rfl, by decide, (tw_at 1115 (by decide +kernel) (by decide +kernel)), Or.inl rfl⟩
theorem fl_RX12_163 : FLo RX12 13 12 163 := ⟨(RX12, TX12, 68), "ExtrasOfficeModel", rfl, by decide, (tw_at 1126 (by decide +kernel) (by decide +kernel)), Or.inl rfl⟩
theorem fl_RX12_166 : FLo RX12 13 13 166 := ⟨(RX12, TX12, 68), "ExtrasOfficeModel", rfl, by decide, (tw_at 1127 (by decide +kernel) (by decide +kernel)), Or.inl rfl⟩
theorem fl_RX12_17 : FLo RX12 13 4 17 := ⟨(RX12, TX12, 68), "ExtrasOfficeModel", rfl, by decide, (tw_at 1118 (by decide +kernel) (by decide +kernel)), Or.inl rfl⟩
theorem fl_RX12_177 : FLo RX12 13 17 177 := ⟨(RX12, TX12, 68), "ExtrasOfficeModel", rfl, by decide, (tw_at 1131 (by decide +kernel) (by decide +kernel)), Or.inl rfl⟩
theorem fl_RX12_180 : FLo RX12 13 19 180 := ⟨(RX12, TX12, 68), "ExtrasOfficeModel", rfl, by decide, (tw_at 1133 (by decide +kernel) (by decide +kernel)), Or.inl rfl⟩
theorem fl_RX12_183 : FLo RX12 13 18 183 := ⟨(RX12, TX12, 68), "ExtrasOfficeModel", rfl, by decide, (tw_at 1132 (by decide +kernel) (by decide +kernel)), Or.inl rfl⟩
theorem fl_RX12_186 : FLo RX12 13 20 186 := ⟨(RX12, TX12, 68), "ExtrasOfficeModel", rfl, by decide, (tw_at 1134 (by decide +kernel) (by decide +kernel)), Or.inl rfl⟩
theorem fl_RX12_189 : FLo RX12 13 21 189 := ⟨(RX12, TX12, 68), "ExtrasOfficeModel", rfl, by decide, (tw_at 1135 (by decide +kernel) (by decide +kernel)), Or.inl rfl⟩
theorem fl_RX12_192 : FLo RX12 13 22 192 := ⟨(RX12, TX12, 68), "ExtrasOfficeModel", rfl, by decide, (tw_at 1136 (by decide +kernel) (by decide +kernel)), Or.inl rfl⟩
theorem fl_RX12_20 : FLo RX12 13 5 20 := ⟨(RX12, TX12, 68), "ExtrasOfficeModel", rfl, by decide, (tw_at 1119 (by decide +kernel) (by decide +kernel)), Or.inl rfl⟩
theorem fl_RX12_205 : FLo RX12 13 23 205 := ⟨(RX12, TX12, 68), "ExtrasOfficeModel", rfl, by decide, (tw_at 1137 (by decide +kernel) (by decide +kernel)), Or.inl rfl⟩
theorem fl_RX12_221 : FLo RX12 13 24 221 := ⟨(RX12, TX12, 68), "ExtrasOfficeModel", rfl, by decide, (tw_at 1138 (by decide +kernel) (by decide +kernel)), Or.inl rfl⟩
theorem fl_RX12_224 : FLo RX12 13 25 224 := ⟨(RX12, TX12, 68), "ExtrasOfficeModel", rfl, by decide, (tw_at 1139 (by decide +kernel) (by decide +kernel)), Or.inl rfl⟩
theorem fl_RX12_23 : FLo RX12 13 6 23 := ⟨(RX12, TX12, 68), "ExtrasOfficeModel", rfl, by decide, (tw_at 1120 (by decide +kernel) (by decide +kernel)), Or.inl rfl⟩
theorem fl_RX12_26 : FLo RX12 13 7 26 := ⟨(RX12, TX12, 68), "ExtrasOfficeModel", rfl, by decide, (tw_at 1121 (by decide +kernel) (by decide +kernel)), Or.inl rfl⟩
theorem fl_RX12_263 : FLo RX12 13 27 263 := ⟨(RX12, TX12, 68), "ExtrasOfficeModel", rfl, by decide, (tw_at 1141 (by decide +kernel) (by decide +kernel)), Or.inl rfl⟩
theorem fl_RX12_267 : FLo RX12 13 28 267 := ⟨(RX12, TX12, 68), "ExtrasOfficeModel", rfl, by decide, (tw_at 1142 (by decide +kernel) (by decide +kernel)), Or.inl rfl⟩
theorem fl_RX12_277 : FLo RX12 13 37 277 := ⟨(RX12, TX12, 68), "ExtrasOfficeModel", rfl, by decide, (tw_at 1151 (by decide +kernel) (by decide +kernel)), Or.inl rfl⟩
theorem fl_RX12_29 : FLo RX12 13 8 29 := ⟨(RX12, TX12, 68), "ExtrasOfficeModel", rfl, by decide, (tw_at 1122 (by decide +kernel) (by decide +kernel)), Or.inl rfl⟩
theorem fl_RX12_295 : FLo RX12 13 31 295 := ⟨(RX12, TX12, 68), "ExtrasOfficeModel", rfl, by decide, (tw_at 1145 (by decide +kernel) (by decide +kernel)), Or.inl rfl⟩
theorem fl_RX12_298 : FLo RX12 13 29 298 := ⟨(RX12, TX12, 68), "ExtrasOfficeModel", rfl, by decide, (tw_at 1143 (by decide +kernel) (by decide +kernel)), Or.inl rfl⟩
theorem fl_RX12_304 : FLo RX12 13 2 304 := ⟨(RX12, TX12, 68), "ExtrasOfficeModel", rfl, by decide, (tw_at 1116 (by decide +kernel) (by decide +kernel)), Or.inl rfl⟩
theorem fl_RX12_33 : FLo RX12 13 9 33 := ⟨(RX12, TX12, 68), "ExtrasOfficeModel", rfl, by decide, (tw_at 1123 (by decide +kernel) (by decide +kernel)), Or.inl rfl⟩
theorem fl_RX12_334 : FLo RX12 13 48 334 := ⟨(RX12, TX12, 68), "ExtrasOfficeModel", rfl, by decide, (tw_at 1162 (by decide +kernel) (by decide +kernel)), Or.inl rfl⟩
theorem fl_RX12_345 : FLo RX12 13 49 345 := ⟨(RX12, TX12, 68), "ExtrasOfficeModel", rfl, by decide, (tw_at 1163 (by decide +kernel) (by decide +kernel)), Or.inl rfl⟩
theorem fl_RX12_36 : FLo RX12 13 10 36 := ⟨(RX12, TX12, 68), "ExtrasOfficeModel", rfl, by decide, (tw_at 1124 (by decide +kernel) (by decide +kernel)), Or.inl rfl⟩
theorem fl_RX12_375 : FLo RX12 13 55 375 := ⟨(RX12, TX12, 68), "ExtrasOfficeModel", rfl, by decide, (tw_at 1169 (by decide +kernel) (by decide +kernel)), Or.inl rfl⟩
theorem fl_RX12_384 : FLo RX12 13 67 384 := ⟨(RX12, TX12, 68), "ExtrasOfficeModel", rfl, by decide, (tw_at 1181 (by decide +kernel) (by decide +kernel)), Or.inl rfl⟩
theorem fl_RX12_39 : FLo RX12 13 11 39 := ⟨(RX12, TX12, 68), "ExtrasOfficeModel", rfl, by decide, (tw_at 1125 (by decide +kernel) (by decide +kernel)), Or.inl rfl⟩
theorem fl_RX12_42 : FLo RX12 13 14 42 := ⟨(RX12, TX12, 68), "ExtrasOfficeModel", rfl, by decide, (tw_at 1128 (by decide +kernel) (by decide +kernel)), Or.inl rfl⟩
theorem fl_RX12_45 : FLo RX12 13 15 45 := ⟨(RX12, TX12, 68), "ExtrasOfficeModel", rfl, by decide, (tw_at 1129 (by decide +kernel) (by decide +kernel)), Or.inl rfl⟩
theorem fl_RX12_48 : FLo RX12 13 16 48 := ⟨(RX12, TX12, 68), "ExtrasOfficeModel", rfl, by decide, (tw_at 1130 (by decide +kernel) (by decide +kernel)), Or.inl rfl⟩
theorem fl_RX12_52 : FLo RX12 13 26 52 := ⟨(RX12, TX12, 68), "ExtrasOfficeModel", rfl, by decide, (tw_at 1140 (by decide +kernel) (by decide +kernel)), Or.inl rfl⟩
theorem fl_RX12_55 : FLo RX12 13 30 55 := ⟨(RX12, TX12, 68), "ExtrasOfficeModel", rfl, by decide, (tw_at 1144 (by decide +kernel) (by decide +kernel)), Or.inl rfl⟩
theorem fl_RX12_58 : FLo RX12 13 32 58 := ⟨(RX12, TX12, 68), "ExtrasOfficeModel", rfl, by decide, (tw_at 1146 (by decide +kernel) (by decide +kernel)), Or.inl rfl⟩
theorem fl_RX12_61 : FLo RX12 13 33 61 := ⟨(RX12, TX12, 68), "ExtrasOfficeModel", rfl, by decide, (tw_at 1147 (by decide +kernel) (by decide +kernel)), Or.inl rfl⟩
theorem fl_RX12_64 : FLo RX12 13 34 64 := ⟨(RX12, TX12, 68), "ExtrasOfficeModel", rfl, by decide, (tw_at 1148 (by decide +kernel) (by decide +kernel)), Or.inl rfl⟩
theorem fl_RX12_67 : FLo RX12 13 35 67 := ⟨(RX12, TX12, 68), "ExtrasOfficeModel", rfl, by decide, (tw_at 1149 (by decide +kernel) (by decide +kernel)), Or.inl rfl⟩
theorem fl_RX12_70 : FLo RX12 13 36 70 := ⟨(RX12, TX12, 68), "ExtrasOfficeModel", rfl, by decide, (tw_at 1150 (by decide +kernel) (by decide +kernel)), Or.inl rfl⟩
theorem fl_RX12_73 : FLo RX12 13 38 73 := ⟨(RX12, TX12, 68), "ExtrasOfficeModel", rfl, by decide, (tw_at 1152 (by decide +kernel) (by decide +kernel)), Or.inl rfl⟩
theorem fl_RX12_76 : FLo RX12 13 39 76 := ⟨(RX12, TX12, 68), "ExtrasOfficeModel", rfl, by decide, (tw_at 1153 (by decide +kernel) (by decide +kernel)), Or.inl rfl⟩
theorem fl_RX12_79 : FLo RX12 13 40 79 := ⟨(RX12, TX12, 68), "ExtrasOfficeModel", rfl, by decide, (tw_at 1154 (by decide +kernel) (by decide +kernel)), Or.inl rfl⟩
theorem fl_RX12_82 : FLo RX12 13 41 82 := ⟨(RX12, TX12, 68), "ExtrasOfficeModel", rfl, by decide, (tw_at 1155 (by decide +kernel) (by decide +kernel)), Or.inl rfl⟩
theorem fl_RX12_85 : FLo RX12 13 42 85 := ⟨(RX12, TX12, 68), "ExtrasOfficeModel", rfl, by decide, (tw_at 1156 (by decide +kernel) (by decide +kernel)), Or.inl rfl⟩
theorem fl_RX12_88 : FLo RX12 13 43 88 := ⟨(RX12, TX12, 68), "ExtrasOfficeModel", rfl, by decide, (tw_at 1157 (by decide +kernel) (by decide +kernel)), Or.inl rfl⟩
theorem fl_RX12_91 : FLo RX12 13 44 91 := ⟨(RX12, TX12, 68), "ExtrasOfficeModel", rfl, by decide, (tw_at 1158 (by decide +kernel) (by decide +kernel)), Or.inl rfl⟩
theorem fl_RX12_94 : FLo RX12 13 45 94 := ⟨(RX12, TX12, 68), "ExtrasOfficeModel", rfl, by decide, (tw_at 1159 (by decide +kernel) (by decide +kernel)), Or.inl rfl⟩
theorem fl_RX12_97 : FLo RX12 13 46 97 := ⟨(RX12, TX12, 68), "ExtrasOfficeModel", rfl, by decide, (tw_at 1160 (by decide +kernel) (by decide +kernel)), Or.inl rfl⟩
theorem fl_RX1_15 : FLo RX1 2 0 15 := ⟨(RX1, TX1, 9), "ExtrasOffice$Ask", rfl, by decide, (tw_at 547 (by decide +kernel) (by decide +kernel)), Or.inl rfl⟩
theorem fl_RX1_22 : FLo RX1 8 1 22 := ⟨(RX7, TX7, 2), "ExtrasOffice$Row", rfl, by decide, (tw_at 130 (by decide +kernel) (by decide +kernel)), Or.inl rfl⟩
theorem fl_RX1_37 : FLo RX1 6 6 37 := ⟨(RX5, TX5, 12), "ExtrasOffice$Person", rfl, by decide, (tw_at 315 (by decide +kernel) (by decide +kernel)), Or.inl rfl⟩
theorem fl_RX1_43 : FLo RX1 6 8 43 := ⟨(RX5, TX5, 12), "ExtrasOffice$Person", rfl, by decide, (tw_at 321 (by decide +kernel) (by decide +kernel)), Or.inl rfl⟩
theorem fl_RX1_46 : FLo RX1 2 2 46 := ⟨(RX1, TX1, 9), "ExtrasOffice$Ask", rfl, by decide, (tw_at 556 (by decide +kernel) (by decide +kernel)), Or.inl rfl⟩
theorem fl_RX1_60 : FLo RX1 6 3 60 := ⟨(RX5, TX5, 12), "ExtrasOffice$Person", rfl, by decide, (tw_at 308 (by decide +kernel) (by decide +kernel)), Or.inl rfl⟩
theorem fl_RX1_63 : FLo RX1 6 4 63 := ⟨(RX5, TX5, 12), "ExtrasOffice$Person", rfl, by decide, (tw_at 310 (by decide +kernel) (by decide +kernel)), Or.inl rfl⟩
theorem fl_RX1_70 : FLo RX1 6 1 70 := ⟨(RX5, TX5, 12), "ExtrasOffice$Person", rfl, by decide, (tw_at 304 (by decide +kernel) (by decide +kernel)), Or.inl rfl⟩
theorem fl_RX1_73 : FLo RX1 6 2 73 := ⟨(RX5, TX5, 12), "ExtrasOffice$Person", rfl, by decide, (tw_at 306 (by decide +kernel) (by decide +kernel)), Or.inl rfl⟩
theorem fl_RX1_76 : FLo RX1 2 1 76 := ⟨(RX1, TX1, 9), "ExtrasOffice$Ask", rfl, by decide, (tw_at 553 (by decide +kernel) (by decide +kernel)), Or.inl rfl⟩
theorem fl_RX1_79 : FLo RX1 2 3 79 := ⟨(RX1, TX1, 9), "ExtrasOffice$Ask", rfl, by decide, (tw_at 559 (by decide +kernel) (by decide +kernel)), Or.inl rfl⟩
theorem fl_RX1_82 : FLo RX1 2 4 82 := ⟨(RX1, TX1, 9), "ExtrasOffice$Ask", rfl, by decide, (tw_at 561 (by decide +kernel) (by decide +kernel)), Or.inl rfl⟩
theorem fl_RX1_85 : FLo RX1 2 6 85 := ⟨(RX1, TX1, 9), "ExtrasOffice$Ask", rfl, by decide, (tw_at 566 (by decide +kernel) (by decide +kernel)), Or.inl rfl⟩
theorem fl_RX1_9 : FLo RX1 2 5 9 := ⟨(RX1, TX1, 9), "ExtrasOffice$Ask", rfl, by decide, (tw_at 563 (by decide +kernel) (by decide +kernel)), Or.inl rfl⟩
theorem fl_RX2_14 : FLo RX2 3 1 14 := ⟨(RX2, TX2, 2), "ExtrasOffice$AskReader", rfl, by decide, (tw_at 179 (by decide +kernel) (by decide +kernel)), Or.inl rfl⟩
theorem fl_RX2_20 : FLo RX2 3 0 20 := ⟨(RX2, TX2, 2), "ExtrasOffice$AskReader", rfl, by decide, (tw_at 178 (by decide +kernel) (by decide +kernel)), Or.inl rfl⟩
theorem fl_RX2_49 : FLo RX2 8 1 49 := ⟨(RX7, TX7, 2), "ExtrasOffice$Row", rfl, by decide, (tw_at 129 (by decide +kernel) (by decide +kernel)), Or.inl rfl⟩
theorem fl_RX2_76 : FLo RX2 2 1 76 := ⟨(RX1, TX1, 9), "ExtrasOffice$Ask", rfl, by decide, (tw_at 552 (by decide +kernel) (by decide +kernel)), Or.inl rfl⟩
theorem fl_RX2_80 : FLo RX2 2 2 80 := ⟨(RX1, TX1, 9), "ExtrasOffice$Ask", rfl, by decide, (tw_at 555 (by decide +kernel) (by decide +kernel)), Or.inl rfl⟩
theorem fl_RX2_85 : FLo RX2 2 3 85 := ⟨(RX1, TX1, 9), "ExtrasOffice$Ask", rfl, by decide, (tw_at 558 (by decide +kernel) (by decide +kernel)), Or.inl rfl⟩
theorem fl_RX2_90 : FLo RX2 2 4 90 := ⟨(RX1, TX1, 9), "ExtrasOffice$Ask", rfl, by decide, (tw_at 560 (by decide +kernel) (by decide +kernel)), Or.inl rfl⟩
theorem fl_RX3_12 : FLo RX3 4 0 12 := ⟨(RX3, TX3, 3), "ExtrasOffice$Dressing", rfl, by decide, (tw_at 236 (by decide +kernel) (by decide +kernel)), Or.inl rfl⟩
theorem fl_RX3_18 : FLo RX3 4 1 18 := ⟨(RX3, TX3, 3), "ExtrasOffice$Dressing", rfl, by decide, (tw_at 238 (by decide +kernel) (by decide +kernel)), Or.inl rfl⟩
theorem fl_RX3_21 : FLo RX3 4 2 21 := ⟨(RX3, TX3, 3), "ExtrasOffice$Dressing", rfl, by decide, (tw_at 239 (by decide +kernel) (by decide +kernel)), Or.inl rfl⟩
theorem fl_RX3_38 : FLo RX3 6 11 38 := ⟨(RX5, TX5, 12), "ExtrasOffice$Person", rfl, by decide, (tw_at 328 (by decide +kernel) (by decide +kernel)), Or.inl rfl⟩
theorem fl_RX3_51 : FLo RX3 2 2 51 := ⟨(RX1, TX1, 9), "ExtrasOffice$Ask", rfl, by decide, (tw_at 554 (by decide +kernel) (by decide +kernel)), Or.inl rfl⟩
theorem fl_RX3_57 : FLo RX3 11 4 57 := ⟨(RX10, TX10, 9), "ExtrasOffice$Turn", rfl, by decide, (tw_at 882 (by decide +kernel) (by decide +kernel)), Or.inl rfl⟩
theorem fl_RX3_81 : FLo RX3 11 0 81 := ⟨(RX10, TX10, 9), "ExtrasOffice$Turn", rfl, by decide, (tw_at 874 (by decide +kernel) (by decide +kernel)), Or.inl rfl⟩
theorem fl_RX3_85 : FLo RX3 6 5 85 := ⟨(RX5, TX5, 12), "ExtrasOffice$Person", rfl, by decide, (tw_at 313 (by decide +kernel) (by decide +kernel)), Or.inl rfl⟩
theorem fl_RX3_88 : FLo RX3 11 5 88 := ⟨(RX10, TX10, 9), "ExtrasOffice$Turn", rfl, by decide, (tw_at 885 (by decide +kernel) (by decide +kernel)), Or.inl rfl⟩
theorem fl_RX3_91 : FLo RX3 11 2 91 := ⟨(RX10, TX10, 9), "ExtrasOffice$Turn", rfl, by decide, (tw_at 879 (by decide +kernel) (by decide +kernel)), Or.inl rfl⟩
theorem fl_RX3_94 : FLo RX3 2 7 94 := ⟨(RX1, TX1, 9), "ExtrasOffice$Ask", rfl, by decide, (tw_at 568 (by decide +kernel) (by decide +kernel)), Or.inl rfl⟩
theorem fl_RX4_14 : FLo RX4 5 0 14 := ⟨(RX4, TX4, 3), "ExtrasOffice$Facts", rfl, by decide, (tw_at 193 (by decide +kernel) (by decide +kernel)), Or.inl rfl⟩
theorem fl_RX4_20 : FLo RX4 5 1 20 := ⟨(RX4, TX4, 3), "ExtrasOffice$Facts", rfl, by decide, (tw_at 194 (by decide +kernel) (by decide +kernel)), Or.inl rfl⟩
theorem fl_RX4_23 : FLo RX4 8 1 23 := ⟨(RX7, TX7, 2), "ExtrasOffice$Row", rfl, by decide, (tw_at 128 (by decide +kernel) (by decide +kernel)), Or.inl rfl⟩
theorem fl_RX4_27 : FLo RX4 6 0 27 := ⟨(RX5, TX5, 12), "ExtrasOffice$Person", rfl, by decide, (tw_at 300 (by decide +kernel) (by decide +kernel)), Or.inl rfl⟩
theorem fl_RX4_35 : FLo RX4 6 9 35 := ⟨(RX5, TX5, 12), "ExtrasOffice$Person", rfl, by decide, (tw_at 325 (by decide +kernel) (by decide +kernel)), Or.inl rfl⟩
theorem fl_RX5_15 : FLo RX5 6 1 15 := ⟨(RX5, TX5, 12), "ExtrasOffice$Person", rfl, by decide, (tw_at 303 (by decide +kernel) (by decide +kernel)), Or.inl rfl⟩
theorem fl_RX5_18 : FLo RX5 6 2 18 := ⟨(RX5, TX5, 12), "ExtrasOffice$Person", rfl, by decide, (tw_at 305 (by decide +kernel) (by decide +kernel)), Or.inl rfl⟩
theorem fl_RX5_21 : FLo RX5 6 3 21 := ⟨(RX5, TX5, 12), "ExtrasOffice$Person", rfl, by decide, (tw_at 307 (by decide +kernel) (by decide +kernel)), Or.inl rfl⟩
theorem fl_RX5_24 : FLo RX5 6 4 24 := ⟨(RX5, TX5, 12), "ExtrasOffice$Person", rfl, by decide, (tw_at 309 (by decide +kernel) (by decide +kernel)), Or.inl rfl⟩
theorem fl_RX5_27 : FLo RX5 6 5 27 := ⟨(RX5, TX5, 12), "ExtrasOffice$Person", rfl, by decide, (tw_at 312 (by decide +kernel) (by decide +kernel)), Or.inl rfl⟩
theorem fl_RX5_30 : FLo RX5 6 9 30 := ⟨(RX5, TX5, 12), "ExtrasOffice$Person", rfl, by decide, (tw_at 324 (by decide +kernel) (by decide +kernel)), Or.inl rfl⟩
theorem fl_RX5_33 : FLo RX5 6 10 33 := ⟨(RX5, TX5, 12), "ExtrasOffice$Person", rfl, by decide, (tw_at 326 (by decide +kernel) (by decide +kernel)), Or.inl rfl⟩
theorem fl_RX5_36 : FLo RX5 2 0 36 := ⟨(RX1, TX1, 9), "ExtrasOffice$Ask", rfl, by decide, (tw_at 548 (by decide +kernel) (by decide +kernel)), Or.inl rfl⟩
theorem fl_RX5_39 : FLo RX5 6 11 39 := ⟨(RX5, TX5, 12), "ExtrasOffice$Person", rfl, by decide, (tw_at 330 (by decide +kernel) (by decide +kernel)), Or.inl rfl⟩
theorem fl_RX5_43 : FLo RX5 2 6 43 := ⟨(RX1, TX1, 9), "ExtrasOffice$Ask", rfl, by decide, (tw_at 565 (by decide +kernel) (by decide +kernel)), Or.inl rfl⟩
theorem fl_RX5_46 : FLo RX5 6 6 46 := ⟨(RX5, TX5, 12), "ExtrasOffice$Person", rfl, by decide, (tw_at 316 (by decide +kernel) (by decide +kernel)), Or.inl rfl⟩
theorem fl_RX5_50 : FLo RX5 6 7 50 := ⟨(RX5, TX5, 12), "ExtrasOffice$Person", rfl, by decide, (tw_at 318 (by decide +kernel) (by decide +kernel)), Or.inl rfl⟩
theorem fl_RX5_53 : FLo RX5 6 8 53 := ⟨(RX5, TX5, 12), "ExtrasOffice$Person", rfl, by decide, (tw_at 322 (by decide +kernel) (by decide +kernel)), Or.inl rfl⟩
theorem fl_RX5_9 : FLo RX5 6 0 9 := ⟨(RX5, TX5, 12), "ExtrasOffice$Person", rfl, by decide, (tw_at 299 (by decide +kernel) (by decide +kernel)), Or.inl rfl⟩
theorem fl_RX6_101 : FLo RX6 8 1 101 := ⟨(RX7, TX7, 2), "ExtrasOffice$Row", rfl, by decide, (tw_at 133 (by decide +kernel) (by decide +kernel)), Or.inl rfl⟩
theorem fl_RX6_103 : FLo RX6 2 8 103 := ⟨(RX1, TX1, 9), "ExtrasOffice$Ask", rfl, by decide, (tw_at 569 (by decide +kernel) (by decide +kernel)), Or.inl rfl⟩
theorem fl_RX6_110 : FLo RX6 6 0 110 := ⟨(RX5, TX5, 12), "ExtrasOffice$Person", rfl, by decide, (tw_at 301 (by decide +kernel) (by decide +kernel)), Or.inl rfl⟩
theorem fl_RX6_12 : FLo RX6 7 0 12 := ⟨(RX6, TX6, 4), "ExtrasOffice$Plan", rfl, by decide, (tw_at 213 (by decide +kernel) (by decide +kernel)), Or.inl rfl⟩
theorem fl_RX6_23 : FLo RX6 7 1 23 := ⟨(RX6, TX6, 4), "ExtrasOffice$Plan", rfl, by decide, (tw_at 215 (by decide +kernel) (by decide +kernel)), Or.inl rfl⟩
theorem fl_RX6_27 : FLo RX6 7 2 27 := ⟨(RX6, TX6, 4), "ExtrasOffice$Plan", rfl, by decide, (tw_at 217 (by decide +kernel) (by decide +kernel)), Or.inl rfl⟩
theorem fl_RX6_40 : FLo RX6 2 6 40 := ⟨(RX1, TX1, 9), "ExtrasOffice$Ask", rfl, by decide, (tw_at 564 (by decide +kernel) (by decide +kernel)), Or.inl rfl⟩
theorem fl_RX6_53 : FLo RX6 6 10 53 := ⟨(RX5, TX5, 12), "ExtrasOffice$Person", rfl, by decide, (tw_at 327 (by decide +kernel) (by decide +kernel)), Or.inl rfl⟩
theorem fl_RX6_63 : FLo RX6 6 7 63 := ⟨(RX5, TX5, 12), "ExtrasOffice$Person", rfl, by decide, (tw_at 319 (by decide +kernel) (by decide +kernel)), Or.inl rfl⟩
theorem fl_RX6_73 : FLo RX6 6 11 73 := ⟨(RX5, TX5, 12), "ExtrasOffice$Person", rfl, by decide, (tw_at 331 (by decide +kernel) (by decide +kernel)), Or.inl rfl⟩
theorem fl_RX6_77 : FLo RX6 7 3 77 := ⟨(RX6, TX6, 4), "ExtrasOffice$Plan", rfl, by decide, (tw_at 218 (by decide +kernel) (by decide +kernel)), Or.inl rfl⟩
theorem fl_RX6_92 : FLo RX6 2 4 92 := ⟨(RX1, TX1, 9), "ExtrasOffice$Ask", rfl, by decide, (tw_at 562 (by decide +kernel) (by decide +kernel)), Or.inl rfl⟩
theorem fl_RX6_95 : FLo RX6 2 0 95 := ⟨(RX1, TX1, 9), "ExtrasOffice$Ask", rfl, by decide, (tw_at 549 (by decide +kernel) (by decide +kernel)), Or.inl rfl⟩
theorem fl_RX7_15 : FLo RX7 8 1 15 := ⟨(RX7, TX7, 2), "ExtrasOffice$Row", rfl, by decide, (tw_at 127 (by decide +kernel) (by decide +kernel)), Or.inl rfl⟩
theorem fl_RX7_9 : FLo RX7 8 0 9 := ⟨(RX7, TX7, 2), "ExtrasOffice$Row", rfl, by decide, (tw_at 126 (by decide +kernel) (by decide +kernel)), Or.inl rfl⟩
theorem fl_RX8_34 : FLo RX8 9 2 34 := ⟨(RX8, TX8, 4), "ExtrasOffice$Term", rfl, by decide, (tw_at 723 (by decide +kernel) (by decide +kernel)), Or.inl rfl⟩
theorem fl_RX8_37 : FLo RX8 9 1 37 := ⟨(RX8, TX8, 4), "ExtrasOffice$Term", rfl, by decide, (tw_at 722 (by decide +kernel) (by decide +kernel)), Or.inl rfl⟩
theorem fl_RX8_48 : FLo RX8 9 3 48 := ⟨(RX8, TX8, 4), "ExtrasOffice$Term", rfl, by decide, (tw_at 724 (by decide +kernel) (by decide +kernel)), Or.inl rfl⟩
theorem fl_RX8_9 : FLo RX8 9 0 9 := ⟨(RX8, TX8, 4), "ExtrasOffice$Term", rfl, by decide, (tw_at 720 (by decide +kernel) (by decide +kernel)), Or.inl rfl⟩
theorem fl_RX9_15 : FLo RX9 10 2 15 := ⟨(RX9, TX9, 7), "ExtrasOffice$Tokens", rfl, by decide, (tw_at 150 (by decide +kernel) (by decide +kernel)), Or.inl rfl⟩
theorem fl_RX9_19 : FLo RX9 10 0 19 := ⟨(RX9, TX9, 7), "ExtrasOffice$Tokens", rfl, by decide, (tw_at 146 (by decide +kernel) (by decide +kernel)), Or.inl rfl⟩
theorem fl_RX9_22 : FLo RX9 10 5 22 := ⟨(RX9, TX9, 7), "ExtrasOffice$Tokens", rfl, by decide, (tw_at 153 (by decide +kernel) (by decide +kernel)), Or.inl rfl⟩
theorem fl_RX9_28 : FLo RX9 10 4 28 := ⟨(RX9, TX9, 7), "ExtrasOffice$Tokens", rfl, by decide, (tw_at 152 (by decide +kernel) (by decide +kernel)), Or.inl rfl⟩
theorem fl_RX9_31 : FLo RX9 8 1 31 := ⟨(RX7, TX7, 2), "ExtrasOffice$Row", rfl, by decide, (tw_at 131 (by decide +kernel) (by decide +kernel)), Or.inl rfl⟩
theorem fl_RX9_43 : FLo RX9 10 3 43 := ⟨(RX9, TX9, 7), "ExtrasOffice$Tokens", rfl, by decide, (tw_at 151 (by decide +kernel) (by decide +kernel)), Or.inl rfl⟩
theorem fl_RX9_46 : FLo RX9 10 6 46 := ⟨(RX9, TX9, 7), "ExtrasOffice$Tokens", rfl, by decide, (tw_at 154 (by decide +kernel) (by decide +kernel)), Or.inl rfl⟩
theorem fl_RX9_9 : FLo RX9 10 1 9 := ⟨(RX9, TX9, 7), "ExtrasOffice$Tokens", rfl, by decide, (tw_at 148 (by decide +kernel) (by decide +kernel)), Or.inl rfl⟩
theorem ml_RJ15_105 : Cond.methodLink RJ15 105 yJ3_checkIndex_8e157 ∈ TW ∧ Cond.static yJ3_checkIndex_8e157 ∈ TW := ⟨(tw_at 434 (by decide +kernel) (by decide +kernel)), (tw_at 435 (by decide +kernel) (by decide +kernel))⟩
theorem ml_RJ7_300 : Cond.methodLink RJ7 300 yJ7_copyOf_6403c ∈ TW ∧ Cond.static yJ7_copyOf_6403c ∈ TW := ⟨(tw_at 405 (by decide +kernel) (by decide +kernel)), (tw_at 406 (by decide +kernel) (by decide +kernel))⟩
theorem ml_RJ7_304 : Cond.methodLink RJ7 304 yJ9_min_7cf53 ∈ TW ∧ Cond.static yJ9_min_7cf53 ∈ TW := ⟨(tw_at 411 (by decide +kernel) (by decide +kernel)), (tw_at 412 (by decide +kernel) (by decide +kernel))⟩
theorem ml_RJ8_194 : Cond.methodLink RJ8 194 yJ9_max_7cf53 ∈ TW ∧ Cond.static yJ9_max_7cf53 ∈ TW := ⟨(tw_at 376 (by decide +kernel) (by decide +kernel)), (tw_at 377 (by decide +kernel) (by decide +kernel))⟩
theorem ml_RJ8_201 : Cond.methodLink RJ8 201 yJ8_hugeLength_7cf53 ∈ TW ∧ Cond.static yJ8_hugeLength_7cf53 ∈ TW := ⟨(tw_at 380 (by decide +kernel) (by decide +kernel)), (tw_at 381 (by decide +kernel) (by decide +kernel))⟩
theorem ml_RJx4a65c_1 : Cond.methodLink RJx4a65c 1 yJxc12de_init_da8c8 ∈ TW ∧ Cond.instanceMethod yJxc12de_init_da8c8 ∈ TW := ⟨(tw_at 99 (by decide +kernel) (by decide +kernel)), (tw_at 100 (by decide +kernel) (by decide +kernel))⟩
theorem ml_RJx4a65c_118 : Cond.methodLink RJx4a65c 118 yJ15_checkIndex_7cf53 ∈ TW ∧ Cond.static yJ15_checkIndex_7cf53 ∈ TW := ⟨(tw_at 431 (by decide +kernel) (by decide +kernel)), (tw_at 432 (by decide +kernel) (by decide +kernel))⟩
theorem ml_RJx4a65c_123 : Cond.methodLink RJx4a65c 123 yJx4a65c_elementData_915e3 ∈ TW ∧ Cond.instanceMethod yJx4a65c_elementData_915e3 ∈ TW ∧ Cond.selects RJx4a65c yJx4a65c_elementData_915e3 yJx4a65c_elementData_915e3 ∈ TW := ⟨(tw_at 437 (by decide +kernel) (by decide +kernel)), (tw_at 438 (by decide +kernel) (by decide +kernel)), (tw_at 439 (by decide +kernel) (by decide +kernel))⟩
theorem ml_RJx4a65c_129 : Cond.methodLink RJx4a65c 129 yJx4a65c_grow_d5877 ∈ TW ∧ Cond.instanceMethod yJx4a65c_grow_d5877 ∈ TW ∧ Cond.selects RJx4a65c yJx4a65c_grow_d5877 yJx4a65c_grow_d5877 ∈ TW := ⟨(tw_at 365 (by decide +kernel) (by decide +kernel)), (tw_at 367 (by decide +kernel) (by decide +kernel)), (tw_at 1 (by decide +kernel) (by decide +kernel))⟩
theorem ml_RJx4a65c_131 : Cond.methodLink RJx4a65c 131 yJx4a65c_add_72be8 ∈ TW ∧ Cond.instanceMethod yJx4a65c_add_72be8 ∈ TW ∧ Cond.selects RJx4a65c yJx4a65c_add_72be8 yJx4a65c_add_72be8 ∈ TW := ⟨(tw_at 361 (by decide +kernel) (by decide +kernel)), (tw_at 363 (by decide +kernel) (by decide +kernel)), (tw_at 0 (by decide +kernel) (by decide +kernel))⟩
theorem ml_RJx4a65c_135 : Cond.methodLink RJx4a65c 135 yJx4a65c_rangeCheckForAdd_d00df ∈ TW ∧ Cond.instanceMethod yJx4a65c_rangeCheckForAdd_d00df ∈ TW ∧ Cond.selects RJx4a65c yJx4a65c_rangeCheckForAdd_d00df yJx4a65c_rangeCheckForAdd_d00df ∈ TW := ⟨(tw_at 918 (by decide +kernel) (by decide +kernel)), (tw_at 920 (by decide +kernel) (by decide +kernel)), (tw_at 19 (by decide +kernel) (by decide +kernel))⟩
theorem ml_RJx4a65c_66 : Cond.methodLink RJx4a65c 66 yJ7_copyOf_1904c ∈ TW ∧ Cond.static yJ7_copyOf_1904c ∈ TW := ⟨(tw_at 383 (by decide +kernel) (by decide +kernel)), (tw_at 384 (by decide +kernel) (by decide +kernel))⟩
theorem ml_RJx4a65c_69 : Cond.methodLink RJx4a65c 69 yJx4a65c_grow_92f84 ∈ TW ∧ Cond.instanceMethod yJx4a65c_grow_92f84 ∈ TW ∧ Cond.selects RJx4a65c yJx4a65c_grow_92f84 yJx4a65c_grow_92f84 ∈ TW := ⟨(tw_at 369 (by decide +kernel) (by decide +kernel)), (tw_at 371 (by decide +kernel) (by decide +kernel)), (tw_at 2 (by decide +kernel) (by decide +kernel))⟩
theorem ml_RJx4a65c_73 : Cond.methodLink RJx4a65c 73 yJ8_newLength_cabcc ∈ TW ∧ Cond.static yJ8_newLength_cabcc ∈ TW := ⟨(tw_at 373 (by decide +kernel) (by decide +kernel)), (tw_at 374 (by decide +kernel) (by decide +kernel))⟩
theorem ml_RJx4a65c_79 : Cond.methodLink RJx4a65c 79 yJ9_max_7cf53 ∈ TW ∧ Cond.static yJ9_max_7cf53 ∈ TW := ⟨(tw_at 417 (by decide +kernel) (by decide +kernel)), (tw_at 377 (by decide +kernel) (by decide +kernel))⟩
theorem ml_RJxc12de_1 : Cond.methodLink RJxc12de 1 yJxa1e45_init_da8c8 ∈ TW ∧ Cond.instanceMethod yJxa1e45_init_da8c8 ∈ TW := ⟨(tw_at 102 (by decide +kernel) (by decide +kernel)), (tw_at 103 (by decide +kernel) (by decide +kernel))⟩
theorem ml_RX0_11 : Cond.methodLink RX0 11 yJx4a65c_init_da8c8 ∈ TW ∧ Cond.instanceMethod yJx4a65c_init_da8c8 ∈ TW := ⟨(tw_at 690 (by decide +kernel) (by decide +kernel)), (tw_at 97 (by decide +kernel) (by decide +kernel))⟩
theorem ml_RX0_22 : Cond.methodLink RX0 22 yX9_begin ∈ TW ∧ Cond.instanceMethod yX9_begin ∈ TW ∧ Cond.selects RX9 yX9_begin yX9_begin ∈ TW := ⟨(tw_at 704 (by decide +kernel) (by decide +kernel)), (tw_at 468 (by decide +kernel) (by decide +kernel)), (tw_at 469 (by decide +kernel) (by decide +kernel))⟩
theorem ml_RX0_27 : Cond.methodLink RX0 27 yX9_atEnd ∈ TW ∧ Cond.instanceMethod yX9_atEnd ∈ TW ∧ Cond.selects RX9 yX9_atEnd yX9_atEnd ∈ TW := ⟨(tw_at 705 (by decide +kernel) (by decide +kernel)), (tw_at 483 (by decide +kernel) (by decide +kernel)), (tw_at 484 (by decide +kernel) (by decide +kernel))⟩
theorem ml_RX0_33 : Cond.methodLink RX0 33 yX8_kindAt ∈ TW ∧ Cond.static yX8_kindAt ∈ TW := ⟨(tw_at 708 (by decide +kernel) (by decide +kernel)), (tw_at 709 (by decide +kernel) (by decide +kernel))⟩
theorem ml_RX0_37 : Cond.methodLink RX0 37 yX8_init ∈ TW ∧ Cond.instanceMethod yX8_init ∈ TW := ⟨(tw_at 716 (by decide +kernel) (by decide +kernel)), (tw_at 717 (by decide +kernel) (by decide +kernel))⟩
theorem ml_RX0_43 : Cond.methodLink RX0 43 yX9_fail ∈ TW ∧ Cond.instanceMethod yX9_fail ∈ TW ∧ Cond.selects RX9 yX9_fail yX9_fail ∈ TW := ⟨(tw_at 734 (by decide +kernel) (by decide +kernel)), (tw_at 538 (by decide +kernel) (by decide +kernel)), (tw_at 539 (by decide +kernel) (by decide +kernel))⟩
theorem ml_RX0_47 : Cond.methodLink RX0 47 yX9_advance ∈ TW ∧ Cond.instanceMethod yX9_advance ∈ TW ∧ Cond.selects RX9 yX9_advance yX9_advance ∈ TW := ⟨(tw_at 735 (by decide +kernel) (by decide +kernel)), (tw_at 472 (by decide +kernel) (by decide +kernel)), (tw_at 473 (by decide +kernel) (by decide +kernel))⟩
theorem ml_RX0_50 : Cond.methodLink RX0 50 yX8_readNumbers ∈ TW ∧ Cond.instanceMethod yX8_readNumbers ∈ TW ∧ Cond.selects RX8 yX8_readNumbers yX8_readNumbers ∈ TW := ⟨(tw_at 736 (by decide +kernel) (by decide +kernel)), (tw_at 737 (by decide +kernel) (by decide +kernel)), (tw_at 738 (by decide +kernel) (by decide +kernel))⟩
theorem ml_RX0_54 : Cond.methodLink RX0 54 yX9_passSign ∈ TW ∧ Cond.instanceMethod yX9_passSign ∈ TW ∧ Cond.selects RX9 yX9_passSign yX9_passSign ∈ TW := ⟨(tw_at 747 (by decide +kernel) (by decide +kernel)), (tw_at 613 (by decide +kernel) (by decide +kernel)), (tw_at 614 (by decide +kernel) (by decide +kernel))⟩
theorem ml_RX0_58 : Cond.methodLink RX0 58 yJx4a65c_add_9ea2d ∈ TW ∧ Cond.instanceMethod yJx4a65c_add_9ea2d ∈ TW ∧ Cond.selects RJx4a65c yJx4a65c_add_9ea2d yJx4a65c_add_9ea2d ∈ TW := ⟨(tw_at 748 (by decide +kernel) (by decide +kernel)), (tw_at 358 (by decide +kernel) (by decide +kernel)), (tw_at 359 (by decide +kernel) (by decide +kernel))⟩
theorem ml_RX0_62 : Cond.methodLink RX0 62 yJx4a65c_size_8abf5 ∈ TW ∧ Cond.instanceMethod yJx4a65c_size_8abf5 ∈ TW ∧ Cond.selects RJx4a65c yJx4a65c_size_8abf5 yJx4a65c_size_8abf5 ∈ TW := ⟨(tw_at 967 (by decide +kernel) (by decide +kernel)), (tw_at 290 (by decide +kernel) (by decide +kernel)), (tw_at 291 (by decide +kernel) (by decide +kernel))⟩
theorem ml_RX0_66 : Cond.methodLink RX0 66 yJx4a65c_get_915e3 ∈ TW ∧ Cond.instanceMethod yJx4a65c_get_915e3 ∈ TW ∧ Cond.selects RJx4a65c yJx4a65c_get_915e3 yJx4a65c_get_915e3 ∈ TW := ⟨(tw_at 968 (by decide +kernel) (by decide +kernel)), (tw_at 428 (by decide +kernel) (by decide +kernel)), (tw_at 429 (by decide +kernel) (by decide +kernel))⟩
theorem ml_RX0_70 : Cond.methodLink RX0 70 yX8_worth ∈ TW ∧ Cond.instanceMethod yX8_worth ∈ TW ∧ Cond.selects RX8 yX8_worth yX8_worth ∈ TW := ⟨(tw_at 969 (by decide +kernel) (by decide +kernel)), (tw_at 970 (by decide +kernel) (by decide +kernel)), (tw_at 971 (by decide +kernel) (by decide +kernel))⟩
theorem ml_RX10_54 : Cond.methodLink RX10 54 yX0_worth ∈ TW ∧ Cond.instanceMethod yX0_worth ∈ TW ∧ Cond.selects RX0 yX0_worth yX0_worth ∈ TW := ⟨(tw_at 963 (by decide +kernel) (by decide +kernel)), (tw_at 964 (by decide +kernel) (by decide +kernel)), (tw_at 965 (by decide +kernel) (by decide +kernel))⟩
theorem ml_RX10_66 : Cond.methodLink RX10 66 yX10_earned ∈ TW ∧ Cond.instanceMethod yX10_earned ∈ TW ∧ Cond.selects RX10 yX10_earned yX10_earned ∈ TW := ⟨(tw_at 959 (by decide +kernel) (by decide +kernel)), (tw_at 960 (by decide +kernel) (by decide +kernel)), (tw_at 961 (by decide +kernel) (by decide +kernel))⟩
theorem ml_RX11_108 : Cond.methodLink RX11 108 yX11_addBytes ∈ TW ∧ Cond.instanceMethod yX11_addBytes ∈ TW ∧ Cond.selects RX11 yX11_addBytes yX11_addBytes ∈ TW := ⟨(tw_at 445 (by decide +kernel) (by decide +kernel)), (tw_at 447 (by decide +kernel) (by decide +kernel)), (tw_at 4 (by decide +kernel) (by decide +kernel))⟩
theorem ml_RX11_111 : Cond.methodLink RX11 111 yX2_read ∈ TW ∧ Cond.instanceMethod yX2_read ∈ TW ∧ Cond.selects RX2 yX2_read yX2_read ∈ TW := ⟨(tw_at 461 (by decide +kernel) (by decide +kernel)), (tw_at 462 (by decide +kernel) (by decide +kernel)), (tw_at 463 (by decide +kernel) (by decide +kernel))⟩
theorem ml_RX11_118 : Cond.methodLink RX11 118 yX6_startWith ∈ TW ∧ Cond.instanceMethod yX6_startWith ∈ TW ∧ Cond.selects RX6 yX6_startWith yX6_startWith ∈ TW := ⟨(tw_at 664 (by decide +kernel) (by decide +kernel)), (tw_at 665 (by decide +kernel) (by decide +kernel)), (tw_at 666 (by decide +kernel) (by decide +kernel))⟩
theorem ml_RX11_123 : Cond.methodLink RX11 123 yX0_init ∈ TW ∧ Cond.instanceMethod yX0_init ∈ TW := ⟨(tw_at 685 (by decide +kernel) (by decide +kernel)), (tw_at 686 (by decide +kernel) (by decide +kernel))⟩
theorem ml_RX11_124 : Cond.methodLink RX11 124 yX0_readFrom ∈ TW ∧ Cond.instanceMethod yX0_readFrom ∈ TW ∧ Cond.selects RX0 yX0_readFrom yX0_readFrom ∈ TW := ⟨(tw_at 700 (by decide +kernel) (by decide +kernel)), (tw_at 701 (by decide +kernel) (by decide +kernel)), (tw_at 702 (by decide +kernel) (by decide +kernel))⟩
theorem ml_RX11_134 : Cond.methodLink RX11 134 yX6_find ∈ TW ∧ Cond.instanceMethod yX6_find ∈ TW ∧ Cond.selects RX6 yX6_find yX6_find ∈ TW := ⟨(tw_at 757 (by decide +kernel) (by decide +kernel)), (tw_at 758 (by decide +kernel) (by decide +kernel)), (tw_at 759 (by decide +kernel) (by decide +kernel))⟩
theorem ml_RX11_137 : Cond.methodLink RX11 137 yX1_suits ∈ TW ∧ Cond.instanceMethod yX1_suits ∈ TW ∧ Cond.selects RX1 yX1_suits yX1_suits ∈ TW := ⟨(tw_at 762 (by decide +kernel) (by decide +kernel)), (tw_at 763 (by decide +kernel) (by decide +kernel)), (tw_at 764 (by decide +kernel) (by decide +kernel))⟩
theorem ml_RX11_146 : Cond.methodLink RX11 146 yX1_isOpenTo ∈ TW ∧ Cond.instanceMethod yX1_isOpenTo ∈ TW ∧ Cond.selects RX1 yX1_isOpenTo yX1_isOpenTo ∈ TW := ⟨(tw_at 775 (by decide +kernel) (by decide +kernel)), (tw_at 776 (by decide +kernel) (by decide +kernel)), (tw_at 777 (by decide +kernel) (by decide +kernel))⟩
theorem ml_RX11_153 : Cond.methodLink RX11 153 yJx4a65c_isEmpty_aae02 ∈ TW ∧ Cond.instanceMethod yJx4a65c_isEmpty_aae02 ∈ TW ∧ Cond.selects RJx4a65c yJx4a65c_isEmpty_aae02 yJx4a65c_isEmpty_aae02 ∈ TW := ⟨(tw_at 784 (by decide +kernel) (by decide +kernel)), (tw_at 785 (by decide +kernel) (by decide +kernel)), (tw_at 786 (by decide +kernel) (by decide +kernel))⟩
theorem ml_RX11_157 : Cond.methodLink RX11 157 yX6_layFor ∈ TW ∧ Cond.instanceMethod yX6_layFor ∈ TW ∧ Cond.selects RX6 yX6_layFor yX6_layFor ∈ TW := ⟨(tw_at 788 (by decide +kernel) (by decide +kernel)), (tw_at 789 (by decide +kernel) (by decide +kernel)), (tw_at 790 (by decide +kernel) (by decide +kernel))⟩
theorem ml_RX11_160 : Cond.methodLink RX11 160 yX6_size ∈ TW ∧ Cond.instanceMethod yX6_size ∈ TW ∧ Cond.selects RX6 yX6_size yX6_size ∈ TW := ⟨(tw_at 817 (by decide +kernel) (by decide +kernel)), (tw_at 818 (by decide +kernel) (by decide +kernel)), (tw_at 819 (by decide +kernel) (by decide +kernel))⟩
theorem ml_RX11_162 : Cond.methodLink RX11 162 yX5_moveTo ∈ TW ∧ Cond.instanceMethod yX5_moveTo ∈ TW ∧ Cond.selects RX5 yX5_moveTo yX5_moveTo ∈ TW := ⟨(tw_at 829 (by decide +kernel) (by decide +kernel)), (tw_at 676 (by decide +kernel) (by decide +kernel)), (tw_at 677 (by decide +kernel) (by decide +kernel))⟩
theorem ml_RX11_166 : Cond.methodLink RX11 166 yX6_mend ∈ TW ∧ Cond.instanceMethod yX6_mend ∈ TW ∧ Cond.selects RX6 yX6_mend yX6_mend ∈ TW := ⟨(tw_at 830 (by decide +kernel) (by decide +kernel)), (tw_at 831 (by decide +kernel) (by decide +kernel)), (tw_at 832 (by decide +kernel) (by decide +kernel))⟩
theorem ml_RX11_173 : Cond.methodLink RX11 173 yX7_at ∈ TW ∧ Cond.instanceMethod yX7_at ∈ TW ∧ Cond.selects RX7 yX7_at yX7_at ∈ TW := ⟨(tw_at 847 (by decide +kernel) (by decide +kernel)), (tw_at 476 (by decide +kernel) (by decide +kernel)), (tw_at 477 (by decide +kernel) (by decide +kernel))⟩
theorem ml_RX11_177 : Cond.methodLink RX11 177 yX3_comeAll ∈ TW ∧ Cond.instanceMethod yX3_comeAll ∈ TW ∧ Cond.selects RX3 yX3_comeAll yX3_comeAll ∈ TW := ⟨(tw_at 852 (by decide +kernel) (by decide +kernel)), (tw_at 853 (by decide +kernel) (by decide +kernel)), (tw_at 854 (by decide +kernel) (by decide +kernel))⟩
theorem ml_RX11_18 : Cond.methodLink RX11 18 yX7_init ∈ TW ∧ Cond.instanceMethod yX7_init ∈ TW := ⟨(tw_at 122 (by decide +kernel) (by decide +kernel)), (tw_at 123 (by decide +kernel) (by decide +kernel))⟩
theorem ml_RX11_181 : Cond.methodLink RX11 181 yX3_dressAll ∈ TW ∧ Cond.instanceMethod yX3_dressAll ∈ TW ∧ Cond.selects RX3 yX3_dressAll yX3_dressAll ∈ TW := ⟨(tw_at 923 (by decide +kernel) (by decide +kernel)), (tw_at 924 (by decide +kernel) (by decide +kernel)), (tw_at 925 (by decide +kernel) (by decide +kernel))⟩
theorem ml_RX11_184 : Cond.methodLink RX11 184 yX11_sendAll ∈ TW ∧ Cond.instanceMethod yX11_sendAll ∈ TW ∧ Cond.selects RX11 yX11_sendAll yX11_sendAll ∈ TW := ⟨(tw_at 932 (by decide +kernel) (by decide +kernel)), (tw_at 934 (by decide +kernel) (by decide +kernel)), (tw_at 21 (by decide +kernel) (by decide +kernel))⟩
theorem ml_RX11_187 : Cond.methodLink RX11 187 yX11_findRecord ∈ TW ∧ Cond.instanceMethod yX11_findRecord ∈ TW ∧ Cond.selects RX11 yX11_findRecord yX11_findRecord ∈ TW := ⟨(tw_at 951 (by decide +kernel) (by decide +kernel)), (tw_at 953 (by decide +kernel) (by decide +kernel)), (tw_at 22 (by decide +kernel) (by decide +kernel))⟩
theorem ml_RX11_191 : Cond.methodLink RX11 191 yX10_answer ∈ TW ∧ Cond.instanceMethod yX10_answer ∈ TW ∧ Cond.selects RX10 yX10_answer yX10_answer ∈ TW := ⟨(tw_at 955 (by decide +kernel) (by decide +kernel)), (tw_at 956 (by decide +kernel) (by decide +kernel)), (tw_at 957 (by decide +kernel) (by decide +kernel))⟩
theorem ml_RX11_196 : Cond.methodLink RX11 196 yX11_isScene ∈ TW ∧ Cond.static yX11_isScene ∈ TW := ⟨(tw_at 981 (by decide +kernel) (by decide +kernel)), (tw_at 982 (by decide +kernel) (by decide +kernel))⟩
theorem ml_RX11_203 : Cond.methodLink RX11 203 yX4_add ∈ TW ∧ Cond.instanceMethod yX4_add ∈ TW ∧ Cond.selects RX4 yX4_add yX4_add ∈ TW := ⟨(tw_at 941 (by decide +kernel) (by decide +kernel)), (tw_at 942 (by decide +kernel) (by decide +kernel)), (tw_at 943 (by decide +kernel) (by decide +kernel))⟩
theorem ml_RX11_206 : Cond.methodLink RX11 206 yX4_size ∈ TW ∧ Cond.instanceMethod yX4_size ∈ TW ∧ Cond.selects RX4 yX4_size yX4_size ∈ TW := ⟨(tw_at 1022 (by decide +kernel) (by decide +kernel)), (tw_at 1023 (by decide +kernel) (by decide +kernel)), (tw_at 1024 (by decide +kernel) (by decide +kernel))⟩
theorem ml_RX11_218 : Cond.methodLink RX11 218 yJx4a65c_get_915e3 ∈ TW ∧ Cond.instanceMethod yJx4a65c_get_915e3 ∈ TW ∧ Cond.selects RJx4a65c yJx4a65c_get_915e3 yJx4a65c_get_915e3 ∈ TW := ⟨(tw_at 427 (by decide +kernel) (by decide +kernel)), (tw_at 428 (by decide +kernel) (by decide +kernel)), (tw_at 429 (by decide +kernel) (by decide +kernel))⟩
theorem ml_RX11_225 : Cond.methodLink RX11 225 yX5_wasIn ∈ TW ∧ Cond.instanceMethod yX5_wasIn ∈ TW ∧ Cond.selects RX5 yX5_wasIn yX5_wasIn ∈ TW := ⟨(tw_at 988 (by decide +kernel) (by decide +kernel)), (tw_at 772 (by decide +kernel) (by decide +kernel)), (tw_at 773 (by decide +kernel) (by decide +kernel))⟩
theorem ml_RX11_228 : Cond.methodLink RX11 228 yX7_add ∈ TW ∧ Cond.instanceMethod yX7_add ∈ TW ∧ Cond.selects RX7 yX7_add yX7_add ∈ TW := ⟨(tw_at 449 (by decide +kernel) (by decide +kernel)), (tw_at 450 (by decide +kernel) (by decide +kernel)), (tw_at 451 (by decide +kernel) (by decide +kernel))⟩
theorem ml_RX11_233 : Cond.methodLink RX11 233 yX1_answer ∈ TW ∧ Cond.instanceMethod yX1_answer ∈ TW ∧ Cond.selects RX1 yX1_answer yX1_answer ∈ TW := ⟨(tw_at 1001 (by decide +kernel) (by decide +kernel)), (tw_at 1002 (by decide +kernel) (by decide +kernel)), (tw_at 1003 (by decide +kernel) (by decide +kernel))⟩
theorem ml_RX11_234 : Cond.methodLink RX11 234 yX5_answer ∈ TW ∧ Cond.instanceMethod yX5_answer ∈ TW ∧ Cond.selects RX5 yX5_answer yX5_answer ∈ TW := ⟨(tw_at 1009 (by decide +kernel) (by decide +kernel)), (tw_at 1010 (by decide +kernel) (by decide +kernel)), (tw_at 1011 (by decide +kernel) (by decide +kernel))⟩
theorem ml_RX11_241 : Cond.methodLink RX11 241 yX10_earned ∈ TW ∧ Cond.instanceMethod yX10_earned ∈ TW ∧ Cond.selects RX10 yX10_earned yX10_earned ∈ TW := ⟨(tw_at 1017 (by decide +kernel) (by decide +kernel)), (tw_at 960 (by decide +kernel) (by decide +kernel)), (tw_at 961 (by decide +kernel) (by decide +kernel))⟩
theorem ml_RX11_247 : Cond.methodLink RX11 247 yX10_send ∈ TW ∧ Cond.instanceMethod yX10_send ∈ TW ∧ Cond.selects RX10 yX10_send yX10_send ∈ TW := ⟨(tw_at 937 (by decide +kernel) (by decide +kernel)), (tw_at 938 (by decide +kernel) (by decide +kernel)), (tw_at 939 (by decide +kernel) (by decide +kernel))⟩
theorem ml_RX11_257 : Cond.methodLink RX11 257 yJ9_max_7cf53 ∈ TW ∧ Cond.static yJ9_max_7cf53 ∈ TW := ⟨(tw_at 946 (by decide +kernel) (by decide +kernel)), (tw_at 377 (by decide +kernel) (by decide +kernel))⟩
theorem ml_RX11_27 : Cond.methodLink RX11 27 yX9_init ∈ TW ∧ Cond.instanceMethod yX9_init ∈ TW := ⟨(tw_at 142 (by decide +kernel) (by decide +kernel)), (tw_at 143 (by decide +kernel) (by decide +kernel))⟩
theorem ml_RX11_36 : Cond.methodLink RX11 36 yX2_init ∈ TW ∧ Cond.instanceMethod yX2_init ∈ TW := ⟨(tw_at 172 (by decide +kernel) (by decide +kernel)), (tw_at 173 (by decide +kernel) (by decide +kernel))⟩
theorem ml_RX11_48 : (RX11, 48, yX4_init, "ExtrasOffice") ∈ nestW ∧ Cond.instanceMethod yX4_init ∈ TW := ⟨(by decide +kernel), (tw_at 188 (by decide +kernel) (by decide +kernel))⟩
theorem ml_RX11_55 : Cond.methodLink RX11 55 yX6_init ∈ TW ∧ Cond.instanceMethod yX6_init ∈ TW := ⟨(tw_at 205 (by decide +kernel) (by decide +kernel)), (tw_at 206 (by decide +kernel) (by decide +kernel))⟩
theorem ml_RX11_64 : (RX11, 64, yX3_init, "ExtrasOffice") ∈ nestW ∧ Cond.instanceMethod yX3_init ∈ TW := ⟨(by decide +kernel), (tw_at 231 (by decide +kernel) (by decide +kernel))⟩
theorem ml_RX11_75 : Cond.methodLink RX11 75 yX11_within ∈ TW ∧ Cond.static yX11_within ∈ TW := ⟨(tw_at 285 (by decide +kernel) (by decide +kernel)), (tw_at 286 (by decide +kernel) (by decide +kernel))⟩
theorem ml_RX11_80 : Cond.methodLink RX11 80 yJx4a65c_size_8abf5 ∈ TW ∧ Cond.instanceMethod yJx4a65c_size_8abf5 ∈ TW ∧ Cond.selects RJx4a65c yJx4a65c_size_8abf5 yJx4a65c_size_8abf5 ∈ TW := ⟨(tw_at 289 (by decide +kernel) (by decide +kernel)), (tw_at 290 (by decide +kernel) (by decide +kernel)), (tw_at 291 (by decide +kernel) (by decide +kernel))⟩
theorem ml_RX11_86 : Cond.methodLink RX11 86 yX5_init ∈ TW ∧ Cond.instanceMethod yX5_init ∈ TW := ⟨(tw_at 295 (by decide +kernel) (by decide +kernel)), (tw_at 296 (by decide +kernel) (by decide +kernel))⟩
theorem ml_RX11_89 : Cond.methodLink RX11 89 yJx4a65c_add_9ea2d ∈ TW ∧ Cond.instanceMethod yJx4a65c_add_9ea2d ∈ TW ∧ Cond.selects RJx4a65c yJx4a65c_add_9ea2d yJx4a65c_add_9ea2d ∈ TW := ⟨(tw_at 357 (by decide +kernel) (by decide +kernel)), (tw_at 358 (by decide +kernel) (by decide +kernel)), (tw_at 359 (by decide +kernel) (by decide +kernel))⟩
theorem ml_RX11_9 : Cond.methodLink RX11 9 yJx4a65c_init_da8c8 ∈ TW ∧ Cond.instanceMethod yJx4a65c_init_da8c8 ∈ TW := ⟨(tw_at 96 (by decide +kernel) (by decide +kernel)), (tw_at 97 (by decide +kernel) (by decide +kernel))⟩
theorem ml_RX11_93 : Cond.methodLink RX11 93 yX11_find ∈ TW ∧ Cond.instanceMethod yX11_find ∈ TW ∧ Cond.selects RX11 yX11_find yX11_find ∈ TW := ⟨(tw_at 423 (by decide +kernel) (by decide +kernel)), (tw_at 425 (by decide +kernel) (by decide +kernel)), (tw_at 3 (by decide +kernel) (by decide +kernel))⟩
theorem ml_RX12_154 : Cond.methodLink RX12 154 yX12_within ∈ TW ∧ Cond.static yX12_within ∈ TW := ⟨(tw_at 1324 (by decide +kernel) (by decide +kernel)), (tw_at 1325 (by decide +kernel) (by decide +kernel))⟩
theorem ml_RX12_159 : Cond.methodLink RX12 159 yX12_isPerson ∈ TW ∧ Cond.instanceMethod yX12_isPerson ∈ TW ∧ Cond.selects RX12 yX12_isPerson yX12_isPerson ∈ TW := ⟨(tw_at 1332 (by decide +kernel) (by decide +kernel)), (tw_at 1334 (by decide +kernel) (by decide +kernel)), (tw_at 25 (by decide +kernel) (by decide +kernel))⟩
theorem ml_RX12_169 : Cond.methodLink RX12 169 yX12_fact ∈ TW ∧ Cond.instanceMethod yX12_fact ∈ TW ∧ Cond.selects RX12 yX12_fact yX12_fact ∈ TW := ⟨(tw_at 1344 (by decide +kernel) (by decide +kernel)), (tw_at 1346 (by decide +kernel) (by decide +kernel)), (tw_at 26 (by decide +kernel) (by decide +kernel))⟩
theorem ml_RX12_173 : Cond.methodLink RX12 173 yX12_times ∈ TW ∧ Cond.instanceMethod yX12_times ∈ TW ∧ Cond.selects RX12 yX12_times yX12_times ∈ TW := ⟨(tw_at 1352 (by decide +kernel) (by decide +kernel)), (tw_at 1354 (by decide +kernel) (by decide +kernel)), (tw_at 27 (by decide +kernel) (by decide +kernel))⟩
theorem ml_RX12_195 : Cond.methodLink RX12 195 yX12_isSmall ∈ TW ∧ Cond.static yX12_isSmall ∈ TW := ⟨(tw_at 1376 (by decide +kernel) (by decide +kernel)), (tw_at 1377 (by decide +kernel) (by decide +kernel))⟩
theorem ml_RX12_198 : Cond.methodLink RX12 198 yX12_see ∈ TW ∧ Cond.instanceMethod yX12_see ∈ TW ∧ Cond.selects RX12 yX12_see yX12_see ∈ TW := ⟨(tw_at 1379 (by decide +kernel) (by decide +kernel)), (tw_at 1381 (by decide +kernel) (by decide +kernel)), (tw_at 30 (by decide +kernel) (by decide +kernel))⟩
theorem ml_RX12_202 : Cond.methodLink RX12 202 yX12_isDigit ∈ TW ∧ Cond.static yX12_isDigit ∈ TW := ⟨(tw_at 1383 (by decide +kernel) (by decide +kernel)), (tw_at 1384 (by decide +kernel) (by decide +kernel))⟩
theorem ml_RX12_208 : Cond.methodLink RX12 208 yX12_next ∈ TW ∧ Cond.instanceMethod yX12_next ∈ TW ∧ Cond.selects RX12 yX12_next yX12_next ∈ TW := ⟨(tw_at 1372 (by decide +kernel) (by decide +kernel)), (tw_at 1374 (by decide +kernel) (by decide +kernel)), (tw_at 29 (by decide +kernel) (by decide +kernel))⟩
theorem ml_RX12_211 : Cond.methodLink RX12 211 yJ0_length_8abf5 ∈ TW ∧ Cond.instanceMethod yJ0_length_8abf5 ∈ TW ∧ Cond.selects RJ0 yJ0_length_8abf5 yJ0_length_8abf5 ∈ TW := ⟨(tw_at 1395 (by decide +kernel) (by decide +kernel)), (tw_at 492 (by decide +kernel) (by decide +kernel)), (tw_at 493 (by decide +kernel) (by decide +kernel))⟩
theorem ml_RX12_217 : Cond.methodLink RX12 217 yJ0_charAt_5068e ∈ TW ∧ Cond.instanceMethod yJ0_charAt_5068e ∈ TW ∧ Cond.selects RJ0 yJ0_charAt_5068e yJ0_charAt_5068e ∈ TW := ⟨(tw_at 1396 (by decide +kernel) (by decide +kernel)), (tw_at 502 (by decide +kernel) (by decide +kernel)), (tw_at 503 (by decide +kernel) (by decide +kernel))⟩
theorem ml_RX12_227 : Cond.methodLink RX12 227 yX12_is ∈ TW ∧ Cond.instanceMethod yX12_is ∈ TW ∧ Cond.selects RX12 yX12_is yX12_is ∈ TW := ⟨(tw_at 1412 (by decide +kernel) (by decide +kernel)), (tw_at 1414 (by decide +kernel) (by decide +kernel)), (tw_at 36 (by decide +kernel) (by decide +kernel))⟩
theorem ml_RX12_230 : Cond.methodLink RX12 230 yX12_fails ∈ TW ∧ Cond.instanceMethod yX12_fails ∈ TW ∧ Cond.selects RX12 yX12_fails yX12_fails ∈ TW := ⟨(tw_at 1397 (by decide +kernel) (by decide +kernel)), (tw_at 1399 (by decide +kernel) (by decide +kernel)), (tw_at 33 (by decide +kernel) (by decide +kernel))⟩
theorem ml_RX12_234 : Cond.methodLink RX12 234 yX12_isWord ∈ TW ∧ Cond.instanceMethod yX12_isWord ∈ TW ∧ Cond.selects RX12 yX12_isWord yX12_isWord ∈ TW := ⟨(tw_at 1391 (by decide +kernel) (by decide +kernel)), (tw_at 1393 (by decide +kernel) (by decide +kernel)), (tw_at 32 (by decide +kernel) (by decide +kernel))⟩
theorem ml_RX12_238 : Cond.methodLink RX12 238 yX12_all ∈ TW ∧ Cond.instanceMethod yX12_all ∈ TW ∧ Cond.selects RX12 yX12_all yX12_all ∈ TW := ⟨(tw_at 1420 (by decide +kernel) (by decide +kernel)), (tw_at 1422 (by decide +kernel) (by decide +kernel)), (tw_at 38 (by decide +kernel) (by decide +kernel))⟩
theorem ml_RX12_243 : Cond.methodLink RX12 243 yX12_one ∈ TW ∧ Cond.instanceMethod yX12_one ∈ TW ∧ Cond.selects RX12 yX12_one yX12_one ∈ TW := ⟨(tw_at 1424 (by decide +kernel) (by decide +kernel)), (tw_at 1426 (by decide +kernel) (by decide +kernel)), (tw_at 39 (by decide +kernel) (by decide +kernel))⟩
theorem ml_RX12_250 : Cond.methodLink RX12 250 yX12_either ∈ TW ∧ Cond.instanceMethod yX12_either ∈ TW ∧ Cond.selects RX12 yX12_either yX12_either ∈ TW := ⟨(tw_at 1416 (by decide +kernel) (by decide +kernel)), (tw_at 1418 (by decide +kernel) (by decide +kernel)), (tw_at 37 (by decide +kernel) (by decide +kernel))⟩
theorem ml_RX12_253 : Cond.methodLink RX12 253 yX12_wants ∈ TW ∧ Cond.instanceMethod yX12_wants ∈ TW ∧ Cond.selects RX12 yX12_wants yX12_wants ∈ TW := ⟨(tw_at 1429 (by decide +kernel) (by decide +kernel)), (tw_at 1431 (by decide +kernel) (by decide +kernel)), (tw_at 40 (by decide +kernel) (by decide +kernel))⟩
theorem ml_RX12_260 : Cond.methodLink RX12 260 yX12_number ∈ TW ∧ Cond.instanceMethod yX12_number ∈ TW ∧ Cond.selects RX12 yX12_number yX12_number ∈ TW := ⟨(tw_at 1401 (by decide +kernel) (by decide +kernel)), (tw_at 1403 (by decide +kernel) (by decide +kernel)), (tw_at 34 (by decide +kernel) (by decide +kernel))⟩
theorem ml_RX12_281 : Cond.methodLink RX12 281 yX12_wants_ ∈ TW ∧ Cond.instanceMethod yX12_wants_ ∈ TW ∧ Cond.selects RX12 yX12_wants_ yX12_wants_ ∈ TW := ⟨(tw_at 1406 (by decide +kernel) (by decide +kernel)), (tw_at 1408 (by decide +kernel) (by decide +kernel)), (tw_at 35 (by decide +kernel) (by decide +kernel))⟩
theorem ml_RX12_288 : Cond.methodLink RX12 288 yX12_starts ∈ TW ∧ Cond.instanceMethod yX12_starts ∈ TW ∧ Cond.selects RX12 yX12_starts yX12_starts ∈ TW := ⟨(tw_at 1368 (by decide +kernel) (by decide +kernel)), (tw_at 1370 (by decide +kernel) (by decide +kernel)), (tw_at 28 (by decide +kernel) (by decide +kernel))⟩
theorem ml_RX12_292 : Cond.methodLink RX12 292 yX12_readAsk ∈ TW ∧ Cond.instanceMethod yX12_readAsk ∈ TW ∧ Cond.selects RX12 yX12_readAsk yX12_readAsk ∈ TW := ⟨(tw_at 1386 (by decide +kernel) (by decide +kernel)), (tw_at 1388 (by decide +kernel) (by decide +kernel)), (tw_at 31 (by decide +kernel) (by decide +kernel))⟩
theorem ml_RX12_301 : Cond.methodLink RX12 301 yX12_nobody ∈ TW ∧ Cond.instanceMethod yX12_nobody ∈ TW ∧ Cond.selects RX12 yX12_nobody yX12_nobody ∈ TW := ⟨(tw_at 1442 (by decide +kernel) (by decide +kernel)), (tw_at 1444 (by decide +kernel) (by decide +kernel)), (tw_at 41 (by decide +kernel) (by decide +kernel))⟩
theorem ml_RX12_307 : Cond.methodLink RX12 307 yX12_doesFit ∈ TW ∧ Cond.instanceMethod yX12_doesFit ∈ TW ∧ Cond.selects RX12 yX12_doesFit yX12_doesFit ∈ TW := ⟨(tw_at 1458 (by decide +kernel) (by decide +kernel)), (tw_at 1460 (by decide +kernel) (by decide +kernel)), (tw_at 43 (by decide +kernel) (by decide +kernel))⟩
theorem ml_RX12_311 : Cond.methodLink RX12 311 yX12_isAsk ∈ TW ∧ Cond.instanceMethod yX12_isAsk ∈ TW ∧ Cond.selects RX12 yX12_isAsk yX12_isAsk ∈ TW := ⟨(tw_at 1454 (by decide +kernel) (by decide +kernel)), (tw_at 1456 (by decide +kernel) (by decide +kernel)), (tw_at 42 (by decide +kernel) (by decide +kernel))⟩
theorem ml_RX12_314 : Cond.methodLink RX12 314 yX12_canBe ∈ TW ∧ Cond.instanceMethod yX12_canBe ∈ TW ∧ Cond.selects RX12 yX12_canBe yX12_canBe ∈ TW := ⟨(tw_at 1462 (by decide +kernel) (by decide +kernel)), (tw_at 1464 (by decide +kernel) (by decide +kernel)), (tw_at 44 (by decide +kernel) (by decide +kernel))⟩
theorem ml_RX12_317 : Cond.methodLink RX12 317 yX12_calledIn ∈ TW ∧ Cond.instanceMethod yX12_calledIn ∈ TW ∧ Cond.selects RX12 yX12_calledIn yX12_calledIn ∈ TW := ⟨(tw_at 1470 (by decide +kernel) (by decide +kernel)), (tw_at 1472 (by decide +kernel) (by decide +kernel)), (tw_at 45 (by decide +kernel) (by decide +kernel))⟩
theorem ml_RX12_320 : Cond.methodLink RX12 320 yX12_reckons ∈ TW ∧ Cond.instanceMethod yX12_reckons ∈ TW ∧ Cond.selects RX12 yX12_reckons yX12_reckons ∈ TW := ⟨(tw_at 1478 (by decide +kernel) (by decide +kernel)), (tw_at 1480 (by decide +kernel) (by decide +kernel)), (tw_at 46 (by decide +kernel) (by decide +kernel))⟩
theorem ml_RX12_323 : Cond.methodLink RX12 323 yX12_first ∈ TW ∧ Cond.instanceMethod yX12_first ∈ TW ∧ Cond.selects RX12 yX12_first yX12_first ∈ TW := ⟨(tw_at 1482 (by decide +kernel) (by decide +kernel)), (tw_at 1484 (by decide +kernel) (by decide +kernel)), (tw_at 47 (by decide +kernel) (by decide +kernel))⟩
theorem ml_RX12_326 : Cond.methodLink RX12 326 yX12_isRoom ∈ TW ∧ Cond.instanceMethod yX12_isRoom ∈ TW ∧ Cond.selects RX12 yX12_isRoom yX12_isRoom ∈ TW := ⟨(tw_at 1486 (by decide +kernel) (by decide +kernel)), (tw_at 1488 (by decide +kernel) (by decide +kernel)), (tw_at 48 (by decide +kernel) (by decide +kernel))⟩
theorem ml_RX12_330 : Cond.methodLink RX12 330 yX12_mends ∈ TW ∧ Cond.instanceMethod yX12_mends ∈ TW ∧ Cond.selects RX12 yX12_mends yX12_mends ∈ TW := ⟨(tw_at 1498 (by decide +kernel) (by decide +kernel)), (tw_at 1500 (by decide +kernel) (by decide +kernel)), (tw_at 49 (by decide +kernel) (by decide +kernel))⟩
theorem ml_RX12_354 : Cond.methodLink RX12 354 yX12_readTerm ∈ TW ∧ Cond.instanceMethod yX12_readTerm ∈ TW ∧ Cond.selects RX12 yX12_readTerm yX12_readTerm ∈ TW := ⟨(tw_at 1510 (by decide +kernel) (by decide +kernel)), (tw_at 1512 (by decide +kernel) (by decide +kernel)), (tw_at 50 (by decide +kernel) (by decide +kernel))⟩
theorem ml_RX12_357 : Cond.methodLink RX12 357 yX12_quarters ∈ TW ∧ Cond.static yX12_quarters ∈ TW := ⟨(tw_at 1550 (by decide +kernel) (by decide +kernel)), (tw_at 1551 (by decide +kernel) (by decide +kernel))⟩
theorem ml_RX12_362 : Cond.methodLink RX12 362 yX12_nextComing ∈ TW ∧ Cond.instanceMethod yX12_nextComing ∈ TW ∧ Cond.selects RX12 yX12_nextComing yX12_nextComing ∈ TW := ⟨(tw_at 1533 (by decide +kernel) (by decide +kernel)), (tw_at 1535 (by decide +kernel) (by decide +kernel)), (tw_at 52 (by decide +kernel) (by decide +kernel))⟩
theorem ml_RX12_365 : Cond.methodLink RX12 365 yJ9_max_7cf53 ∈ TW ∧ Cond.static yJ9_max_7cf53 ∈ TW := ⟨(tw_at 1537 (by decide +kernel) (by decide +kernel)), (tw_at 377 (by decide +kernel) (by decide +kernel))⟩
theorem ml_RX12_370 : Cond.methodLink RX12 370 yX12_next_ ∈ TW ∧ Cond.static yX12_next_ ∈ TW := ⟨(tw_at 1525 (by decide +kernel) (by decide +kernel)), (tw_at 1526 (by decide +kernel) (by decide +kernel))⟩
theorem ml_RX12_372 : Cond.methodLink RX12 372 yX12_dresses ∈ TW ∧ Cond.instanceMethod yX12_dresses ∈ TW ∧ Cond.selects RX12 yX12_dresses yX12_dresses ∈ TW := ⟨(tw_at 1529 (by decide +kernel) (by decide +kernel)), (tw_at 1531 (by decide +kernel) (by decide +kernel)), (tw_at 51 (by decide +kernel) (by decide +kernel))⟩
theorem ml_RX12_378 : Cond.methodLink RX12 378 yX12_isRecord ∈ TW ∧ Cond.instanceMethod yX12_isRecord ∈ TW ∧ Cond.selects RX12 yX12_isRecord yX12_isRecord ∈ TW := ⟨(tw_at 1542 (by decide +kernel) (by decide +kernel)), (tw_at 1544 (by decide +kernel) (by decide +kernel)), (tw_at 53 (by decide +kernel) (by decide +kernel))⟩
theorem ml_RX12_381 : Cond.methodLink RX12 381 yX12_worth ∈ TW ∧ Cond.instanceMethod yX12_worth ∈ TW ∧ Cond.selects RX12 yX12_worth yX12_worth ∈ TW := ⟨(tw_at 1546 (by decide +kernel) (by decide +kernel)), (tw_at 1548 (by decide +kernel) (by decide +kernel)), (tw_at 54 (by decide +kernel) (by decide +kernel))⟩
theorem ml_RX12_387 : Cond.methodLink RX12 387 yX12_allCalled ∈ TW ∧ Cond.instanceMethod yX12_allCalled ∈ TW ∧ Cond.selects RX12 yX12_allCalled yX12_allCalled ∈ TW := ⟨(tw_at 1573 (by decide +kernel) (by decide +kernel)), (tw_at 1575 (by decide +kernel) (by decide +kernel)), (tw_at 55 (by decide +kernel) (by decide +kernel))⟩
theorem ml_RX1_27 : Cond.methodLink RX1 27 yJ9_max_7cf53 ∈ TW ∧ Cond.static yJ9_max_7cf53 ∈ TW := ⟨(tw_at 661 (by decide +kernel) (by decide +kernel)), (tw_at 377 (by decide +kernel) (by decide +kernel))⟩
theorem ml_RX1_33 : Cond.methodLink RX1 33 yX7_at ∈ TW ∧ Cond.instanceMethod yX7_at ∈ TW ∧ Cond.selects RX7 yX7_at yX7_at ∈ TW := ⟨(tw_at 662 (by decide +kernel) (by decide +kernel)), (tw_at 476 (by decide +kernel) (by decide +kernel)), (tw_at 477 (by decide +kernel) (by decide +kernel))⟩
theorem ml_RX1_49 : Cond.methodLink RX1 49 yX1_suits ∈ TW ∧ Cond.instanceMethod yX1_suits ∈ TW ∧ Cond.selects RX1 yX1_suits yX1_suits ∈ TW := ⟨(tw_at 779 (by decide +kernel) (by decide +kernel)), (tw_at 763 (by decide +kernel) (by decide +kernel)), (tw_at 764 (by decide +kernel) (by decide +kernel))⟩
theorem ml_RX1_56 : Cond.methodLink RX1 56 yX1_holds ∈ TW ∧ Cond.static yX1_holds ∈ TW := ⟨(tw_at 768 (by decide +kernel) (by decide +kernel)), (tw_at 769 (by decide +kernel) (by decide +kernel))⟩
theorem ml_RX1_66 : Cond.methodLink RX1 66 yX5_wasIn ∈ TW ∧ Cond.instanceMethod yX5_wasIn ∈ TW ∧ Cond.selects RX5 yX5_wasIn yX5_wasIn ∈ TW := ⟨(tw_at 771 (by decide +kernel) (by decide +kernel)), (tw_at 772 (by decide +kernel) (by decide +kernel)), (tw_at 773 (by decide +kernel) (by decide +kernel))⟩
theorem ml_RX2_104 : Cond.methodLink RX2 104 yX9_advance ∈ TW ∧ Cond.instanceMethod yX9_advance ∈ TW ∧ Cond.selects RX9 yX9_advance yX9_advance ∈ TW := ⟨(tw_at 644 (by decide +kernel) (by decide +kernel)), (tw_at 472 (by decide +kernel) (by decide +kernel)), (tw_at 473 (by decide +kernel) (by decide +kernel))⟩
theorem ml_RX2_109 : Cond.methodLink RX2 109 yX9_isSign ∈ TW ∧ Cond.instanceMethod yX9_isSign ∈ TW ∧ Cond.selects RX9 yX9_isSign yX9_isSign ∈ TW := ⟨(tw_at 629 (by decide +kernel) (by decide +kernel)), (tw_at 617 (by decide +kernel) (by decide +kernel)), (tw_at 618 (by decide +kernel) (by decide +kernel))⟩
theorem ml_RX2_11 : Cond.methodLink RX2 11 yX7_init ∈ TW ∧ Cond.instanceMethod yX7_init ∈ TW := ⟨(tw_at 177 (by decide +kernel) (by decide +kernel)), (tw_at 123 (by decide +kernel) (by decide +kernel))⟩
theorem ml_RX2_112 : Cond.methodLink RX2 112 yX2_readMark ∈ TW ∧ Cond.instanceMethod yX2_readMark ∈ TW ∧ Cond.selects RX2 yX2_readMark yX2_readMark ∈ TW := ⟨(tw_at 630 (by decide +kernel) (by decide +kernel)), (tw_at 632 (by decide +kernel) (by decide +kernel)), (tw_at 8 (by decide +kernel) (by decide +kernel))⟩
theorem ml_RX2_116 : Cond.methodLink RX2 116 yX2_markHere ∈ TW ∧ Cond.instanceMethod yX2_markHere ∈ TW ∧ Cond.selects RX2 yX2_markHere yX2_markHere ∈ TW := ⟨(tw_at 634 (by decide +kernel) (by decide +kernel)), (tw_at 636 (by decide +kernel) (by decide +kernel)), (tw_at 9 (by decide +kernel) (by decide +kernel))⟩
theorem ml_RX2_120 : Cond.methodLink RX2 120 yX1_highest ∈ TW ∧ Cond.static yX1_highest ∈ TW := ⟨(tw_at 645 (by decide +kernel) (by decide +kernel)), (tw_at 646 (by decide +kernel) (by decide +kernel))⟩
theorem ml_RX2_124 : Cond.methodLink RX2 124 yX9_passNumber ∈ TW ∧ Cond.instanceMethod yX9_passNumber ∈ TW ∧ Cond.selects RX9 yX9_passNumber yX9_passNumber ∈ TW := ⟨(tw_at 649 (by decide +kernel) (by decide +kernel)), (tw_at 605 (by decide +kernel) (by decide +kernel)), (tw_at 606 (by decide +kernel) (by decide +kernel))⟩
theorem ml_RX2_26 : Cond.methodLink RX2 26 yJx4a65c_init_da8c8 ∈ TW ∧ Cond.instanceMethod yJx4a65c_init_da8c8 ∈ TW := ⟨(tw_at 466 (by decide +kernel) (by decide +kernel)), (tw_at 97 (by decide +kernel) (by decide +kernel))⟩
theorem ml_RX2_27 : Cond.methodLink RX2 27 yX9_begin ∈ TW ∧ Cond.instanceMethod yX9_begin ∈ TW ∧ Cond.selects RX9 yX9_begin yX9_begin ∈ TW := ⟨(tw_at 467 (by decide +kernel) (by decide +kernel)), (tw_at 468 (by decide +kernel) (by decide +kernel)), (tw_at 469 (by decide +kernel) (by decide +kernel))⟩
theorem ml_RX2_32 : Cond.methodLink RX2 32 yX9_atEnd ∈ TW ∧ Cond.instanceMethod yX9_atEnd ∈ TW ∧ Cond.selects RX9 yX9_atEnd yX9_atEnd ∈ TW := ⟨(tw_at 482 (by decide +kernel) (by decide +kernel)), (tw_at 483 (by decide +kernel) (by decide +kernel)), (tw_at 484 (by decide +kernel) (by decide +kernel))⟩
theorem ml_RX2_38 : Cond.methodLink RX2 38 yX9_isWord ∈ TW ∧ Cond.instanceMethod yX9_isWord ∈ TW ∧ Cond.selects RX9 yX9_isWord yX9_isWord ∈ TW := ⟨(tw_at 487 (by decide +kernel) (by decide +kernel)), (tw_at 488 (by decide +kernel) (by decide +kernel)), (tw_at 489 (by decide +kernel) (by decide +kernel))⟩
theorem ml_RX2_42 : Cond.methodLink RX2 42 yX9_fail ∈ TW ∧ Cond.instanceMethod yX9_fail ∈ TW ∧ Cond.selects RX9 yX9_fail yX9_fail ∈ TW := ⟨(tw_at 537 (by decide +kernel) (by decide +kernel)), (tw_at 538 (by decide +kernel) (by decide +kernel)), (tw_at 539 (by decide +kernel) (by decide +kernel))⟩
theorem ml_RX2_48 : Cond.methodLink RX2 48 yX1_init ∈ TW ∧ Cond.instanceMethod yX1_init ∈ TW := ⟨(tw_at 543 (by decide +kernel) (by decide +kernel)), (tw_at 544 (by decide +kernel) (by decide +kernel))⟩
theorem ml_RX2_53 : Cond.methodLink RX2 53 yX2_readHead ∈ TW ∧ Cond.instanceMethod yX2_readHead ∈ TW ∧ Cond.selects RX2 yX2_readHead yX2_readHead ∈ TW := ⟨(tw_at 590 (by decide +kernel) (by decide +kernel)), (tw_at 592 (by decide +kernel) (by decide +kernel)), (tw_at 5 (by decide +kernel) (by decide +kernel))⟩
theorem ml_RX2_57 : Cond.methodLink RX2 57 yX2_readAny ∈ TW ∧ Cond.instanceMethod yX2_readAny ∈ TW ∧ Cond.selects RX2 yX2_readAny yX2_readAny ∈ TW := ⟨(tw_at 620 (by decide +kernel) (by decide +kernel)), (tw_at 622 (by decide +kernel) (by decide +kernel)), (tw_at 6 (by decide +kernel) (by decide +kernel))⟩
theorem ml_RX2_60 : Cond.methodLink RX2 60 yX9_passSign ∈ TW ∧ Cond.instanceMethod yX9_passSign ∈ TW ∧ Cond.selects RX9 yX9_passSign yX9_passSign ∈ TW := ⟨(tw_at 612 (by decide +kernel) (by decide +kernel)), (tw_at 613 (by decide +kernel) (by decide +kernel)), (tw_at 614 (by decide +kernel) (by decide +kernel))⟩
theorem ml_RX2_64 : Cond.methodLink RX2 64 yX1_takeSteps ∈ TW ∧ Cond.instanceMethod yX1_takeSteps ∈ TW ∧ Cond.selects RX1 yX1_takeSteps yX1_takeSteps ∈ TW := ⟨(tw_at 657 (by decide +kernel) (by decide +kernel)), (tw_at 658 (by decide +kernel) (by decide +kernel)), (tw_at 659 (by decide +kernel) (by decide +kernel))⟩
theorem ml_RX2_68 : Cond.methodLink RX2 68 yJx4a65c_add_9ea2d ∈ TW ∧ Cond.instanceMethod yJx4a65c_add_9ea2d ∈ TW ∧ Cond.selects RJx4a65c yJx4a65c_add_9ea2d yJx4a65c_add_9ea2d ∈ TW := ⟨(tw_at 663 (by decide +kernel) (by decide +kernel)), (tw_at 358 (by decide +kernel) (by decide +kernel)), (tw_at 359 (by decide +kernel) (by decide +kernel))⟩
theorem ml_RX2_72 : Cond.methodLink RX2 72 yX9_passNumberAfter ∈ TW ∧ Cond.instanceMethod yX9_passNumberAfter ∈ TW ∧ Cond.selects RX9 yX9_passNumberAfter yX9_passNumberAfter ∈ TW := ⟨(tw_at 594 (by decide +kernel) (by decide +kernel)), (tw_at 595 (by decide +kernel) (by decide +kernel)), (tw_at 596 (by decide +kernel) (by decide +kernel))⟩
theorem ml_RX2_93 : Cond.methodLink RX2 93 yX2_readOne ∈ TW ∧ Cond.instanceMethod yX2_readOne ∈ TW ∧ Cond.selects RX2 yX2_readOne yX2_readOne ∈ TW := ⟨(tw_at 624 (by decide +kernel) (by decide +kernel)), (tw_at 626 (by decide +kernel) (by decide +kernel)), (tw_at 7 (by decide +kernel) (by decide +kernel))⟩
theorem ml_RX2_97 : Cond.methodLink RX2 97 yX7_add ∈ TW ∧ Cond.instanceMethod yX7_add ∈ TW ∧ Cond.selects RX7 yX7_add yX7_add ∈ TW := ⟨(tw_at 651 (by decide +kernel) (by decide +kernel)), (tw_at 450 (by decide +kernel) (by decide +kernel)), (tw_at 451 (by decide +kernel) (by decide +kernel))⟩
theorem ml_RX3_11 : Cond.methodLink RX3 11 yJx4a65c_init_da8c8 ∈ TW ∧ Cond.instanceMethod yJx4a65c_init_da8c8 ∈ TW := ⟨(tw_at 235 (by decide +kernel) (by decide +kernel)), (tw_at 97 (by decide +kernel) (by decide +kernel))⟩
theorem ml_RX3_25 : Cond.methodLink RX3 25 yJx4a65c_clear_da8c8 ∈ TW ∧ Cond.instanceMethod yJx4a65c_clear_da8c8 ∈ TW ∧ Cond.selects RJx4a65c yJx4a65c_clear_da8c8 yJx4a65c_clear_da8c8 ∈ TW := ⟨(tw_at 856 (by decide +kernel) (by decide +kernel)), (tw_at 857 (by decide +kernel) (by decide +kernel)), (tw_at 858 (by decide +kernel) (by decide +kernel))⟩
theorem ml_RX3_28 : Cond.methodLink RX3 28 yJx4a65c_size_8abf5 ∈ TW ∧ Cond.instanceMethod yJx4a65c_size_8abf5 ∈ TW ∧ Cond.selects RJx4a65c yJx4a65c_size_8abf5 yJx4a65c_size_8abf5 ∈ TW := ⟨(tw_at 860 (by decide +kernel) (by decide +kernel)), (tw_at 290 (by decide +kernel) (by decide +kernel)), (tw_at 291 (by decide +kernel) (by decide +kernel))⟩
theorem ml_RX3_32 : Cond.methodLink RX3 32 yJx4a65c_get_915e3 ∈ TW ∧ Cond.instanceMethod yJx4a65c_get_915e3 ∈ TW ∧ Cond.selects RJx4a65c yJx4a65c_get_915e3 yJx4a65c_get_915e3 ∈ TW := ⟨(tw_at 861 (by decide +kernel) (by decide +kernel)), (tw_at 428 (by decide +kernel) (by decide +kernel)), (tw_at 429 (by decide +kernel) (by decide +kernel))⟩
theorem ml_RX3_42 : Cond.methodLink RX3 42 yX3_following ∈ TW ∧ Cond.static yX3_following ∈ TW := ⟨(tw_at 863 (by decide +kernel) (by decide +kernel)), (tw_at 864 (by decide +kernel) (by decide +kernel))⟩
theorem ml_RX3_48 : Cond.methodLink RX3 48 yX10_init ∈ TW ∧ Cond.instanceMethod yX10_init ∈ TW := ⟨(tw_at 869 (by decide +kernel) (by decide +kernel)), (tw_at 870 (by decide +kernel) (by decide +kernel))⟩
theorem ml_RX3_60 : Cond.methodLink RX3 60 yJx4a65c_add_9ea2d ∈ TW ∧ Cond.instanceMethod yJx4a65c_add_9ea2d ∈ TW ∧ Cond.selects RJx4a65c yJx4a65c_add_9ea2d yJx4a65c_add_9ea2d ∈ TW := ⟨(tw_at 909 (by decide +kernel) (by decide +kernel)), (tw_at 358 (by decide +kernel) (by decide +kernel)), (tw_at 359 (by decide +kernel) (by decide +kernel))⟩
theorem ml_RX3_64 : Cond.methodLink RX3 64 yX3_queue ∈ TW ∧ Cond.instanceMethod yX3_queue ∈ TW ∧ Cond.selects RX3 yX3_queue yX3_queue ∈ TW := ⟨(tw_at 910 (by decide +kernel) (by decide +kernel)), (tw_at 912 (by decide +kernel) (by decide +kernel)), (tw_at 18 (by decide +kernel) (by decide +kernel))⟩
theorem ml_RX3_69 : Cond.methodLink RX3 69 yJx4a65c_add_7a177 ∈ TW ∧ Cond.instanceMethod yJx4a65c_add_7a177 ∈ TW ∧ Cond.selects RJx4a65c yJx4a65c_add_7a177 yJx4a65c_add_7a177 ∈ TW := ⟨(tw_at 914 (by decide +kernel) (by decide +kernel)), (tw_at 915 (by decide +kernel) (by decide +kernel)), (tw_at 916 (by decide +kernel) (by decide +kernel))⟩
theorem ml_RX3_72 : Cond.methodLink RX3 72 yX3_firstFree ∈ TW ∧ Cond.instanceMethod yX3_firstFree ∈ TW ∧ Cond.selects RX3 yX3_firstFree yX3_firstFree ∈ TW := ⟨(tw_at 927 (by decide +kernel) (by decide +kernel)), (tw_at 929 (by decide +kernel) (by decide +kernel)), (tw_at 20 (by decide +kernel) (by decide +kernel))⟩
theorem ml_RX3_75 : Cond.methodLink RX3 75 yJ9_max_7cf53 ∈ TW ∧ Cond.static yJ9_max_7cf53 ∈ TW := ⟨(tw_at 931 (by decide +kernel) (by decide +kernel)), (tw_at 377 (by decide +kernel) (by decide +kernel))⟩
theorem ml_RX4_11 : Cond.methodLink RX4 11 yX7_init ∈ TW ∧ Cond.instanceMethod yX7_init ∈ TW := ⟨(tw_at 192 (by decide +kernel) (by decide +kernel)), (tw_at 123 (by decide +kernel) (by decide +kernel))⟩
theorem ml_RX4_32 : Cond.methodLink RX4 32 yX7_add ∈ TW ∧ Cond.instanceMethod yX7_add ∈ TW ∧ Cond.selects RX7 yX7_add yX7_add ∈ TW := ⟨(tw_at 945 (by decide +kernel) (by decide +kernel)), (tw_at 450 (by decide +kernel) (by decide +kernel)), (tw_at 451 (by decide +kernel) (by decide +kernel))⟩
theorem ml_RX4_38 : Cond.methodLink RX4 38 yX7_at ∈ TW ∧ Cond.instanceMethod yX7_at ∈ TW ∧ Cond.selects RX7 yX7_at yX7_at ∈ TW := ⟨(tw_at 1103 (by decide +kernel) (by decide +kernel)), (tw_at 476 (by decide +kernel) (by decide +kernel)), (tw_at 477 (by decide +kernel) (by decide +kernel))⟩
theorem ml_RX6_106 : Cond.methodLink RX6 106 yX6_firstOfRow ∈ TW ∧ Cond.instanceMethod yX6_firstOfRow ∈ TW ∧ Cond.selects RX6 yX6_firstOfRow yX6_firstOfRow ∈ TW := ⟨(tw_at 838 (by decide +kernel) (by decide +kernel)), (tw_at 840 (by decide +kernel) (by decide +kernel)), (tw_at 17 (by decide +kernel) (by decide +kernel))⟩
theorem ml_RX6_11 : Cond.methodLink RX6 11 yJx4a65c_init_da8c8 ∈ TW ∧ Cond.instanceMethod yJx4a65c_init_da8c8 ∈ TW := ⟨(tw_at 210 (by decide +kernel) (by decide +kernel)), (tw_at 97 (by decide +kernel) (by decide +kernel))⟩
theorem ml_RX6_111 : Cond.methodLink RX6 111 yX7_add ∈ TW ∧ Cond.instanceMethod yX7_add ∈ TW ∧ Cond.selects RX7 yX7_add yX7_add ∈ TW := ⟨(tw_at 842 (by decide +kernel) (by decide +kernel)), (tw_at 450 (by decide +kernel) (by decide +kernel)), (tw_at 451 (by decide +kernel) (by decide +kernel))⟩
theorem ml_RX6_20 : Cond.methodLink RX6 20 yX7_init ∈ TW ∧ Cond.instanceMethod yX7_init ∈ TW := ⟨(tw_at 212 (by decide +kernel) (by decide +kernel)), (tw_at 123 (by decide +kernel) (by decide +kernel))⟩
theorem ml_RX6_30 : Cond.methodLink RX6 30 yJx4a65c_size_8abf5 ∈ TW ∧ Cond.instanceMethod yJx4a65c_size_8abf5 ∈ TW ∧ Cond.selects RJx4a65c yJx4a65c_size_8abf5 yJx4a65c_size_8abf5 ∈ TW := ⟨(tw_at 672 (by decide +kernel) (by decide +kernel)), (tw_at 290 (by decide +kernel) (by decide +kernel)), (tw_at 291 (by decide +kernel) (by decide +kernel))⟩
theorem ml_RX6_34 : Cond.methodLink RX6 34 yJx4a65c_get_915e3 ∈ TW ∧ Cond.instanceMethod yJx4a65c_get_915e3 ∈ TW ∧ Cond.selects RJx4a65c yJx4a65c_get_915e3 yJx4a65c_get_915e3 ∈ TW := ⟨(tw_at 673 (by decide +kernel) (by decide +kernel)), (tw_at 428 (by decide +kernel) (by decide +kernel)), (tw_at 429 (by decide +kernel) (by decide +kernel))⟩
theorem ml_RX6_44 : Cond.methodLink RX6 44 yX6_dismissAll ∈ TW ∧ Cond.instanceMethod yX6_dismissAll ∈ TW ∧ Cond.selects RX6 yX6_dismissAll yX6_dismissAll ∈ TW := ⟨(tw_at 668 (by decide +kernel) (by decide +kernel)), (tw_at 670 (by decide +kernel) (by decide +kernel)), (tw_at 10 (by decide +kernel) (by decide +kernel))⟩
theorem ml_RX6_49 : Cond.methodLink RX6 49 yX5_moveTo ∈ TW ∧ Cond.instanceMethod yX5_moveTo ∈ TW ∧ Cond.selects RX5 yX5_moveTo yX5_moveTo ∈ TW := ⟨(tw_at 675 (by decide +kernel) (by decide +kernel)), (tw_at 676 (by decide +kernel) (by decide +kernel)), (tw_at 677 (by decide +kernel) (by decide +kernel))⟩
theorem ml_RX6_56 : Cond.methodLink RX6 56 yX1_isOpenTo ∈ TW ∧ Cond.instanceMethod yX1_isOpenTo ∈ TW ∧ Cond.selects RX1 yX1_isOpenTo yX1_isOpenTo ∈ TW := ⟨(tw_at 796 (by decide +kernel) (by decide +kernel)), (tw_at 776 (by decide +kernel) (by decide +kernel)), (tw_at 777 (by decide +kernel) (by decide +kernel))⟩
theorem ml_RX6_60 : Cond.methodLink RX6 60 yX6_lookWhoIsOpen ∈ TW ∧ Cond.instanceMethod yX6_lookWhoIsOpen ∈ TW ∧ Cond.selects RX6 yX6_lookWhoIsOpen yX6_lookWhoIsOpen ∈ TW := ⟨(tw_at 792 (by decide +kernel) (by decide +kernel)), (tw_at 794 (by decide +kernel) (by decide +kernel)), (tw_at 11 (by decide +kernel) (by decide +kernel))⟩
theorem ml_RX6_66 : Cond.methodLink RX6 66 yX6_seat ∈ TW ∧ Cond.instanceMethod yX6_seat ∈ TW ∧ Cond.selects RX6 yX6_seat yX6_seat ∈ TW := ⟨(tw_at 797 (by decide +kernel) (by decide +kernel)), (tw_at 799 (by decide +kernel) (by decide +kernel)), (tw_at 12 (by decide +kernel) (by decide +kernel))⟩
theorem ml_RX6_70 : Cond.methodLink RX6 70 yX6_seatAllInLeast ∈ TW ∧ Cond.instanceMethod yX6_seatAllInLeast ∈ TW ∧ Cond.selects RX6 yX6_seatAllInLeast yX6_seatAllInLeast ∈ TW := ⟨(tw_at 813 (by decide +kernel) (by decide +kernel)), (tw_at 815 (by decide +kernel) (by decide +kernel)), (tw_at 15 (by decide +kernel) (by decide +kernel))⟩
theorem ml_RX6_80 : Cond.methodLink RX6 80 yX6_seatElsewhere ∈ TW ∧ Cond.instanceMethod yX6_seatElsewhere ∈ TW ∧ Cond.selects RX6 yX6_seatElsewhere yX6_seatElsewhere ∈ TW := ⟨(tw_at 801 (by decide +kernel) (by decide +kernel)), (tw_at 803 (by decide +kernel) (by decide +kernel)), (tw_at 13 (by decide +kernel) (by decide +kernel))⟩
theorem ml_RX6_84 : Cond.methodLink RX6 84 yX5_canBeIn ∈ TW ∧ Cond.instanceMethod yX5_canBeIn ∈ TW ∧ Cond.selects RX5 yX5_canBeIn yX5_canBeIn ∈ TW := ⟨(tw_at 805 (by decide +kernel) (by decide +kernel)), (tw_at 806 (by decide +kernel) (by decide +kernel)), (tw_at 807 (by decide +kernel) (by decide +kernel))⟩
theorem ml_RX6_88 : Cond.methodLink RX6 88 yX6_makeRoom ∈ TW ∧ Cond.instanceMethod yX6_makeRoom ∈ TW ∧ Cond.selects RX6 yX6_makeRoom yX6_makeRoom ∈ TW := ⟨(tw_at 809 (by decide +kernel) (by decide +kernel)), (tw_at 811 (by decide +kernel) (by decide +kernel)), (tw_at 14 (by decide +kernel) (by decide +kernel))⟩
theorem ml_RX6_98 : Cond.methodLink RX6 98 yX6_measureRows ∈ TW ∧ Cond.instanceMethod yX6_measureRows ∈ TW ∧ Cond.selects RX6 yX6_measureRows yX6_measureRows ∈ TW := ⟨(tw_at 834 (by decide +kernel) (by decide +kernel)), (tw_at 836 (by decide +kernel) (by decide +kernel)), (tw_at 16 (by decide +kernel) (by decide +kernel))⟩
theorem ml_RX8_17 : Cond.methodLink RX8 17 yX9_isWord ∈ TW ∧ Cond.instanceMethod yX9_isWord ∈ TW ∧ Cond.selects RX9 yX9_isWord yX9_isWord ∈ TW := ⟨(tw_at 712 (by decide +kernel) (by decide +kernel)), (tw_at 488 (by decide +kernel) (by decide +kernel)), (tw_at 489 (by decide +kernel) (by decide +kernel))⟩
theorem ml_RX8_30 : Cond.methodLink RX8 30 yX9_passNumber ∈ TW ∧ Cond.instanceMethod yX9_passNumber ∈ TW ∧ Cond.selects RX9 yX9_passNumber yX9_passNumber ∈ TW := ⟨(tw_at 741 (by decide +kernel) (by decide +kernel)), (tw_at 605 (by decide +kernel) (by decide +kernel)), (tw_at 606 (by decide +kernel) (by decide +kernel))⟩
theorem ml_RX8_42 : Cond.methodLink RX8 42 yX9_passNumberAfter ∈ TW ∧ Cond.instanceMethod yX9_passNumberAfter ∈ TW ∧ Cond.selects RX9 yX9_passNumberAfter yX9_passNumberAfter ∈ TW := ⟨(tw_at 743 (by decide +kernel) (by decide +kernel)), (tw_at 595 (by decide +kernel) (by decide +kernel)), (tw_at 596 (by decide +kernel) (by decide +kernel))⟩
theorem ml_RX8_54 : Cond.methodLink RX8 54 yX9_passWord ∈ TW ∧ Cond.instanceMethod yX9_passWord ∈ TW ∧ Cond.selects RX9 yX9_passWord yX9_passWord ∈ TW := ⟨(tw_at 746 (by decide +kernel) (by decide +kernel)), (tw_at 599 (by decide +kernel) (by decide +kernel)), (tw_at 600 (by decide +kernel) (by decide +kernel))⟩
theorem ml_RX8_57 : Cond.methodLink RX8 57 yX8_quarters ∈ TW ∧ Cond.instanceMethod yX8_quarters ∈ TW ∧ Cond.selects RX8 yX8_quarters yX8_quarters ∈ TW := ⟨(tw_at 973 (by decide +kernel) (by decide +kernel)), (tw_at 975 (by decide +kernel) (by decide +kernel)), (tw_at 23 (by decide +kernel) (by decide +kernel))⟩
theorem ml_RX9_25 : Cond.methodLink RX9 25 yX9_advance ∈ TW ∧ Cond.instanceMethod yX9_advance ∈ TW ∧ Cond.selects RX9 yX9_advance yX9_advance ∈ TW := ⟨(tw_at 471 (by decide +kernel) (by decide +kernel)), (tw_at 472 (by decide +kernel) (by decide +kernel)), (tw_at 473 (by decide +kernel) (by decide +kernel))⟩
theorem ml_RX9_36 : Cond.methodLink RX9 36 yX7_at ∈ TW ∧ Cond.instanceMethod yX7_at ∈ TW ∧ Cond.selects RX7 yX7_at yX7_at ∈ TW := ⟨(tw_at 475 (by decide +kernel) (by decide +kernel)), (tw_at 476 (by decide +kernel) (by decide +kernel)), (tw_at 477 (by decide +kernel) (by decide +kernel))⟩
theorem ml_RX9_40 : Cond.methodLink RX9 40 yX9_kindOf ∈ TW ∧ Cond.static yX9_kindOf ∈ TW := ⟨(tw_at 479 (by decide +kernel) (by decide +kernel)), (tw_at 480 (by decide +kernel) (by decide +kernel))⟩
theorem ml_RX9_49 : Cond.methodLink RX9 49 yJ0_length_8abf5 ∈ TW ∧ Cond.instanceMethod yJ0_length_8abf5 ∈ TW ∧ Cond.selects RJ0 yJ0_length_8abf5 yJ0_length_8abf5 ∈ TW := ⟨(tw_at 491 (by decide +kernel) (by decide +kernel)), (tw_at 492 (by decide +kernel) (by decide +kernel)), (tw_at 493 (by decide +kernel) (by decide +kernel))⟩
theorem ml_RX9_55 : Cond.methodLink RX9 55 yJ0_charAt_5068e ∈ TW ∧ Cond.instanceMethod yJ0_charAt_5068e ∈ TW ∧ Cond.selects RJ0 yJ0_charAt_5068e yJ0_charAt_5068e ∈ TW := ⟨(tw_at 501 (by decide +kernel) (by decide +kernel)), (tw_at 502 (by decide +kernel) (by decide +kernel)), (tw_at 503 (by decide +kernel) (by decide +kernel))⟩
theorem ml_RX9_59 : Cond.methodLink RX9 59 yX9_isWord ∈ TW ∧ Cond.instanceMethod yX9_isWord ∈ TW ∧ Cond.selects RX9 yX9_isWord yX9_isWord ∈ TW := ⟨(tw_at 602 (by decide +kernel) (by decide +kernel)), (tw_at 488 (by decide +kernel) (by decide +kernel)), (tw_at 489 (by decide +kernel) (by decide +kernel))⟩
theorem ml_RX9_63 : Cond.methodLink RX9 63 yX9_fail ∈ TW ∧ Cond.instanceMethod yX9_fail ∈ TW ∧ Cond.selects RX9 yX9_fail yX9_fail ∈ TW := ⟨(tw_at 603 (by decide +kernel) (by decide +kernel)), (tw_at 538 (by decide +kernel) (by decide +kernel)), (tw_at 539 (by decide +kernel) (by decide +kernel))⟩
theorem ml_RX9_67 : Cond.methodLink RX9 67 yX9_isSign ∈ TW ∧ Cond.instanceMethod yX9_isSign ∈ TW ∧ Cond.selects RX9 yX9_isSign yX9_isSign ∈ TW := ⟨(tw_at 616 (by decide +kernel) (by decide +kernel)), (tw_at 617 (by decide +kernel) (by decide +kernel)), (tw_at 618 (by decide +kernel) (by decide +kernel))⟩
theorem ml_RX9_71 : (RX9, 71, yX11_within, "ExtrasOffice") ∈ nestW ∧ Cond.static yX11_within ∈ TW := ⟨(by decide +kernel), (tw_at 286 (by decide +kernel) (by decide +kernel))⟩
theorem ml_RX9_75 : Cond.methodLink RX9 75 yX9_passWord ∈ TW ∧ Cond.instanceMethod yX9_passWord ∈ TW ∧ Cond.selects RX9 yX9_passWord yX9_passWord ∈ TW := ⟨(tw_at 598 (by decide +kernel) (by decide +kernel)), (tw_at 599 (by decide +kernel) (by decide +kernel)), (tw_at 600 (by decide +kernel) (by decide +kernel))⟩
theorem ml_RX9_78 : Cond.methodLink RX9 78 yX9_passNumber ∈ TW ∧ Cond.instanceMethod yX9_passNumber ∈ TW ∧ Cond.selects RX9 yX9_passNumber yX9_passNumber ∈ TW := ⟨(tw_at 604 (by decide +kernel) (by decide +kernel)), (tw_at 605 (by decide +kernel) (by decide +kernel)), (tw_at 606 (by decide +kernel) (by decide +kernel))⟩
theorem cl_RJ7_110 : Cond.classLink RJ7 110 "[Ljava/lang/Object;" ∈ TW := (tw_at 408 (by decide +kernel) (by decide +kernel))
theorem cl_RJ7_2 : Cond.classLink RJ7 2 "java/lang/Object" ∈ TW := (tw_at 410 (by decide +kernel) (by decide +kernel))
theorem cl_RJx4a65c_7 : Cond.classLink RJx4a65c 7 "java/lang/Object" ∈ TW := (tw_at 418 (by decide +kernel) (by decide +kernel))
theorem cl_RX0_31 : Cond.classLink RX0 31 "ExtrasOffice$Term" ∈ TW := (tw_at 706 (by decide +kernel) (by decide +kernel))
theorem cl_RX11_121 : Cond.classLink RX11 121 "ExtrasOffice$Agreement" ∈ TW := (tw_at 683 (by decide +kernel) (by decide +kernel))
theorem cl_RX11_192 : Cond.classLink RX11 192 "ExtrasOffice$Turn" ∈ TW := (tw_at 936 (by decide +kernel) (by decide +kernel))
theorem cl_RX11_84 : Cond.classLink RX11 84 "ExtrasOffice$Person" ∈ TW := (tw_at 293 (by decide +kernel) (by decide +kernel))
theorem cl_RX3_36 : Cond.classLink RX3 36 "ExtrasOffice$Person" ∈ TW := (tw_at 862 (by decide +kernel) (by decide +kernel))
theorem cl_RX3_46 : Cond.classLink RX3 46 "ExtrasOffice$Turn" ∈ TW := (tw_at 867 (by decide +kernel) (by decide +kernel))
theorem cl_RX6_38 : Cond.classLink RX6 38 "ExtrasOffice$Ask" ∈ TW := (tw_at 761 (by decide +kernel) (by decide +kernel))
theorem cl_RX6_47 : Cond.classLink RX6 47 "ExtrasOffice$Person" ∈ TW := (tw_at 674 (by decide +kernel) (by decide +kernel))
theorem ct_RJ8_200 : Cond.constant RJ8 200 (2147483639) ∈ TW := (tw_at 379 (by decide +kernel) (by decide +kernel))
theorem ct_RX11_79 : Cond.constant RX11 79 (65535) ∈ TW := (tw_at 288 (by decide +kernel) (by decide +kernel))
theorem ct_RX12_158 : Cond.constant RX12 158 (65535) ∈ TW := (tw_at 1327 (by decide +kernel) (by decide +kernel))
theorem ct_RX12_275 : Cond.constant RX12 275 (99999) ∈ TW := (tw_at 1439 (by decide +kernel) (by decide +kernel))
theorem ct_RX12_361 : Cond.constant RX12 361 (1103515245) ∈ TW := (tw_at 1528 (by decide +kernel) (by decide +kernel))
theorem ct_RX1_21 : Cond.constant RX1 21 (99999) ∈ TW := (tw_at 648 (by decide +kernel) (by decide +kernel))
theorem ct_RX1_53 : Cond.constant RX1 53 (100000) ∈ TW := (tw_at 766 (by decide +kernel) (by decide +kernel))
theorem ct_RX1_54 : Cond.constantLong RX1 54 (-2) ∈ TW := (tw_at 767 (by decide +kernel) (by decide +kernel))
theorem ct_RX2_101 : Cond.constant RX2 101 (1000000) ∈ TW := (tw_at 655 (by decide +kernel) (by decide +kernel))
theorem ct_RX2_115 : Cond.constant RX2 115 (800000) ∈ TW := (tw_at 652 (by decide +kernel) (by decide +kernel))
theorem ct_RX2_128 : Cond.constant RX2 128 (100000) ∈ TW := (tw_at 650 (by decide +kernel) (by decide +kernel))
theorem ct_RX2_96 : Cond.constant RX2 96 (900000) ∈ TW := (tw_at 653 (by decide +kernel) (by decide +kernel))
theorem ct_RX3_68 : Cond.constant RX3 68 (1103515245) ∈ TW := (tw_at 866 (by decide +kernel) (by decide +kernel))
theorem ct_RX8_29 : Cond.constant RX8 29 (99999) ∈ TW := (tw_at 740 (by decide +kernel) (by decide +kernel))
theorem ac_boolean : Cond.arrayClass .boolean ∈ TW := (tw_at 1319 (by decide +kernel) (by decide +kernel))
theorem ac_byte : Cond.arrayClass .byte ∈ TW := (tw_at 589 (by decide +kernel) (by decide +kernel))
theorem ac_int : Cond.arrayClass .int ∈ TW := (tw_at 139 (by decide +kernel) (by decide +kernel))
theorem gc_RJ7_86 : Cond.methodLink RJ7 86 ⟨"java/lang/Object", "getClass", "()Ljava/lang/Class;"⟩ ∈ TW ∧ Cond.selects "[Ljava/lang/Object;" ⟨"java/lang/Object", "getClass", "()Ljava/lang/Class;"⟩ ⟨"java/lang/Object", "getClass", "()Ljava/lang/Class;"⟩ ∈ TW ∧ Cond.instanceMethod ⟨"java/lang/Object", "getClass", "()Ljava/lang/Class;"⟩ ∈ TW ∧ Cond.native ⟨"java/lang/Object", "getClass", "()Ljava/lang/Class;"⟩ ∈ TW := ⟨(tw_at 386 (by decide +kernel) (by decide +kernel)), (tw_at 1597 (by decide +kernel) (by decide +kernel)), (tw_at 387 (by decide +kernel) (by decide +kernel)), (tw_at 404 (by decide +kernel) (by decide +kernel))⟩
theorem gs_RJx4a65c_39 : Cond.fieldLink RJx4a65c 39 "java/util/ArrayList" "DEFAULTCAPACITY_EMPTY_ELEMENTDATA" "[Ljava/lang/Object;" ∈ TW := (tw_at 106 (by decide +kernel) (by decide +kernel))
theorem nw_RX0_31 : Cond.classLink RX0 31 RX8 ∈ TW ∧ Cond.instantiable RX8 4 ∈ TW ∧ Cond.initialized RX8 ∈ TW := ⟨(tw_at 706 (by decide +kernel) (by decide +kernel)), (tw_at 707 (by decide +kernel) (by decide +kernel)), (tw_at 80 (by decide +kernel) (by decide +kernel))⟩
theorem nw_RX0_9 : Cond.classLink RX0 9 RJx4a65c ∈ TW ∧ Cond.instantiable RJx4a65c 3 ∈ TW ∧ Cond.initialized RJx4a65c ∈ TW := ⟨(tw_at 689 (by decide +kernel) (by decide +kernel)), (tw_at 95 (by decide +kernel) (by decide +kernel)), (tw_at 60 (by decide +kernel) (by decide +kernel))⟩
theorem nw_RX11_121 : Cond.classLink RX11 121 RX0 ∈ TW ∧ Cond.instantiable RX0 2 ∈ TW ∧ Cond.initialized RX0 ∈ TW := ⟨(tw_at 683 (by decide +kernel) (by decide +kernel)), (tw_at 684 (by decide +kernel) (by decide +kernel)), (tw_at 79 (by decide +kernel) (by decide +kernel))⟩
theorem nw_RX11_16 : Cond.classLink RX11 16 RX7 ∈ TW ∧ Cond.instantiable RX7 2 ∈ TW ∧ Cond.initialized RX7 ∈ TW := ⟨(tw_at 120 (by decide +kernel) (by decide +kernel)), (tw_at 121 (by decide +kernel) (by decide +kernel)), (tw_at 61 (by decide +kernel) (by decide +kernel))⟩
theorem nw_RX11_25 : Cond.classLink RX11 25 RX9 ∈ TW ∧ Cond.instantiable RX9 7 ∈ TW ∧ Cond.initialized RX9 ∈ TW := ⟨(tw_at 140 (by decide +kernel) (by decide +kernel)), (tw_at 141 (by decide +kernel) (by decide +kernel)), (tw_at 62 (by decide +kernel) (by decide +kernel))⟩
theorem nw_RX11_34 : Cond.classLink RX11 34 RX2 ∈ TW ∧ Cond.instantiable RX2 2 ∈ TW ∧ Cond.initialized RX2 ∈ TW := ⟨(tw_at 170 (by decide +kernel) (by decide +kernel)), (tw_at 171 (by decide +kernel) (by decide +kernel)), (tw_at 63 (by decide +kernel) (by decide +kernel))⟩
theorem nw_RX11_46 : Cond.classLink RX11 46 RX4 ∈ TW ∧ Cond.instantiable RX4 3 ∈ TW ∧ Cond.initialized RX4 ∈ TW := ⟨(tw_at 185 (by decide +kernel) (by decide +kernel)), (tw_at 186 (by decide +kernel) (by decide +kernel)), (tw_at 64 (by decide +kernel) (by decide +kernel))⟩
theorem nw_RX11_53 : Cond.classLink RX11 53 RX6 ∈ TW ∧ Cond.instantiable RX6 4 ∈ TW ∧ Cond.initialized RX6 ∈ TW := ⟨(tw_at 203 (by decide +kernel) (by decide +kernel)), (tw_at 204 (by decide +kernel) (by decide +kernel)), (tw_at 65 (by decide +kernel) (by decide +kernel))⟩
theorem nw_RX11_62 : Cond.classLink RX11 62 RX3 ∈ TW ∧ Cond.instantiable RX3 3 ∈ TW ∧ Cond.initialized RX3 ∈ TW := ⟨(tw_at 228 (by decide +kernel) (by decide +kernel)), (tw_at 229 (by decide +kernel) (by decide +kernel)), (tw_at 66 (by decide +kernel) (by decide +kernel))⟩
theorem nw_RX11_7 : Cond.classLink RX11 7 RJx4a65c ∈ TW ∧ Cond.instantiable RJx4a65c 3 ∈ TW ∧ Cond.initialized RJx4a65c ∈ TW := ⟨(tw_at 94 (by decide +kernel) (by decide +kernel)), (tw_at 95 (by decide +kernel) (by decide +kernel)), (tw_at 60 (by decide +kernel) (by decide +kernel))⟩
theorem nw_RX11_84 : Cond.classLink RX11 84 RX5 ∈ TW ∧ Cond.instantiable RX5 12 ∈ TW ∧ Cond.initialized RX5 ∈ TW := ⟨(tw_at 293 (by decide +kernel) (by decide +kernel)), (tw_at 294 (by decide +kernel) (by decide +kernel)), (tw_at 68 (by decide +kernel) (by decide +kernel))⟩
theorem nw_RX2_24 : Cond.classLink RX2 24 RJx4a65c ∈ TW ∧ Cond.instantiable RJx4a65c 3 ∈ TW ∧ Cond.initialized RJx4a65c ∈ TW := ⟨(tw_at 465 (by decide +kernel) (by decide +kernel)), (tw_at 95 (by decide +kernel) (by decide +kernel)), (tw_at 60 (by decide +kernel) (by decide +kernel))⟩
theorem nw_RX2_46 : Cond.classLink RX2 46 RX1 ∈ TW ∧ Cond.instantiable RX1 9 ∈ TW ∧ Cond.initialized RX1 ∈ TW := ⟨(tw_at 541 (by decide +kernel) (by decide +kernel)), (tw_at 542 (by decide +kernel) (by decide +kernel)), (tw_at 78 (by decide +kernel) (by decide +kernel))⟩
theorem nw_RX2_9 : Cond.classLink RX2 9 RX7 ∈ TW ∧ Cond.instantiable RX7 2 ∈ TW ∧ Cond.initialized RX7 ∈ TW := ⟨(tw_at 176 (by decide +kernel) (by decide +kernel)), (tw_at 121 (by decide +kernel) (by decide +kernel)), (tw_at 61 (by decide +kernel) (by decide +kernel))⟩
theorem nw_RX3_46 : Cond.classLink RX3 46 RX10 ∈ TW ∧ Cond.instantiable RX10 9 ∈ TW ∧ Cond.initialized RX10 ∈ TW := ⟨(tw_at 867 (by decide +kernel) (by decide +kernel)), (tw_at 868 (by decide +kernel) (by decide +kernel)), (tw_at 81 (by decide +kernel) (by decide +kernel))⟩
theorem nw_RX3_9 : Cond.classLink RX3 9 RJx4a65c ∈ TW ∧ Cond.instantiable RJx4a65c 3 ∈ TW ∧ Cond.initialized RJx4a65c ∈ TW := ⟨(tw_at 234 (by decide +kernel) (by decide +kernel)), (tw_at 95 (by decide +kernel) (by decide +kernel)), (tw_at 60 (by decide +kernel) (by decide +kernel))⟩
theorem nw_RX4_9 : Cond.classLink RX4 9 RX7 ∈ TW ∧ Cond.instantiable RX7 2 ∈ TW ∧ Cond.initialized RX7 ∈ TW := ⟨(tw_at 191 (by decide +kernel) (by decide +kernel)), (tw_at 121 (by decide +kernel) (by decide +kernel)), (tw_at 61 (by decide +kernel) (by decide +kernel))⟩
theorem nw_RX6_18 : Cond.classLink RX6 18 RX7 ∈ TW ∧ Cond.instantiable RX7 2 ∈ TW ∧ Cond.initialized RX7 ∈ TW := ⟨(tw_at 211 (by decide +kernel) (by decide +kernel)), (tw_at 121 (by decide +kernel) (by decide +kernel)), (tw_at 61 (by decide +kernel) (by decide +kernel))⟩
theorem nw_RX6_9 : Cond.classLink RX6 9 RJx4a65c ∈ TW ∧ Cond.instantiable RJx4a65c 3 ∈ TW ∧ Cond.initialized RJx4a65c ∈ TW := ⟨(tw_at 209 (by decide +kernel) (by decide +kernel)), (tw_at 95 (by decide +kernel) (by decide +kernel)), (tw_at 60 (by decide +kernel) (by decide +kernel))⟩
theorem oi_RJxa1e45_1 : Cond.methodLink RJxa1e45 1 Lib.objectInit ∈ TW ∧ Cond.instanceMethod Lib.objectInit ∈ TW ∧ Cond.code Lib.objectInit ⟨#[0xb1]⟩ 1 none ∈ TW := ⟨(tw_at 105 (by decide +kernel) (by decide +kernel)), (tw_at 92 (by decide +kernel) (by decide +kernel)), (tw_at 93 (by decide +kernel) (by decide +kernel))⟩
theorem oi_RX0_3 : Cond.methodLink RX0 3 Lib.objectInit ∈ TW ∧ Cond.instanceMethod Lib.objectInit ∈ TW ∧ Cond.code Lib.objectInit ⟨#[0xb1]⟩ 1 none ∈ TW := ⟨(tw_at 688 (by decide +kernel) (by decide +kernel)), (tw_at 92 (by decide +kernel) (by decide +kernel)), (tw_at 93 (by decide +kernel) (by decide +kernel))⟩
theorem oi_RX10_3 : Cond.methodLink RX10 3 Lib.objectInit ∈ TW ∧ Cond.instanceMethod Lib.objectInit ∈ TW ∧ Cond.code Lib.objectInit ⟨#[0xb1]⟩ 1 none ∈ TW := ⟨(tw_at 872 (by decide +kernel) (by decide +kernel)), (tw_at 92 (by decide +kernel) (by decide +kernel)), (tw_at 93 (by decide +kernel) (by decide +kernel))⟩
theorem oi_RX11_1 : Cond.methodLink RX11 1 Lib.objectInit ∈ TW ∧ Cond.instanceMethod Lib.objectInit ∈ TW ∧ Cond.code Lib.objectInit ⟨#[0xb1]⟩ 1 none ∈ TW := ⟨(tw_at 91 (by decide +kernel) (by decide +kernel)), (tw_at 92 (by decide +kernel) (by decide +kernel)), (tw_at 93 (by decide +kernel) (by decide +kernel))⟩
theorem oi_RX12_7 : Cond.methodLink RX12 7 Lib.objectInit ∈ TW ∧ Cond.instanceMethod Lib.objectInit ∈ TW ∧ Cond.code Lib.objectInit ⟨#[0xb1]⟩ 1 none ∈ TW := ⟨(tw_at 1113 (by decide +kernel) (by decide +kernel)), (tw_at 92 (by decide +kernel) (by decide +kernel)), (tw_at 93 (by decide +kernel) (by decide +kernel))⟩
theorem oi_RX1_3 : Cond.methodLink RX1 3 Lib.objectInit ∈ TW ∧ Cond.instanceMethod Lib.objectInit ∈ TW ∧ Cond.code Lib.objectInit ⟨#[0xb1]⟩ 1 none ∈ TW := ⟨(tw_at 546 (by decide +kernel) (by decide +kernel)), (tw_at 92 (by decide +kernel) (by decide +kernel)), (tw_at 93 (by decide +kernel) (by decide +kernel))⟩
theorem oi_RX2_3 : Cond.methodLink RX2 3 Lib.objectInit ∈ TW ∧ Cond.instanceMethod Lib.objectInit ∈ TW ∧ Cond.code Lib.objectInit ⟨#[0xb1]⟩ 1 none ∈ TW := ⟨(tw_at 175 (by decide +kernel) (by decide +kernel)), (tw_at 92 (by decide +kernel) (by decide +kernel)), (tw_at 93 (by decide +kernel) (by decide +kernel))⟩
theorem oi_RX3_3 : Cond.methodLink RX3 3 Lib.objectInit ∈ TW ∧ Cond.instanceMethod Lib.objectInit ∈ TW ∧ Cond.code Lib.objectInit ⟨#[0xb1]⟩ 1 none ∈ TW := ⟨(tw_at 233 (by decide +kernel) (by decide +kernel)), (tw_at 92 (by decide +kernel) (by decide +kernel)), (tw_at 93 (by decide +kernel) (by decide +kernel))⟩
theorem oi_RX4_3 : Cond.methodLink RX4 3 Lib.objectInit ∈ TW ∧ Cond.instanceMethod Lib.objectInit ∈ TW ∧ Cond.code Lib.objectInit ⟨#[0xb1]⟩ 1 none ∈ TW := ⟨(tw_at 190 (by decide +kernel) (by decide +kernel)), (tw_at 92 (by decide +kernel) (by decide +kernel)), (tw_at 93 (by decide +kernel) (by decide +kernel))⟩
theorem oi_RX5_3 : Cond.methodLink RX5 3 Lib.objectInit ∈ TW ∧ Cond.instanceMethod Lib.objectInit ∈ TW ∧ Cond.code Lib.objectInit ⟨#[0xb1]⟩ 1 none ∈ TW := ⟨(tw_at 298 (by decide +kernel) (by decide +kernel)), (tw_at 92 (by decide +kernel) (by decide +kernel)), (tw_at 93 (by decide +kernel) (by decide +kernel))⟩
theorem oi_RX6_3 : Cond.methodLink RX6 3 Lib.objectInit ∈ TW ∧ Cond.instanceMethod Lib.objectInit ∈ TW ∧ Cond.code Lib.objectInit ⟨#[0xb1]⟩ 1 none ∈ TW := ⟨(tw_at 208 (by decide +kernel) (by decide +kernel)), (tw_at 92 (by decide +kernel) (by decide +kernel)), (tw_at 93 (by decide +kernel) (by decide +kernel))⟩
theorem oi_RX7_3 : Cond.methodLink RX7 3 Lib.objectInit ∈ TW ∧ Cond.instanceMethod Lib.objectInit ∈ TW ∧ Cond.code Lib.objectInit ⟨#[0xb1]⟩ 1 none ∈ TW := ⟨(tw_at 125 (by decide +kernel) (by decide +kernel)), (tw_at 92 (by decide +kernel) (by decide +kernel)), (tw_at 93 (by decide +kernel) (by decide +kernel))⟩
theorem oi_RX8_3 : Cond.methodLink RX8 3 Lib.objectInit ∈ TW ∧ Cond.instanceMethod Lib.objectInit ∈ TW ∧ Cond.code Lib.objectInit ⟨#[0xb1]⟩ 1 none ∈ TW := ⟨(tw_at 719 (by decide +kernel) (by decide +kernel)), (tw_at 92 (by decide +kernel) (by decide +kernel)), (tw_at 93 (by decide +kernel) (by decide +kernel))⟩
theorem oi_RX9_3 : Cond.methodLink RX9 3 Lib.objectInit ∈ TW ∧ Cond.instanceMethod Lib.objectInit ∈ TW ∧ Cond.code Lib.objectInit ⟨#[0xb1]⟩ 1 none ∈ TW := ⟨(tw_at 145 (by decide +kernel) (by decide +kernel)), (tw_at 92 (by decide +kernel) (by decide +kernel)), (tw_at 93 (by decide +kernel) (by decide +kernel))⟩
theorem sc_RJ7_150 : Cond.methodLink RJ7 150 arraycopyName ∈ TW ∧ Cond.native arraycopyName ∈ TW ∧ Cond.static arraycopyName ∈ TW ∧ Cond.initialized "java/lang/System" ∈ TW := ⟨(tw_at 414 (by decide +kernel) (by decide +kernel)), (tw_at 416 (by decide +kernel) (by decide +kernel)), (tw_at 415 (by decide +kernel) (by decide +kernel)), (tw_at 72 (by decide +kernel) (by decide +kernel))⟩
theorem sc_RJx4a65c_112 : Cond.methodLink RJx4a65c 112 arraycopyName ∈ TW ∧ Cond.native arraycopyName ∈ TW ∧ Cond.static arraycopyName ∈ TW ∧ Cond.initialized "java/lang/System" ∈ TW := ⟨(tw_at 922 (by decide +kernel) (by decide +kernel)), (tw_at 416 (by decide +kernel) (by decide +kernel)), (tw_at 415 (by decide +kernel) (by decide +kernel)), (tw_at 72 (by decide +kernel) (by decide +kernel))⟩
end
